theorem w_1_46 : (Jvm.Cond.fieldLink "StripedVault$Writer" (126 : Nat) "StripedVault$Sink" "count" "I") ∈ TG := tw_1 46 (by decide +kernel) (by decide +kernel)
theorem w_5_237 : (Jvm.Cond.static ({ cls := "StripedVault", name := "inCommon", desc := "([BJJ)I" } : Jvm.MethodName)) ∈ TG := tw_5 237 (by decide +kernel) (by decide +kernel)
theorem w_5_238 : (Jvm.Cond.code ({ cls := "StripedVault", name := "inCommon", desc := "([BJJ)I" } : Jvm.MethodName) prog_1_method_39_code (9 : Nat) (Option.some Jvm.ClassFile.FieldType.int)) ∈ TG := tw_5 238 (by decide +kernel) (by decide +kernel)
theorem w_6_11 : (Jvm.Cond.instanceMethod ({ cls := "StripedVault$Sink", name := "putBlock", desc := "([JII)V" } : Jvm.MethodName)) ∈ TG := tw_6 11 (by decide +kernel) (by decide +kernel)
theorem w_6_12 : (Jvm.Cond.code ({ cls := "StripedVault$Sink", name := "putBlock", desc := "([JII)V" } : Jvm.MethodName) prog_9_method_17_code (11 : Nat) (Option.none : Option Jvm.ClassFile.FieldType)) ∈ TG := tw_6 12 (by decide +kernel) (by decide +kernel)
theorem w_6_15 : (Jvm.Cond.methodLink "StripedVault$Writer" (220 : Nat) ({ cls := "StripedVault$Sink", name := "tellSizeFrom", desc := "(I)V" } : Jvm.MethodName)) ∈ TG := tw_6 15 (by decide +kernel) (by decide +kernel)
theorem w_6_16 : (Jvm.Cond.instanceMethod ({ cls := "StripedVault$Sink", name := "tellSizeFrom", desc := "(I)V" } : Jvm.MethodName)) ∈ TG := tw_6 16 (by decide +kernel) (by decide +kernel)
theorem w_6_17 : (Jvm.Cond.selects "StripedVault$Sink" ({ cls := "StripedVault$Sink", name := "tellSizeFrom", desc := "(I)V" } : Jvm.MethodName) ({ cls := "StripedVault$Sink", name := "tellSizeFrom", desc := "(I)V" } : Jvm.MethodName)) ∈ TG := tw_6 17 (by decide +kernel) (by decide +kernel)
theorem w_6_18 : (Jvm.Cond.code ({ cls := "StripedVault$Sink", name := "tellSizeFrom", desc := "(I)V" } : Jvm.MethodName) prog_9_method_11_code (4 : Nat) (Option.none : Option Jvm.ClassFile.FieldType)) ∈ TG := tw_6 18 (by decide +kernel) (by decide +kernel)
theorem w_6_2 : (Jvm.Cond.methodLink "StripedVault$Writer" (237 : Nat) ({ cls := "StripedVault$Sink", name := "putCode", desc := "([JI)V" } : Jvm.MethodName)) ∈ TG := tw_6 2 (by decide +kernel) (by decide +kernel)
theorem w_6_3 : (Jvm.Cond.instanceMethod ({ cls := "StripedVault$Sink", name := "putCode", desc := "([JI)V" } : Jvm.MethodName)) ∈ TG := tw_6 3 (by decide +kernel) (by decide +kernel)
theorem w_6_4 : (Jvm.Cond.selects "StripedVault$Sink" ({ cls := "StripedVault$Sink", name := "putCode", desc := "([JI)V" } : Jvm.MethodName) ({ cls := "StripedVault$Sink", name := "putCode", desc := "([JI)V" } : Jvm.MethodName)) ∈ TG := tw_6 4 (by decide +kernel) (by decide +kernel)
theorem w_6_5 : (Jvm.Cond.code ({ cls := "StripedVault$Sink", name := "putCode", desc := "([JI)V" } : Jvm.MethodName) prog_9_method_16_code (4 : Nat) (Option.none : Option Jvm.ClassFile.FieldType)) ∈ TG := tw_6 5 (by decide +kernel) (by decide +kernel)
theorem w_6_9 : (Jvm.Cond.methodLink "StripedVault$Sink" (111 : Nat) ({ cls := "StripedVault$Sink", name := "putBlock", desc := "([JII)V" } : Jvm.MethodName)) ∈ TG := tw_6 9 (by decide +kernel) (by decide +kernel)
theorem wn_5_236 : (Jvm.Cond.methodLinkNest "StripedVault$Writer" (245 : Nat) ({ cls := "StripedVault", name := "inCommon", desc := "([BJJ)I" } : Jvm.MethodName) "StripedVault") ∈ lw_tbl := tb_5 _ (List.mem_of_getElem? (i := 236) (by decide +kernel))
theorem wn_6_19 : (Jvm.Cond.methodLinkNest "StripedVault$Writer" (249 : Nat) ({ cls := "StripedVault", name := "placeOf", desc := "(J)I" } : Jvm.MethodName) "StripedVault") ∈ lw_tbl := tb_6 _ (List.mem_of_getElem? (i := 19) (by decide +kernel))
theorem ws_28 : Cond.selects R_Snk y_Snk_putBlock y_Snk_putBlock ∈ TG := tw_s 28 (by decide +kernel) (by decide +kernel)
theorem d_Snk_putCode_22 : decode b_Snk_putCode 22 = .ok (.iload_n 3, 1) := by decide +kernel
theorem d_Snk_putCode_23 : decode b_Snk_putCode 23 = .ok (.iload_n 2, 1) := by decide +kernel
theorem d_Snk_putCode_24 : decode b_Snk_putCode 24 = .ok (.if_icmp .ge 23, 3) := by decide +kernel
theorem d_Snk_putCode_47 : decode b_Snk_putCode 47 = .ok (.return_, 1) := by decide +kernel
theorem d_Snk_putCode_27 : decode b_Snk_putCode 27 = .ok (.aload_n 0, 1) := by decide +kernel
theorem d_Snk_putCode_28 : decode b_Snk_putCode 28 = .ok (.aload_n 1, 1) := by decide +kernel
theorem d_Snk_putCode_29 : decode b_Snk_putCode 29 = .ok (.iload_n 3, 1) := by decide +kernel
theorem d_Snk_putCode_30 : decode b_Snk_putCode 30 = .ok (.iload_n 3, 1) := by decide +kernel
theorem d_Snk_putCode_31 : decode b_Snk_putCode 31 = .ok (.bipush 64, 2) := by decide +kernel
theorem d_Snk_putCode_33 : decode b_Snk_putCode 33 = .ok (.iadd, 1) := by decide +kernel
theorem d_Snk_putCode_34 : decode b_Snk_putCode 34 = .ok (.iload_n 2, 1) := by decide +kernel
theorem d_Snk_putCode_35 : decode b_Snk_putCode 35 = .ok (.invokestatic 19, 3) := by decide +kernel
theorem d_Snk_putCode_38 : decode b_Snk_putCode 38 = .ok (.invokevirtual 111, 3) := by decide +kernel
theorem d_Snk_putCode_41 : decode b_Snk_putCode 41 = .ok (.iinc 3 64, 3) := by decide +kernel
theorem d_Snk_putCode_44 : decode b_Snk_putCode 44 = .ok (.goto (-22), 3) := by decide +kernel
theorem d_Snk_putCode_20 : decode b_Snk_putCode 20 = .ok (.iconst 1, 1) := by decide +kernel
theorem d_Snk_putCode_21 : decode b_Snk_putCode 21 = .ok (.istore_n 3, 1) := by decide +kernel
theorem d_Snk_putCode_0 : decode b_Snk_putCode 0 = .ok (.aload_n 0, 1) := by decide +kernel
theorem d_Snk_putCode_1 : decode b_Snk_putCode 1 = .ok (.iload_n 2, 1) := by decide +kernel
theorem d_Snk_putCode_2 : decode b_Snk_putCode 2 = .ok (.i2l, 1) := by decide +kernel
theorem d_Snk_putCode_3 : decode b_Snk_putCode 3 = .ok (.invokevirtual 65, 3) := by decide +kernel
theorem d_Snk_putCode_6 : decode b_Snk_putCode 6 = .ok (.iload_n 2, 1) := by decide +kernel
theorem d_Snk_putCode_7 : decode b_Snk_putCode 7 = .ok (.ifCond .le 13, 3) := by decide +kernel
theorem d_Snk_putCode_10 : decode b_Snk_putCode 10 = .ok (.aload_n 0, 1) := by decide +kernel
theorem d_Snk_putCode_11 : decode b_Snk_putCode 11 = .ok (.aload_n 1, 1) := by decide +kernel
theorem d_Snk_putCode_12 : decode b_Snk_putCode 12 = .ok (.iconst 0, 1) := by decide +kernel
theorem d_Snk_putCode_13 : decode b_Snk_putCode 13 = .ok (.laload, 1) := by decide +kernel
theorem d_Snk_putCode_14 : decode b_Snk_putCode 14 = .ok (.invokestatic 80, 3) := by decide +kernel
theorem d_Snk_putCode_17 : decode b_Snk_putCode 17 = .ok (.invokevirtual 65, 3) := by decide +kernel
theorem d_Snk_tellSizeFrom_30 : decode b_Snk_tellSizeFrom 30 = .ok (.istore_n 3, 1) := by decide +kernel
theorem d_Snk_tellSizeFrom_31 : decode b_Snk_tellSizeFrom 31 = .ok (.aload_n 0, 1) := by decide +kernel
theorem d_Snk_tellSizeFrom_32 : decode b_Snk_tellSizeFrom 32 = .ok (.iload_n 3, 1) := by decide +kernel
theorem d_Snk_tellSizeFrom_33 : decode b_Snk_tellSizeFrom 33 = .ok (.invokevirtual 45, 3) := by decide +kernel
theorem d_Snk_tellSizeFrom_36 : decode b_Snk_tellSizeFrom 36 = .ok (.ifCond .ne 4, 3) := by decide +kernel
theorem d_Snk_tellSizeFrom_40 : decode b_Snk_tellSizeFrom 40 = .ok (.aload_n 0, 1) := by decide +kernel
theorem d_Snk_tellSizeFrom_41 : decode b_Snk_tellSizeFrom 41 = .ok (.getfield 25, 3) := by decide +kernel
theorem d_Snk_tellSizeFrom_44 : decode b_Snk_tellSizeFrom 44 = .ok (.iload_n 1, 1) := by decide +kernel
theorem d_Snk_tellSizeFrom_45 : decode b_Snk_tellSizeFrom 45 = .ok (.aload_n 0, 1) := by decide +kernel
theorem d_Snk_tellSizeFrom_46 : decode b_Snk_tellSizeFrom 46 = .ok (.getfield 25, 3) := by decide +kernel
theorem d_Snk_tellSizeFrom_49 : decode b_Snk_tellSizeFrom 49 = .ok (.iload_n 1, 1) := by decide +kernel
theorem d_Snk_tellSizeFrom_50 : decode b_Snk_tellSizeFrom 50 = .ok (.iload_n 3, 1) := by decide +kernel
theorem d_Snk_tellSizeFrom_51 : decode b_Snk_tellSizeFrom 51 = .ok (.iadd, 1) := by decide +kernel
theorem d_Snk_tellSizeFrom_52 : decode b_Snk_tellSizeFrom 52 = .ok (.iload_n 2, 1) := by decide +kernel
theorem d_Snk_tellSizeFrom_53 : decode b_Snk_tellSizeFrom 53 = .ok (.invokestatic 49, 3) := by decide +kernel
theorem d_Snk_tellSizeFrom_56 : decode b_Snk_tellSizeFrom 56 = .ok (.aload_n 0, 1) := by decide +kernel
theorem d_Snk_tellSizeFrom_57 : decode b_Snk_tellSizeFrom 57 = .ok (.iload_n 1, 1) := by decide +kernel
theorem d_Snk_tellSizeFrom_58 : decode b_Snk_tellSizeFrom 58 = .ok (.putfield 29, 3) := by decide +kernel
theorem d_Snk_tellSizeFrom_61 : decode b_Snk_tellSizeFrom 61 = .ok (.aload_n 0, 1) := by decide +kernel
theorem d_Snk_tellSizeFrom_62 : decode b_Snk_tellSizeFrom 62 = .ok (.iload_n 2, 1) := by decide +kernel
theorem d_Snk_tellSizeFrom_63 : decode b_Snk_tellSizeFrom 63 = .ok (.i2l, 1) := by decide +kernel
theorem d_Snk_tellSizeFrom_64 : decode b_Snk_tellSizeFrom 64 = .ok (.invokevirtual 65, 3) := by decide +kernel
theorem d_Snk_tellSizeFrom_67 : decode b_Snk_tellSizeFrom 67 = .ok (.aload_n 0, 1) := by decide +kernel
theorem d_Snk_tellSizeFrom_68 : decode b_Snk_tellSizeFrom 68 = .ok (.iload_n 1, 1) := by decide +kernel
theorem d_Snk_tellSizeFrom_69 : decode b_Snk_tellSizeFrom 69 = .ok (.iload_n 3, 1) := by decide +kernel
theorem d_Snk_tellSizeFrom_70 : decode b_Snk_tellSizeFrom 70 = .ok (.iadd, 1) := by decide +kernel
theorem d_Snk_tellSizeFrom_71 : decode b_Snk_tellSizeFrom 71 = .ok (.iload_n 2, 1) := by decide +kernel
theorem d_Snk_tellSizeFrom_72 : decode b_Snk_tellSizeFrom 72 = .ok (.iadd, 1) := by decide +kernel
theorem d_Snk_tellSizeFrom_73 : decode b_Snk_tellSizeFrom 73 = .ok (.putfield 29, 3) := by decide +kernel
theorem d_Snk_tellSizeFrom_76 : decode b_Snk_tellSizeFrom 76 = .ok (.return_, 1) := by decide +kernel
theorem d_Snk_tellSizeFrom_39 : decode b_Snk_tellSizeFrom 39 = .ok (.return_, 1) := by decide +kernel
theorem d_Snk_tellSizeFrom_0 : decode b_Snk_tellSizeFrom 0 = .ok (.aload_n 0, 1) := by decide +kernel
theorem d_Snk_tellSizeFrom_1 : decode b_Snk_tellSizeFrom 1 = .ok (.getfield 29, 3) := by decide +kernel
theorem d_Snk_tellSizeFrom_4 : decode b_Snk_tellSizeFrom 4 = .ok (.iload_n 1, 1) := by decide +kernel
theorem d_Snk_tellSizeFrom_5 : decode b_Snk_tellSizeFrom 5 = .ok (.isub, 1) := by decide +kernel
theorem d_Snk_tellSizeFrom_6 : decode b_Snk_tellSizeFrom 6 = .ok (.istore_n 2, 1) := by decide +kernel
theorem d_Snk_tellSizeFrom_7 : decode b_Snk_tellSizeFrom 7 = .ok (.iload_n 2, 1) := by decide +kernel
theorem d_Snk_tellSizeFrom_8 : decode b_Snk_tellSizeFrom 8 = .ok (.sipush 128, 3) := by decide +kernel
theorem d_Snk_tellSizeFrom_11 : decode b_Snk_tellSizeFrom 11 = .ok (.if_icmp .ge 7, 3) := by decide +kernel
theorem d_Snk_tellSizeFrom_18 : decode b_Snk_tellSizeFrom 18 = .ok (.iload_n 2, 1) := by decide +kernel
theorem d_Snk_tellSizeFrom_19 : decode b_Snk_tellSizeFrom 19 = .ok (.sipush 16384, 3) := by decide +kernel
theorem d_Snk_tellSizeFrom_22 : decode b_Snk_tellSizeFrom 22 = .ok (.if_icmp .ge 7, 3) := by decide +kernel
theorem d_Snk_tellSizeFrom_29 : decode b_Snk_tellSizeFrom 29 = .ok (.iconst 3, 1) := by decide +kernel
theorem d_Snk_tellSizeFrom_25 : decode b_Snk_tellSizeFrom 25 = .ok (.iconst 2, 1) := by decide +kernel
theorem d_Snk_tellSizeFrom_26 : decode b_Snk_tellSizeFrom 26 = .ok (.goto 4, 3) := by decide +kernel
theorem d_Snk_tellSizeFrom_14 : decode b_Snk_tellSizeFrom 14 = .ok (.iconst 1, 1) := by decide +kernel
theorem d_Snk_tellSizeFrom_15 : decode b_Snk_tellSizeFrom 15 = .ok (.goto 15, 3) := by decide +kernel
theorem d_Wrt_putTexts_169 : decode b_Wrt_putTexts 169 = .ok (.iload 4, 2) := by decide +kernel
theorem d_Wrt_putTexts_171 : decode b_Wrt_putTexts 171 = .ok (.aload_n 0, 1) := by decide +kernel
theorem d_Wrt_putTexts_172 : decode b_Wrt_putTexts 172 = .ok (.getfield 154, 3) := by decide +kernel
theorem d_Wrt_putTexts_175 : decode b_Wrt_putTexts 175 = .ok (.if_icmp .ge 53, 3) := by decide +kernel
theorem d_Wrt_putTexts_228 : decode b_Wrt_putTexts 228 = .ok (.return_, 1) := by decide +kernel
theorem d_Wrt_putTexts_178 : decode b_Wrt_putTexts 178 = .ok (.aload_n 0, 1) := by decide +kernel
theorem d_Wrt_putTexts_179 : decode b_Wrt_putTexts 179 = .ok (.getfield 50, 3) := by decide +kernel
theorem d_Wrt_putTexts_182 : decode b_Wrt_putTexts 182 = .ok (.iload 4, 2) := by decide +kernel
theorem d_Wrt_putTexts_184 : decode b_Wrt_putTexts 184 = .ok (.laload, 1) := by decide +kernel
theorem d_Wrt_putTexts_185 : decode b_Wrt_putTexts 185 = .ok (.l2i, 1) := by decide +kernel
theorem d_Wrt_putTexts_186 : decode b_Wrt_putTexts 186 = .ok (.istore 5, 2) := by decide +kernel
theorem d_Wrt_putTexts_188 : decode b_Wrt_putTexts 188 = .ok (.aload_n 0, 1) := by decide +kernel
theorem d_Wrt_putTexts_189 : decode b_Wrt_putTexts 189 = .ok (.getfield 30, 3) := by decide +kernel
theorem d_Wrt_putTexts_192 : decode b_Wrt_putTexts 192 = .ok (.aload_n 2, 1) := by decide +kernel
theorem d_Wrt_putTexts_193 : decode b_Wrt_putTexts 193 = .ok (.aload_n 0, 1) := by decide +kernel
theorem d_Wrt_putTexts_194 : decode b_Wrt_putTexts 194 = .ok (.getfield 43, 3) := by decide +kernel
theorem d_Wrt_putTexts_197 : decode b_Wrt_putTexts 197 = .ok (.iload 4, 2) := by decide +kernel
theorem d_Wrt_putTexts_199 : decode b_Wrt_putTexts 199 = .ok (.laload, 1) := by decide +kernel
theorem d_Wrt_putTexts_200 : decode b_Wrt_putTexts 200 = .ok (.invokestatic 249, 3) := by decide +kernel
theorem d_Wrt_putTexts_203 : decode b_Wrt_putTexts 203 = .ok (.aload_n 0, 1) := by decide +kernel
theorem d_Wrt_putTexts_204 : decode b_Wrt_putTexts 204 = .ok (.getfield 43, 3) := by decide +kernel
theorem d_Wrt_putTexts_207 : decode b_Wrt_putTexts 207 = .ok (.iload 4, 2) := by decide +kernel
theorem d_Wrt_putTexts_209 : decode b_Wrt_putTexts 209 = .ok (.laload, 1) := by decide +kernel
theorem d_Wrt_putTexts_210 : decode b_Wrt_putTexts 210 = .ok (.invokestatic 188, 3) := by decide +kernel
theorem d_Wrt_putTexts_213 : decode b_Wrt_putTexts 213 = .ok (.iadd, 1) := by decide +kernel
theorem d_Wrt_putTexts_214 : decode b_Wrt_putTexts 214 = .ok (.iload 5, 2) := by decide +kernel
theorem d_Wrt_putTexts_216 : decode b_Wrt_putTexts 216 = .ok (.isub, 1) := by decide +kernel
theorem d_Wrt_putTexts_217 : decode b_Wrt_putTexts 217 = .ok (.iload 5, 2) := by decide +kernel
theorem d_Wrt_putTexts_219 : decode b_Wrt_putTexts 219 = .ok (.invokevirtual 88, 3) := by decide +kernel
theorem d_Wrt_putTexts_222 : decode b_Wrt_putTexts 222 = .ok (.iinc 4 1, 3) := by decide +kernel
theorem d_Wrt_putTexts_225 : decode b_Wrt_putTexts 225 = .ok (.goto (-56), 3) := by decide +kernel
theorem d_Wrt_putTexts_127 : decode b_Wrt_putTexts 127 = .ok (.lsub, 1) := by decide +kernel
theorem d_Wrt_putTexts_128 : decode b_Wrt_putTexts 128 = .ok (.lastore, 1) := by decide +kernel
theorem d_Wrt_putTexts_129 : decode b_Wrt_putTexts 129 = .ok (.iinc 3 1, 3) := by decide +kernel
theorem d_Wrt_putTexts_132 : decode b_Wrt_putTexts 132 = .ok (.goto (-42), 3) := by decide +kernel
theorem d_Wrt_putTexts_90 : decode b_Wrt_putTexts 90 = .ok (.iload_n 3, 1) := by decide +kernel
theorem d_Wrt_putTexts_91 : decode b_Wrt_putTexts 91 = .ok (.aload_n 0, 1) := by decide +kernel
theorem d_Wrt_putTexts_92 : decode b_Wrt_putTexts 92 = .ok (.getfield 154, 3) := by decide +kernel
theorem d_Wrt_putTexts_95 : decode b_Wrt_putTexts 95 = .ok (.if_icmp .ge 40, 3) := by decide +kernel
theorem d_Wrt_putTexts_135 : decode b_Wrt_putTexts 135 = .ok (.aload_n 0, 1) := by decide +kernel
theorem d_Wrt_putTexts_136 : decode b_Wrt_putTexts 136 = .ok (.getfield 30, 3) := by decide +kernel
theorem d_Wrt_putTexts_139 : decode b_Wrt_putTexts 139 = .ok (.getfield 126, 3) := by decide +kernel
theorem d_Wrt_putTexts_142 : decode b_Wrt_putTexts 142 = .ok (.istore_n 3, 1) := by decide +kernel
theorem d_Wrt_putTexts_143 : decode b_Wrt_putTexts 143 = .ok (.aload_n 0, 1) := by decide +kernel
theorem d_Wrt_putTexts_144 : decode b_Wrt_putTexts 144 = .ok (.getfield 30, 3) := by decide +kernel
theorem d_Wrt_putTexts_147 : decode b_Wrt_putTexts 147 = .ok (.aload_n 0, 1) := by decide +kernel
theorem d_Wrt_putTexts_148 : decode b_Wrt_putTexts 148 = .ok (.getfield 50, 3) := by decide +kernel
theorem d_Wrt_putTexts_151 : decode b_Wrt_putTexts 151 = .ok (.aload_n 0, 1) := by decide +kernel
theorem d_Wrt_putTexts_152 : decode b_Wrt_putTexts 152 = .ok (.getfield 154, 3) := by decide +kernel
theorem d_Wrt_putTexts_155 : decode b_Wrt_putTexts 155 = .ok (.invokevirtual 237, 3) := by decide +kernel
theorem d_Wrt_putTexts_158 : decode b_Wrt_putTexts 158 = .ok (.aload_n 0, 1) := by decide +kernel
theorem d_Wrt_putTexts_159 : decode b_Wrt_putTexts 159 = .ok (.getfield 30, 3) := by decide +kernel
theorem d_Wrt_putTexts_162 : decode b_Wrt_putTexts 162 = .ok (.iload_n 3, 1) := by decide +kernel
theorem d_Wrt_putTexts_163 : decode b_Wrt_putTexts 163 = .ok (.invokevirtual 220, 3) := by decide +kernel
theorem d_Wrt_putTexts_166 : decode b_Wrt_putTexts 166 = .ok (.iconst 0, 1) := by decide +kernel
theorem d_Wrt_putTexts_167 : decode b_Wrt_putTexts 167 = .ok (.istore 4, 2) := by decide +kernel
theorem d_Wrt_putTexts_98 : decode b_Wrt_putTexts 98 = .ok (.aload_n 0, 1) := by decide +kernel
theorem d_Wrt_putTexts_99 : decode b_Wrt_putTexts 99 = .ok (.getfield 50, 3) := by decide +kernel
theorem d_Wrt_putTexts_102 : decode b_Wrt_putTexts 102 = .ok (.iload_n 3, 1) := by decide +kernel
theorem d_Wrt_putTexts_103 : decode b_Wrt_putTexts 103 = .ok (.aload_n 0, 1) := by decide +kernel
theorem d_Wrt_putTexts_104 : decode b_Wrt_putTexts 104 = .ok (.getfield 43, 3) := by decide +kernel
theorem d_Wrt_putTexts_107 : decode b_Wrt_putTexts 107 = .ok (.iload_n 3, 1) := by decide +kernel
theorem d_Wrt_putTexts_108 : decode b_Wrt_putTexts 108 = .ok (.laload, 1) := by decide +kernel
theorem d_Wrt_putTexts_109 : decode b_Wrt_putTexts 109 = .ok (.invokestatic 188, 3) := by decide +kernel
theorem d_Wrt_putTexts_112 : decode b_Wrt_putTexts 112 = .ok (.i2l, 1) := by decide +kernel
theorem d_Wrt_putTexts_113 : decode b_Wrt_putTexts 113 = .ok (.iload_n 1, 1) := by decide +kernel
theorem d_Wrt_putTexts_114 : decode b_Wrt_putTexts 114 = .ok (.ifCond .eq 12, 3) := by decide +kernel
theorem d_Wrt_putTexts_126 : decode b_Wrt_putTexts 126 = .ok (.lconst 0, 1) := by decide +kernel
theorem d_Wrt_putTexts_117 : decode b_Wrt_putTexts 117 = .ok (.aload_n 0, 1) := by decide +kernel
theorem d_Wrt_putTexts_118 : decode b_Wrt_putTexts 118 = .ok (.getfield 50, 3) := by decide +kernel
theorem d_Wrt_putTexts_121 : decode b_Wrt_putTexts 121 = .ok (.iload_n 3, 1) := by decide +kernel
theorem d_Wrt_putTexts_122 : decode b_Wrt_putTexts 122 = .ok (.laload, 1) := by decide +kernel
theorem d_Wrt_putTexts_123 : decode b_Wrt_putTexts 123 = .ok (.goto 4, 3) := by decide +kernel
theorem d_Wrt_putTexts_88 : decode b_Wrt_putTexts 88 = .ok (.iconst 0, 1) := by decide +kernel
theorem d_Wrt_putTexts_89 : decode b_Wrt_putTexts 89 = .ok (.istore_n 3, 1) := by decide +kernel
theorem d_Wrt_putTexts_61 : decode b_Wrt_putTexts 61 = .ok (.iload_n 1, 1) := by decide +kernel
theorem d_Wrt_putTexts_62 : decode b_Wrt_putTexts 62 = .ok (.ifCond .eq 26, 3) := by decide +kernel
theorem d_Wrt_putTexts_65 : decode b_Wrt_putTexts 65 = .ok (.aload_n 0, 1) := by decide +kernel
theorem d_Wrt_putTexts_66 : decode b_Wrt_putTexts 66 = .ok (.getfield 30, 3) := by decide +kernel
theorem d_Wrt_putTexts_69 : decode b_Wrt_putTexts 69 = .ok (.aload_n 0, 1) := by decide +kernel
theorem d_Wrt_putTexts_70 : decode b_Wrt_putTexts 70 = .ok (.getfield 50, 3) := by decide +kernel
theorem d_Wrt_putTexts_73 : decode b_Wrt_putTexts 73 = .ok (.aload_n 0, 1) := by decide +kernel
theorem d_Wrt_putTexts_74 : decode b_Wrt_putTexts 74 = .ok (.getfield 154, 3) := by decide +kernel
theorem d_Wrt_putTexts_77 : decode b_Wrt_putTexts 77 = .ok (.invokevirtual 237, 3) := by decide +kernel
theorem d_Wrt_putTexts_80 : decode b_Wrt_putTexts 80 = .ok (.aload_n 0, 1) := by decide +kernel
theorem d_Wrt_putTexts_81 : decode b_Wrt_putTexts 81 = .ok (.getfield 30, 3) := by decide +kernel
theorem d_Wrt_putTexts_84 : decode b_Wrt_putTexts 84 = .ok (.iconst 0, 1) := by decide +kernel
theorem d_Wrt_putTexts_85 : decode b_Wrt_putTexts 85 = .ok (.invokevirtual 220, 3) := by decide +kernel
theorem d_Wrt_putTexts_54 : decode b_Wrt_putTexts 54 = .ok (.lastore, 1) := by decide +kernel
theorem d_Wrt_putTexts_55 : decode b_Wrt_putTexts 55 = .ok (.iinc 3 1, 3) := by decide +kernel
theorem d_Wrt_putTexts_58 : decode b_Wrt_putTexts 58 = .ok (.goto (-48), 3) := by decide +kernel
theorem d_Wrt_putTexts_10 : decode b_Wrt_putTexts 10 = .ok (.iload_n 3, 1) := by decide +kernel
theorem d_Wrt_putTexts_11 : decode b_Wrt_putTexts 11 = .ok (.aload_n 0, 1) := by decide +kernel
theorem d_Wrt_putTexts_12 : decode b_Wrt_putTexts 12 = .ok (.getfield 154, 3) := by decide +kernel
theorem d_Wrt_putTexts_15 : decode b_Wrt_putTexts 15 = .ok (.if_icmp .ge 46, 3) := by decide +kernel
theorem d_Wrt_putTexts_18 : decode b_Wrt_putTexts 18 = .ok (.iload_n 1, 1) := by decide +kernel
theorem d_Wrt_putTexts_19 : decode b_Wrt_putTexts 19 = .ok (.ifCond .eq 42, 3) := by decide +kernel
theorem d_Wrt_putTexts_22 : decode b_Wrt_putTexts 22 = .ok (.aload_n 0, 1) := by decide +kernel
theorem d_Wrt_putTexts_23 : decode b_Wrt_putTexts 23 = .ok (.getfield 50, 3) := by decide +kernel
theorem d_Wrt_putTexts_26 : decode b_Wrt_putTexts 26 = .ok (.iload_n 3, 1) := by decide +kernel
theorem d_Wrt_putTexts_27 : decode b_Wrt_putTexts 27 = .ok (.iload_n 3, 1) := by decide +kernel
theorem d_Wrt_putTexts_28 : decode b_Wrt_putTexts 28 = .ok (.ifCond .ne 7, 3) := by decide +kernel
theorem d_Wrt_putTexts_35 : decode b_Wrt_putTexts 35 = .ok (.aload_n 2, 1) := by decide +kernel
theorem d_Wrt_putTexts_36 : decode b_Wrt_putTexts 36 = .ok (.aload_n 0, 1) := by decide +kernel
theorem d_Wrt_putTexts_37 : decode b_Wrt_putTexts 37 = .ok (.getfield 43, 3) := by decide +kernel
theorem d_Wrt_putTexts_40 : decode b_Wrt_putTexts 40 = .ok (.iload_n 3, 1) := by decide +kernel
theorem d_Wrt_putTexts_41 : decode b_Wrt_putTexts 41 = .ok (.iconst 1, 1) := by decide +kernel
theorem d_Wrt_putTexts_42 : decode b_Wrt_putTexts 42 = .ok (.isub, 1) := by decide +kernel
theorem d_Wrt_putTexts_43 : decode b_Wrt_putTexts 43 = .ok (.laload, 1) := by decide +kernel
theorem d_Wrt_putTexts_44 : decode b_Wrt_putTexts 44 = .ok (.aload_n 0, 1) := by decide +kernel
theorem d_Wrt_putTexts_45 : decode b_Wrt_putTexts 45 = .ok (.getfield 43, 3) := by decide +kernel
theorem d_Wrt_putTexts_48 : decode b_Wrt_putTexts 48 = .ok (.iload_n 3, 1) := by decide +kernel
theorem d_Wrt_putTexts_49 : decode b_Wrt_putTexts 49 = .ok (.laload, 1) := by decide +kernel
theorem d_Wrt_putTexts_50 : decode b_Wrt_putTexts 50 = .ok (.invokestatic 245, 3) := by decide +kernel
theorem d_Wrt_putTexts_53 : decode b_Wrt_putTexts 53 = .ok (.i2l, 1) := by decide +kernel
theorem d_Wrt_putTexts_31 : decode b_Wrt_putTexts 31 = .ok (.lconst 0, 1) := by decide +kernel
theorem d_Wrt_putTexts_32 : decode b_Wrt_putTexts 32 = .ok (.goto 22, 3) := by decide +kernel
theorem d_Wrt_putTexts_0 : decode b_Wrt_putTexts 0 = .ok (.aload_n 0, 1) := by decide +kernel
theorem d_Wrt_putTexts_1 : decode b_Wrt_putTexts 1 = .ok (.getfield 66, 3) := by decide +kernel
theorem d_Wrt_putTexts_4 : decode b_Wrt_putTexts 4 = .ok (.getfield 171, 3) := by decide +kernel
theorem d_Wrt_putTexts_7 : decode b_Wrt_putTexts 7 = .ok (.astore_n 2, 1) := by decide +kernel
theorem d_Wrt_putTexts_8 : decode b_Wrt_putTexts 8 = .ok (.iconst 0, 1) := by decide +kernel
theorem d_Wrt_putTexts_9 : decode b_Wrt_putTexts 9 = .ok (.istore_n 3, 1) := by decide +kernel
section
variable (l : Launch) (dC : Nat → ClassId) (dI : Nat → Nat → Nat) (cI cB cJ cZ : ClassId)
set_option maxRecDepth 100000 in
set_option maxHeartbeats 4000000 in
set_option maxRecDepth 100000 in
theorem t_Snk_putCode_22 {p : Program} {l : Launch} {e : Env} {R : Room} {s : State} {m : MethodId} {args : Array Value} {below : List Frame} {meth : Method} {c : Code} {Q : State → Prop} {dC : Nat → ClassId} {dI : Nat → Nat → Nat} {cI cB cJ cZ : ClassId} {A : Nat → Prop} {E : Heap} {tM tC : Nat} {kK kV : Nat → Nat} {ad0 : Nat → Nat} {NN0 : Nat} {post : St → Prop} {rec22 : Nat → Nat → Int32 → Int32 → Nat → Nat → St → Prop} (hx : p.tables.exec = Jvm.exec) (hb : c.code = b_Snk_putCode) (hml : c.maxLocals = 4) (hown : s.vm.findClass R_Snk = some m.cls) (hT : ∀ w ∈ TG, w.before args s = true) (hK : va_K (dC, dI) CL (TY cI cB cJ cZ) s) (hN : NW s) (hA : ∀ q : Nat, s.heap.size ≤ q → A q) (hRf : 5 ≤ R.frames) (hRl : 277 ≤ R.locals) (hE : CE E tM tC kK kV A s) (hret : ∀ (ad : Nat → Nat) (NN cells slots : Nat) (x : St) (H : Heap) (locs : List Loc) (pc : Nat) (ls : Array Slot), decode b_Snk_putCode pc = .ok (.return_, 1) → (NN0 ≤ NN ∧ ∀ o : Nat, o < NN0 → ad o = ad0 o) → cells ≤ R.cells → slots ≤ R.slots → post x → Wd dC dI cI cB cJ cZ ad stC kcC NN A x H → va_S A s.heap H locs → W p l e R s m args below meth c H locs cells slots Q (F0 m pc ls [])) (hrec22 : ∀ (ad : Nat → Nat) (NN cells slots : Nat) (o : Nat) (l1 : Nat) (l2 : Int32) (l3 : Int32) (kb : Nat) (nb : Nat) (x : St) (H : Heap) (locs : List Loc) (ls : Array Slot), (152 ≤ NN) → (NN0 ≤ NN ∧ ∀ o : Nat, o < NN0 → ad o = ad0 o) → (cells + kb ≤ R.cells) → (slots + nb ≤ R.slots) → (o < NN ∧ kcC o = 1) → (l1 < NN ∧ kcC l1 = 22) → rec22 o l1 l2 l3 kb nb x → Wd dC dI cI cB cJ cZ ad stC kcC NN A x H → va_S A s.heap H locs → lv_has ls 4 [(0, .ref (ad o)), (1, .ref (ad l1)), (2, .int l2), (3, .int l3)] → W p l e R s m args below meth c H locs cells slots Q (F0 m 22 ls [])) : ∀ (ad : Nat → Nat) (NN cells slots : Nat) (o : Nat) (l1 : Nat) (l2 : Int32) (l3 : Int32) (kb : Nat) (nb : Nat) (x : St) (H : Heap) (locs : List Loc) (ls : Array Slot), (152 ≤ NN) → (NN0 ≤ NN ∧ ∀ o : Nat, o < NN0 → ad o = ad0 o) → (cells + kb ≤ R.cells) → (slots + nb ≤ R.slots) → (o < NN ∧ kcC o = 1) → (l1 < NN ∧ kcC l1 = 22) → j_Snk_putCode_22 post rec22 o l1 l2 l3 kb nb x → Wd dC dI cI cB cJ cZ ad stC kcC NN A x H → va_S A s.heap H locs → lv_has ls 4 [(0, .ref (ad o)), (1, .ref (ad l1)), (2, .int l2), (3, .int l3)] → W p l e R s m args below meth c H locs cells slots Q (F0 m 22 ls []) := by
  intro ad NN cells slots o l1 l2 l3 kb nb x H locs ls hNN hag hRc hRs fo fl1 hw hW hS hl
  unfold j_Snk_putCode_22 at hw
  refine lv_iload_n hx hb d_Snk_putCode_22 rfl (lv_at hl 3 rfl) ?_
  refine lv_iload_n hx hb d_Snk_putCode_23 rfl (lv_at hl 2 rfl) ?_
  refine lv_icmp_ge (tgt := 47) hx hb d_Snk_putCode_24 (by decide) (fun c1 => ?_) (fun c1 => ?_)
  · have hw := hw.1 c1
    exact hret ad NN cells slots x H locs 47 ls d_Snk_putCode_47 hag (Nat.le_trans (Nat.le_add_right _ _) hRc) (Nat.le_trans (Nat.le_add_right _ _) hRs) hw hW hS
  · have hw := hw.2 c1
    refine lv_aload_n hx hb d_Snk_putCode_27 rfl (lv_at hl 0 rfl) ?_
    refine lv_aload_n hx hb d_Snk_putCode_28 rfl (lv_at hl 1 rfl) ?_
    refine lv_iload_n hx hb d_Snk_putCode_29 rfl (lv_at hl 3 rfl) ?_
    refine lv_iload_n hx hb d_Snk_putCode_30 rfl (lv_at hl 3 rfl) ?_
    refine lv_bipush (v := 64) hx hb d_Snk_putCode_31 (by decide) ?_
    refine lv_iadd hx hb d_Snk_putCode_33 ?_
    refine lv_iload_n hx hb d_Snk_putCode_34 rfl (lv_at hl 2 rfl) ?_
    refine va_mmin hx hb (hml.trans hl.1.symm) hown (hT _ w_1_37) (hT _ w_1_38) (hT _ w_1_3) (hT _ w_1_39) (Nat.le_trans (by decide) hRf) (Nat.le_trans (Nat.le_of_ble_eq_true rfl) hRl) (Nat.le_trans (Nat.le_add_right _ _) hRc) (Nat.le_trans (Nat.le_add_right _ _) hRs) d_Snk_putCode_35 ?_
    obtain ⟨k2, n3, k4, n5, ek2, en3, hw⟩ := hw
    have hF := hW.free hS hA
    refine va_callv (va_runV (C := R_Snk) (As := [.ref (ad l1), .int l3, .int (if l2 < (l3 + 64) then l2 else (l3 + 64))]) (rest := []) ⟨hx, hb, hml, hown, hT⟩ (k_Snk_putBlock l dC dI cI cB cJ cZ ad NN E tM tC kK kV hNN H.size o l1 l3 (if l2 < (l3 + 64) then l2 else (l3 + 64)) k2 n3 x fo fl1 hw) ⟨callB_of 3 hT (gwt_in w_6_12) rfl rfl rfl (hT _ w_1_2) (hT _ w_6_9) (by decide +kernel) ⟨Nat.le_trans (Nat.le_of_ble_eq_true rfl) hRf, Nat.le_trans (Nat.le_of_ble_eq_true rfl) hRl⟩, hT _ w_6_11, hT _ ws_28⟩ ⟨PVc.blind, va_recv hK hW.1 (ci := 1) (q0 := o) rfl (pic_obj fo.1 fo.2 (by decide)), PVc.at _ hW hK hN hE hS hF⟩ rfl rfl hl.1 rfl (lv_room (Nat.le_of_ble_eq_true rfl)) d_Snk_putCode_38 ⟨show cells + k2 ≤ R.cells by omega, show slots + n3 ≤ R.slots by omega⟩) hS (fun q _ h => hF q h) hF (fun  x6 t H locs ht hvm hw hB hz1 hk1 hS => ?_)
    obtain ⟨x6, ad, NN⟩ := x6
    obtain ⟨hB, hle, hg⟩ := hB
    try dsimp only at hw hB hle hg
    have hW := Wd.back hB ht hF
    rw [← hg o fo.1] at hl
    rw [← hg l1 fl1.1] at hl
    have fl1 : l1 < NN ∧ kcC l1 = 22 := ⟨Nat.lt_of_lt_of_le fl1.1 hle, fl1.2⟩
    have fo : o < NN ∧ kcC o = 1 := ⟨Nat.lt_of_lt_of_le fo.1 hle, fo.2⟩
    have hag : NN0 ≤ NN ∧ ∀ o : Nat, o < NN0 → ad o = ad0 o := ⟨Nat.le_trans hag.1 hle, fun o h => (hg o (Nat.lt_of_lt_of_le h hag.1)).trans (hag.2 o h)⟩
    have hNN : 152 ≤ NN := Nat.le_trans hNN hle
    clear hg hle
    obtain ⟨cells, ec⟩ : ∃ z, z = cells + k2 := ⟨_, rfl⟩
    obtain ⟨slots, es⟩ : ∃ z, z = slots + n3 := ⟨_, rfl⟩
    first | rw [← ec, ← es] | rw [Nat.add_zero, Nat.add_zero, ← ec, ← es]
    have hRc : cells + k4 ≤ R.cells := by omega
    have hRs : slots + n5 ≤ R.slots := by omega
    clear ec es hB ht hF hz1 hk1 hvm ek2 en3
    refine lv_iinc (v := (l3 + 64)) (lv' := [(3, .int (l3 + 64)), (0, .ref (ad o)), (1, .ref (ad l1)), (2, .int l2)]) hx hb d_Snk_putCode_41 hl (k := 3) rfl rfl (by decide) rfl (fun ls hl => ?_)
    refine lv_goto (tgt := 22) hx hb d_Snk_putCode_44 (by decide) ?_
    exact hrec22 ad NN cells slots o l1 l2 (l3 + 64) k4 n5 x6 H locs ls hNN hag hRc hRs fo fl1 hw hW hS (lv_sub hl [1, 2, 3, 0] rfl)
set_option maxHeartbeats 4000000 in
set_option maxRecDepth 100000 in
theorem tl_Snk_putCode_22 {p : Program} {l : Launch} {e : Env} {R : Room} {s : State} {m : MethodId} {args : Array Value} {below : List Frame} {meth : Method} {c : Code} {Q : State → Prop} {dC : Nat → ClassId} {dI : Nat → Nat → Nat} {cI cB cJ cZ : ClassId} {A : Nat → Prop} {E : Heap} {tM tC : Nat} {kK kV : Nat → Nat} {ad0 : Nat → Nat} {NN0 : Nat} {post : St → Prop} (hx : p.tables.exec = Jvm.exec) (hb : c.code = b_Snk_putCode) (hml : c.maxLocals = 4) (hown : s.vm.findClass R_Snk = some m.cls) (hT : ∀ w ∈ TG, w.before args s = true) (hK : va_K (dC, dI) CL (TY cI cB cJ cZ) s) (hN : NW s) (hA : ∀ q : Nat, s.heap.size ≤ q → A q) (hRf : 5 ≤ R.frames) (hRl : 277 ≤ R.locals) (hE : CE E tM tC kK kV A s) (hret : ∀ (ad : Nat → Nat) (NN cells slots : Nat) (x : St) (H : Heap) (locs : List Loc) (pc : Nat) (ls : Array Slot), decode b_Snk_putCode pc = .ok (.return_, 1) → (NN0 ≤ NN ∧ ∀ o : Nat, o < NN0 → ad o = ad0 o) → cells ≤ R.cells → slots ≤ R.slots → post x → Wd dC dI cI cB cJ cZ ad stC kcC NN A x H → va_S A s.heap H locs → W p l e R s m args below meth c H locs cells slots Q (F0 m pc ls []))  : ∀ n : Nat, ∀ (ad : Nat → Nat) (NN cells slots : Nat) (o : Nat) (l1 : Nat) (l2 : Int32) (l3 : Int32) (kb : Nat) (nb : Nat) (x : St) (H : Heap) (locs : List Loc) (ls : Array Slot), (152 ≤ NN) → (NN0 ≤ NN ∧ ∀ o : Nat, o < NN0 → ad o = ad0 o) → (cells + kb ≤ R.cells) → (slots + nb ≤ R.slots) → (o < NN ∧ kcC o = 1) → (l1 < NN ∧ kcC l1 = 22) → wl_Snk_putCode_22 post n o l1 l2 l3 kb nb x → Wd dC dI cI cB cJ cZ ad stC kcC NN A x H → va_S A s.heap H locs → lv_has ls 4 [(0, .ref (ad o)), (1, .ref (ad l1)), (2, .int l2), (3, .int l3)] → W p l e R s m args below meth c H locs cells slots Q (F0 m 22 ls []) := by
  intro n
  induction n with
  | zero => intro ad NN cells slots o l1 l2 l3 kb nb x H locs ls hNN hag hRc hRs fo fl1 hw; exact hw.elim
  | succ n ih => intro ad NN cells slots o l1 l2 l3 kb nb x H locs ls hNN hag hRc hRs fo fl1 hw hW hS hl; exact t_Snk_putCode_22 hx hb hml hown hT hK hN hA hRf hRl hE hret  ih ad NN cells slots o l1 l2 l3 kb nb x H locs ls hNN hag hRc hRs fo fl1 hw hW hS hl
set_option maxRecDepth 100000 in
set_option maxHeartbeats 4000000 in
set_option maxRecDepth 100000 in
theorem t_Snk_putCode_20 {p : Program} {l : Launch} {e : Env} {R : Room} {s : State} {m : MethodId} {args : Array Value} {below : List Frame} {meth : Method} {c : Code} {Q : State → Prop} {dC : Nat → ClassId} {dI : Nat → Nat → Nat} {cI cB cJ cZ : ClassId} {A : Nat → Prop} {E : Heap} {tM tC : Nat} {kK kV : Nat → Nat} {ad0 : Nat → Nat} {NN0 : Nat} {post : St → Prop} (hx : p.tables.exec = Jvm.exec) (hb : c.code = b_Snk_putCode) (hml : c.maxLocals = 4) (hown : s.vm.findClass R_Snk = some m.cls) (hT : ∀ w ∈ TG, w.before args s = true) (hK : va_K (dC, dI) CL (TY cI cB cJ cZ) s) (hN : NW s) (hA : ∀ q : Nat, s.heap.size ≤ q → A q) (hRf : 5 ≤ R.frames) (hRl : 277 ≤ R.locals) (hE : CE E tM tC kK kV A s) (hret : ∀ (ad : Nat → Nat) (NN cells slots : Nat) (x : St) (H : Heap) (locs : List Loc) (pc : Nat) (ls : Array Slot), decode b_Snk_putCode pc = .ok (.return_, 1) → (NN0 ≤ NN ∧ ∀ o : Nat, o < NN0 → ad o = ad0 o) → cells ≤ R.cells → slots ≤ R.slots → post x → Wd dC dI cI cB cJ cZ ad stC kcC NN A x H → va_S A s.heap H locs → W p l e R s m args below meth c H locs cells slots Q (F0 m pc ls []))  : ∀ (ad : Nat → Nat) (NN cells slots : Nat) (o : Nat) (l1 : Nat) (l2 : Int32) (kb : Nat) (nb : Nat) (x : St) (H : Heap) (locs : List Loc) (ls : Array Slot), (152 ≤ NN) → (NN0 ≤ NN ∧ ∀ o : Nat, o < NN0 → ad o = ad0 o) → (cells + kb ≤ R.cells) → (slots + nb ≤ R.slots) → (o < NN ∧ kcC o = 1) → (l1 < NN ∧ kcC l1 = 22) → j_Snk_putCode_20 post o l1 l2 kb nb x → Wd dC dI cI cB cJ cZ ad stC kcC NN A x H → va_S A s.heap H locs → lv_has ls 4 [(0, .ref (ad o)), (1, .ref (ad l1)), (2, .int l2)] → W p l e R s m args below meth c H locs cells slots Q (F0 m 20 ls []) := by
  intro ad NN cells slots o l1 l2 kb nb x H locs ls hNN hag hRc hRs fo fl1 hw hW hS hl
  unfold j_Snk_putCode_20 at hw
  refine lv_iconst (v := 1) hx hb d_Snk_putCode_20 (by decide) ?_
  refine lv_istore_n (lv' := [(3, .int 1), (0, .ref (ad o)), (1, .ref (ad l1)), (2, .int l2)]) hx hb d_Snk_putCode_21 rfl hl (by decide) rfl (fun ls hl => ?_)
  obtain ⟨n, hw⟩ := hw
  exact tl_Snk_putCode_22 hx hb hml hown hT hK hN hA hRf hRl hE hret  n ad NN cells slots o l1 l2 1 kb nb x H locs ls hNN hag hRc hRs fo fl1 hw hW hS (lv_sub hl [1, 2, 3, 0] rfl)
set_option maxRecDepth 100000 in
set_option maxHeartbeats 4000000 in
set_option maxRecDepth 100000 in
theorem t_Snk_putCode_e {p : Program} {l : Launch} {e : Env} {R : Room} {s : State} {m : MethodId} {args : Array Value} {below : List Frame} {meth : Method} {c : Code} {Q : State → Prop} {dC : Nat → ClassId} {dI : Nat → Nat → Nat} {cI cB cJ cZ : ClassId} {A : Nat → Prop} {E : Heap} {tM tC : Nat} {kK kV : Nat → Nat} {ad0 : Nat → Nat} {NN0 : Nat} {post : St → Prop} (hx : p.tables.exec = Jvm.exec) (hb : c.code = b_Snk_putCode) (hml : c.maxLocals = 4) (hown : s.vm.findClass R_Snk = some m.cls) (hT : ∀ w ∈ TG, w.before args s = true) (hK : va_K (dC, dI) CL (TY cI cB cJ cZ) s) (hN : NW s) (hA : ∀ q : Nat, s.heap.size ≤ q → A q) (hRf : 5 ≤ R.frames) (hRl : 277 ≤ R.locals) (hE : CE E tM tC kK kV A s) (hret : ∀ (ad : Nat → Nat) (NN cells slots : Nat) (x : St) (H : Heap) (locs : List Loc) (pc : Nat) (ls : Array Slot), decode b_Snk_putCode pc = .ok (.return_, 1) → (NN0 ≤ NN ∧ ∀ o : Nat, o < NN0 → ad o = ad0 o) → cells ≤ R.cells → slots ≤ R.slots → post x → Wd dC dI cI cB cJ cZ ad stC kcC NN A x H → va_S A s.heap H locs → W p l e R s m args below meth c H locs cells slots Q (F0 m pc ls [])) : ∀ (ad : Nat → Nat) (NN cells slots : Nat) (o : Nat) (l1 : Nat) (l2 : Int32) (kb : Nat) (nb : Nat) (x : St) (H : Heap) (locs : List Loc) (ls : Array Slot), (152 ≤ NN) → (NN0 ≤ NN ∧ ∀ o : Nat, o < NN0 → ad o = ad0 o) → (cells + kb ≤ R.cells) → (slots + nb ≤ R.slots) → (o < NN ∧ kcC o = 1) → (l1 < NN ∧ kcC l1 = 22) → wp_Snk_putCode post o l1 l2 kb nb x → Wd dC dI cI cB cJ cZ ad stC kcC NN A x H → va_S A s.heap H locs → lv_has ls 4 [(0, .ref (ad o)), (1, .ref (ad l1)), (2, .int l2)] → W p l e R s m args below meth c H locs cells slots Q (F0 m 0 ls []) := by
  intro ad NN cells slots o l1 l2 kb nb x H locs ls hNN hag hRc hRs fo fl1 hw hW hS hl
  unfold wp_Snk_putCode at hw
  refine lv_aload_n hx hb d_Snk_putCode_0 rfl (lv_at hl 0 rfl) ?_
  refine lv_iload_n hx hb d_Snk_putCode_1 rfl (lv_at hl 2 rfl) ?_
  refine lv_i2l hx hb d_Snk_putCode_2 rfl ?_
  obtain ⟨k7, n8, k9, n10, ek7, en8, hw⟩ := hw
  have hF := hW.free hS hA
  refine va_callv (va_runV (C := R_Snk) (As := [.long (l2 : Int32).toInt64]) (rest := []) ⟨hx, hb, hml, hown, hT⟩ (k_Snk_putVarint l dC dI cI cB cJ cZ ad NN E tM tC kK kV hNN H.size o (l2 : Int32).toInt64 k7 n8 x fo hw) ⟨callB_of 1 hT (gwt_in w_5_143) rfl rfl rfl (hT _ w_1_2) (hT _ w_5_180) (by decide +kernel) ⟨Nat.le_trans (Nat.le_of_ble_eq_true rfl) hRf, Nat.le_trans (Nat.le_of_ble_eq_true rfl) hRl⟩, hT _ w_5_141, hT _ w_5_142⟩ ⟨PVc.blind, va_recv hK hW.1 (ci := 1) (q0 := o) rfl (pic_obj fo.1 fo.2 (by decide)), PVc.at _ hW hK hN hE hS hF⟩ rfl rfl hl.1 rfl (lv_room (Nat.le_of_ble_eq_true rfl)) d_Snk_putCode_3 ⟨show cells + k7 ≤ R.cells by omega, show slots + n8 ≤ R.slots by omega⟩) hS (fun q _ h => hF q h) hF (fun  x11 t H locs ht hvm hw hB hz1 hk1 hS => ?_)
  obtain ⟨x11, ad, NN⟩ := x11
  obtain ⟨hB, hle, hg⟩ := hB
  try dsimp only at hw hB hle hg
  have hW := Wd.back hB ht hF
  rw [← hg o fo.1] at hl
  rw [← hg l1 fl1.1] at hl
  have fl1 : l1 < NN ∧ kcC l1 = 22 := ⟨Nat.lt_of_lt_of_le fl1.1 hle, fl1.2⟩
  have fo : o < NN ∧ kcC o = 1 := ⟨Nat.lt_of_lt_of_le fo.1 hle, fo.2⟩
  have hag : NN0 ≤ NN ∧ ∀ o : Nat, o < NN0 → ad o = ad0 o := ⟨Nat.le_trans hag.1 hle, fun o h => (hg o (Nat.lt_of_lt_of_le h hag.1)).trans (hag.2 o h)⟩
  have hNN : 152 ≤ NN := Nat.le_trans hNN hle
  clear hg hle
  obtain ⟨cells, ec⟩ : ∃ z, z = cells + k7 := ⟨_, rfl⟩
  obtain ⟨slots, es⟩ : ∃ z, z = slots + n8 := ⟨_, rfl⟩
  first | rw [← ec, ← es] | rw [Nat.add_zero, Nat.add_zero, ← ec, ← es]
  have hRc : cells + k9 ≤ R.cells := by omega
  have hRs : slots + n10 ≤ R.slots := by omega
  clear ec es hB ht hF hz1 hk1 hvm ek7 en8
  refine lv_iload_n hx hb d_Snk_putCode_6 rfl (lv_at hl 2 rfl) ?_
  refine lv_if_le (tgt := 20) hx hb d_Snk_putCode_7 (by decide) (fun c12 => ?_) (fun c12 => ?_)
  · have hw := hw.1 c12
    exact t_Snk_putCode_20 hx hb hml hown hT hK hN hA hRf hRl hE hret  ad NN cells slots o l1 l2 k9 n10 x11 H locs ls hNN hag hRc hRs fo fl1 hw hW hS (lv_sub hl [0, 1, 2] rfl)
  · have hw := hw.2 c12
    refine lv_aload_n hx hb d_Snk_putCode_10 rfl (lv_at hl 0 rfl) ?_
    refine lv_aload_n hx hb d_Snk_putCode_11 rfl (lv_at hl 1 rfl) ?_
    refine lv_iconst (v := 0) hx hb d_Snk_putCode_12 (by decide) ?_
    obtain ⟨hi, hw⟩ := hw
    refine w_lald (o := l1) hx hb hK hW fl1.1 fl1.2 hi d_Snk_putCode_13 ?_
    have hF := hW.free hS hA
    refine va_calll (va_runSN (As := [.long (rL x11 l1 0)]) (rest := [.ref (ad o)]) ⟨hx, hb, hml, hown, hT⟩ (k_V_zigzag l dC dI cI cB cJ cZ ad NN E tM tC kK kV hNN H.size (rL x11 l1 0) x11  hw) ⟨va_cnB 1 hT (gwt_in w_6_8) rfl rfl rfl (hN _ wn_6_6 rfl) (hT _ w_1_1) (by decide +kernel) ⟨Nat.le_trans (Nat.le_of_ble_eq_true rfl) hRf, Nat.le_trans (Nat.le_of_ble_eq_true rfl) hRl⟩, hT _ w_6_7, trivial⟩ ⟨PVc.blind, PVc.at _ hW hK hN hE hS hF⟩ rfl rfl hl.1 rfl (lv_room (Nat.le_of_ble_eq_true rfl)) d_Snk_putCode_14 ⟨(Nat.le_trans (Nat.le_add_right _ _) hRc), (Nat.le_trans (Nat.le_add_right _ _) hRs)⟩) hS (fun q _ h => hF q h) hF (fun r14 x13 t H locs ht hvm hw hB hz1 hk1 hS => ?_)
    have hW := Wd.back hB ht hF
    clear hB ht hF hz1 hk1 hvm
    obtain ⟨k15, n16, k17, n18, ek15, en16, hw⟩ := hw
    have hF := hW.free hS hA
    refine va_callv (va_runV (C := R_Snk) (As := [.long r14]) (rest := []) ⟨hx, hb, hml, hown, hT⟩ (k_Snk_putVarint l dC dI cI cB cJ cZ ad NN E tM tC kK kV hNN H.size o r14 k15 n16 x13 fo hw) ⟨callB_of 1 hT (gwt_in w_5_143) rfl rfl rfl (hT _ w_1_2) (hT _ w_5_180) (by decide +kernel) ⟨Nat.le_trans (Nat.le_of_ble_eq_true rfl) hRf, Nat.le_trans (Nat.le_of_ble_eq_true rfl) hRl⟩, hT _ w_5_141, hT _ w_5_142⟩ ⟨PVc.blind, va_recv hK hW.1 (ci := 1) (q0 := o) rfl (pic_obj fo.1 fo.2 (by decide)), PVc.at _ hW hK hN hE hS hF⟩ rfl rfl hl.1 rfl (lv_room (Nat.le_of_ble_eq_true rfl)) d_Snk_putCode_17 ⟨show cells + k15 ≤ R.cells by omega, show slots + n16 ≤ R.slots by omega⟩) hS (fun q _ h => hF q h) hF (fun  x19 t H locs ht hvm hw hB hz1 hk1 hS => ?_)
    obtain ⟨x19, ad, NN⟩ := x19
    obtain ⟨hB, hle, hg⟩ := hB
    try dsimp only at hw hB hle hg
    have hW := Wd.back hB ht hF
    rw [← hg o fo.1] at hl
    rw [← hg l1 fl1.1] at hl
    have fl1 : l1 < NN ∧ kcC l1 = 22 := ⟨Nat.lt_of_lt_of_le fl1.1 hle, fl1.2⟩
    have fo : o < NN ∧ kcC o = 1 := ⟨Nat.lt_of_lt_of_le fo.1 hle, fo.2⟩
    have hag : NN0 ≤ NN ∧ ∀ o : Nat, o < NN0 → ad o = ad0 o := ⟨Nat.le_trans hag.1 hle, fun o h => (hg o (Nat.lt_of_lt_of_le h hag.1)).trans (hag.2 o h)⟩
    have hNN : 152 ≤ NN := Nat.le_trans hNN hle
    clear hg hle
    obtain ⟨cells, ec⟩ : ∃ z, z = cells + k15 := ⟨_, rfl⟩
    obtain ⟨slots, es⟩ : ∃ z, z = slots + n16 := ⟨_, rfl⟩
    first | rw [← ec, ← es] | rw [Nat.add_zero, Nat.add_zero, ← ec, ← es]
    have hRc : cells + k17 ≤ R.cells := by omega
    have hRs : slots + n18 ≤ R.slots := by omega
    clear ec es hB ht hF hz1 hk1 hvm ek15 en16
    exact t_Snk_putCode_20 hx hb hml hown hT hK hN hA hRf hRl hE hret  ad NN cells slots o l1 l2 k17 n18 x19 H locs ls hNN hag hRc hRs fo fl1 hw hW hS (lv_sub hl [0, 1, 2] rfl)
set_option maxHeartbeats 4000000 in
set_option maxRecDepth 100000 in
theorem k_Snk_putCode (l : Launch) (dC : Nat → ClassId) (dI : Nat → Nat → Nat) (cI cB cJ cZ : ClassId) (ad : Nat → Nat) (NN : Nat) (E : Heap) (tM tC : Nat) (kK kV : Nat → Nat) (hNN : 152 ≤ NN) (sz : Nat) (o : Nat) (l1 : Nat) (l2 : Int32) (kb : Nat) (nb : Nat) (x : St) (fo : o < NN ∧ kcC o = 1) (fl1 : l1 < NN ∧ kcC l1 = 22) {post : St → Prop} (hw : wp_Snk_putCode post o l1 l2 kb nb x) : Met l y_Snk_putCode (wsOf y_Snk_putCode b_Snk_putCode 4 (none)) ({ frames := 5, cells := kb, slots := nb, locals := 277 }) (va_Pc [.ref (ad o), .ref (ad l1), .int l2] (PVc dC dI cI cB cJ cZ ad stC kcC NN E tM tC kK kV sz x)) (va_Qv (fun (u : St × (Nat → Nat) × Nat) => post u.1) (fun u t => Wd dC dI cI cB cJ cZ u.2.1 stC kcC u.2.2 (va_A (pic ad stC kcC NN cI cB cJ cZ x) sz) u.1 t.heap ∧ NN ≤ u.2.2 ∧ ∀ o : Nat, o < NN → u.2.1 o = ad o) (va_A (pic ad stC kcC NN cI cB cJ cZ x) sz)) kb nb (va_A (pic ad stC kcC NN cI cB cJ cZ x) sz) := by
  refine Met.ofW (cc := b_Snk_putCode) (maxL := 4) (ret := none) (by decide) rfl ?_
  intro p e s m args below meth c s₁ B hml hv
  obtain ⟨rfl, ⟨hsz, hW0, hK, hN⟩, hE⟩ := hv
  have hx := B.exec
  have hb := B.bytes
  have hr := B.returns
  have hts := atoms_spec B.pre
  have hT : ∀ w ∈ TG, w.before _ s = true := fun w h => hts w (List.mem_cons_of_mem _ h)
  have hown : s.vm.findClass R_Snk = some m.cls := findClass_of_methodNamed B.named
  have hlocks := B.notSynchronized
  subst hsz
  have hW : Wd dC dI cI cB cJ cZ ad stC kcC NN (va_A (pic ad stC kcC NN cI cB cJ cZ x) s.heap.size) x s.heap := ⟨hW0.1, hW0.2.1.self (sz := s.heap.size), hW0.2.2⟩
  generalize hAe : va_A (pic ad stC kcC NN cI cB cJ cZ x) s.heap.size = A at hW hE ⊢
  have hA : ∀ q : Nat, s.heap.size ≤ q → A q := fun q h => by rw [← hAe]; exact Or.inr h
  have hS : va_S A s.heap s.heap [] := va_S.rf
  have hl := lv_entry ([.ref (ad o), .ref (ad l1), .int l2]) (n := 4) (Nat.le_of_ble_eq_true rfl)
  rw [lg_entry_eq]
  generalize (lg_sl ([.ref (ad o), .ref (ad l1), .int l2]) ++ List.replicate (4 - (lg_sl ([.ref (ad o), .ref (ad l1), .int l2])).length) Slot.unset).toArray = ls at hl ⊢
  have hl : lv_has ls 4 [(0, .ref (ad o)), (1, .ref (ad l1)), (2, .int l2)] := hl
  exact t_Snk_putCode_e hx hb hml hown hT hK hN hA (Nat.le_refl 5) (Nat.le_refl 277) hE (fun ad1 NN1 cells slots x1 H locs pc ls hd hag hc hs hp hW hS => W.widen (k := kb) (n := nb) hc hs (W.vret hx hb hr (fun t ht hM => ⟨⟨(x1, ad1, NN1), rfl, hp, Wd.back hW ht.symm (fun _ z => z), hag.1, hag.2⟩, hS.F ht⟩) hS.2.2 hd hlocks))  ad NN 0 0 o l1 l2 kb nb x _ _ ls hNN ⟨Nat.le_refl _, fun _ _ => rfl⟩ (Nat.le_of_eq (Nat.zero_add kb)) (Nat.le_of_eq (Nat.zero_add nb)) fo fl1 hw hW hS hl
set_option maxRecDepth 100000 in
set_option maxHeartbeats 4000000 in
set_option maxRecDepth 100000 in
theorem t_Snk_tellSizeFrom_30 {p : Program} {l : Launch} {e : Env} {R : Room} {s : State} {m : MethodId} {args : Array Value} {below : List Frame} {meth : Method} {c : Code} {Q : State → Prop} {dC : Nat → ClassId} {dI : Nat → Nat → Nat} {cI cB cJ cZ : ClassId} {A : Nat → Prop} {E : Heap} {tM tC : Nat} {kK kV : Nat → Nat} {ad0 : Nat → Nat} {NN0 : Nat} {post : St → Prop} (hx : p.tables.exec = Jvm.exec) (hb : c.code = b_Snk_tellSizeFrom) (hml : c.maxLocals = 4) (hown : s.vm.findClass R_Snk = some m.cls) (hT : ∀ w ∈ TG, w.before args s = true) (hK : va_K (dC, dI) CL (TY cI cB cJ cZ) s) (hN : NW s) (hA : ∀ q : Nat, s.heap.size ≤ q → A q) (hRf : 4 ≤ R.frames) (hRl : 247 ≤ R.locals) (hE : CE E tM tC kK kV A s) (hret : ∀ (ad : Nat → Nat) (NN cells slots : Nat) (x : St) (H : Heap) (locs : List Loc) (pc : Nat) (ls : Array Slot), decode b_Snk_tellSizeFrom pc = .ok (.return_, 1) → (NN0 ≤ NN ∧ ∀ o : Nat, o < NN0 → ad o = ad0 o) → cells ≤ R.cells → slots ≤ R.slots → post x → Wd dC dI cI cB cJ cZ ad stC kcC NN A x H → va_S A s.heap H locs → W p l e R s m args below meth c H locs cells slots Q (F0 m pc ls []))  : ∀ (ad : Nat → Nat) (NN cells slots : Nat) (o : Nat) (l1 : Int32) (l2 : Int32) (s0 : Int32) (kb : Nat) (nb : Nat) (x : St) (H : Heap) (locs : List Loc) (ls : Array Slot), (152 ≤ NN) → (NN0 ≤ NN ∧ ∀ o : Nat, o < NN0 → ad o = ad0 o) → (cells + kb ≤ R.cells) → (slots + nb ≤ R.slots) → (o < NN ∧ kcC o = 1) → j_Snk_tellSizeFrom_30 post o l1 l2 s0 kb nb x → Wd dC dI cI cB cJ cZ ad stC kcC NN A x H → va_S A s.heap H locs → lv_has ls 4 [(0, .ref (ad o)), (1, .int l1), (2, .int l2)] → W p l e R s m args below meth c H locs cells slots Q (F0 m 30 ls [.int s0]) := by
  intro ad NN cells slots o l1 l2 s0 kb nb x H locs ls hNN hag hRc hRs fo hw hW hS hl
  unfold j_Snk_tellSizeFrom_30 at hw
  refine lv_istore_n (lv' := [(3, .int s0), (0, .ref (ad o)), (1, .int l1), (2, .int l2)]) hx hb d_Snk_tellSizeFrom_30 rfl hl (by decide) rfl (fun ls hl => ?_)
  refine lv_aload_n hx hb d_Snk_tellSizeFrom_31 rfl (lv_at hl 1 rfl) ?_
  refine lv_iload_n hx hb d_Snk_tellSizeFrom_32 rfl (lv_at hl 0 rfl) ?_
  obtain ⟨k1, n2, k3, n4, ek1, en2, hw⟩ := hw
  have hF := hW.free hS hA
  refine va_calli (va_runV (C := R_Snk) (As := [.int s0]) (rest := []) ⟨hx, hb, hml, hown, hT⟩ (k_Snk_hasRoom l dC dI cI cB cJ cZ ad NN E tM tC kK kV hNN H.size o s0 k1 n2 x fo hw) ⟨callB_of 1 hT (gwt_in w_4_56) rfl rfl rfl (hT _ w_1_2) (hT _ w_4_53) (by decide +kernel) ⟨Nat.le_trans (Nat.le_of_ble_eq_true rfl) hRf, Nat.le_trans (Nat.le_of_ble_eq_true rfl) hRl⟩, hT _ w_4_55, hT _ ws_1⟩ ⟨PVc.blind, va_recv hK hW.1 (ci := 1) (q0 := o) rfl (pic_obj fo.1 fo.2 (by decide)), PVc.at _ hW hK hN hE hS hF⟩ rfl rfl hl.1 rfl (lv_room (Nat.le_of_ble_eq_true rfl)) d_Snk_tellSizeFrom_33 ⟨show cells + k1 ≤ R.cells by omega, show slots + n2 ≤ R.slots by omega⟩) hS (fun q _ h => hF q h) hF (fun r6 x5 t H locs ht hvm hw hB hz1 hk1 hS => ?_)
  obtain ⟨x5, ad, NN⟩ := x5
  obtain ⟨hB, hle, hg⟩ := hB
  try dsimp only at hw hB hle hg
  have hW := Wd.back hB ht hF
  rw [← hg o fo.1] at hl
  have fo : o < NN ∧ kcC o = 1 := ⟨Nat.lt_of_lt_of_le fo.1 hle, fo.2⟩
  have hag : NN0 ≤ NN ∧ ∀ o : Nat, o < NN0 → ad o = ad0 o := ⟨Nat.le_trans hag.1 hle, fun o h => (hg o (Nat.lt_of_lt_of_le h hag.1)).trans (hag.2 o h)⟩
  have hNN : 152 ≤ NN := Nat.le_trans hNN hle
  clear hg hle
  obtain ⟨cells, ec⟩ : ∃ z, z = cells + k1 := ⟨_, rfl⟩
  obtain ⟨slots, es⟩ : ∃ z, z = slots + n2 := ⟨_, rfl⟩
  first | rw [← ec, ← es] | rw [Nat.add_zero, Nat.add_zero, ← ec, ← es]
  have hRc : cells + k3 ≤ R.cells := by omega
  have hRs : slots + n4 ≤ R.slots := by omega
  clear ec es hB ht hF hz1 hk1 hvm ek1 en2
  refine lv_if_ne (tgt := 40) hx hb d_Snk_tellSizeFrom_36 (by decide) (fun c7 => ?_) (fun c7 => ?_)
  · have hw := hw.1 c7
    refine lv_aload_n hx hb d_Snk_tellSizeFrom_40 rfl (lv_at hl 1 rfl) ?_
    obtain ⟨q8, hq8, hw⟩ := hw
    refine w_getr (q := q8) (k := 0) (t := 1) (C := R_Snk) (T := F_Snk) (N := 7) hx hb hT hown hK hW fo.1 fo.2 (by decide) in_Snk rfl rfl (by decide) rfl fr_Snk_0 w_1_40 d_Snk_tellSizeFrom_41 hq8 (fun aq8 bq8 => ?_)
    have fq8 : q8 < NN ∧ kcC q8 = 21 := ⟨aq8, bq8⟩
    refine lv_iload_n hx hb d_Snk_tellSizeFrom_44 rfl (lv_at hl 2 rfl) ?_
    refine lv_aload_n hx hb d_Snk_tellSizeFrom_45 rfl (lv_at hl 1 rfl) ?_
    obtain ⟨q9, hq9, hw⟩ := hw
    refine w_getr (q := q9) (k := 0) (t := 1) (C := R_Snk) (T := F_Snk) (N := 7) hx hb hT hown hK hW fo.1 fo.2 (by decide) in_Snk rfl rfl (by decide) rfl fr_Snk_0 w_1_40 d_Snk_tellSizeFrom_46 hq9 (fun aq9 bq9 => ?_)
    have fq9 : q9 < NN ∧ kcC q9 = 21 := ⟨aq9, bq9⟩
    refine lv_iload_n hx hb d_Snk_tellSizeFrom_49 rfl (lv_at hl 2 rfl) ?_
    refine lv_iload_n hx hb d_Snk_tellSizeFrom_50 rfl (lv_at hl 0 rfl) ?_
    refine lv_iadd hx hb d_Snk_tellSizeFrom_51 ?_
    refine lv_iload_n hx hb d_Snk_tellSizeFrom_52 rfl (lv_at hl 3 rfl) ?_
    obtain ⟨⟨h1, h2, h3, h4, h5, h6⟩, hw⟩ := hw
    refine va_copyi (a := ad q9) (a0 := ad q8) hx hb (hml.trans hl.1.symm) hown (hT _ w_5_139) (hT _ w_4_73) (hT _ w_4_72) (hT _ w_1_16) hK hW.1 hW.2.1 hS q8 q9 1 1 (pic_byte fq8.1 fq8.2) (pic_byte fq9.1 fq9.2) rfl rfl rfl h1 h2 h3 h4 h5 h6 (Nat.le_trans (by decide) hRf) (Nat.le_trans (Nat.le_of_ble_eq_true rfl) hRl) d_Snk_tellSizeFrom_53 (fun H locs hP hD hS => ?_)
    have hW := Wd.rowb fq9.1 fq9.2 hP hD hW.2.2
    obtain ⟨x10, ex10⟩ : ∃ y : St, y = setW x5 q9 (va_cpy (fA x5 q8) (fA x5 q9) (l1 : Int32).toNatClampNeg ((l1 + s0) : Int32).toNatClampNeg (l2 : Int32).toNatClampNeg) := ⟨_, rfl⟩
    rw [← ex10] at hW
    have hw := hw x10 ex10
    refine lv_aload_n hx hb d_Snk_tellSizeFrom_56 rfl (lv_at hl 1 rfl) ?_
    refine lv_iload_n hx hb d_Snk_tellSizeFrom_57 rfl (lv_at hl 2 rfl) ?_
    refine w_puti (ty := .int) (k := 1) (t := 1) (C := R_Snk) (T := F_Snk) (N := 7) hx hb hT hown hK hW hS fo.1 fo.2 (by decide) in_Snk t_Snk t_Snk_ok n_Snk rfl rfl (by decide) rfl fr_Snk_1 w_1_43 (by decide +kernel) rfl rfl d_Snk_tellSizeFrom_58 (fun H locs hW hS => ?_)
    obtain ⟨x11, ex11⟩ : ∃ y : St, y = setI x10 o 1 l1 := ⟨_, rfl⟩
    rw [← ex11] at hW
    have hw := hw x11 ex11
    refine lv_aload_n hx hb d_Snk_tellSizeFrom_61 rfl (lv_at hl 1 rfl) ?_
    refine lv_iload_n hx hb d_Snk_tellSizeFrom_62 rfl (lv_at hl 3 rfl) ?_
    refine lv_i2l hx hb d_Snk_tellSizeFrom_63 rfl ?_
    obtain ⟨k12, n13, k14, n15, ek12, en13, hw⟩ := hw
    have hF := hW.free hS hA
    refine va_callv (va_runV (C := R_Snk) (As := [.long (l2 : Int32).toInt64]) (rest := []) ⟨hx, hb, hml, hown, hT⟩ (k_Snk_putVarint l dC dI cI cB cJ cZ ad NN E tM tC kK kV hNN H.size o (l2 : Int32).toInt64 k12 n13 x11 fo hw) ⟨callB_of 1 hT (gwt_in w_5_143) rfl rfl rfl (hT _ w_1_2) (hT _ w_5_180) (by decide +kernel) ⟨Nat.le_trans (Nat.le_of_ble_eq_true rfl) hRf, Nat.le_trans (Nat.le_of_ble_eq_true rfl) hRl⟩, hT _ w_5_141, hT _ w_5_142⟩ ⟨PVc.blind, va_recv hK hW.1 (ci := 1) (q0 := o) rfl (pic_obj fo.1 fo.2 (by decide)), PVc.at _ hW hK hN hE hS hF⟩ rfl rfl hl.1 rfl (lv_room (Nat.le_of_ble_eq_true rfl)) d_Snk_tellSizeFrom_64 ⟨show cells + k12 ≤ R.cells by omega, show slots + n13 ≤ R.slots by omega⟩) hS (fun q _ h => hF q h) hF (fun  x16 t H locs ht hvm hw hB hz1 hk1 hS => ?_)
    obtain ⟨x16, ad, NN⟩ := x16
    obtain ⟨hB, hle, hg⟩ := hB
    try dsimp only at hw hB hle hg
    have hW := Wd.back hB ht hF
    rw [← hg o fo.1] at hl
    have fo : o < NN ∧ kcC o = 1 := ⟨Nat.lt_of_lt_of_le fo.1 hle, fo.2⟩
    have fq8 : q8 < NN ∧ kcC q8 = 21 := ⟨Nat.lt_of_lt_of_le fq8.1 hle, fq8.2⟩
    have fq9 : q9 < NN ∧ kcC q9 = 21 := ⟨Nat.lt_of_lt_of_le fq9.1 hle, fq9.2⟩
    have hag : NN0 ≤ NN ∧ ∀ o : Nat, o < NN0 → ad o = ad0 o := ⟨Nat.le_trans hag.1 hle, fun o h => (hg o (Nat.lt_of_lt_of_le h hag.1)).trans (hag.2 o h)⟩
    have hNN : 152 ≤ NN := Nat.le_trans hNN hle
    clear hg hle
    obtain ⟨cells, ec⟩ : ∃ z, z = cells + k12 := ⟨_, rfl⟩
    obtain ⟨slots, es⟩ : ∃ z, z = slots + n13 := ⟨_, rfl⟩
    first | rw [← ec, ← es] | rw [Nat.add_zero, Nat.add_zero, ← ec, ← es]
    have hRc : cells + k14 ≤ R.cells := by omega
    have hRs : slots + n15 ≤ R.slots := by omega
    clear ec es hB ht hF hz1 hk1 hvm ek12 en13
    refine lv_aload_n hx hb d_Snk_tellSizeFrom_67 rfl (lv_at hl 1 rfl) ?_
    refine lv_iload_n hx hb d_Snk_tellSizeFrom_68 rfl (lv_at hl 2 rfl) ?_
    refine lv_iload_n hx hb d_Snk_tellSizeFrom_69 rfl (lv_at hl 0 rfl) ?_
    refine lv_iadd hx hb d_Snk_tellSizeFrom_70 ?_
    refine lv_iload_n hx hb d_Snk_tellSizeFrom_71 rfl (lv_at hl 3 rfl) ?_
    refine lv_iadd hx hb d_Snk_tellSizeFrom_72 ?_
    refine w_puti (ty := .int) (k := 1) (t := 1) (C := R_Snk) (T := F_Snk) (N := 7) hx hb hT hown hK hW hS fo.1 fo.2 (by decide) in_Snk t_Snk t_Snk_ok n_Snk rfl rfl (by decide) rfl fr_Snk_1 w_1_43 (by decide +kernel) rfl rfl d_Snk_tellSizeFrom_73 (fun H locs hW hS => ?_)
    obtain ⟨x17, ex17⟩ : ∃ y : St, y = setI x16 o 1 ((l1 + s0) + l2) := ⟨_, rfl⟩
    rw [← ex17] at hW
    have hw := hw x17 ex17
    exact hret ad NN cells slots x17 H locs 76 ls d_Snk_tellSizeFrom_76 hag (Nat.le_trans (Nat.le_add_right _ _) hRc) (Nat.le_trans (Nat.le_add_right _ _) hRs) hw hW hS
  · have hw := hw.2 c7
    exact hret ad NN cells slots x5 H locs 39 ls d_Snk_tellSizeFrom_39 hag (Nat.le_trans (Nat.le_add_right _ _) hRc) (Nat.le_trans (Nat.le_add_right _ _) hRs) hw hW hS
set_option maxRecDepth 100000 in
set_option maxHeartbeats 4000000 in
set_option maxRecDepth 100000 in
theorem t_Snk_tellSizeFrom_e {p : Program} {l : Launch} {e : Env} {R : Room} {s : State} {m : MethodId} {args : Array Value} {below : List Frame} {meth : Method} {c : Code} {Q : State → Prop} {dC : Nat → ClassId} {dI : Nat → Nat → Nat} {cI cB cJ cZ : ClassId} {A : Nat → Prop} {E : Heap} {tM tC : Nat} {kK kV : Nat → Nat} {ad0 : Nat → Nat} {NN0 : Nat} {post : St → Prop} (hx : p.tables.exec = Jvm.exec) (hb : c.code = b_Snk_tellSizeFrom) (hml : c.maxLocals = 4) (hown : s.vm.findClass R_Snk = some m.cls) (hT : ∀ w ∈ TG, w.before args s = true) (hK : va_K (dC, dI) CL (TY cI cB cJ cZ) s) (hN : NW s) (hA : ∀ q : Nat, s.heap.size ≤ q → A q) (hRf : 4 ≤ R.frames) (hRl : 247 ≤ R.locals) (hE : CE E tM tC kK kV A s) (hret : ∀ (ad : Nat → Nat) (NN cells slots : Nat) (x : St) (H : Heap) (locs : List Loc) (pc : Nat) (ls : Array Slot), decode b_Snk_tellSizeFrom pc = .ok (.return_, 1) → (NN0 ≤ NN ∧ ∀ o : Nat, o < NN0 → ad o = ad0 o) → cells ≤ R.cells → slots ≤ R.slots → post x → Wd dC dI cI cB cJ cZ ad stC kcC NN A x H → va_S A s.heap H locs → W p l e R s m args below meth c H locs cells slots Q (F0 m pc ls [])) : ∀ (ad : Nat → Nat) (NN cells slots : Nat) (o : Nat) (l1 : Int32) (kb : Nat) (nb : Nat) (x : St) (H : Heap) (locs : List Loc) (ls : Array Slot), (152 ≤ NN) → (NN0 ≤ NN ∧ ∀ o : Nat, o < NN0 → ad o = ad0 o) → (cells + kb ≤ R.cells) → (slots + nb ≤ R.slots) → (o < NN ∧ kcC o = 1) → wp_Snk_tellSizeFrom post o l1 kb nb x → Wd dC dI cI cB cJ cZ ad stC kcC NN A x H → va_S A s.heap H locs → lv_has ls 4 [(0, .ref (ad o)), (1, .int l1)] → W p l e R s m args below meth c H locs cells slots Q (F0 m 0 ls []) := by
  intro ad NN cells slots o l1 kb nb x H locs ls hNN hag hRc hRs fo hw hW hS hl
  unfold wp_Snk_tellSizeFrom at hw
  refine lv_aload_n hx hb d_Snk_tellSizeFrom_0 rfl (lv_at hl 0 rfl) ?_
  refine w_geti (k := 1) (t := 1) (C := R_Snk) (T := F_Snk) (N := 7) hx hb hT hown hK hW fo.1 fo.2 (by decide) in_Snk rfl rfl (by decide) rfl fr_Snk_1 w_1_43 d_Snk_tellSizeFrom_1 ?_
  refine lv_iload_n hx hb d_Snk_tellSizeFrom_4 rfl (lv_at hl 1 rfl) ?_
  refine lv_isub hx hb d_Snk_tellSizeFrom_5 ?_
  refine lv_topi (fun v18 ev18 => ?_)
  have hw := hw v18 ev18
  refine lv_istore_n (lv' := [(2, .int v18), (0, .ref (ad o)), (1, .int l1)]) hx hb d_Snk_tellSizeFrom_6 rfl hl (by decide) rfl (fun ls hl => ?_)
  refine lv_iload_n hx hb d_Snk_tellSizeFrom_7 rfl (lv_at hl 0 rfl) ?_
  refine lv_sipush (v := 128) hx hb d_Snk_tellSizeFrom_8 (by decide) ?_
  refine lv_icmp_ge (tgt := 18) hx hb d_Snk_tellSizeFrom_11 (by decide) (fun c19 => ?_) (fun c19 => ?_)
  · have hw := hw.1 c19
    refine lv_iload_n hx hb d_Snk_tellSizeFrom_18 rfl (lv_at hl 0 rfl) ?_
    refine lv_sipush (v := 16384) hx hb d_Snk_tellSizeFrom_19 (by decide) ?_
    refine lv_icmp_ge (tgt := 29) hx hb d_Snk_tellSizeFrom_22 (by decide) (fun c20 => ?_) (fun c20 => ?_)
    · have hw := hw.1 c20
      refine lv_iconst (v := 3) hx hb d_Snk_tellSizeFrom_29 (by decide) ?_
      exact t_Snk_tellSizeFrom_30 hx hb hml hown hT hK hN hA hRf hRl hE hret  ad NN cells slots o l1 v18 3 kb nb x H locs ls hNN hag hRc hRs fo hw hW hS (lv_sub hl [1, 2, 0] rfl)
    · have hw := hw.2 c20
      refine lv_iconst (v := 2) hx hb d_Snk_tellSizeFrom_25 (by decide) ?_
      refine lv_goto (tgt := 30) hx hb d_Snk_tellSizeFrom_26 (by decide) ?_
      exact t_Snk_tellSizeFrom_30 hx hb hml hown hT hK hN hA hRf hRl hE hret  ad NN cells slots o l1 v18 2 kb nb x H locs ls hNN hag hRc hRs fo hw hW hS (lv_sub hl [1, 2, 0] rfl)
  · have hw := hw.2 c19
    refine lv_iconst (v := 1) hx hb d_Snk_tellSizeFrom_14 (by decide) ?_
    refine lv_goto (tgt := 30) hx hb d_Snk_tellSizeFrom_15 (by decide) ?_
    exact t_Snk_tellSizeFrom_30 hx hb hml hown hT hK hN hA hRf hRl hE hret  ad NN cells slots o l1 v18 1 kb nb x H locs ls hNN hag hRc hRs fo hw hW hS (lv_sub hl [1, 2, 0] rfl)
set_option maxHeartbeats 4000000 in
set_option maxRecDepth 100000 in
theorem k_Snk_tellSizeFrom (l : Launch) (dC : Nat → ClassId) (dI : Nat → Nat → Nat) (cI cB cJ cZ : ClassId) (ad : Nat → Nat) (NN : Nat) (E : Heap) (tM tC : Nat) (kK kV : Nat → Nat) (hNN : 152 ≤ NN) (sz : Nat) (o : Nat) (l1 : Int32) (kb : Nat) (nb : Nat) (x : St) (fo : o < NN ∧ kcC o = 1) {post : St → Prop} (hw : wp_Snk_tellSizeFrom post o l1 kb nb x) : Met l y_Snk_tellSizeFrom (wsOf y_Snk_tellSizeFrom b_Snk_tellSizeFrom 4 (none)) ({ frames := 4, cells := kb, slots := nb, locals := 247 }) (va_Pc [.ref (ad o), .int l1] (PVc dC dI cI cB cJ cZ ad stC kcC NN E tM tC kK kV sz x)) (va_Qv (fun (u : St × (Nat → Nat) × Nat) => post u.1) (fun u t => Wd dC dI cI cB cJ cZ u.2.1 stC kcC u.2.2 (va_A (pic ad stC kcC NN cI cB cJ cZ x) sz) u.1 t.heap ∧ NN ≤ u.2.2 ∧ ∀ o : Nat, o < NN → u.2.1 o = ad o) (va_A (pic ad stC kcC NN cI cB cJ cZ x) sz)) kb nb (va_A (pic ad stC kcC NN cI cB cJ cZ x) sz) := by
  refine Met.ofW (cc := b_Snk_tellSizeFrom) (maxL := 4) (ret := none) (by decide) rfl ?_
  intro p e s m args below meth c s₁ B hml hv
  obtain ⟨rfl, ⟨hsz, hW0, hK, hN⟩, hE⟩ := hv
  have hx := B.exec
  have hb := B.bytes
  have hr := B.returns
  have hts := atoms_spec B.pre
  have hT : ∀ w ∈ TG, w.before _ s = true := fun w h => hts w (List.mem_cons_of_mem _ h)
  have hown : s.vm.findClass R_Snk = some m.cls := findClass_of_methodNamed B.named
  have hlocks := B.notSynchronized
  subst hsz
  have hW : Wd dC dI cI cB cJ cZ ad stC kcC NN (va_A (pic ad stC kcC NN cI cB cJ cZ x) s.heap.size) x s.heap := ⟨hW0.1, hW0.2.1.self (sz := s.heap.size), hW0.2.2⟩
  generalize hAe : va_A (pic ad stC kcC NN cI cB cJ cZ x) s.heap.size = A at hW hE ⊢
  have hA : ∀ q : Nat, s.heap.size ≤ q → A q := fun q h => by rw [← hAe]; exact Or.inr h
  have hS : va_S A s.heap s.heap [] := va_S.rf
  have hl := lv_entry ([.ref (ad o), .int l1]) (n := 4) (Nat.le_of_ble_eq_true rfl)
  rw [lg_entry_eq]
  generalize (lg_sl ([.ref (ad o), .int l1]) ++ List.replicate (4 - (lg_sl ([.ref (ad o), .int l1])).length) Slot.unset).toArray = ls at hl ⊢
  have hl : lv_has ls 4 [(0, .ref (ad o)), (1, .int l1)] := hl
  exact t_Snk_tellSizeFrom_e hx hb hml hown hT hK hN hA (Nat.le_refl 4) (Nat.le_refl 247) hE (fun ad1 NN1 cells slots x1 H locs pc ls hd hag hc hs hp hW hS => W.widen (k := kb) (n := nb) hc hs (W.vret hx hb hr (fun t ht hM => ⟨⟨(x1, ad1, NN1), rfl, hp, Wd.back hW ht.symm (fun _ z => z), hag.1, hag.2⟩, hS.F ht⟩) hS.2.2 hd hlocks))  ad NN 0 0 o l1 kb nb x _ _ ls hNN ⟨Nat.le_refl _, fun _ _ => rfl⟩ (Nat.le_of_eq (Nat.zero_add kb)) (Nat.le_of_eq (Nat.zero_add nb)) fo hw hW hS hl
set_option maxRecDepth 100000 in
set_option maxHeartbeats 4000000 in
set_option maxRecDepth 100000 in
theorem t_Wrt_putTexts_169 {p : Program} {l : Launch} {e : Env} {R : Room} {s : State} {m : MethodId} {args : Array Value} {below : List Frame} {meth : Method} {c : Code} {Q : State → Prop} {dC : Nat → ClassId} {dI : Nat → Nat → Nat} {cI cB cJ cZ : ClassId} {A : Nat → Prop} {E : Heap} {tM tC : Nat} {kK kV : Nat → Nat} {ad0 : Nat → Nat} {NN0 : Nat} {post : St → Prop} {rec169 : Nat → Int32 → Nat → Int32 → Int32 → Nat → Nat → St → Prop} (hx : p.tables.exec = Jvm.exec) (hb : c.code = b_Wrt_putTexts) (hml : c.maxLocals = 6) (hown : s.vm.findClass R_Wrt = some m.cls) (hT : ∀ w ∈ TG, w.before args s = true) (hK : va_K (dC, dI) CL (TY cI cB cJ cZ) s) (hN : NW s) (hA : ∀ q : Nat, s.heap.size ≤ q → A q) (hRf : 6 ≤ R.frames) (hRl : 300 ≤ R.locals) (hE : CE E tM tC kK kV A s) (hret : ∀ (ad : Nat → Nat) (NN cells slots : Nat) (x : St) (H : Heap) (locs : List Loc) (pc : Nat) (ls : Array Slot), decode b_Wrt_putTexts pc = .ok (.return_, 1) → (NN0 ≤ NN ∧ ∀ o : Nat, o < NN0 → ad o = ad0 o) → cells ≤ R.cells → slots ≤ R.slots → post x → Wd dC dI cI cB cJ cZ ad stC kcC NN A x H → va_S A s.heap H locs → W p l e R s m args below meth c H locs cells slots Q (F0 m pc ls [])) (hrec169 : ∀ (ad : Nat → Nat) (NN cells slots : Nat) (o : Nat) (l1 : Int32) (l2 : Nat) (l3 : Int32) (l4 : Int32) (kb : Nat) (nb : Nat) (x : St) (H : Heap) (locs : List Loc) (ls : Array Slot), (152 ≤ NN) → (NN0 ≤ NN ∧ ∀ o : Nat, o < NN0 → ad o = ad0 o) → (cells + kb ≤ R.cells) → (slots + nb ≤ R.slots) → (o < NN ∧ kcC o = 5) → (l2 < NN ∧ kcC l2 = 21) → rec169 o l1 l2 l3 l4 kb nb x → Wd dC dI cI cB cJ cZ ad stC kcC NN A x H → va_S A s.heap H locs → lv_has ls 6 [(0, .ref (ad o)), (1, .int l1), (2, .ref (ad l2)), (3, .int l3), (4, .int l4)] → W p l e R s m args below meth c H locs cells slots Q (F0 m 169 ls [])) : ∀ (ad : Nat → Nat) (NN cells slots : Nat) (o : Nat) (l1 : Int32) (l2 : Nat) (l3 : Int32) (l4 : Int32) (kb : Nat) (nb : Nat) (x : St) (H : Heap) (locs : List Loc) (ls : Array Slot), (152 ≤ NN) → (NN0 ≤ NN ∧ ∀ o : Nat, o < NN0 → ad o = ad0 o) → (cells + kb ≤ R.cells) → (slots + nb ≤ R.slots) → (o < NN ∧ kcC o = 5) → (l2 < NN ∧ kcC l2 = 21) → j_Wrt_putTexts_169 post rec169 o l1 l2 l3 l4 kb nb x → Wd dC dI cI cB cJ cZ ad stC kcC NN A x H → va_S A s.heap H locs → lv_has ls 6 [(0, .ref (ad o)), (1, .int l1), (2, .ref (ad l2)), (3, .int l3), (4, .int l4)] → W p l e R s m args below meth c H locs cells slots Q (F0 m 169 ls []) := by
  intro ad NN cells slots o l1 l2 l3 l4 kb nb x H locs ls hNN hag hRc hRs fo fl2 hw hW hS hl
  unfold j_Wrt_putTexts_169 at hw
  refine lv_iload hx hb d_Wrt_putTexts_169 (lv_at hl 4 rfl) ?_
  refine lv_aload_n hx hb d_Wrt_putTexts_171 rfl (lv_at hl 0 rfl) ?_
  refine w_geti (k := 12) (t := 5) (C := R_Wrt) (T := F_Wrt) (N := 20) hx hb hT hown hK hW fo.1 fo.2 (by decide) in_Wrt rfl rfl (by decide) rfl fr_Wrt_12 w_2_63 d_Wrt_putTexts_172 ?_
  refine lv_icmp_ge (tgt := 228) hx hb d_Wrt_putTexts_175 (by decide) (fun c1 => ?_) (fun c1 => ?_)
  · have hw := hw.1 c1
    exact hret ad NN cells slots x H locs 228 ls d_Wrt_putTexts_228 hag (Nat.le_trans (Nat.le_add_right _ _) hRc) (Nat.le_trans (Nat.le_add_right _ _) hRs) hw hW hS
  · have hw := hw.2 c1
    refine lv_aload_n hx hb d_Wrt_putTexts_178 rfl (lv_at hl 0 rfl) ?_
    refine w_getf (q := (stC o 16)) (k := 16) (t := 5) (C := R_Wrt) (T := F_Wrt) (N := 20) hx hb hT hown hK hW fo.1 fo.2 (by decide) in_Wrt rfl rfl (by decide) rfl fr_Wrt_16 w_2_67 d_Wrt_putTexts_179 rfl ?_
    refine lv_iload hx hb d_Wrt_putTexts_182 (lv_at hl 4 rfl) ?_
    obtain ⟨hi, hw⟩ := hw
    refine w_lald (o := (stC o 16)) hx hb hK hW (st_ty hNN fo.1 fo.2 rfl).1 (st_ty hNN fo.1 fo.2 rfl).2 hi d_Wrt_putTexts_184 ?_
    refine lv_l2i hx hb d_Wrt_putTexts_185 rfl ?_
    refine lv_topi (fun v2 ev2 => ?_)
    have hw := hw v2 ev2
    refine lv_istore (lv' := [(5, .int v2), (0, .ref (ad o)), (1, .int l1), (2, .ref (ad l2)), (3, .int l3), (4, .int l4)]) hx hb d_Wrt_putTexts_186 hl (by decide) rfl (fun ls hl => ?_)
    refine lv_aload_n hx hb d_Wrt_putTexts_188 rfl (lv_at hl 1 rfl) ?_
    obtain ⟨q3, hq3, hw⟩ := hw
    refine w_getr (q := q3) (k := 4) (t := 5) (C := R_Wrt) (T := F_Wrt) (N := 20) hx hb hT hown hK hW fo.1 fo.2 (by decide) in_Wrt rfl rfl (by decide) rfl fr_Wrt_4 w_2_55 d_Wrt_putTexts_189 hq3 (fun aq3 bq3 => ?_)
    have fq3 : q3 < NN ∧ kcC q3 = 1 := ⟨aq3, bq3⟩
    refine lv_aload_n hx hb d_Wrt_putTexts_192 rfl (lv_at hl 3 rfl) ?_
    refine lv_aload_n hx hb d_Wrt_putTexts_193 rfl (lv_at hl 1 rfl) ?_
    refine w_getf (q := (stC o 10)) (k := 10) (t := 5) (C := R_Wrt) (T := F_Wrt) (N := 20) hx hb hT hown hK hW fo.1 fo.2 (by decide) in_Wrt rfl rfl (by decide) rfl fr_Wrt_10 w_2_61 d_Wrt_putTexts_194 rfl ?_
    refine lv_iload hx hb d_Wrt_putTexts_197 (lv_at hl 5 rfl) ?_
    obtain ⟨hi, hw⟩ := hw
    refine w_lald (o := (stC o 10)) hx hb hK hW (st_ty hNN fo.1 fo.2 rfl).1 (st_ty hNN fo.1 fo.2 rfl).2 hi d_Wrt_putTexts_199 ?_
    have hF := hW.free hS hA
    refine va_calli (va_runSN (As := [.long (rL x (stC o 10) l4)]) (rest := [.ref (ad l2), .ref (ad q3)]) ⟨hx, hb, hml, hown, hT⟩ (k_V_placeOf l dC dI cI cB cJ cZ ad NN E tM tC kK kV hNN H.size (rL x (stC o 10) l4) x  hw) ⟨va_cnB 1 hT (gwt_in w_5_183) rfl rfl rfl (hN _ wn_6_19 rfl) (hT _ w_1_1) (by decide +kernel) ⟨Nat.le_trans (Nat.le_of_ble_eq_true rfl) hRf, Nat.le_trans (Nat.le_of_ble_eq_true rfl) hRl⟩, hT _ w_5_182, trivial⟩ ⟨PVc.blind, PVc.at _ hW hK hN hE hS hF⟩ rfl rfl hl.1 rfl (lv_room (Nat.le_of_ble_eq_true rfl)) d_Wrt_putTexts_200 ⟨(Nat.le_trans (Nat.le_add_right _ _) hRc), (Nat.le_trans (Nat.le_add_right _ _) hRs)⟩) hS (fun q _ h => hF q h) hF (fun r5 x4 t H locs ht hvm hw hB hz1 hk1 hS => ?_)
    have hW := Wd.back hB ht hF
    clear hB ht hF hz1 hk1 hvm
    refine lv_aload_n hx hb d_Wrt_putTexts_203 rfl (lv_at hl 1 rfl) ?_
    refine w_getf (q := (stC o 10)) (k := 10) (t := 5) (C := R_Wrt) (T := F_Wrt) (N := 20) hx hb hT hown hK hW fo.1 fo.2 (by decide) in_Wrt rfl rfl (by decide) rfl fr_Wrt_10 w_2_61 d_Wrt_putTexts_204 rfl ?_
    refine lv_iload hx hb d_Wrt_putTexts_207 (lv_at hl 5 rfl) ?_
    obtain ⟨hi, hw⟩ := hw
    refine w_lald (o := (stC o 10)) hx hb hK hW (st_ty hNN fo.1 fo.2 rfl).1 (st_ty hNN fo.1 fo.2 rfl).2 hi d_Wrt_putTexts_209 ?_
    have hF := hW.free hS hA
    refine va_calli (va_runSN (As := [.long (rL x4 (stC o 10) l4)]) (rest := [.int r5, .ref (ad l2), .ref (ad q3)]) ⟨hx, hb, hml, hown, hT⟩ (k_V_sizeOf l dC dI cI cB cJ cZ ad NN E tM tC kK kV hNN H.size (rL x4 (stC o 10) l4) x4  hw) ⟨va_cnB 1 hT (gwt_in w_5_161) rfl rfl rfl (hN _ wn_5_159 rfl) (hT _ w_1_1) (by decide +kernel) ⟨Nat.le_trans (Nat.le_of_ble_eq_true rfl) hRf, Nat.le_trans (Nat.le_of_ble_eq_true rfl) hRl⟩, hT _ w_5_160, trivial⟩ ⟨PVc.blind, PVc.at _ hW hK hN hE hS hF⟩ rfl rfl hl.1 rfl (lv_room (Nat.le_of_ble_eq_true rfl)) d_Wrt_putTexts_210 ⟨(Nat.le_trans (Nat.le_add_right _ _) hRc), (Nat.le_trans (Nat.le_add_right _ _) hRs)⟩) hS (fun q _ h => hF q h) hF (fun r7 x6 t H locs ht hvm hw hB hz1 hk1 hS => ?_)
    have hW := Wd.back hB ht hF
    clear hB ht hF hz1 hk1 hvm
    refine lv_iadd hx hb d_Wrt_putTexts_213 ?_
    refine lv_iload hx hb d_Wrt_putTexts_214 (lv_at hl 0 rfl) ?_
    refine lv_isub hx hb d_Wrt_putTexts_216 ?_
    refine lv_iload hx hb d_Wrt_putTexts_217 (lv_at hl 0 rfl) ?_
    obtain ⟨k8, n9, k10, n11, ek8, en9, hw⟩ := hw
    have hF := hW.free hS hA
    refine va_callv (va_runV (C := R_Snk) (As := [.ref (ad l2), .int ((r5 + r7) - v2), .int v2]) (rest := []) ⟨hx, hb, hml, hown, hT⟩ (k_Snk_putAll l dC dI cI cB cJ cZ ad NN E tM tC kK kV hNN H.size q3 l2 ((r5 + r7) - v2) v2 k8 n9 x6 fq3 fl2 hw) ⟨callB_of 3 hT (gwt_in w_5_138) rfl rfl rfl (hT _ w_1_2) (hT _ w_5_135) (by decide +kernel) ⟨Nat.le_trans (Nat.le_of_ble_eq_true rfl) hRf, Nat.le_trans (Nat.le_of_ble_eq_true rfl) hRl⟩, hT _ w_5_136, hT _ w_5_137⟩ ⟨PVc.blind, va_recv hK hW.1 (ci := 1) (q0 := q3) rfl (pic_obj fq3.1 fq3.2 (by decide)), PVc.at _ hW hK hN hE hS hF⟩ rfl rfl hl.1 rfl (lv_room (Nat.le_of_ble_eq_true rfl)) d_Wrt_putTexts_219 ⟨show cells + k8 ≤ R.cells by omega, show slots + n9 ≤ R.slots by omega⟩) hS (fun q _ h => hF q h) hF (fun  x12 t H locs ht hvm hw hB hz1 hk1 hS => ?_)
    obtain ⟨x12, ad, NN⟩ := x12
    obtain ⟨hB, hle, hg⟩ := hB
    try dsimp only at hw hB hle hg
    have hW := Wd.back hB ht hF
    rw [← hg o fo.1] at hl
    rw [← hg l2 fl2.1] at hl
    have fl2 : l2 < NN ∧ kcC l2 = 21 := ⟨Nat.lt_of_lt_of_le fl2.1 hle, fl2.2⟩
    have fo : o < NN ∧ kcC o = 5 := ⟨Nat.lt_of_lt_of_le fo.1 hle, fo.2⟩
    have fq3 : q3 < NN ∧ kcC q3 = 1 := ⟨Nat.lt_of_lt_of_le fq3.1 hle, fq3.2⟩
    have hag : NN0 ≤ NN ∧ ∀ o : Nat, o < NN0 → ad o = ad0 o := ⟨Nat.le_trans hag.1 hle, fun o h => (hg o (Nat.lt_of_lt_of_le h hag.1)).trans (hag.2 o h)⟩
    have hNN : 152 ≤ NN := Nat.le_trans hNN hle
    clear hg hle
    obtain ⟨cells, ec⟩ : ∃ z, z = cells + k8 := ⟨_, rfl⟩
    obtain ⟨slots, es⟩ : ∃ z, z = slots + n9 := ⟨_, rfl⟩
    first | rw [← ec, ← es] | rw [Nat.add_zero, Nat.add_zero, ← ec, ← es]
    have hRc : cells + k10 ≤ R.cells := by omega
    have hRs : slots + n11 ≤ R.slots := by omega
    clear ec es hB ht hF hz1 hk1 hvm ek8 en9
    refine lv_iinc (v := (l4 + 1)) (lv' := [(4, .int (l4 + 1)), (5, .int v2), (0, .ref (ad o)), (1, .int l1), (2, .ref (ad l2)), (3, .int l3)]) hx hb d_Wrt_putTexts_222 hl (k := 5) rfl rfl (by decide) rfl (fun ls hl => ?_)
    refine lv_goto (tgt := 169) hx hb d_Wrt_putTexts_225 (by decide) ?_
    exact hrec169 ad NN cells slots o l1 l2 l3 (l4 + 1) k10 n11 x12 H locs ls hNN hag hRc hRs fo fl2 hw hW hS (lv_sub hl [2, 3, 4, 5, 0] rfl)
set_option maxHeartbeats 4000000 in
set_option maxRecDepth 100000 in
theorem tl_Wrt_putTexts_169 {p : Program} {l : Launch} {e : Env} {R : Room} {s : State} {m : MethodId} {args : Array Value} {below : List Frame} {meth : Method} {c : Code} {Q : State → Prop} {dC : Nat → ClassId} {dI : Nat → Nat → Nat} {cI cB cJ cZ : ClassId} {A : Nat → Prop} {E : Heap} {tM tC : Nat} {kK kV : Nat → Nat} {ad0 : Nat → Nat} {NN0 : Nat} {post : St → Prop} (hx : p.tables.exec = Jvm.exec) (hb : c.code = b_Wrt_putTexts) (hml : c.maxLocals = 6) (hown : s.vm.findClass R_Wrt = some m.cls) (hT : ∀ w ∈ TG, w.before args s = true) (hK : va_K (dC, dI) CL (TY cI cB cJ cZ) s) (hN : NW s) (hA : ∀ q : Nat, s.heap.size ≤ q → A q) (hRf : 6 ≤ R.frames) (hRl : 300 ≤ R.locals) (hE : CE E tM tC kK kV A s) (hret : ∀ (ad : Nat → Nat) (NN cells slots : Nat) (x : St) (H : Heap) (locs : List Loc) (pc : Nat) (ls : Array Slot), decode b_Wrt_putTexts pc = .ok (.return_, 1) → (NN0 ≤ NN ∧ ∀ o : Nat, o < NN0 → ad o = ad0 o) → cells ≤ R.cells → slots ≤ R.slots → post x → Wd dC dI cI cB cJ cZ ad stC kcC NN A x H → va_S A s.heap H locs → W p l e R s m args below meth c H locs cells slots Q (F0 m pc ls []))  : ∀ n : Nat, ∀ (ad : Nat → Nat) (NN cells slots : Nat) (o : Nat) (l1 : Int32) (l2 : Nat) (l3 : Int32) (l4 : Int32) (kb : Nat) (nb : Nat) (x : St) (H : Heap) (locs : List Loc) (ls : Array Slot), (152 ≤ NN) → (NN0 ≤ NN ∧ ∀ o : Nat, o < NN0 → ad o = ad0 o) → (cells + kb ≤ R.cells) → (slots + nb ≤ R.slots) → (o < NN ∧ kcC o = 5) → (l2 < NN ∧ kcC l2 = 21) → wl_Wrt_putTexts_169 post n o l1 l2 l3 l4 kb nb x → Wd dC dI cI cB cJ cZ ad stC kcC NN A x H → va_S A s.heap H locs → lv_has ls 6 [(0, .ref (ad o)), (1, .int l1), (2, .ref (ad l2)), (3, .int l3), (4, .int l4)] → W p l e R s m args below meth c H locs cells slots Q (F0 m 169 ls []) := by
  intro n
  induction n with
  | zero => intro ad NN cells slots o l1 l2 l3 l4 kb nb x H locs ls hNN hag hRc hRs fo fl2 hw; exact hw.elim
  | succ n ih => intro ad NN cells slots o l1 l2 l3 l4 kb nb x H locs ls hNN hag hRc hRs fo fl2 hw hW hS hl; exact t_Wrt_putTexts_169 hx hb hml hown hT hK hN hA hRf hRl hE hret  ih ad NN cells slots o l1 l2 l3 l4 kb nb x H locs ls hNN hag hRc hRs fo fl2 hw hW hS hl
set_option maxRecDepth 100000 in
set_option maxHeartbeats 4000000 in
set_option maxRecDepth 100000 in
theorem t_Wrt_putTexts_127 {p : Program} {l : Launch} {e : Env} {R : Room} {s : State} {m : MethodId} {args : Array Value} {below : List Frame} {meth : Method} {c : Code} {Q : State → Prop} {dC : Nat → ClassId} {dI : Nat → Nat → Nat} {cI cB cJ cZ : ClassId} {A : Nat → Prop} {E : Heap} {tM tC : Nat} {kK kV : Nat → Nat} {ad0 : Nat → Nat} {NN0 : Nat} {post : St → Prop} {rec90 : Nat → Int32 → Nat → Int32 → Nat → Nat → St → Prop} (hx : p.tables.exec = Jvm.exec) (hb : c.code = b_Wrt_putTexts) (hml : c.maxLocals = 6) (hown : s.vm.findClass R_Wrt = some m.cls) (hT : ∀ w ∈ TG, w.before args s = true) (hK : va_K (dC, dI) CL (TY cI cB cJ cZ) s) (hN : NW s) (hA : ∀ q : Nat, s.heap.size ≤ q → A q) (hRf : 6 ≤ R.frames) (hRl : 300 ≤ R.locals) (hE : CE E tM tC kK kV A s) (hret : ∀ (ad : Nat → Nat) (NN cells slots : Nat) (x : St) (H : Heap) (locs : List Loc) (pc : Nat) (ls : Array Slot), decode b_Wrt_putTexts pc = .ok (.return_, 1) → (NN0 ≤ NN ∧ ∀ o : Nat, o < NN0 → ad o = ad0 o) → cells ≤ R.cells → slots ≤ R.slots → post x → Wd dC dI cI cB cJ cZ ad stC kcC NN A x H → va_S A s.heap H locs → W p l e R s m args below meth c H locs cells slots Q (F0 m pc ls [])) (hrec90 : ∀ (ad : Nat → Nat) (NN cells slots : Nat) (o : Nat) (l1 : Int32) (l2 : Nat) (l3 : Int32) (kb : Nat) (nb : Nat) (x : St) (H : Heap) (locs : List Loc) (ls : Array Slot), (152 ≤ NN) → (NN0 ≤ NN ∧ ∀ o : Nat, o < NN0 → ad o = ad0 o) → (cells + kb ≤ R.cells) → (slots + nb ≤ R.slots) → (o < NN ∧ kcC o = 5) → (l2 < NN ∧ kcC l2 = 21) → rec90 o l1 l2 l3 kb nb x → Wd dC dI cI cB cJ cZ ad stC kcC NN A x H → va_S A s.heap H locs → lv_has ls 6 [(0, .ref (ad o)), (1, .int l1), (2, .ref (ad l2)), (3, .int l3)] → W p l e R s m args below meth c H locs cells slots Q (F0 m 90 ls [])) : ∀ (ad : Nat → Nat) (NN cells slots : Nat) (o : Nat) (l1 : Int32) (l2 : Nat) (l3 : Int32) (s0 : Int64) (s1 : Int64) (s2 : Int32) (s3 : Nat) (kb : Nat) (nb : Nat) (x : St) (H : Heap) (locs : List Loc) (ls : Array Slot), (152 ≤ NN) → (NN0 ≤ NN ∧ ∀ o : Nat, o < NN0 → ad o = ad0 o) → (cells + kb ≤ R.cells) → (slots + nb ≤ R.slots) → (o < NN ∧ kcC o = 5) → (l2 < NN ∧ kcC l2 = 21) → (s3 < NN ∧ kcC s3 = 22) → j_Wrt_putTexts_127 post rec90 o l1 l2 l3 s0 s1 s2 s3 kb nb x → Wd dC dI cI cB cJ cZ ad stC kcC NN A x H → va_S A s.heap H locs → lv_has ls 6 [(0, .ref (ad o)), (1, .int l1), (2, .ref (ad l2)), (3, .int l3)] → W p l e R s m args below meth c H locs cells slots Q (F0 m 127 ls [.long s0, .long s1, .int s2, .ref (ad s3)]) := by
  intro ad NN cells slots o l1 l2 l3 s0 s1 s2 s3 kb nb x H locs ls hNN hag hRc hRs fo fl2 fs3 hw hW hS hl
  unfold j_Wrt_putTexts_127 at hw
  refine lv_lsub hx hb d_Wrt_putTexts_127 ?_
  obtain ⟨hi, hw⟩ := hw
  refine w_last (o := s3) hx hb hK hW hS fs3.1 fs3.2 hi d_Wrt_putTexts_128 (fun H locs hW hS => ?_)
  obtain ⟨x13, ex13⟩ : ∃ y : St, y = setL x s3 s2 (s1 - s0) := ⟨_, rfl⟩
  rw [← ex13] at hW
  have hw := hw x13 ex13
  refine lv_iinc (v := (l3 + 1)) (lv' := [(3, .int (l3 + 1)), (0, .ref (ad o)), (1, .int l1), (2, .ref (ad l2))]) hx hb d_Wrt_putTexts_129 hl (k := 3) rfl rfl (by decide) rfl (fun ls hl => ?_)
  refine lv_goto (tgt := 90) hx hb d_Wrt_putTexts_132 (by decide) ?_
  exact hrec90 ad NN cells slots o l1 l2 (l3 + 1) kb nb x13 H locs ls hNN hag hRc hRs fo fl2 hw hW hS (lv_sub hl [1, 2, 3, 0] rfl)
set_option maxRecDepth 100000 in
set_option maxHeartbeats 4000000 in
set_option maxRecDepth 100000 in
theorem t_Wrt_putTexts_90 {p : Program} {l : Launch} {e : Env} {R : Room} {s : State} {m : MethodId} {args : Array Value} {below : List Frame} {meth : Method} {c : Code} {Q : State → Prop} {dC : Nat → ClassId} {dI : Nat → Nat → Nat} {cI cB cJ cZ : ClassId} {A : Nat → Prop} {E : Heap} {tM tC : Nat} {kK kV : Nat → Nat} {ad0 : Nat → Nat} {NN0 : Nat} {post : St → Prop} {rec90 : Nat → Int32 → Nat → Int32 → Nat → Nat → St → Prop} (hx : p.tables.exec = Jvm.exec) (hb : c.code = b_Wrt_putTexts) (hml : c.maxLocals = 6) (hown : s.vm.findClass R_Wrt = some m.cls) (hT : ∀ w ∈ TG, w.before args s = true) (hK : va_K (dC, dI) CL (TY cI cB cJ cZ) s) (hN : NW s) (hA : ∀ q : Nat, s.heap.size ≤ q → A q) (hRf : 6 ≤ R.frames) (hRl : 300 ≤ R.locals) (hE : CE E tM tC kK kV A s) (hret : ∀ (ad : Nat → Nat) (NN cells slots : Nat) (x : St) (H : Heap) (locs : List Loc) (pc : Nat) (ls : Array Slot), decode b_Wrt_putTexts pc = .ok (.return_, 1) → (NN0 ≤ NN ∧ ∀ o : Nat, o < NN0 → ad o = ad0 o) → cells ≤ R.cells → slots ≤ R.slots → post x → Wd dC dI cI cB cJ cZ ad stC kcC NN A x H → va_S A s.heap H locs → W p l e R s m args below meth c H locs cells slots Q (F0 m pc ls [])) (hrec90 : ∀ (ad : Nat → Nat) (NN cells slots : Nat) (o : Nat) (l1 : Int32) (l2 : Nat) (l3 : Int32) (kb : Nat) (nb : Nat) (x : St) (H : Heap) (locs : List Loc) (ls : Array Slot), (152 ≤ NN) → (NN0 ≤ NN ∧ ∀ o : Nat, o < NN0 → ad o = ad0 o) → (cells + kb ≤ R.cells) → (slots + nb ≤ R.slots) → (o < NN ∧ kcC o = 5) → (l2 < NN ∧ kcC l2 = 21) → rec90 o l1 l2 l3 kb nb x → Wd dC dI cI cB cJ cZ ad stC kcC NN A x H → va_S A s.heap H locs → lv_has ls 6 [(0, .ref (ad o)), (1, .int l1), (2, .ref (ad l2)), (3, .int l3)] → W p l e R s m args below meth c H locs cells slots Q (F0 m 90 ls [])) : ∀ (ad : Nat → Nat) (NN cells slots : Nat) (o : Nat) (l1 : Int32) (l2 : Nat) (l3 : Int32) (kb : Nat) (nb : Nat) (x : St) (H : Heap) (locs : List Loc) (ls : Array Slot), (152 ≤ NN) → (NN0 ≤ NN ∧ ∀ o : Nat, o < NN0 → ad o = ad0 o) → (cells + kb ≤ R.cells) → (slots + nb ≤ R.slots) → (o < NN ∧ kcC o = 5) → (l2 < NN ∧ kcC l2 = 21) → j_Wrt_putTexts_90 post rec90 o l1 l2 l3 kb nb x → Wd dC dI cI cB cJ cZ ad stC kcC NN A x H → va_S A s.heap H locs → lv_has ls 6 [(0, .ref (ad o)), (1, .int l1), (2, .ref (ad l2)), (3, .int l3)] → W p l e R s m args below meth c H locs cells slots Q (F0 m 90 ls []) := by
  intro ad NN cells slots o l1 l2 l3 kb nb x H locs ls hNN hag hRc hRs fo fl2 hw hW hS hl
  unfold j_Wrt_putTexts_90 at hw
  refine lv_iload_n hx hb d_Wrt_putTexts_90 rfl (lv_at hl 3 rfl) ?_
  refine lv_aload_n hx hb d_Wrt_putTexts_91 rfl (lv_at hl 0 rfl) ?_
  refine w_geti (k := 12) (t := 5) (C := R_Wrt) (T := F_Wrt) (N := 20) hx hb hT hown hK hW fo.1 fo.2 (by decide) in_Wrt rfl rfl (by decide) rfl fr_Wrt_12 w_2_63 d_Wrt_putTexts_92 ?_
  refine lv_icmp_ge (tgt := 135) hx hb d_Wrt_putTexts_95 (by decide) (fun c14 => ?_) (fun c14 => ?_)
  · have hw := hw.1 c14
    refine lv_aload_n hx hb d_Wrt_putTexts_135 rfl (lv_at hl 0 rfl) ?_
    obtain ⟨q15, hq15, hw⟩ := hw
    refine w_getr (q := q15) (k := 4) (t := 5) (C := R_Wrt) (T := F_Wrt) (N := 20) hx hb hT hown hK hW fo.1 fo.2 (by decide) in_Wrt rfl rfl (by decide) rfl fr_Wrt_4 w_2_55 d_Wrt_putTexts_136 hq15 (fun aq15 bq15 => ?_)
    have fq15 : q15 < NN ∧ kcC q15 = 1 := ⟨aq15, bq15⟩
    refine w_geti (k := 1) (t := 1) (C := R_Snk) (T := F_Snk) (N := 7) hx hb hT hown hK hW fq15.1 fq15.2 (by decide) in_Snk rfl rfl (by decide) rfl fr_Snk_1 w_1_46 d_Wrt_putTexts_139 ?_
    refine lv_topi (fun v16 ev16 => ?_)
    have hw := hw v16 ev16
    refine lv_istore_n (lv' := [(3, .int v16), (0, .ref (ad o)), (1, .int l1), (2, .ref (ad l2))]) hx hb d_Wrt_putTexts_142 rfl hl (by decide) rfl (fun ls hl => ?_)
    refine lv_aload_n hx hb d_Wrt_putTexts_143 rfl (lv_at hl 1 rfl) ?_
    obtain ⟨q17, hq17, hw⟩ := hw
    refine w_getr (q := q17) (k := 4) (t := 5) (C := R_Wrt) (T := F_Wrt) (N := 20) hx hb hT hown hK hW fo.1 fo.2 (by decide) in_Wrt rfl rfl (by decide) rfl fr_Wrt_4 w_2_55 d_Wrt_putTexts_144 hq17 (fun aq17 bq17 => ?_)
    have fq17 : q17 < NN ∧ kcC q17 = 1 := ⟨aq17, bq17⟩
    refine lv_aload_n hx hb d_Wrt_putTexts_147 rfl (lv_at hl 1 rfl) ?_
    refine w_getf (q := (stC o 16)) (k := 16) (t := 5) (C := R_Wrt) (T := F_Wrt) (N := 20) hx hb hT hown hK hW fo.1 fo.2 (by decide) in_Wrt rfl rfl (by decide) rfl fr_Wrt_16 w_2_67 d_Wrt_putTexts_148 rfl ?_
    refine lv_aload_n hx hb d_Wrt_putTexts_151 rfl (lv_at hl 1 rfl) ?_
    refine w_geti (k := 12) (t := 5) (C := R_Wrt) (T := F_Wrt) (N := 20) hx hb hT hown hK hW fo.1 fo.2 (by decide) in_Wrt rfl rfl (by decide) rfl fr_Wrt_12 w_2_63 d_Wrt_putTexts_152 ?_
    obtain ⟨k18, n19, k20, n21, ek18, en19, hw⟩ := hw
    have hF := hW.free hS hA
    refine va_callv (va_runV (C := R_Snk) (As := [.ref (ad (stC o 16)), .int (fI x o 12)]) (rest := []) ⟨hx, hb, hml, hown, hT⟩ (k_Snk_putCode l dC dI cI cB cJ cZ ad NN E tM tC kK kV hNN H.size q17 (stC o 16) (fI x o 12) k18 n19 x fq17 (st_ty hNN fo.1 fo.2 rfl) hw) ⟨callB_of 2 hT (gwt_in w_6_5) rfl rfl rfl (hT _ w_1_2) (hT _ w_6_2) (by decide +kernel) ⟨Nat.le_trans (Nat.le_of_ble_eq_true rfl) hRf, Nat.le_trans (Nat.le_of_ble_eq_true rfl) hRl⟩, hT _ w_6_3, hT _ w_6_4⟩ ⟨PVc.blind, va_recv hK hW.1 (ci := 1) (q0 := q17) rfl (pic_obj fq17.1 fq17.2 (by decide)), PVc.at _ hW hK hN hE hS hF⟩ rfl rfl hl.1 rfl (lv_room (Nat.le_of_ble_eq_true rfl)) d_Wrt_putTexts_155 ⟨show cells + k18 ≤ R.cells by omega, show slots + n19 ≤ R.slots by omega⟩) hS (fun q _ h => hF q h) hF (fun  x22 t H locs ht hvm hw hB hz1 hk1 hS => ?_)
    obtain ⟨x22, ad, NN⟩ := x22
    obtain ⟨hB, hle, hg⟩ := hB
    try dsimp only at hw hB hle hg
    have hW := Wd.back hB ht hF
    rw [← hg o fo.1] at hl
    rw [← hg l2 fl2.1] at hl
    have fl2 : l2 < NN ∧ kcC l2 = 21 := ⟨Nat.lt_of_lt_of_le fl2.1 hle, fl2.2⟩
    have fo : o < NN ∧ kcC o = 5 := ⟨Nat.lt_of_lt_of_le fo.1 hle, fo.2⟩
    have fq15 : q15 < NN ∧ kcC q15 = 1 := ⟨Nat.lt_of_lt_of_le fq15.1 hle, fq15.2⟩
    have fq17 : q17 < NN ∧ kcC q17 = 1 := ⟨Nat.lt_of_lt_of_le fq17.1 hle, fq17.2⟩
    have hag : NN0 ≤ NN ∧ ∀ o : Nat, o < NN0 → ad o = ad0 o := ⟨Nat.le_trans hag.1 hle, fun o h => (hg o (Nat.lt_of_lt_of_le h hag.1)).trans (hag.2 o h)⟩
    have hNN : 152 ≤ NN := Nat.le_trans hNN hle
    clear hg hle
    obtain ⟨cells, ec⟩ : ∃ z, z = cells + k18 := ⟨_, rfl⟩
    obtain ⟨slots, es⟩ : ∃ z, z = slots + n19 := ⟨_, rfl⟩
    first | rw [← ec, ← es] | rw [Nat.add_zero, Nat.add_zero, ← ec, ← es]
    have hRc : cells + k20 ≤ R.cells := by omega
    have hRs : slots + n21 ≤ R.slots := by omega
    clear ec es hB ht hF hz1 hk1 hvm ek18 en19
    refine lv_aload_n hx hb d_Wrt_putTexts_158 rfl (lv_at hl 1 rfl) ?_
    obtain ⟨q23, hq23, hw⟩ := hw
    refine w_getr (q := q23) (k := 4) (t := 5) (C := R_Wrt) (T := F_Wrt) (N := 20) hx hb hT hown hK hW fo.1 fo.2 (by decide) in_Wrt rfl rfl (by decide) rfl fr_Wrt_4 w_2_55 d_Wrt_putTexts_159 hq23 (fun aq23 bq23 => ?_)
    have fq23 : q23 < NN ∧ kcC q23 = 1 := ⟨aq23, bq23⟩
    refine lv_iload_n hx hb d_Wrt_putTexts_162 rfl (lv_at hl 0 rfl) ?_
    obtain ⟨k24, n25, k26, n27, ek24, en25, hw⟩ := hw
    have hF := hW.free hS hA
    refine va_callv (va_runV (C := R_Snk) (As := [.int v16]) (rest := []) ⟨hx, hb, hml, hown, hT⟩ (k_Snk_tellSizeFrom l dC dI cI cB cJ cZ ad NN E tM tC kK kV hNN H.size q23 v16 k24 n25 x22 fq23 hw) ⟨callB_of 1 hT (gwt_in w_6_18) rfl rfl rfl (hT _ w_1_2) (hT _ w_6_15) (by decide +kernel) ⟨Nat.le_trans (Nat.le_of_ble_eq_true rfl) hRf, Nat.le_trans (Nat.le_of_ble_eq_true rfl) hRl⟩, hT _ w_6_16, hT _ w_6_17⟩ ⟨PVc.blind, va_recv hK hW.1 (ci := 1) (q0 := q23) rfl (pic_obj fq23.1 fq23.2 (by decide)), PVc.at _ hW hK hN hE hS hF⟩ rfl rfl hl.1 rfl (lv_room (Nat.le_of_ble_eq_true rfl)) d_Wrt_putTexts_163 ⟨show cells + k24 ≤ R.cells by omega, show slots + n25 ≤ R.slots by omega⟩) hS (fun q _ h => hF q h) hF (fun  x28 t H locs ht hvm hw hB hz1 hk1 hS => ?_)
    obtain ⟨x28, ad, NN⟩ := x28
    obtain ⟨hB, hle, hg⟩ := hB
    try dsimp only at hw hB hle hg
    have hW := Wd.back hB ht hF
    rw [← hg o fo.1] at hl
    rw [← hg l2 fl2.1] at hl
    have fl2 : l2 < NN ∧ kcC l2 = 21 := ⟨Nat.lt_of_lt_of_le fl2.1 hle, fl2.2⟩
    have fo : o < NN ∧ kcC o = 5 := ⟨Nat.lt_of_lt_of_le fo.1 hle, fo.2⟩
    have fq15 : q15 < NN ∧ kcC q15 = 1 := ⟨Nat.lt_of_lt_of_le fq15.1 hle, fq15.2⟩
    have fq17 : q17 < NN ∧ kcC q17 = 1 := ⟨Nat.lt_of_lt_of_le fq17.1 hle, fq17.2⟩
    have fq23 : q23 < NN ∧ kcC q23 = 1 := ⟨Nat.lt_of_lt_of_le fq23.1 hle, fq23.2⟩
    have hag : NN0 ≤ NN ∧ ∀ o : Nat, o < NN0 → ad o = ad0 o := ⟨Nat.le_trans hag.1 hle, fun o h => (hg o (Nat.lt_of_lt_of_le h hag.1)).trans (hag.2 o h)⟩
    have hNN : 152 ≤ NN := Nat.le_trans hNN hle
    clear hg hle
    obtain ⟨cells, ec⟩ : ∃ z, z = cells + k24 := ⟨_, rfl⟩
    obtain ⟨slots, es⟩ : ∃ z, z = slots + n25 := ⟨_, rfl⟩
    first | rw [← ec, ← es] | rw [Nat.add_zero, Nat.add_zero, ← ec, ← es]
    have hRc : cells + k26 ≤ R.cells := by omega
    have hRs : slots + n27 ≤ R.slots := by omega
    clear ec es hB ht hF hz1 hk1 hvm ek24 en25
    refine lv_iconst (v := 0) hx hb d_Wrt_putTexts_166 (by decide) ?_
    refine lv_istore (lv' := [(4, .int 0), (3, .int v16), (0, .ref (ad o)), (1, .int l1), (2, .ref (ad l2))]) hx hb d_Wrt_putTexts_167 hl (by decide) rfl (fun ls hl => ?_)
    obtain ⟨n, hw⟩ := hw
    exact tl_Wrt_putTexts_169 hx hb hml hown hT hK hN hA hRf hRl hE hret  n ad NN cells slots o l1 l2 v16 0 k26 n27 x28 H locs ls hNN hag hRc hRs fo fl2 hw hW hS (lv_sub hl [2, 3, 4, 1, 0] rfl)
  · have hw := hw.2 c14
    refine lv_aload_n hx hb d_Wrt_putTexts_98 rfl (lv_at hl 0 rfl) ?_
    refine w_getf (q := (stC o 16)) (k := 16) (t := 5) (C := R_Wrt) (T := F_Wrt) (N := 20) hx hb hT hown hK hW fo.1 fo.2 (by decide) in_Wrt rfl rfl (by decide) rfl fr_Wrt_16 w_2_67 d_Wrt_putTexts_99 rfl ?_
    refine lv_iload_n hx hb d_Wrt_putTexts_102 rfl (lv_at hl 3 rfl) ?_
    refine lv_aload_n hx hb d_Wrt_putTexts_103 rfl (lv_at hl 0 rfl) ?_
    refine w_getf (q := (stC o 10)) (k := 10) (t := 5) (C := R_Wrt) (T := F_Wrt) (N := 20) hx hb hT hown hK hW fo.1 fo.2 (by decide) in_Wrt rfl rfl (by decide) rfl fr_Wrt_10 w_2_61 d_Wrt_putTexts_104 rfl ?_
    refine lv_iload_n hx hb d_Wrt_putTexts_107 rfl (lv_at hl 3 rfl) ?_
    obtain ⟨hi, hw⟩ := hw
    refine w_lald (o := (stC o 10)) hx hb hK hW (st_ty hNN fo.1 fo.2 rfl).1 (st_ty hNN fo.1 fo.2 rfl).2 hi d_Wrt_putTexts_108 ?_
    have hF := hW.free hS hA
    refine va_calli (va_runSN (As := [.long (rL x (stC o 10) l3)]) (rest := [.int l3, .ref (ad (stC o 16))]) ⟨hx, hb, hml, hown, hT⟩ (k_V_sizeOf l dC dI cI cB cJ cZ ad NN E tM tC kK kV hNN H.size (rL x (stC o 10) l3) x  hw) ⟨va_cnB 1 hT (gwt_in w_5_161) rfl rfl rfl (hN _ wn_5_159 rfl) (hT _ w_1_1) (by decide +kernel) ⟨Nat.le_trans (Nat.le_of_ble_eq_true rfl) hRf, Nat.le_trans (Nat.le_of_ble_eq_true rfl) hRl⟩, hT _ w_5_160, trivial⟩ ⟨PVc.blind, PVc.at _ hW hK hN hE hS hF⟩ rfl rfl hl.1 rfl (lv_room (Nat.le_of_ble_eq_true rfl)) d_Wrt_putTexts_109 ⟨(Nat.le_trans (Nat.le_add_right _ _) hRc), (Nat.le_trans (Nat.le_add_right _ _) hRs)⟩) hS (fun q _ h => hF q h) hF (fun r30 x29 t H locs ht hvm hw hB hz1 hk1 hS => ?_)
    have hW := Wd.back hB ht hF
    clear hB ht hF hz1 hk1 hvm
    refine lv_i2l hx hb d_Wrt_putTexts_112 rfl ?_
    refine lv_iload_n hx hb d_Wrt_putTexts_113 rfl (lv_at hl 1 rfl) ?_
    refine lv_if_eq (tgt := 126) hx hb d_Wrt_putTexts_114 (by decide) (fun c31 => ?_) (fun c31 => ?_)
    · have hw := hw.1 c31
      refine lv_lconst (v := 0) hx hb d_Wrt_putTexts_126 (by decide) ?_
      exact t_Wrt_putTexts_127 hx hb hml hown hT hK hN hA hRf hRl hE hret hrec90 ad NN cells slots o l1 l2 l3 0 (r30 : Int32).toInt64 l3 (stC o 16) kb nb x29 H locs ls hNN hag hRc hRs fo fl2 (st_ty hNN fo.1 fo.2 rfl) hw hW hS (lv_sub hl [0, 1, 2, 3] rfl)
    · have hw := hw.2 c31
      refine lv_aload_n hx hb d_Wrt_putTexts_117 rfl (lv_at hl 0 rfl) ?_
      refine w_getf (q := (stC o 16)) (k := 16) (t := 5) (C := R_Wrt) (T := F_Wrt) (N := 20) hx hb hT hown hK hW fo.1 fo.2 (by decide) in_Wrt rfl rfl (by decide) rfl fr_Wrt_16 w_2_67 d_Wrt_putTexts_118 rfl ?_
      refine lv_iload_n hx hb d_Wrt_putTexts_121 rfl (lv_at hl 3 rfl) ?_
      obtain ⟨hi, hw⟩ := hw
      refine w_lald (o := (stC o 16)) hx hb hK hW (st_ty hNN fo.1 fo.2 rfl).1 (st_ty hNN fo.1 fo.2 rfl).2 hi d_Wrt_putTexts_122 ?_
      refine lv_goto (tgt := 127) hx hb d_Wrt_putTexts_123 (by decide) ?_
      exact t_Wrt_putTexts_127 hx hb hml hown hT hK hN hA hRf hRl hE hret hrec90 ad NN cells slots o l1 l2 l3 (rL x29 (stC o 16) l3) (r30 : Int32).toInt64 l3 (stC o 16) kb nb x29 H locs ls hNN hag hRc hRs fo fl2 (st_ty hNN fo.1 fo.2 rfl) hw hW hS (lv_sub hl [0, 1, 2, 3] rfl)
set_option maxHeartbeats 4000000 in
set_option maxRecDepth 100000 in
theorem tl_Wrt_putTexts_90 {p : Program} {l : Launch} {e : Env} {R : Room} {s : State} {m : MethodId} {args : Array Value} {below : List Frame} {meth : Method} {c : Code} {Q : State → Prop} {dC : Nat → ClassId} {dI : Nat → Nat → Nat} {cI cB cJ cZ : ClassId} {A : Nat → Prop} {E : Heap} {tM tC : Nat} {kK kV : Nat → Nat} {ad0 : Nat → Nat} {NN0 : Nat} {post : St → Prop} (hx : p.tables.exec = Jvm.exec) (hb : c.code = b_Wrt_putTexts) (hml : c.maxLocals = 6) (hown : s.vm.findClass R_Wrt = some m.cls) (hT : ∀ w ∈ TG, w.before args s = true) (hK : va_K (dC, dI) CL (TY cI cB cJ cZ) s) (hN : NW s) (hA : ∀ q : Nat, s.heap.size ≤ q → A q) (hRf : 6 ≤ R.frames) (hRl : 300 ≤ R.locals) (hE : CE E tM tC kK kV A s) (hret : ∀ (ad : Nat → Nat) (NN cells slots : Nat) (x : St) (H : Heap) (locs : List Loc) (pc : Nat) (ls : Array Slot), decode b_Wrt_putTexts pc = .ok (.return_, 1) → (NN0 ≤ NN ∧ ∀ o : Nat, o < NN0 → ad o = ad0 o) → cells ≤ R.cells → slots ≤ R.slots → post x → Wd dC dI cI cB cJ cZ ad stC kcC NN A x H → va_S A s.heap H locs → W p l e R s m args below meth c H locs cells slots Q (F0 m pc ls []))  : ∀ n : Nat, ∀ (ad : Nat → Nat) (NN cells slots : Nat) (o : Nat) (l1 : Int32) (l2 : Nat) (l3 : Int32) (kb : Nat) (nb : Nat) (x : St) (H : Heap) (locs : List Loc) (ls : Array Slot), (152 ≤ NN) → (NN0 ≤ NN ∧ ∀ o : Nat, o < NN0 → ad o = ad0 o) → (cells + kb ≤ R.cells) → (slots + nb ≤ R.slots) → (o < NN ∧ kcC o = 5) → (l2 < NN ∧ kcC l2 = 21) → wl_Wrt_putTexts_90 post n o l1 l2 l3 kb nb x → Wd dC dI cI cB cJ cZ ad stC kcC NN A x H → va_S A s.heap H locs → lv_has ls 6 [(0, .ref (ad o)), (1, .int l1), (2, .ref (ad l2)), (3, .int l3)] → W p l e R s m args below meth c H locs cells slots Q (F0 m 90 ls []) := by
  intro n
  induction n with
  | zero => intro ad NN cells slots o l1 l2 l3 kb nb x H locs ls hNN hag hRc hRs fo fl2 hw; exact hw.elim
  | succ n ih => intro ad NN cells slots o l1 l2 l3 kb nb x H locs ls hNN hag hRc hRs fo fl2 hw hW hS hl; exact t_Wrt_putTexts_90 hx hb hml hown hT hK hN hA hRf hRl hE hret  ih ad NN cells slots o l1 l2 l3 kb nb x H locs ls hNN hag hRc hRs fo fl2 hw hW hS hl
set_option maxRecDepth 100000 in
set_option maxHeartbeats 4000000 in
set_option maxRecDepth 100000 in
theorem t_Wrt_putTexts_88 {p : Program} {l : Launch} {e : Env} {R : Room} {s : State} {m : MethodId} {args : Array Value} {below : List Frame} {meth : Method} {c : Code} {Q : State → Prop} {dC : Nat → ClassId} {dI : Nat → Nat → Nat} {cI cB cJ cZ : ClassId} {A : Nat → Prop} {E : Heap} {tM tC : Nat} {kK kV : Nat → Nat} {ad0 : Nat → Nat} {NN0 : Nat} {post : St → Prop} (hx : p.tables.exec = Jvm.exec) (hb : c.code = b_Wrt_putTexts) (hml : c.maxLocals = 6) (hown : s.vm.findClass R_Wrt = some m.cls) (hT : ∀ w ∈ TG, w.before args s = true) (hK : va_K (dC, dI) CL (TY cI cB cJ cZ) s) (hN : NW s) (hA : ∀ q : Nat, s.heap.size ≤ q → A q) (hRf : 6 ≤ R.frames) (hRl : 300 ≤ R.locals) (hE : CE E tM tC kK kV A s) (hret : ∀ (ad : Nat → Nat) (NN cells slots : Nat) (x : St) (H : Heap) (locs : List Loc) (pc : Nat) (ls : Array Slot), decode b_Wrt_putTexts pc = .ok (.return_, 1) → (NN0 ≤ NN ∧ ∀ o : Nat, o < NN0 → ad o = ad0 o) → cells ≤ R.cells → slots ≤ R.slots → post x → Wd dC dI cI cB cJ cZ ad stC kcC NN A x H → va_S A s.heap H locs → W p l e R s m args below meth c H locs cells slots Q (F0 m pc ls []))  : ∀ (ad : Nat → Nat) (NN cells slots : Nat) (o : Nat) (l1 : Int32) (l2 : Nat) (l3 : Int32) (kb : Nat) (nb : Nat) (x : St) (H : Heap) (locs : List Loc) (ls : Array Slot), (152 ≤ NN) → (NN0 ≤ NN ∧ ∀ o : Nat, o < NN0 → ad o = ad0 o) → (cells + kb ≤ R.cells) → (slots + nb ≤ R.slots) → (o < NN ∧ kcC o = 5) → (l2 < NN ∧ kcC l2 = 21) → j_Wrt_putTexts_88 post o l1 l2 l3 kb nb x → Wd dC dI cI cB cJ cZ ad stC kcC NN A x H → va_S A s.heap H locs → lv_has ls 6 [(0, .ref (ad o)), (1, .int l1), (2, .ref (ad l2)), (3, .int l3)] → W p l e R s m args below meth c H locs cells slots Q (F0 m 88 ls []) := by
  intro ad NN cells slots o l1 l2 l3 kb nb x H locs ls hNN hag hRc hRs fo fl2 hw hW hS hl
  unfold j_Wrt_putTexts_88 at hw
  refine lv_iconst (v := 0) hx hb d_Wrt_putTexts_88 (by decide) ?_
  refine lv_istore_n (lv' := [(3, .int 0), (0, .ref (ad o)), (1, .int l1), (2, .ref (ad l2))]) hx hb d_Wrt_putTexts_89 rfl hl (by decide) rfl (fun ls hl => ?_)
  obtain ⟨n, hw⟩ := hw
  exact tl_Wrt_putTexts_90 hx hb hml hown hT hK hN hA hRf hRl hE hret  n ad NN cells slots o l1 l2 0 kb nb x H locs ls hNN hag hRc hRs fo fl2 hw hW hS (lv_sub hl [1, 2, 3, 0] rfl)
set_option maxRecDepth 100000 in
set_option maxHeartbeats 4000000 in
set_option maxRecDepth 100000 in
theorem t_Wrt_putTexts_61 {p : Program} {l : Launch} {e : Env} {R : Room} {s : State} {m : MethodId} {args : Array Value} {below : List Frame} {meth : Method} {c : Code} {Q : State → Prop} {dC : Nat → ClassId} {dI : Nat → Nat → Nat} {cI cB cJ cZ : ClassId} {A : Nat → Prop} {E : Heap} {tM tC : Nat} {kK kV : Nat → Nat} {ad0 : Nat → Nat} {NN0 : Nat} {post : St → Prop} (hx : p.tables.exec = Jvm.exec) (hb : c.code = b_Wrt_putTexts) (hml : c.maxLocals = 6) (hown : s.vm.findClass R_Wrt = some m.cls) (hT : ∀ w ∈ TG, w.before args s = true) (hK : va_K (dC, dI) CL (TY cI cB cJ cZ) s) (hN : NW s) (hA : ∀ q : Nat, s.heap.size ≤ q → A q) (hRf : 6 ≤ R.frames) (hRl : 300 ≤ R.locals) (hE : CE E tM tC kK kV A s) (hret : ∀ (ad : Nat → Nat) (NN cells slots : Nat) (x : St) (H : Heap) (locs : List Loc) (pc : Nat) (ls : Array Slot), decode b_Wrt_putTexts pc = .ok (.return_, 1) → (NN0 ≤ NN ∧ ∀ o : Nat, o < NN0 → ad o = ad0 o) → cells ≤ R.cells → slots ≤ R.slots → post x → Wd dC dI cI cB cJ cZ ad stC kcC NN A x H → va_S A s.heap H locs → W p l e R s m args below meth c H locs cells slots Q (F0 m pc ls []))  : ∀ (ad : Nat → Nat) (NN cells slots : Nat) (o : Nat) (l1 : Int32) (l2 : Nat) (l3 : Int32) (kb : Nat) (nb : Nat) (x : St) (H : Heap) (locs : List Loc) (ls : Array Slot), (152 ≤ NN) → (NN0 ≤ NN ∧ ∀ o : Nat, o < NN0 → ad o = ad0 o) → (cells + kb ≤ R.cells) → (slots + nb ≤ R.slots) → (o < NN ∧ kcC o = 5) → (l2 < NN ∧ kcC l2 = 21) → j_Wrt_putTexts_61 post o l1 l2 l3 kb nb x → Wd dC dI cI cB cJ cZ ad stC kcC NN A x H → va_S A s.heap H locs → lv_has ls 6 [(0, .ref (ad o)), (1, .int l1), (2, .ref (ad l2)), (3, .int l3)] → W p l e R s m args below meth c H locs cells slots Q (F0 m 61 ls []) := by
  intro ad NN cells slots o l1 l2 l3 kb nb x H locs ls hNN hag hRc hRs fo fl2 hw hW hS hl
  unfold j_Wrt_putTexts_61 at hw
  refine lv_iload_n hx hb d_Wrt_putTexts_61 rfl (lv_at hl 1 rfl) ?_
  refine lv_if_eq (tgt := 88) hx hb d_Wrt_putTexts_62 (by decide) (fun c32 => ?_) (fun c32 => ?_)
  · have hw := hw.1 c32
    exact t_Wrt_putTexts_88 hx hb hml hown hT hK hN hA hRf hRl hE hret  ad NN cells slots o l1 l2 l3 kb nb x H locs ls hNN hag hRc hRs fo fl2 hw hW hS (lv_sub hl [0, 1, 2, 3] rfl)
  · have hw := hw.2 c32
    refine lv_aload_n hx hb d_Wrt_putTexts_65 rfl (lv_at hl 0 rfl) ?_
    obtain ⟨q33, hq33, hw⟩ := hw
    refine w_getr (q := q33) (k := 4) (t := 5) (C := R_Wrt) (T := F_Wrt) (N := 20) hx hb hT hown hK hW fo.1 fo.2 (by decide) in_Wrt rfl rfl (by decide) rfl fr_Wrt_4 w_2_55 d_Wrt_putTexts_66 hq33 (fun aq33 bq33 => ?_)
    have fq33 : q33 < NN ∧ kcC q33 = 1 := ⟨aq33, bq33⟩
    refine lv_aload_n hx hb d_Wrt_putTexts_69 rfl (lv_at hl 0 rfl) ?_
    refine w_getf (q := (stC o 16)) (k := 16) (t := 5) (C := R_Wrt) (T := F_Wrt) (N := 20) hx hb hT hown hK hW fo.1 fo.2 (by decide) in_Wrt rfl rfl (by decide) rfl fr_Wrt_16 w_2_67 d_Wrt_putTexts_70 rfl ?_
    refine lv_aload_n hx hb d_Wrt_putTexts_73 rfl (lv_at hl 0 rfl) ?_
    refine w_geti (k := 12) (t := 5) (C := R_Wrt) (T := F_Wrt) (N := 20) hx hb hT hown hK hW fo.1 fo.2 (by decide) in_Wrt rfl rfl (by decide) rfl fr_Wrt_12 w_2_63 d_Wrt_putTexts_74 ?_
    obtain ⟨k34, n35, k36, n37, ek34, en35, hw⟩ := hw
    have hF := hW.free hS hA
    refine va_callv (va_runV (C := R_Snk) (As := [.ref (ad (stC o 16)), .int (fI x o 12)]) (rest := []) ⟨hx, hb, hml, hown, hT⟩ (k_Snk_putCode l dC dI cI cB cJ cZ ad NN E tM tC kK kV hNN H.size q33 (stC o 16) (fI x o 12) k34 n35 x fq33 (st_ty hNN fo.1 fo.2 rfl) hw) ⟨callB_of 2 hT (gwt_in w_6_5) rfl rfl rfl (hT _ w_1_2) (hT _ w_6_2) (by decide +kernel) ⟨Nat.le_trans (Nat.le_of_ble_eq_true rfl) hRf, Nat.le_trans (Nat.le_of_ble_eq_true rfl) hRl⟩, hT _ w_6_3, hT _ w_6_4⟩ ⟨PVc.blind, va_recv hK hW.1 (ci := 1) (q0 := q33) rfl (pic_obj fq33.1 fq33.2 (by decide)), PVc.at _ hW hK hN hE hS hF⟩ rfl rfl hl.1 rfl (lv_room (Nat.le_of_ble_eq_true rfl)) d_Wrt_putTexts_77 ⟨show cells + k34 ≤ R.cells by omega, show slots + n35 ≤ R.slots by omega⟩) hS (fun q _ h => hF q h) hF (fun  x38 t H locs ht hvm hw hB hz1 hk1 hS => ?_)
    obtain ⟨x38, ad, NN⟩ := x38
    obtain ⟨hB, hle, hg⟩ := hB
    try dsimp only at hw hB hle hg
    have hW := Wd.back hB ht hF
    rw [← hg o fo.1] at hl
    rw [← hg l2 fl2.1] at hl
    have fl2 : l2 < NN ∧ kcC l2 = 21 := ⟨Nat.lt_of_lt_of_le fl2.1 hle, fl2.2⟩
    have fo : o < NN ∧ kcC o = 5 := ⟨Nat.lt_of_lt_of_le fo.1 hle, fo.2⟩
    have fq33 : q33 < NN ∧ kcC q33 = 1 := ⟨Nat.lt_of_lt_of_le fq33.1 hle, fq33.2⟩
    have hag : NN0 ≤ NN ∧ ∀ o : Nat, o < NN0 → ad o = ad0 o := ⟨Nat.le_trans hag.1 hle, fun o h => (hg o (Nat.lt_of_lt_of_le h hag.1)).trans (hag.2 o h)⟩
    have hNN : 152 ≤ NN := Nat.le_trans hNN hle
    clear hg hle
    obtain ⟨cells, ec⟩ : ∃ z, z = cells + k34 := ⟨_, rfl⟩
    obtain ⟨slots, es⟩ : ∃ z, z = slots + n35 := ⟨_, rfl⟩
    first | rw [← ec, ← es] | rw [Nat.add_zero, Nat.add_zero, ← ec, ← es]
    have hRc : cells + k36 ≤ R.cells := by omega
    have hRs : slots + n37 ≤ R.slots := by omega
    clear ec es hB ht hF hz1 hk1 hvm ek34 en35
    refine lv_aload_n hx hb d_Wrt_putTexts_80 rfl (lv_at hl 0 rfl) ?_
    obtain ⟨q39, hq39, hw⟩ := hw
    refine w_getr (q := q39) (k := 4) (t := 5) (C := R_Wrt) (T := F_Wrt) (N := 20) hx hb hT hown hK hW fo.1 fo.2 (by decide) in_Wrt rfl rfl (by decide) rfl fr_Wrt_4 w_2_55 d_Wrt_putTexts_81 hq39 (fun aq39 bq39 => ?_)
    have fq39 : q39 < NN ∧ kcC q39 = 1 := ⟨aq39, bq39⟩
    refine lv_iconst (v := 0) hx hb d_Wrt_putTexts_84 (by decide) ?_
    obtain ⟨k40, n41, k42, n43, ek40, en41, hw⟩ := hw
    have hF := hW.free hS hA
    refine va_callv (va_runV (C := R_Snk) (As := [.int 0]) (rest := []) ⟨hx, hb, hml, hown, hT⟩ (k_Snk_tellSizeFrom l dC dI cI cB cJ cZ ad NN E tM tC kK kV hNN H.size q39 0 k40 n41 x38 fq39 hw) ⟨callB_of 1 hT (gwt_in w_6_18) rfl rfl rfl (hT _ w_1_2) (hT _ w_6_15) (by decide +kernel) ⟨Nat.le_trans (Nat.le_of_ble_eq_true rfl) hRf, Nat.le_trans (Nat.le_of_ble_eq_true rfl) hRl⟩, hT _ w_6_16, hT _ w_6_17⟩ ⟨PVc.blind, va_recv hK hW.1 (ci := 1) (q0 := q39) rfl (pic_obj fq39.1 fq39.2 (by decide)), PVc.at _ hW hK hN hE hS hF⟩ rfl rfl hl.1 rfl (lv_room (Nat.le_of_ble_eq_true rfl)) d_Wrt_putTexts_85 ⟨show cells + k40 ≤ R.cells by omega, show slots + n41 ≤ R.slots by omega⟩) hS (fun q _ h => hF q h) hF (fun  x44 t H locs ht hvm hw hB hz1 hk1 hS => ?_)
    obtain ⟨x44, ad, NN⟩ := x44
    obtain ⟨hB, hle, hg⟩ := hB
    try dsimp only at hw hB hle hg
    have hW := Wd.back hB ht hF
    rw [← hg o fo.1] at hl
    rw [← hg l2 fl2.1] at hl
    have fl2 : l2 < NN ∧ kcC l2 = 21 := ⟨Nat.lt_of_lt_of_le fl2.1 hle, fl2.2⟩
    have fo : o < NN ∧ kcC o = 5 := ⟨Nat.lt_of_lt_of_le fo.1 hle, fo.2⟩
    have fq33 : q33 < NN ∧ kcC q33 = 1 := ⟨Nat.lt_of_lt_of_le fq33.1 hle, fq33.2⟩
    have fq39 : q39 < NN ∧ kcC q39 = 1 := ⟨Nat.lt_of_lt_of_le fq39.1 hle, fq39.2⟩
    have hag : NN0 ≤ NN ∧ ∀ o : Nat, o < NN0 → ad o = ad0 o := ⟨Nat.le_trans hag.1 hle, fun o h => (hg o (Nat.lt_of_lt_of_le h hag.1)).trans (hag.2 o h)⟩
    have hNN : 152 ≤ NN := Nat.le_trans hNN hle
    clear hg hle
    obtain ⟨cells, ec⟩ : ∃ z, z = cells + k40 := ⟨_, rfl⟩
    obtain ⟨slots, es⟩ : ∃ z, z = slots + n41 := ⟨_, rfl⟩
    first | rw [← ec, ← es] | rw [Nat.add_zero, Nat.add_zero, ← ec, ← es]
    have hRc : cells + k42 ≤ R.cells := by omega
    have hRs : slots + n43 ≤ R.slots := by omega
    clear ec es hB ht hF hz1 hk1 hvm ek40 en41
    exact t_Wrt_putTexts_88 hx hb hml hown hT hK hN hA hRf hRl hE hret  ad NN cells slots o l1 l2 l3 k42 n43 x44 H locs ls hNN hag hRc hRs fo fl2 hw hW hS (lv_sub hl [0, 1, 2, 3] rfl)
set_option maxRecDepth 100000 in
set_option maxHeartbeats 4000000 in
set_option maxRecDepth 100000 in
theorem t_Wrt_putTexts_54 {p : Program} {l : Launch} {e : Env} {R : Room} {s : State} {m : MethodId} {args : Array Value} {below : List Frame} {meth : Method} {c : Code} {Q : State → Prop} {dC : Nat → ClassId} {dI : Nat → Nat → Nat} {cI cB cJ cZ : ClassId} {A : Nat → Prop} {E : Heap} {tM tC : Nat} {kK kV : Nat → Nat} {ad0 : Nat → Nat} {NN0 : Nat} {post : St → Prop} {rec10 : Nat → Int32 → Nat → Int32 → Nat → Nat → St → Prop} (hx : p.tables.exec = Jvm.exec) (hb : c.code = b_Wrt_putTexts) (hml : c.maxLocals = 6) (hown : s.vm.findClass R_Wrt = some m.cls) (hT : ∀ w ∈ TG, w.before args s = true) (hK : va_K (dC, dI) CL (TY cI cB cJ cZ) s) (hN : NW s) (hA : ∀ q : Nat, s.heap.size ≤ q → A q) (hRf : 6 ≤ R.frames) (hRl : 300 ≤ R.locals) (hE : CE E tM tC kK kV A s) (hret : ∀ (ad : Nat → Nat) (NN cells slots : Nat) (x : St) (H : Heap) (locs : List Loc) (pc : Nat) (ls : Array Slot), decode b_Wrt_putTexts pc = .ok (.return_, 1) → (NN0 ≤ NN ∧ ∀ o : Nat, o < NN0 → ad o = ad0 o) → cells ≤ R.cells → slots ≤ R.slots → post x → Wd dC dI cI cB cJ cZ ad stC kcC NN A x H → va_S A s.heap H locs → W p l e R s m args below meth c H locs cells slots Q (F0 m pc ls [])) (hrec10 : ∀ (ad : Nat → Nat) (NN cells slots : Nat) (o : Nat) (l1 : Int32) (l2 : Nat) (l3 : Int32) (kb : Nat) (nb : Nat) (x : St) (H : Heap) (locs : List Loc) (ls : Array Slot), (152 ≤ NN) → (NN0 ≤ NN ∧ ∀ o : Nat, o < NN0 → ad o = ad0 o) → (cells + kb ≤ R.cells) → (slots + nb ≤ R.slots) → (o < NN ∧ kcC o = 5) → (l2 < NN ∧ kcC l2 = 21) → rec10 o l1 l2 l3 kb nb x → Wd dC dI cI cB cJ cZ ad stC kcC NN A x H → va_S A s.heap H locs → lv_has ls 6 [(0, .ref (ad o)), (1, .int l1), (2, .ref (ad l2)), (3, .int l3)] → W p l e R s m args below meth c H locs cells slots Q (F0 m 10 ls [])) : ∀ (ad : Nat → Nat) (NN cells slots : Nat) (o : Nat) (l1 : Int32) (l2 : Nat) (l3 : Int32) (s0 : Int64) (s1 : Int32) (s2 : Nat) (kb : Nat) (nb : Nat) (x : St) (H : Heap) (locs : List Loc) (ls : Array Slot), (152 ≤ NN) → (NN0 ≤ NN ∧ ∀ o : Nat, o < NN0 → ad o = ad0 o) → (cells + kb ≤ R.cells) → (slots + nb ≤ R.slots) → (o < NN ∧ kcC o = 5) → (l2 < NN ∧ kcC l2 = 21) → (s2 < NN ∧ kcC s2 = 22) → j_Wrt_putTexts_54 post rec10 o l1 l2 l3 s0 s1 s2 kb nb x → Wd dC dI cI cB cJ cZ ad stC kcC NN A x H → va_S A s.heap H locs → lv_has ls 6 [(0, .ref (ad o)), (1, .int l1), (2, .ref (ad l2)), (3, .int l3)] → W p l e R s m args below meth c H locs cells slots Q (F0 m 54 ls [.long s0, .int s1, .ref (ad s2)]) := by
  intro ad NN cells slots o l1 l2 l3 s0 s1 s2 kb nb x H locs ls hNN hag hRc hRs fo fl2 fs2 hw hW hS hl
  unfold j_Wrt_putTexts_54 at hw
  obtain ⟨hi, hw⟩ := hw
  refine w_last (o := s2) hx hb hK hW hS fs2.1 fs2.2 hi d_Wrt_putTexts_54 (fun H locs hW hS => ?_)
  obtain ⟨x45, ex45⟩ : ∃ y : St, y = setL x s2 s1 s0 := ⟨_, rfl⟩
  rw [← ex45] at hW
  have hw := hw x45 ex45
  refine lv_iinc (v := (l3 + 1)) (lv' := [(3, .int (l3 + 1)), (0, .ref (ad o)), (1, .int l1), (2, .ref (ad l2))]) hx hb d_Wrt_putTexts_55 hl (k := 3) rfl rfl (by decide) rfl (fun ls hl => ?_)
  refine lv_goto (tgt := 10) hx hb d_Wrt_putTexts_58 (by decide) ?_
  exact hrec10 ad NN cells slots o l1 l2 (l3 + 1) kb nb x45 H locs ls hNN hag hRc hRs fo fl2 hw hW hS (lv_sub hl [1, 2, 3, 0] rfl)
set_option maxRecDepth 100000 in
set_option maxHeartbeats 4000000 in
set_option maxRecDepth 100000 in
theorem t_Wrt_putTexts_10 {p : Program} {l : Launch} {e : Env} {R : Room} {s : State} {m : MethodId} {args : Array Value} {below : List Frame} {meth : Method} {c : Code} {Q : State → Prop} {dC : Nat → ClassId} {dI : Nat → Nat → Nat} {cI cB cJ cZ : ClassId} {A : Nat → Prop} {E : Heap} {tM tC : Nat} {kK kV : Nat → Nat} {ad0 : Nat → Nat} {NN0 : Nat} {post : St → Prop} {rec10 : Nat → Int32 → Nat → Int32 → Nat → Nat → St → Prop} (hx : p.tables.exec = Jvm.exec) (hb : c.code = b_Wrt_putTexts) (hml : c.maxLocals = 6) (hown : s.vm.findClass R_Wrt = some m.cls) (hT : ∀ w ∈ TG, w.before args s = true) (hK : va_K (dC, dI) CL (TY cI cB cJ cZ) s) (hN : NW s) (hA : ∀ q : Nat, s.heap.size ≤ q → A q) (hRf : 6 ≤ R.frames) (hRl : 300 ≤ R.locals) (hE : CE E tM tC kK kV A s) (hret : ∀ (ad : Nat → Nat) (NN cells slots : Nat) (x : St) (H : Heap) (locs : List Loc) (pc : Nat) (ls : Array Slot), decode b_Wrt_putTexts pc = .ok (.return_, 1) → (NN0 ≤ NN ∧ ∀ o : Nat, o < NN0 → ad o = ad0 o) → cells ≤ R.cells → slots ≤ R.slots → post x → Wd dC dI cI cB cJ cZ ad stC kcC NN A x H → va_S A s.heap H locs → W p l e R s m args below meth c H locs cells slots Q (F0 m pc ls [])) (hrec10 : ∀ (ad : Nat → Nat) (NN cells slots : Nat) (o : Nat) (l1 : Int32) (l2 : Nat) (l3 : Int32) (kb : Nat) (nb : Nat) (x : St) (H : Heap) (locs : List Loc) (ls : Array Slot), (152 ≤ NN) → (NN0 ≤ NN ∧ ∀ o : Nat, o < NN0 → ad o = ad0 o) → (cells + kb ≤ R.cells) → (slots + nb ≤ R.slots) → (o < NN ∧ kcC o = 5) → (l2 < NN ∧ kcC l2 = 21) → rec10 o l1 l2 l3 kb nb x → Wd dC dI cI cB cJ cZ ad stC kcC NN A x H → va_S A s.heap H locs → lv_has ls 6 [(0, .ref (ad o)), (1, .int l1), (2, .ref (ad l2)), (3, .int l3)] → W p l e R s m args below meth c H locs cells slots Q (F0 m 10 ls [])) : ∀ (ad : Nat → Nat) (NN cells slots : Nat) (o : Nat) (l1 : Int32) (l2 : Nat) (l3 : Int32) (kb : Nat) (nb : Nat) (x : St) (H : Heap) (locs : List Loc) (ls : Array Slot), (152 ≤ NN) → (NN0 ≤ NN ∧ ∀ o : Nat, o < NN0 → ad o = ad0 o) → (cells + kb ≤ R.cells) → (slots + nb ≤ R.slots) → (o < NN ∧ kcC o = 5) → (l2 < NN ∧ kcC l2 = 21) → j_Wrt_putTexts_10 post rec10 o l1 l2 l3 kb nb x → Wd dC dI cI cB cJ cZ ad stC kcC NN A x H → va_S A s.heap H locs → lv_has ls 6 [(0, .ref (ad o)), (1, .int l1), (2, .ref (ad l2)), (3, .int l3)] → W p l e R s m args below meth c H locs cells slots Q (F0 m 10 ls []) := by
  intro ad NN cells slots o l1 l2 l3 kb nb x H locs ls hNN hag hRc hRs fo fl2 hw hW hS hl
  unfold j_Wrt_putTexts_10 at hw
  refine lv_iload_n hx hb d_Wrt_putTexts_10 rfl (lv_at hl 3 rfl) ?_
  refine lv_aload_n hx hb d_Wrt_putTexts_11 rfl (lv_at hl 0 rfl) ?_
  refine w_geti (k := 12) (t := 5) (C := R_Wrt) (T := F_Wrt) (N := 20) hx hb hT hown hK hW fo.1 fo.2 (by decide) in_Wrt rfl rfl (by decide) rfl fr_Wrt_12 w_2_63 d_Wrt_putTexts_12 ?_
  refine lv_icmp_ge (tgt := 61) hx hb d_Wrt_putTexts_15 (by decide) (fun c46 => ?_) (fun c46 => ?_)
  · have hw := hw.1 c46
    exact t_Wrt_putTexts_61 hx hb hml hown hT hK hN hA hRf hRl hE hret  ad NN cells slots o l1 l2 l3 kb nb x H locs ls hNN hag hRc hRs fo fl2 hw hW hS (lv_sub hl [0, 1, 2, 3] rfl)
  · have hw := hw.2 c46
    refine lv_iload_n hx hb d_Wrt_putTexts_18 rfl (lv_at hl 1 rfl) ?_
    refine lv_if_eq (tgt := 61) hx hb d_Wrt_putTexts_19 (by decide) (fun c47 => ?_) (fun c47 => ?_)
    · have hw := hw.1 c47
      exact t_Wrt_putTexts_61 hx hb hml hown hT hK hN hA hRf hRl hE hret  ad NN cells slots o l1 l2 l3 kb nb x H locs ls hNN hag hRc hRs fo fl2 hw hW hS (lv_sub hl [0, 1, 2, 3] rfl)
    · have hw := hw.2 c47
      refine lv_aload_n hx hb d_Wrt_putTexts_22 rfl (lv_at hl 0 rfl) ?_
      refine w_getf (q := (stC o 16)) (k := 16) (t := 5) (C := R_Wrt) (T := F_Wrt) (N := 20) hx hb hT hown hK hW fo.1 fo.2 (by decide) in_Wrt rfl rfl (by decide) rfl fr_Wrt_16 w_2_67 d_Wrt_putTexts_23 rfl ?_
      refine lv_iload_n hx hb d_Wrt_putTexts_26 rfl (lv_at hl 3 rfl) ?_
      refine lv_iload_n hx hb d_Wrt_putTexts_27 rfl (lv_at hl 3 rfl) ?_
      refine lv_if_ne (tgt := 35) hx hb d_Wrt_putTexts_28 (by decide) (fun c48 => ?_) (fun c48 => ?_)
      · have hw := hw.1 c48
        refine lv_aload_n hx hb d_Wrt_putTexts_35 rfl (lv_at hl 2 rfl) ?_
        refine lv_aload_n hx hb d_Wrt_putTexts_36 rfl (lv_at hl 0 rfl) ?_
        refine w_getf (q := (stC o 10)) (k := 10) (t := 5) (C := R_Wrt) (T := F_Wrt) (N := 20) hx hb hT hown hK hW fo.1 fo.2 (by decide) in_Wrt rfl rfl (by decide) rfl fr_Wrt_10 w_2_61 d_Wrt_putTexts_37 rfl ?_
        refine lv_iload_n hx hb d_Wrt_putTexts_40 rfl (lv_at hl 3 rfl) ?_
        refine lv_iconst (v := 1) hx hb d_Wrt_putTexts_41 (by decide) ?_
        refine lv_isub hx hb d_Wrt_putTexts_42 ?_
        obtain ⟨hi, hw⟩ := hw
        refine w_lald (o := (stC o 10)) hx hb hK hW (st_ty hNN fo.1 fo.2 rfl).1 (st_ty hNN fo.1 fo.2 rfl).2 hi d_Wrt_putTexts_43 ?_
        refine lv_aload_n hx hb d_Wrt_putTexts_44 rfl (lv_at hl 0 rfl) ?_
        refine w_getf (q := (stC o 10)) (k := 10) (t := 5) (C := R_Wrt) (T := F_Wrt) (N := 20) hx hb hT hown hK hW fo.1 fo.2 (by decide) in_Wrt rfl rfl (by decide) rfl fr_Wrt_10 w_2_61 d_Wrt_putTexts_45 rfl ?_
        refine lv_iload_n hx hb d_Wrt_putTexts_48 rfl (lv_at hl 3 rfl) ?_
        obtain ⟨hi, hw⟩ := hw
        refine w_lald (o := (stC o 10)) hx hb hK hW (st_ty hNN fo.1 fo.2 rfl).1 (st_ty hNN fo.1 fo.2 rfl).2 hi d_Wrt_putTexts_49 ?_
        have hF := hW.free hS hA
        refine va_calli (va_runSN (As := [.ref (ad l2), .long (rL x (stC o 10) (l3 - 1)), .long (rL x (stC o 10) l3)]) (rest := [.int l3, .ref (ad (stC o 16))]) ⟨hx, hb, hml, hown, hT⟩ (k_V_inCommon l dC dI cI cB cJ cZ ad NN E tM tC kK kV hNN H.size l2 (rL x (stC o 10) (l3 - 1)) (rL x (stC o 10) l3) x fl2 hw) ⟨va_cnB 3 hT (gwt_in w_5_238) rfl rfl rfl (hN _ wn_5_236 rfl) (hT _ w_1_1) (by decide +kernel) ⟨Nat.le_trans (Nat.le_of_ble_eq_true rfl) hRf, Nat.le_trans (Nat.le_of_ble_eq_true rfl) hRl⟩, hT _ w_5_237, trivial⟩ ⟨PVc.blind, PVc.at _ hW hK hN hE hS hF⟩ rfl rfl hl.1 rfl (lv_room (Nat.le_of_ble_eq_true rfl)) d_Wrt_putTexts_50 ⟨(Nat.le_trans (Nat.le_add_right _ _) hRc), (Nat.le_trans (Nat.le_add_right _ _) hRs)⟩) hS (fun q _ h => hF q h) hF (fun r50 x49 t H locs ht hvm hw hB hz1 hk1 hS => ?_)
        have hW := Wd.back hB ht hF
        clear hB ht hF hz1 hk1 hvm
        refine lv_i2l hx hb d_Wrt_putTexts_53 rfl ?_
        exact t_Wrt_putTexts_54 hx hb hml hown hT hK hN hA hRf hRl hE hret hrec10 ad NN cells slots o l1 l2 l3 (r50 : Int32).toInt64 l3 (stC o 16) kb nb x49 H locs ls hNN hag hRc hRs fo fl2 (st_ty hNN fo.1 fo.2 rfl) hw hW hS (lv_sub hl [0, 1, 2, 3] rfl)
      · have hw := hw.2 c48
        refine lv_lconst (v := 0) hx hb d_Wrt_putTexts_31 (by decide) ?_
        refine lv_goto (tgt := 54) hx hb d_Wrt_putTexts_32 (by decide) ?_
        exact t_Wrt_putTexts_54 hx hb hml hown hT hK hN hA hRf hRl hE hret hrec10 ad NN cells slots o l1 l2 l3 0 l3 (stC o 16) kb nb x H locs ls hNN hag hRc hRs fo fl2 (st_ty hNN fo.1 fo.2 rfl) hw hW hS (lv_sub hl [0, 1, 2, 3] rfl)
set_option maxHeartbeats 4000000 in
set_option maxRecDepth 100000 in
theorem tl_Wrt_putTexts_10 {p : Program} {l : Launch} {e : Env} {R : Room} {s : State} {m : MethodId} {args : Array Value} {below : List Frame} {meth : Method} {c : Code} {Q : State → Prop} {dC : Nat → ClassId} {dI : Nat → Nat → Nat} {cI cB cJ cZ : ClassId} {A : Nat → Prop} {E : Heap} {tM tC : Nat} {kK kV : Nat → Nat} {ad0 : Nat → Nat} {NN0 : Nat} {post : St → Prop} (hx : p.tables.exec = Jvm.exec) (hb : c.code = b_Wrt_putTexts) (hml : c.maxLocals = 6) (hown : s.vm.findClass R_Wrt = some m.cls) (hT : ∀ w ∈ TG, w.before args s = true) (hK : va_K (dC, dI) CL (TY cI cB cJ cZ) s) (hN : NW s) (hA : ∀ q : Nat, s.heap.size ≤ q → A q) (hRf : 6 ≤ R.frames) (hRl : 300 ≤ R.locals) (hE : CE E tM tC kK kV A s) (hret : ∀ (ad : Nat → Nat) (NN cells slots : Nat) (x : St) (H : Heap) (locs : List Loc) (pc : Nat) (ls : Array Slot), decode b_Wrt_putTexts pc = .ok (.return_, 1) → (NN0 ≤ NN ∧ ∀ o : Nat, o < NN0 → ad o = ad0 o) → cells ≤ R.cells → slots ≤ R.slots → post x → Wd dC dI cI cB cJ cZ ad stC kcC NN A x H → va_S A s.heap H locs → W p l e R s m args below meth c H locs cells slots Q (F0 m pc ls []))  : ∀ n : Nat, ∀ (ad : Nat → Nat) (NN cells slots : Nat) (o : Nat) (l1 : Int32) (l2 : Nat) (l3 : Int32) (kb : Nat) (nb : Nat) (x : St) (H : Heap) (locs : List Loc) (ls : Array Slot), (152 ≤ NN) → (NN0 ≤ NN ∧ ∀ o : Nat, o < NN0 → ad o = ad0 o) → (cells + kb ≤ R.cells) → (slots + nb ≤ R.slots) → (o < NN ∧ kcC o = 5) → (l2 < NN ∧ kcC l2 = 21) → wl_Wrt_putTexts_10 post n o l1 l2 l3 kb nb x → Wd dC dI cI cB cJ cZ ad stC kcC NN A x H → va_S A s.heap H locs → lv_has ls 6 [(0, .ref (ad o)), (1, .int l1), (2, .ref (ad l2)), (3, .int l3)] → W p l e R s m args below meth c H locs cells slots Q (F0 m 10 ls []) := by
  intro n
  induction n with
  | zero => intro ad NN cells slots o l1 l2 l3 kb nb x H locs ls hNN hag hRc hRs fo fl2 hw; exact hw.elim
  | succ n ih => intro ad NN cells slots o l1 l2 l3 kb nb x H locs ls hNN hag hRc hRs fo fl2 hw hW hS hl; exact t_Wrt_putTexts_10 hx hb hml hown hT hK hN hA hRf hRl hE hret  ih ad NN cells slots o l1 l2 l3 kb nb x H locs ls hNN hag hRc hRs fo fl2 hw hW hS hl
set_option maxRecDepth 100000 in
set_option maxHeartbeats 4000000 in
set_option maxRecDepth 100000 in
theorem t_Wrt_putTexts_e {p : Program} {l : Launch} {e : Env} {R : Room} {s : State} {m : MethodId} {args : Array Value} {below : List Frame} {meth : Method} {c : Code} {Q : State → Prop} {dC : Nat → ClassId} {dI : Nat → Nat → Nat} {cI cB cJ cZ : ClassId} {A : Nat → Prop} {E : Heap} {tM tC : Nat} {kK kV : Nat → Nat} {ad0 : Nat → Nat} {NN0 : Nat} {post : St → Prop} (hx : p.tables.exec = Jvm.exec) (hb : c.code = b_Wrt_putTexts) (hml : c.maxLocals = 6) (hown : s.vm.findClass R_Wrt = some m.cls) (hT : ∀ w ∈ TG, w.before args s = true) (hK : va_K (dC, dI) CL (TY cI cB cJ cZ) s) (hN : NW s) (hA : ∀ q : Nat, s.heap.size ≤ q → A q) (hRf : 6 ≤ R.frames) (hRl : 300 ≤ R.locals) (hE : CE E tM tC kK kV A s) (hret : ∀ (ad : Nat → Nat) (NN cells slots : Nat) (x : St) (H : Heap) (locs : List Loc) (pc : Nat) (ls : Array Slot), decode b_Wrt_putTexts pc = .ok (.return_, 1) → (NN0 ≤ NN ∧ ∀ o : Nat, o < NN0 → ad o = ad0 o) → cells ≤ R.cells → slots ≤ R.slots → post x → Wd dC dI cI cB cJ cZ ad stC kcC NN A x H → va_S A s.heap H locs → W p l e R s m args below meth c H locs cells slots Q (F0 m pc ls [])) : ∀ (ad : Nat → Nat) (NN cells slots : Nat) (o : Nat) (l1 : Int32) (kb : Nat) (nb : Nat) (x : St) (H : Heap) (locs : List Loc) (ls : Array Slot), (152 ≤ NN) → (NN0 ≤ NN ∧ ∀ o : Nat, o < NN0 → ad o = ad0 o) → (cells + kb ≤ R.cells) → (slots + nb ≤ R.slots) → (o < NN ∧ kcC o = 5) → wp_Wrt_putTexts post o l1 kb nb x → Wd dC dI cI cB cJ cZ ad stC kcC NN A x H → va_S A s.heap H locs → lv_has ls 6 [(0, .ref (ad o)), (1, .int l1)] → W p l e R s m args below meth c H locs cells slots Q (F0 m 0 ls []) := by
  intro ad NN cells slots o l1 kb nb x H locs ls hNN hag hRc hRs fo hw hW hS hl
  unfold wp_Wrt_putTexts at hw
  refine lv_aload_n hx hb d_Wrt_putTexts_0 rfl (lv_at hl 0 rfl) ?_
  obtain ⟨q51, hq51, hw⟩ := hw
  refine w_getr (q := q51) (k := 6) (t := 5) (C := R_Wrt) (T := F_Wrt) (N := 20) hx hb hT hown hK hW fo.1 fo.2 (by decide) in_Wrt rfl rfl (by decide) rfl fr_Wrt_6 w_2_57 d_Wrt_putTexts_1 hq51 (fun aq51 bq51 => ?_)
  have fq51 : q51 < NN ∧ kcC q51 = 4 := ⟨aq51, bq51⟩
  refine w_getf (q := (stC q51 12)) (k := 12) (t := 4) (C := R_Rec) (T := F_Rec) (N := 15) hx hb hT hown hK hW fq51.1 fq51.2 (by decide) in_Rec rfl rfl (by decide) rfl fr_Rec_12 w_2_7 d_Wrt_putTexts_4 rfl ?_
  refine lv_astore_n (lv' := [(2, .ref (ad (stC q51 12))), (0, .ref (ad o)), (1, .int l1)]) hx hb d_Wrt_putTexts_7 rfl hl (by decide) rfl (fun ls hl => ?_)
  refine lv_iconst (v := 0) hx hb d_Wrt_putTexts_8 (by decide) ?_
  refine lv_istore_n (lv' := [(3, .int 0), (2, .ref (ad (stC q51 12))), (0, .ref (ad o)), (1, .int l1)]) hx hb d_Wrt_putTexts_9 rfl hl (by decide) rfl (fun ls hl => ?_)
  obtain ⟨n, hw⟩ := hw
  exact tl_Wrt_putTexts_10 hx hb hml hown hT hK hN hA hRf hRl hE hret  n ad NN cells slots o l1 (stC q51 12) 0 kb nb x H locs ls hNN hag hRc hRs fo (st_ty hNN fq51.1 fq51.2 rfl) hw hW hS (lv_sub hl [2, 3, 1, 0] rfl)
set_option maxHeartbeats 4000000 in
set_option maxRecDepth 100000 in
theorem k_Wrt_putTexts (l : Launch) (dC : Nat → ClassId) (dI : Nat → Nat → Nat) (cI cB cJ cZ : ClassId) (ad : Nat → Nat) (NN : Nat) (E : Heap) (tM tC : Nat) (kK kV : Nat → Nat) (hNN : 152 ≤ NN) (sz : Nat) (o : Nat) (l1 : Int32) (kb : Nat) (nb : Nat) (x : St) (fo : o < NN ∧ kcC o = 5) {post : St → Prop} (hw : wp_Wrt_putTexts post o l1 kb nb x) : Met l y_Wrt_putTexts (wsOf y_Wrt_putTexts b_Wrt_putTexts 6 (none)) ({ frames := 6, cells := kb, slots := nb, locals := 300 }) (va_Pc [.ref (ad o), .int l1] (PVc dC dI cI cB cJ cZ ad stC kcC NN E tM tC kK kV sz x)) (va_Qv (fun (u : St × (Nat → Nat) × Nat) => post u.1) (fun u t => Wd dC dI cI cB cJ cZ u.2.1 stC kcC u.2.2 (va_A (pic ad stC kcC NN cI cB cJ cZ x) sz) u.1 t.heap ∧ NN ≤ u.2.2 ∧ ∀ o : Nat, o < NN → u.2.1 o = ad o) (va_A (pic ad stC kcC NN cI cB cJ cZ x) sz)) kb nb (va_A (pic ad stC kcC NN cI cB cJ cZ x) sz) := by
  refine Met.ofW (cc := b_Wrt_putTexts) (maxL := 6) (ret := none) (by decide) rfl ?_
  intro p e s m args below meth c s₁ B hml hv
  obtain ⟨rfl, ⟨hsz, hW0, hK, hN⟩, hE⟩ := hv
  have hx := B.exec
  have hb := B.bytes
  have hr := B.returns
  have hts := atoms_spec B.pre
  have hT : ∀ w ∈ TG, w.before _ s = true := fun w h => hts w (List.mem_cons_of_mem _ h)
  have hown : s.vm.findClass R_Wrt = some m.cls := findClass_of_methodNamed B.named
  have hlocks := B.notSynchronized
  subst hsz
  have hW : Wd dC dI cI cB cJ cZ ad stC kcC NN (va_A (pic ad stC kcC NN cI cB cJ cZ x) s.heap.size) x s.heap := ⟨hW0.1, hW0.2.1.self (sz := s.heap.size), hW0.2.2⟩
  generalize hAe : va_A (pic ad stC kcC NN cI cB cJ cZ x) s.heap.size = A at hW hE ⊢
  have hA : ∀ q : Nat, s.heap.size ≤ q → A q := fun q h => by rw [← hAe]; exact Or.inr h
  have hS : va_S A s.heap s.heap [] := va_S.rf
  have hl := lv_entry ([.ref (ad o), .int l1]) (n := 6) (Nat.le_of_ble_eq_true rfl)
  rw [lg_entry_eq]
  generalize (lg_sl ([.ref (ad o), .int l1]) ++ List.replicate (6 - (lg_sl ([.ref (ad o), .int l1])).length) Slot.unset).toArray = ls at hl ⊢
  have hl : lv_has ls 6 [(0, .ref (ad o)), (1, .int l1)] := hl
  exact t_Wrt_putTexts_e hx hb hml hown hT hK hN hA (Nat.le_refl 6) (Nat.le_refl 300) hE (fun ad1 NN1 cells slots x1 H locs pc ls hd hag hc hs hp hW hS => W.widen (k := kb) (n := nb) hc hs (W.vret hx hb hr (fun t ht hM => ⟨⟨(x1, ad1, NN1), rfl, hp, Wd.back hW ht.symm (fun _ z => z), hag.1, hag.2⟩, hS.F ht⟩) hS.2.2 hd hlocks))  ad NN 0 0 o l1 kb nb x _ _ ls hNN ⟨Nat.le_refl _, fun _ _ => rfl⟩ (Nat.le_of_eq (Nat.zero_add kb)) (Nat.le_of_eq (Nat.zero_add nb)) fo hw hW hS hl
end
