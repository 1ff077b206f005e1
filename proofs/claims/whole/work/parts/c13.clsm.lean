theorem fr_Opn_10 : F_Opn 10 = (R_Opn, "tellers", "I", false) := rfl
theorem fr_Opn_11 : F_Opn 11 = (R_Opn, "chunkEnd", "I", false) := rfl
theorem fr_Opn_12 : F_Opn 12 = (R_Opn, "chunkRows", "I", false) := rfl
theorem fr_Vlt_4 : F_Vlt 4 = (R_Vlt, "entries", "I", false) := rfl
theorem w_2_133 : (Jvm.Cond.fieldLink "StripedVault$Opener" (189 : Nat) "StripedVault$Vault" "entries" "I") ∈ TG := tw_2 133 (by decide +kernel) (by decide +kernel)
theorem w_2_160 : (Jvm.Cond.fieldLink "StripedVault$Opener" (243 : Nat) "StripedVault$Vault" "chunkTeller" "[I") ∈ TG := tw_2 160 (by decide +kernel) (by decide +kernel)
theorem w_2_163 : (Jvm.Cond.fieldLink "StripedVault$Opener" (231 : Nat) "StripedVault$Vault" "tellerFirst" "[I") ∈ TG := tw_2 163 (by decide +kernel) (by decide +kernel)
theorem w_2_166 : (Jvm.Cond.fieldLink "StripedVault$Opener" (234 : Nat) "StripedVault$Vault" "tellerEntries" "[I") ∈ TG := tw_2 166 (by decide +kernel) (by decide +kernel)
theorem w_2_169 : (Jvm.Cond.fieldLink "StripedVault$Opener" (237 : Nat) "StripedVault$Vault" "tellerNulls" "[I") ∈ TG := tw_2 169 (by decide +kernel) (by decide +kernel)
theorem w_2_172 : (Jvm.Cond.fieldLink "StripedVault$Opener" (287 : Nat) "StripedVault$Vault" "tellerLeast" "[J") ∈ TG := tw_2 172 (by decide +kernel) (by decide +kernel)
theorem w_2_175 : (Jvm.Cond.fieldLink "StripedVault$Opener" (290 : Nat) "StripedVault$Vault" "tellerGreatest" "[J") ∈ TG := tw_2 175 (by decide +kernel) (by decide +kernel)
theorem w_2_178 : (Jvm.Cond.fieldLink "StripedVault$Opener" (240 : Nat) "StripedVault$Vault" "tellerDictionary" "[I") ∈ TG := tw_2 178 (by decide +kernel) (by decide +kernel)
theorem w_3_26 : (Jvm.Cond.fieldLink "StripedVault$Opener" (198 : Nat) "StripedVault$Opener" "tellers" "I") ∈ TG := tw_3 26 (by decide +kernel) (by decide +kernel)
theorem w_3_27 : (Jvm.Cond.fieldLink "StripedVault$Opener" (216 : Nat) "StripedVault$Opener" "chunkEnd" "I") ∈ TG := tw_3 27 (by decide +kernel) (by decide +kernel)
theorem w_3_28 : (Jvm.Cond.fieldLink "StripedVault$Opener" (246 : Nat) "StripedVault$Opener" "chunkRows" "I") ∈ TG := tw_3 28 (by decide +kernel) (by decide +kernel)
theorem w_6_176 : (Jvm.Cond.methodLink "StripedVault$Opener" (219 : Nat) ({ cls := "StripedVault$Opener", name := "newTeller", desc := "()I" } : Jvm.MethodName)) ∈ TG := tw_6 176 (by decide +kernel) (by decide +kernel)
theorem w_6_178 : (Jvm.Cond.instanceMethod ({ cls := "StripedVault$Opener", name := "newTeller", desc := "()I" } : Jvm.MethodName)) ∈ TG := tw_6 178 (by decide +kernel) (by decide +kernel)
theorem w_6_179 : (Jvm.Cond.code ({ cls := "StripedVault$Opener", name := "newTeller", desc := "()I" } : Jvm.MethodName) prog_4_method_11_code (2 : Nat) (Option.some Jvm.ClassFile.FieldType.int)) ∈ TG := tw_6 179 (by decide +kernel) (by decide +kernel)
theorem w_6_189 : (Jvm.Cond.constantLong "StripedVault$Opener" (285 : Nat) (1000 : Int64)) ∈ TG := tw_6 189 (by decide +kernel) (by decide +kernel)
theorem w_6_190 : (Jvm.Cond.methodLink "StripedVault$Opener" (293 : Nat) ({ cls := "StripedVault$Source", name := "narrow", desc := "(J)I" } : Jvm.MethodName)) ∈ TG := tw_6 190 (by decide +kernel) (by decide +kernel)
theorem w_6_191 : (Jvm.Cond.instanceMethod ({ cls := "StripedVault$Source", name := "narrow", desc := "(J)I" } : Jvm.MethodName)) ∈ TG := tw_6 191 (by decide +kernel) (by decide +kernel)
theorem w_6_192 : (Jvm.Cond.selects "StripedVault$Source" ({ cls := "StripedVault$Source", name := "narrow", desc := "(J)I" } : Jvm.MethodName) ({ cls := "StripedVault$Source", name := "narrow", desc := "(J)I" } : Jvm.MethodName)) ∈ TG := tw_6 192 (by decide +kernel) (by decide +kernel)
theorem w_6_193 : (Jvm.Cond.code ({ cls := "StripedVault$Source", name := "narrow", desc := "(J)I" } : Jvm.MethodName) prog_10_method_5_code (4 : Nat) (Option.some Jvm.ClassFile.FieldType.int)) ∈ TG := tw_6 193 (by decide +kernel) (by decide +kernel)
theorem w_6_207 : (Jvm.Cond.methodLink "StripedVault$Source" (72 : Nat) ({ cls := "StripedVault$Source", name := "readFixed", desc := "(I)J" } : Jvm.MethodName)) ∈ TG := tw_6 207 (by decide +kernel) (by decide +kernel)
theorem ws_39 : Cond.selects R_Opn y_Opn_newTeller y_Opn_newTeller ∈ TG := tw_s 39 (by decide +kernel) (by decide +kernel)
theorem d_Opn_newTeller_46 : decode b_Opn_newTeller 46 = .ok (.aload_n 0, 1) := by decide +kernel
theorem d_Opn_newTeller_47 : decode b_Opn_newTeller 47 = .ok (.getfield 25, 3) := by decide +kernel
theorem d_Opn_newTeller_50 : decode b_Opn_newTeller 50 = .ok (.getfield 231, 3) := by decide +kernel
theorem d_Opn_newTeller_53 : decode b_Opn_newTeller 53 = .ok (.iload_n 1, 1) := by decide +kernel
theorem d_Opn_newTeller_54 : decode b_Opn_newTeller 54 = .ok (.aload_n 0, 1) := by decide +kernel
theorem d_Opn_newTeller_55 : decode b_Opn_newTeller 55 = .ok (.getfield 25, 3) := by decide +kernel
theorem d_Opn_newTeller_58 : decode b_Opn_newTeller 58 = .ok (.getfield 189, 3) := by decide +kernel
theorem d_Opn_newTeller_61 : decode b_Opn_newTeller 61 = .ok (.iastore, 1) := by decide +kernel
theorem d_Opn_newTeller_62 : decode b_Opn_newTeller 62 = .ok (.aload_n 0, 1) := by decide +kernel
theorem d_Opn_newTeller_63 : decode b_Opn_newTeller 63 = .ok (.getfield 25, 3) := by decide +kernel
theorem d_Opn_newTeller_66 : decode b_Opn_newTeller 66 = .ok (.getfield 234, 3) := by decide +kernel
theorem d_Opn_newTeller_69 : decode b_Opn_newTeller 69 = .ok (.iload_n 1, 1) := by decide +kernel
theorem d_Opn_newTeller_70 : decode b_Opn_newTeller 70 = .ok (.iconst 0, 1) := by decide +kernel
theorem d_Opn_newTeller_71 : decode b_Opn_newTeller 71 = .ok (.iastore, 1) := by decide +kernel
theorem d_Opn_newTeller_72 : decode b_Opn_newTeller 72 = .ok (.aload_n 0, 1) := by decide +kernel
theorem d_Opn_newTeller_73 : decode b_Opn_newTeller 73 = .ok (.getfield 25, 3) := by decide +kernel
theorem d_Opn_newTeller_76 : decode b_Opn_newTeller 76 = .ok (.getfield 237, 3) := by decide +kernel
theorem d_Opn_newTeller_79 : decode b_Opn_newTeller 79 = .ok (.iload_n 1, 1) := by decide +kernel
theorem d_Opn_newTeller_80 : decode b_Opn_newTeller 80 = .ok (.iconst 0, 1) := by decide +kernel
theorem d_Opn_newTeller_81 : decode b_Opn_newTeller 81 = .ok (.iastore, 1) := by decide +kernel
theorem d_Opn_newTeller_82 : decode b_Opn_newTeller 82 = .ok (.aload_n 0, 1) := by decide +kernel
theorem d_Opn_newTeller_83 : decode b_Opn_newTeller 83 = .ok (.getfield 25, 3) := by decide +kernel
theorem d_Opn_newTeller_86 : decode b_Opn_newTeller 86 = .ok (.getfield 240, 3) := by decide +kernel
theorem d_Opn_newTeller_89 : decode b_Opn_newTeller 89 = .ok (.iload_n 1, 1) := by decide +kernel
theorem d_Opn_newTeller_90 : decode b_Opn_newTeller 90 = .ok (.iconst (-1), 1) := by decide +kernel
theorem d_Opn_newTeller_91 : decode b_Opn_newTeller 91 = .ok (.iastore, 1) := by decide +kernel
theorem d_Opn_newTeller_92 : decode b_Opn_newTeller 92 = .ok (.iload_n 1, 1) := by decide +kernel
theorem d_Opn_newTeller_93 : decode b_Opn_newTeller 93 = .ok (.ireturn, 1) := by decide +kernel
theorem d_Opn_newTeller_21 : decode b_Opn_newTeller 21 = .ok (.bipush 22, 2) := by decide +kernel
theorem d_Opn_newTeller_23 : decode b_Opn_newTeller 23 = .ok (.invokevirtual 95, 3) := by decide +kernel
theorem d_Opn_newTeller_26 : decode b_Opn_newTeller 26 = .ok (.aload_n 0, 1) := by decide +kernel
theorem d_Opn_newTeller_27 : decode b_Opn_newTeller 27 = .ok (.getfield 44, 3) := by decide +kernel
theorem d_Opn_newTeller_30 : decode b_Opn_newTeller 30 = .ok (.getfield 107, 3) := by decide +kernel
theorem d_Opn_newTeller_33 : decode b_Opn_newTeller 33 = .ok (.ifCond .ne 13, 3) := by decide +kernel
theorem d_Opn_newTeller_36 : decode b_Opn_newTeller 36 = .ok (.aload_n 0, 1) := by decide +kernel
theorem d_Opn_newTeller_37 : decode b_Opn_newTeller 37 = .ok (.dup, 1) := by decide +kernel
theorem d_Opn_newTeller_38 : decode b_Opn_newTeller 38 = .ok (.getfield 198, 3) := by decide +kernel
theorem d_Opn_newTeller_41 : decode b_Opn_newTeller 41 = .ok (.iconst 1, 1) := by decide +kernel
theorem d_Opn_newTeller_42 : decode b_Opn_newTeller 42 = .ok (.iadd, 1) := by decide +kernel
theorem d_Opn_newTeller_43 : decode b_Opn_newTeller 43 = .ok (.putfield 198, 3) := by decide +kernel
theorem d_Opn_newTeller_0 : decode b_Opn_newTeller 0 = .ok (.aload_n 0, 1) := by decide +kernel
theorem d_Opn_newTeller_1 : decode b_Opn_newTeller 1 = .ok (.getfield 198, 3) := by decide +kernel
theorem d_Opn_newTeller_4 : decode b_Opn_newTeller 4 = .ok (.istore_n 1, 1) := by decide +kernel
theorem d_Opn_newTeller_5 : decode b_Opn_newTeller 5 = .ok (.aload_n 0, 1) := by decide +kernel
theorem d_Opn_newTeller_6 : decode b_Opn_newTeller 6 = .ok (.getfield 44, 3) := by decide +kernel
theorem d_Opn_newTeller_9 : decode b_Opn_newTeller 9 = .ok (.iload_n 1, 1) := by decide +kernel
theorem d_Opn_newTeller_10 : decode b_Opn_newTeller 10 = .ok (.sipush 5999, 3) := by decide +kernel
theorem d_Opn_newTeller_13 : decode b_Opn_newTeller 13 = .ok (.if_icmp .ge 7, 3) := by decide +kernel
theorem d_Opn_newTeller_20 : decode b_Opn_newTeller 20 = .ok (.iconst 0, 1) := by decide +kernel
theorem d_Opn_newTeller_16 : decode b_Opn_newTeller 16 = .ok (.iconst 1, 1) := by decide +kernel
theorem d_Opn_newTeller_17 : decode b_Opn_newTeller 17 = .ok (.goto 4, 3) := by decide +kernel
theorem d_Opn_beginChunk_64 : decode b_Opn_beginChunk 64 = .ok (.aload_n 0, 1) := by decide +kernel
theorem d_Opn_beginChunk_65 : decode b_Opn_beginChunk 65 = .ok (.aload_n 0, 1) := by decide +kernel
theorem d_Opn_beginChunk_66 : decode b_Opn_beginChunk 66 = .ok (.getfield 44, 3) := by decide +kernel
theorem d_Opn_beginChunk_69 : decode b_Opn_beginChunk 69 = .ok (.getfield 101, 3) := by decide +kernel
theorem d_Opn_beginChunk_72 : decode b_Opn_beginChunk 72 = .ok (.aload_n 0, 1) := by decide +kernel
theorem d_Opn_beginChunk_73 : decode b_Opn_beginChunk 73 = .ok (.getfield 15, 3) := by decide +kernel
theorem d_Opn_beginChunk_76 : decode b_Opn_beginChunk 76 = .ok (.iconst 0, 1) := by decide +kernel
theorem d_Opn_beginChunk_77 : decode b_Opn_beginChunk 77 = .ok (.laload, 1) := by decide +kernel
theorem d_Opn_beginChunk_78 : decode b_Opn_beginChunk 78 = .ok (.l2i, 1) := by decide +kernel
theorem d_Opn_beginChunk_79 : decode b_Opn_beginChunk 79 = .ok (.iadd, 1) := by decide +kernel
theorem d_Opn_beginChunk_80 : decode b_Opn_beginChunk 80 = .ok (.putfield 216, 3) := by decide +kernel
theorem d_Opn_beginChunk_83 : decode b_Opn_beginChunk 83 = .ok (.aload_n 0, 1) := by decide +kernel
theorem d_Opn_beginChunk_84 : decode b_Opn_beginChunk 84 = .ok (.iconst 0, 1) := by decide +kernel
theorem d_Opn_beginChunk_85 : decode b_Opn_beginChunk 85 = .ok (.putfield 246, 3) := by decide +kernel
theorem d_Opn_beginChunk_88 : decode b_Opn_beginChunk 88 = .ok (.iload_n 3, 1) := by decide +kernel
theorem d_Opn_beginChunk_89 : decode b_Opn_beginChunk 89 = .ok (.ireturn, 1) := by decide +kernel
theorem d_Opn_beginChunk_38 : decode b_Opn_beginChunk 38 = .ok (.bipush 22, 2) := by decide +kernel
theorem d_Opn_beginChunk_40 : decode b_Opn_beginChunk 40 = .ok (.invokevirtual 95, 3) := by decide +kernel
theorem d_Opn_beginChunk_43 : decode b_Opn_beginChunk 43 = .ok (.aload_n 0, 1) := by decide +kernel
theorem d_Opn_beginChunk_44 : decode b_Opn_beginChunk 44 = .ok (.getfield 44, 3) := by decide +kernel
theorem d_Opn_beginChunk_47 : decode b_Opn_beginChunk 47 = .ok (.getfield 107, 3) := by decide +kernel
theorem d_Opn_beginChunk_50 : decode b_Opn_beginChunk 50 = .ok (.ifCond .ne 14, 3) := by decide +kernel
theorem d_Opn_beginChunk_53 : decode b_Opn_beginChunk 53 = .ok (.aload_n 0, 1) := by decide +kernel
theorem d_Opn_beginChunk_54 : decode b_Opn_beginChunk 54 = .ok (.getfield 25, 3) := by decide +kernel
theorem d_Opn_beginChunk_57 : decode b_Opn_beginChunk 57 = .ok (.getfield 243, 3) := by decide +kernel
theorem d_Opn_beginChunk_60 : decode b_Opn_beginChunk 60 = .ok (.iload 4, 2) := by decide +kernel
theorem d_Opn_beginChunk_62 : decode b_Opn_beginChunk 62 = .ok (.iload_n 3, 1) := by decide +kernel
theorem d_Opn_beginChunk_63 : decode b_Opn_beginChunk 63 = .ok (.iastore, 1) := by decide +kernel
theorem d_Opn_beginChunk_0 : decode b_Opn_beginChunk 0 = .ok (.aload_n 0, 1) := by decide +kernel
theorem d_Opn_beginChunk_1 : decode b_Opn_beginChunk 1 = .ok (.invokevirtual 219, 3) := by decide +kernel
theorem d_Opn_beginChunk_4 : decode b_Opn_beginChunk 4 = .ok (.istore_n 3, 1) := by decide +kernel
theorem d_Opn_beginChunk_5 : decode b_Opn_beginChunk 5 = .ok (.iload_n 1, 1) := by decide +kernel
theorem d_Opn_beginChunk_6 : decode b_Opn_beginChunk 6 = .ok (.aload_n 0, 1) := by decide +kernel
theorem d_Opn_beginChunk_7 : decode b_Opn_beginChunk 7 = .ok (.getfield 25, 3) := by decide +kernel
theorem d_Opn_beginChunk_10 : decode b_Opn_beginChunk 10 = .ok (.getfield 77, 3) := by decide +kernel
theorem d_Opn_beginChunk_13 : decode b_Opn_beginChunk 13 = .ok (.getfield 110, 3) := by decide +kernel
theorem d_Opn_beginChunk_16 : decode b_Opn_beginChunk 16 = .ok (.imul, 1) := by decide +kernel
theorem d_Opn_beginChunk_17 : decode b_Opn_beginChunk 17 = .ok (.iload_n 2, 1) := by decide +kernel
theorem d_Opn_beginChunk_18 : decode b_Opn_beginChunk 18 = .ok (.iadd, 1) := by decide +kernel
theorem d_Opn_beginChunk_19 : decode b_Opn_beginChunk 19 = .ok (.istore 4, 2) := by decide +kernel
theorem d_Opn_beginChunk_21 : decode b_Opn_beginChunk 21 = .ok (.aload_n 0, 1) := by decide +kernel
theorem d_Opn_beginChunk_22 : decode b_Opn_beginChunk 22 = .ok (.getfield 44, 3) := by decide +kernel
theorem d_Opn_beginChunk_25 : decode b_Opn_beginChunk 25 = .ok (.iload 4, 2) := by decide +kernel
theorem d_Opn_beginChunk_27 : decode b_Opn_beginChunk 27 = .ok (.sipush 6000, 3) := by decide +kernel
theorem d_Opn_beginChunk_30 : decode b_Opn_beginChunk 30 = .ok (.if_icmp .ge 7, 3) := by decide +kernel
theorem d_Opn_beginChunk_37 : decode b_Opn_beginChunk 37 = .ok (.iconst 0, 1) := by decide +kernel
theorem d_Opn_beginChunk_33 : decode b_Opn_beginChunk 33 = .ok (.iconst 1, 1) := by decide +kernel
theorem d_Opn_beginChunk_34 : decode b_Opn_beginChunk 34 = .ok (.goto 4, 3) := by decide +kernel
theorem d_Src_narrow_24 : decode b_Src_narrow 24 = .ok (.iload_n 3, 1) := by decide +kernel
theorem d_Src_narrow_25 : decode b_Src_narrow 25 = .ok (.ireturn, 1) := by decide +kernel
theorem d_Src_narrow_0 : decode b_Src_narrow 0 = .ok (.aload_n 0, 1) := by decide +kernel
theorem d_Src_narrow_1 : decode b_Src_narrow 1 = .ok (.getfield 29, 3) := by decide +kernel
theorem d_Src_narrow_4 : decode b_Src_narrow 4 = .ok (.istore_n 3, 1) := by decide +kernel
theorem d_Src_narrow_5 : decode b_Src_narrow 5 = .ok (.aload_n 0, 1) := by decide +kernel
theorem d_Src_narrow_6 : decode b_Src_narrow 6 = .ok (.lload_n 1, 1) := by decide +kernel
theorem d_Src_narrow_7 : decode b_Src_narrow 7 = .ok (.invokevirtual 35, 3) := by decide +kernel
theorem d_Src_narrow_10 : decode b_Src_narrow 10 = .ok (.ifCond .eq 14, 3) := by decide +kernel
theorem d_Src_narrow_13 : decode b_Src_narrow 13 = .ok (.aload_n 0, 1) := by decide +kernel
theorem d_Src_narrow_14 : decode b_Src_narrow 14 = .ok (.aload_n 0, 1) := by decide +kernel
theorem d_Src_narrow_15 : decode b_Src_narrow 15 = .ok (.getfield 19, 3) := by decide +kernel
theorem d_Src_narrow_18 : decode b_Src_narrow 18 = .ok (.lload_n 1, 1) := by decide +kernel
theorem d_Src_narrow_19 : decode b_Src_narrow 19 = .ok (.l2i, 1) := by decide +kernel
theorem d_Src_narrow_20 : decode b_Src_narrow 20 = .ok (.iadd, 1) := by decide +kernel
theorem d_Src_narrow_21 : decode b_Src_narrow 21 = .ok (.putfield 29, 3) := by decide +kernel
theorem d_Opn_readPageHead_269 : decode b_Opn_readPageHead 269 = .ok (.iload 7, 2) := by decide +kernel
theorem d_Opn_readPageHead_271 : decode b_Opn_readPageHead 271 = .ok (.ireturn, 1) := by decide +kernel
theorem d_Opn_readPageHead_241 : decode b_Opn_readPageHead 241 = .ok (.bipush 8, 2) := by decide +kernel
theorem d_Opn_readPageHead_243 : decode b_Opn_readPageHead 243 = .ok (.invokevirtual 95, 3) := by decide +kernel
theorem d_Opn_readPageHead_246 : decode b_Opn_readPageHead 246 = .ok (.aload_n 0, 1) := by decide +kernel
theorem d_Opn_readPageHead_247 : decode b_Opn_readPageHead 247 = .ok (.getfield 25, 3) := by decide +kernel
theorem d_Opn_readPageHead_250 : decode b_Opn_readPageHead 250 = .ok (.getfield 234, 3) := by decide +kernel
theorem d_Opn_readPageHead_253 : decode b_Opn_readPageHead 253 = .ok (.iload_n 2, 1) := by decide +kernel
theorem d_Opn_readPageHead_254 : decode b_Opn_readPageHead 254 = .ok (.lload_n 3, 1) := by decide +kernel
theorem d_Opn_readPageHead_255 : decode b_Opn_readPageHead 255 = .ok (.l2i, 1) := by decide +kernel
theorem d_Opn_readPageHead_256 : decode b_Opn_readPageHead 256 = .ok (.iastore, 1) := by decide +kernel
theorem d_Opn_readPageHead_257 : decode b_Opn_readPageHead 257 = .ok (.aload_n 0, 1) := by decide +kernel
theorem d_Opn_readPageHead_258 : decode b_Opn_readPageHead 258 = .ok (.getfield 25, 3) := by decide +kernel
theorem d_Opn_readPageHead_261 : decode b_Opn_readPageHead 261 = .ok (.getfield 237, 3) := by decide +kernel
theorem d_Opn_readPageHead_264 : decode b_Opn_readPageHead 264 = .ok (.iload_n 2, 1) := by decide +kernel
theorem d_Opn_readPageHead_265 : decode b_Opn_readPageHead 265 = .ok (.lload 5, 2) := by decide +kernel
theorem d_Opn_readPageHead_267 : decode b_Opn_readPageHead 267 = .ok (.l2i, 1) := by decide +kernel
theorem d_Opn_readPageHead_268 : decode b_Opn_readPageHead 268 = .ok (.iastore, 1) := by decide +kernel
theorem d_Opn_readPageHead_163 : decode b_Opn_readPageHead 163 = .ok (.aload_n 0, 1) := by decide +kernel
theorem d_Opn_readPageHead_164 : decode b_Opn_readPageHead 164 = .ok (.getfield 44, 3) := by decide +kernel
theorem d_Opn_readPageHead_167 : decode b_Opn_readPageHead 167 = .ok (.invokevirtual 85, 3) := by decide +kernel
theorem d_Opn_readPageHead_170 : decode b_Opn_readPageHead 170 = .ok (.lstore 8, 2) := by decide +kernel
theorem d_Opn_readPageHead_172 : decode b_Opn_readPageHead 172 = .ok (.aload_n 0, 1) := by decide +kernel
theorem d_Opn_readPageHead_173 : decode b_Opn_readPageHead 173 = .ok (.getfield 44, 3) := by decide +kernel
theorem d_Opn_readPageHead_176 : decode b_Opn_readPageHead 176 = .ok (.iconst 4, 1) := by decide +kernel
theorem d_Opn_readPageHead_177 : decode b_Opn_readPageHead 177 = .ok (.invokevirtual 69, 3) := by decide +kernel
theorem d_Opn_readPageHead_180 : decode b_Opn_readPageHead 180 = .ok (.l2i, 1) := by decide +kernel
theorem d_Opn_readPageHead_181 : decode b_Opn_readPageHead 181 = .ok (.istore 10, 2) := by decide +kernel
theorem d_Opn_readPageHead_183 : decode b_Opn_readPageHead 183 = .ok (.aload_n 0, 1) := by decide +kernel
theorem d_Opn_readPageHead_184 : decode b_Opn_readPageHead 184 = .ok (.getfield 44, 3) := by decide +kernel
theorem d_Opn_readPageHead_187 : decode b_Opn_readPageHead 187 = .ok (.lload 8, 2) := by decide +kernel
theorem d_Opn_readPageHead_189 : decode b_Opn_readPageHead 189 = .ok (.invokevirtual 293, 3) := by decide +kernel
theorem d_Opn_readPageHead_192 : decode b_Opn_readPageHead 192 = .ok (.pop, 1) := by decide +kernel
theorem d_Opn_readPageHead_193 : decode b_Opn_readPageHead 193 = .ok (.aload_n 0, 1) := by decide +kernel
theorem d_Opn_readPageHead_194 : decode b_Opn_readPageHead 194 = .ok (.getfield 44, 3) := by decide +kernel
theorem d_Opn_readPageHead_197 : decode b_Opn_readPageHead 197 = .ok (.getfield 107, 3) := by decide +kernel
theorem d_Opn_readPageHead_200 : decode b_Opn_readPageHead 200 = .ok (.ifCond .ne 69, 3) := by decide +kernel
theorem d_Opn_readPageHead_203 : decode b_Opn_readPageHead 203 = .ok (.aload_n 0, 1) := by decide +kernel
theorem d_Opn_readPageHead_204 : decode b_Opn_readPageHead 204 = .ok (.getfield 44, 3) := by decide +kernel
theorem d_Opn_readPageHead_207 : decode b_Opn_readPageHead 207 = .ok (.iload 10, 2) := by decide +kernel
theorem d_Opn_readPageHead_209 : decode b_Opn_readPageHead 209 = .ok (.aload_n 0, 1) := by decide +kernel
theorem d_Opn_readPageHead_210 : decode b_Opn_readPageHead 210 = .ok (.getfield 25, 3) := by decide +kernel
theorem d_Opn_readPageHead_213 : decode b_Opn_readPageHead 213 = .ok (.getfield 31, 3) := by decide +kernel
theorem d_Opn_readPageHead_216 : decode b_Opn_readPageHead 216 = .ok (.aload_n 0, 1) := by decide +kernel
theorem d_Opn_readPageHead_217 : decode b_Opn_readPageHead 217 = .ok (.getfield 44, 3) := by decide +kernel
theorem d_Opn_readPageHead_220 : decode b_Opn_readPageHead 220 = .ok (.getfield 101, 3) := by decide +kernel
theorem d_Opn_readPageHead_223 : decode b_Opn_readPageHead 223 = .ok (.aload_n 0, 1) := by decide +kernel
theorem d_Opn_readPageHead_224 : decode b_Opn_readPageHead 224 = .ok (.getfield 44, 3) := by decide +kernel
theorem d_Opn_readPageHead_227 : decode b_Opn_readPageHead 227 = .ok (.getfield 130, 3) := by decide +kernel
theorem d_Opn_readPageHead_230 : decode b_Opn_readPageHead 230 = .ok (.invokestatic 73, 3) := by decide +kernel
theorem d_Opn_readPageHead_233 : decode b_Opn_readPageHead 233 = .ok (.if_icmp .ne 7, 3) := by decide +kernel
theorem d_Opn_readPageHead_240 : decode b_Opn_readPageHead 240 = .ok (.iconst 0, 1) := by decide +kernel
theorem d_Opn_readPageHead_236 : decode b_Opn_readPageHead 236 = .ok (.iconst 1, 1) := by decide +kernel
theorem d_Opn_readPageHead_237 : decode b_Opn_readPageHead 237 = .ok (.goto 4, 3) := by decide +kernel
theorem d_Opn_readPageHead_107 : decode b_Opn_readPageHead 107 = .ok (.bipush 7, 2) := by decide +kernel
theorem d_Opn_readPageHead_109 : decode b_Opn_readPageHead 109 = .ok (.invokevirtual 95, 3) := by decide +kernel
theorem d_Opn_readPageHead_112 : decode b_Opn_readPageHead 112 = .ok (.aload_n 0, 1) := by decide +kernel
theorem d_Opn_readPageHead_113 : decode b_Opn_readPageHead 113 = .ok (.getfield 44, 3) := by decide +kernel
theorem d_Opn_readPageHead_116 : decode b_Opn_readPageHead 116 = .ok (.getfield 107, 3) := by decide +kernel
theorem d_Opn_readPageHead_119 : decode b_Opn_readPageHead 119 = .ok (.ifCond .ne 44, 3) := by decide +kernel
theorem d_Opn_readPageHead_122 : decode b_Opn_readPageHead 122 = .ok (.lload 5, 2) := by decide +kernel
theorem d_Opn_readPageHead_124 : decode b_Opn_readPageHead 124 = .ok (.lload_n 3, 1) := by decide +kernel
theorem d_Opn_readPageHead_125 : decode b_Opn_readPageHead 125 = .ok (.lcmp, 1) := by decide +kernel
theorem d_Opn_readPageHead_126 : decode b_Opn_readPageHead 126 = .ok (.ifCond .ge 37, 3) := by decide +kernel
theorem d_Opn_readPageHead_129 : decode b_Opn_readPageHead 129 = .ok (.aload_n 0, 1) := by decide +kernel
theorem d_Opn_readPageHead_130 : decode b_Opn_readPageHead 130 = .ok (.getfield 25, 3) := by decide +kernel
theorem d_Opn_readPageHead_133 : decode b_Opn_readPageHead 133 = .ok (.getfield 287, 3) := by decide +kernel
theorem d_Opn_readPageHead_136 : decode b_Opn_readPageHead 136 = .ok (.iload_n 2, 1) := by decide +kernel
theorem d_Opn_readPageHead_137 : decode b_Opn_readPageHead 137 = .ok (.aload_n 0, 1) := by decide +kernel
theorem d_Opn_readPageHead_138 : decode b_Opn_readPageHead 138 = .ok (.getfield 44, 3) := by decide +kernel
theorem d_Opn_readPageHead_141 : decode b_Opn_readPageHead 141 = .ok (.iload_n 1, 1) := by decide +kernel
theorem d_Opn_readPageHead_142 : decode b_Opn_readPageHead 142 = .ok (.invokevirtual 186, 3) := by decide +kernel
theorem d_Opn_readPageHead_145 : decode b_Opn_readPageHead 145 = .ok (.lastore, 1) := by decide +kernel
theorem d_Opn_readPageHead_146 : decode b_Opn_readPageHead 146 = .ok (.aload_n 0, 1) := by decide +kernel
theorem d_Opn_readPageHead_147 : decode b_Opn_readPageHead 147 = .ok (.getfield 25, 3) := by decide +kernel
theorem d_Opn_readPageHead_150 : decode b_Opn_readPageHead 150 = .ok (.getfield 290, 3) := by decide +kernel
theorem d_Opn_readPageHead_153 : decode b_Opn_readPageHead 153 = .ok (.iload_n 2, 1) := by decide +kernel
theorem d_Opn_readPageHead_154 : decode b_Opn_readPageHead 154 = .ok (.aload_n 0, 1) := by decide +kernel
theorem d_Opn_readPageHead_155 : decode b_Opn_readPageHead 155 = .ok (.getfield 44, 3) := by decide +kernel
theorem d_Opn_readPageHead_158 : decode b_Opn_readPageHead 158 = .ok (.iload_n 1, 1) := by decide +kernel
theorem d_Opn_readPageHead_159 : decode b_Opn_readPageHead 159 = .ok (.invokevirtual 186, 3) := by decide +kernel
theorem d_Opn_readPageHead_162 : decode b_Opn_readPageHead 162 = .ok (.lastore, 1) := by decide +kernel
theorem d_Opn_readPageHead_99 : decode b_Opn_readPageHead 99 = .ok (.if_icmp .gt 7, 3) := by decide +kernel
theorem d_Opn_readPageHead_106 : decode b_Opn_readPageHead 106 = .ok (.iconst 0, 1) := by decide +kernel
theorem d_Opn_readPageHead_102 : decode b_Opn_readPageHead 102 = .ok (.iconst 1, 1) := by decide +kernel
theorem d_Opn_readPageHead_103 : decode b_Opn_readPageHead 103 = .ok (.goto 4, 3) := by decide +kernel
theorem d_Opn_readPageHead_23 : decode b_Opn_readPageHead 23 = .ok (.iconst 3, 1) := by decide +kernel
theorem d_Opn_readPageHead_24 : decode b_Opn_readPageHead 24 = .ok (.invokevirtual 95, 3) := by decide +kernel
theorem d_Opn_readPageHead_27 : decode b_Opn_readPageHead 27 = .ok (.aload_n 0, 1) := by decide +kernel
theorem d_Opn_readPageHead_28 : decode b_Opn_readPageHead 28 = .ok (.getfield 44, 3) := by decide +kernel
theorem d_Opn_readPageHead_31 : decode b_Opn_readPageHead 31 = .ok (.lload_n 3, 1) := by decide +kernel
theorem d_Opn_readPageHead_32 : decode b_Opn_readPageHead 32 = .ok (.ldc2_w 285, 3) := by decide +kernel
theorem d_Opn_readPageHead_35 : decode b_Opn_readPageHead 35 = .ok (.invokestatic 91, 3) := by decide +kernel
theorem d_Opn_readPageHead_38 : decode b_Opn_readPageHead 38 = .ok (.iconst 4, 1) := by decide +kernel
theorem d_Opn_readPageHead_39 : decode b_Opn_readPageHead 39 = .ok (.invokevirtual 95, 3) := by decide +kernel
theorem d_Opn_readPageHead_42 : decode b_Opn_readPageHead 42 = .ok (.aload_n 0, 1) := by decide +kernel
theorem d_Opn_readPageHead_43 : decode b_Opn_readPageHead 43 = .ok (.getfield 44, 3) := by decide +kernel
theorem d_Opn_readPageHead_46 : decode b_Opn_readPageHead 46 = .ok (.invokevirtual 85, 3) := by decide +kernel
theorem d_Opn_readPageHead_49 : decode b_Opn_readPageHead 49 = .ok (.lstore 5, 2) := by decide +kernel
theorem d_Opn_readPageHead_51 : decode b_Opn_readPageHead 51 = .ok (.aload_n 0, 1) := by decide +kernel
theorem d_Opn_readPageHead_52 : decode b_Opn_readPageHead 52 = .ok (.getfield 44, 3) := by decide +kernel
theorem d_Opn_readPageHead_55 : decode b_Opn_readPageHead 55 = .ok (.lload 5, 2) := by decide +kernel
theorem d_Opn_readPageHead_57 : decode b_Opn_readPageHead 57 = .ok (.lload_n 3, 1) := by decide +kernel
theorem d_Opn_readPageHead_58 : decode b_Opn_readPageHead 58 = .ok (.invokestatic 91, 3) := by decide +kernel
theorem d_Opn_readPageHead_61 : decode b_Opn_readPageHead 61 = .ok (.bipush 7, 2) := by decide +kernel
theorem d_Opn_readPageHead_63 : decode b_Opn_readPageHead 63 = .ok (.invokevirtual 95, 3) := by decide +kernel
theorem d_Opn_readPageHead_66 : decode b_Opn_readPageHead 66 = .ok (.aload_n 0, 1) := by decide +kernel
theorem d_Opn_readPageHead_67 : decode b_Opn_readPageHead 67 = .ok (.getfield 44, 3) := by decide +kernel
theorem d_Opn_readPageHead_70 : decode b_Opn_readPageHead 70 = .ok (.invokevirtual 155, 3) := by decide +kernel
theorem d_Opn_readPageHead_73 : decode b_Opn_readPageHead 73 = .ok (.istore 7, 2) := by decide +kernel
theorem d_Opn_readPageHead_75 : decode b_Opn_readPageHead 75 = .ok (.aload_n 0, 1) := by decide +kernel
theorem d_Opn_readPageHead_76 : decode b_Opn_readPageHead 76 = .ok (.getfield 44, 3) := by decide +kernel
theorem d_Opn_readPageHead_79 : decode b_Opn_readPageHead 79 = .ok (.iload 7, 2) := by decide +kernel
theorem d_Opn_readPageHead_81 : decode b_Opn_readPageHead 81 = .ok (.iload_n 1, 1) := by decide +kernel
theorem d_Opn_readPageHead_82 : decode b_Opn_readPageHead 82 = .ok (.ifCond .ne 7, 3) := by decide +kernel
theorem d_Opn_readPageHead_89 : decode b_Opn_readPageHead 89 = .ok (.iload_n 1, 1) := by decide +kernel
theorem d_Opn_readPageHead_90 : decode b_Opn_readPageHead 90 = .ok (.iconst 3, 1) := by decide +kernel
theorem d_Opn_readPageHead_91 : decode b_Opn_readPageHead 91 = .ok (.if_icmp .ne 7, 3) := by decide +kernel
theorem d_Opn_readPageHead_98 : decode b_Opn_readPageHead 98 = .ok (.iconst 2, 1) := by decide +kernel
theorem d_Opn_readPageHead_94 : decode b_Opn_readPageHead 94 = .ok (.iconst 3, 1) := by decide +kernel
theorem d_Opn_readPageHead_95 : decode b_Opn_readPageHead 95 = .ok (.goto 4, 3) := by decide +kernel
theorem d_Opn_readPageHead_85 : decode b_Opn_readPageHead 85 = .ok (.iconst 1, 1) := by decide +kernel
theorem d_Opn_readPageHead_86 : decode b_Opn_readPageHead 86 = .ok (.goto 13, 3) := by decide +kernel
theorem d_Opn_readPageHead_0 : decode b_Opn_readPageHead 0 = .ok (.aload_n 0, 1) := by decide +kernel
theorem d_Opn_readPageHead_1 : decode b_Opn_readPageHead 1 = .ok (.getfield 44, 3) := by decide +kernel
theorem d_Opn_readPageHead_4 : decode b_Opn_readPageHead 4 = .ok (.invokevirtual 85, 3) := by decide +kernel
theorem d_Opn_readPageHead_7 : decode b_Opn_readPageHead 7 = .ok (.lstore_n 3, 1) := by decide +kernel
theorem d_Opn_readPageHead_8 : decode b_Opn_readPageHead 8 = .ok (.aload_n 0, 1) := by decide +kernel
theorem d_Opn_readPageHead_9 : decode b_Opn_readPageHead 9 = .ok (.getfield 44, 3) := by decide +kernel
theorem d_Opn_readPageHead_12 : decode b_Opn_readPageHead 12 = .ok (.lload_n 3, 1) := by decide +kernel
theorem d_Opn_readPageHead_13 : decode b_Opn_readPageHead 13 = .ok (.lconst 0, 1) := by decide +kernel
theorem d_Opn_readPageHead_14 : decode b_Opn_readPageHead 14 = .ok (.lcmp, 1) := by decide +kernel
theorem d_Opn_readPageHead_15 : decode b_Opn_readPageHead 15 = .ok (.ifCond .eq 7, 3) := by decide +kernel
theorem d_Opn_readPageHead_22 : decode b_Opn_readPageHead 22 = .ok (.iconst 0, 1) := by decide +kernel
theorem d_Opn_readPageHead_18 : decode b_Opn_readPageHead 18 = .ok (.iconst 1, 1) := by decide +kernel
theorem d_Opn_readPageHead_19 : decode b_Opn_readPageHead 19 = .ok (.goto 4, 3) := by decide +kernel
theorem d_Src_readSame_52 : decode b_Src_readSame 52 = .ok (.iload 9, 2) := by decide +kernel
theorem d_Src_readSame_54 : decode b_Src_readSame 54 = .ok (.iload 8, 2) := by decide +kernel
theorem d_Src_readSame_56 : decode b_Src_readSame 56 = .ok (.if_icmp .ge 15, 3) := by decide +kernel
theorem d_Src_readSame_71 : decode b_Src_readSame 71 = .ok (.iload 8, 2) := by decide +kernel
theorem d_Src_readSame_73 : decode b_Src_readSame 73 = .ok (.ireturn, 1) := by decide +kernel
theorem d_Src_readSame_59 : decode b_Src_readSame 59 = .ok (.aload_n 1, 1) := by decide +kernel
theorem d_Src_readSame_60 : decode b_Src_readSame 60 = .ok (.iload 9, 2) := by decide +kernel
theorem d_Src_readSame_62 : decode b_Src_readSame 62 = .ok (.lload 6, 2) := by decide +kernel
theorem d_Src_readSame_64 : decode b_Src_readSame 64 = .ok (.lastore, 1) := by decide +kernel
theorem d_Src_readSame_65 : decode b_Src_readSame 65 = .ok (.iinc 9 1, 3) := by decide +kernel
theorem d_Src_readSame_68 : decode b_Src_readSame 68 = .ok (.goto (-16), 3) := by decide +kernel
theorem d_Src_readSame_30 : decode b_Src_readSame 30 = .ok (.iconst 5, 1) := by decide +kernel
theorem d_Src_readSame_31 : decode b_Src_readSame 31 = .ok (.invokevirtual 39, 3) := by decide +kernel
theorem d_Src_readSame_34 : decode b_Src_readSame 34 = .ok (.aload_n 0, 1) := by decide +kernel
theorem d_Src_readSame_35 : decode b_Src_readSame 35 = .ok (.getfield 32, 3) := by decide +kernel
theorem d_Src_readSame_38 : decode b_Src_readSame 38 = .ok (.ifCond .eq 5, 3) := by decide +kernel
theorem d_Src_readSame_43 : decode b_Src_readSame 43 = .ok (.iload_n 2, 1) := by decide +kernel
theorem d_Src_readSame_44 : decode b_Src_readSame 44 = .ok (.lload_n 3, 1) := by decide +kernel
theorem d_Src_readSame_45 : decode b_Src_readSame 45 = .ok (.l2i, 1) := by decide +kernel
theorem d_Src_readSame_46 : decode b_Src_readSame 46 = .ok (.iadd, 1) := by decide +kernel
theorem d_Src_readSame_47 : decode b_Src_readSame 47 = .ok (.istore 8, 2) := by decide +kernel
theorem d_Src_readSame_49 : decode b_Src_readSame 49 = .ok (.iload_n 2, 1) := by decide +kernel
theorem d_Src_readSame_50 : decode b_Src_readSame 50 = .ok (.istore 9, 2) := by decide +kernel
theorem d_Src_readSame_41 : decode b_Src_readSame 41 = .ok (.iload_n 2, 1) := by decide +kernel
theorem d_Src_readSame_42 : decode b_Src_readSame 42 = .ok (.ireturn, 1) := by decide +kernel
theorem d_Src_readSame_0 : decode b_Src_readSame 0 = .ok (.aload_n 0, 1) := by decide +kernel
theorem d_Src_readSame_1 : decode b_Src_readSame 1 = .ok (.iload 5, 2) := by decide +kernel
theorem d_Src_readSame_3 : decode b_Src_readSame 3 = .ok (.bipush 7, 2) := by decide +kernel
theorem d_Src_readSame_5 : decode b_Src_readSame 5 = .ok (.iadd, 1) := by decide +kernel
theorem d_Src_readSame_6 : decode b_Src_readSame 6 = .ok (.bipush 8, 2) := by decide +kernel
theorem d_Src_readSame_8 : decode b_Src_readSame 8 = .ok (.idiv, 1) := by decide +kernel
theorem d_Src_readSame_9 : decode b_Src_readSame 9 = .ok (.invokevirtual 72, 3) := by decide +kernel
theorem d_Src_readSame_12 : decode b_Src_readSame 12 = .ok (.lstore 6, 2) := by decide +kernel
theorem d_Src_readSame_14 : decode b_Src_readSame 14 = .ok (.aload_n 0, 1) := by decide +kernel
theorem d_Src_readSame_15 : decode b_Src_readSame 15 = .ok (.lload 6, 2) := by decide +kernel
theorem d_Src_readSame_17 : decode b_Src_readSame 17 = .ok (.iload 5, 2) := by decide +kernel
theorem d_Src_readSame_19 : decode b_Src_readSame 19 = .ok (.lushr, 1) := by decide +kernel
theorem d_Src_readSame_20 : decode b_Src_readSame 20 = .ok (.lconst 0, 1) := by decide +kernel
theorem d_Src_readSame_21 : decode b_Src_readSame 21 = .ok (.lcmp, 1) := by decide +kernel
theorem d_Src_readSame_22 : decode b_Src_readSame 22 = .ok (.ifCond .ne 7, 3) := by decide +kernel
theorem d_Src_readSame_29 : decode b_Src_readSame 29 = .ok (.iconst 0, 1) := by decide +kernel
theorem d_Src_readSame_25 : decode b_Src_readSame 25 = .ok (.iconst 1, 1) := by decide +kernel
theorem d_Src_readSame_26 : decode b_Src_readSame 26 = .ok (.goto 4, 3) := by decide +kernel
section
variable (l : Launch) (dC : Nat → ClassId) (dI : Nat → Nat → Nat) (cI cB cJ cZ : ClassId)
set_option maxRecDepth 100000 in
set_option maxHeartbeats 4000000 in
set_option maxRecDepth 100000 in
theorem t_Opn_newTeller_46 {p : Program} {l : Launch} {e : Env} {R : Room} {s : State} {m : MethodId} {args : Array Value} {below : List Frame} {meth : Method} {c : Code} {cells slots : Nat} {Q : State → Prop} {dC : Nat → ClassId} {dI : Nat → Nat → Nat} {cI cB cJ cZ : ClassId} {A : Nat → Prop} {ad : Nat → Nat} {NN : Nat} {E : Heap} {tM tC : Nat} {kK kV : Nat → Nat} {post : Int32 → St → Prop} (hx : p.tables.exec = Jvm.exec) (hb : c.code = b_Opn_newTeller) (hml : c.maxLocals = 2) (hown : s.vm.findClass R_Opn = some m.cls) (hT : ∀ w ∈ TG, w.before args s = true) (hK : va_K (dC, dI) CL (TY cI cB cJ cZ) s) (hN : NW s) (hA : ∀ q : Nat, s.heap.size ≤ q → A q) (hRc : cells ≤ R.cells) (hRs : slots ≤ R.slots) (hRf : 1 ≤ R.frames) (hRl : 22 ≤ R.locals) (hNN : 152 ≤ NN) (hE : CE E tM tC kK kV A s) (hret : ∀ (r : Int32) (x : St) (H : Heap) (locs : List Loc) (pc : Nat) (ls : Array Slot), decode b_Opn_newTeller pc = .ok (.ireturn, 1) → post r x → Wd dC dI cI cB cJ cZ ad stC kcC NN A x H → va_S A s.heap H locs → W p l e R s m args below meth c H locs cells slots Q (F0 m pc ls [.int r]))  : ∀ (o : Nat) (l1 : Int32) (x : St) (H : Heap) (locs : List Loc) (ls : Array Slot), (o < NN ∧ kcC o = 7) → j_Opn_newTeller_46 post o l1 x → Wd dC dI cI cB cJ cZ ad stC kcC NN A x H → va_S A s.heap H locs → lv_has ls 2 [(0, .ref (ad o)), (1, .int l1)] → W p l e R s m args below meth c H locs cells slots Q (F0 m 46 ls []) := by
  intro o l1 x H locs ls fo hw hW hS hl
  unfold j_Opn_newTeller_46 at hw
  refine lv_aload_n hx hb d_Opn_newTeller_46 rfl (lv_at hl 0 rfl) ?_
  refine w_getf (q := (stC o 0)) (k := 0) (t := 7) (C := R_Opn) (T := F_Opn) (N := 17) hx hb hT hown hK hW fo.1 fo.2 (by decide) in_Opn rfl rfl (by decide) rfl fr_Opn_0 w_3_15 d_Opn_newTeller_47 rfl ?_
  refine w_getf (q := (stC (stC o 0) 13)) (k := 13) (t := 6) (C := R_Vlt) (T := F_Vlt) (N := 20) hx hb hT hown hK hW (st_ty hNN fo.1 fo.2 rfl).1 (st_ty hNN fo.1 fo.2 rfl).2 (by decide) in_Vlt rfl rfl (by decide) rfl fr_Vlt_13 w_2_163 d_Opn_newTeller_50 rfl ?_
  refine lv_iload_n hx hb d_Opn_newTeller_53 rfl (lv_at hl 1 rfl) ?_
  refine lv_aload_n hx hb d_Opn_newTeller_54 rfl (lv_at hl 0 rfl) ?_
  refine w_getf (q := (stC o 0)) (k := 0) (t := 7) (C := R_Opn) (T := F_Opn) (N := 17) hx hb hT hown hK hW fo.1 fo.2 (by decide) in_Opn rfl rfl (by decide) rfl fr_Opn_0 w_3_15 d_Opn_newTeller_55 rfl ?_
  refine w_geti (k := 4) (t := 6) (C := R_Vlt) (T := F_Vlt) (N := 20) hx hb hT hown hK hW (st_ty hNN fo.1 fo.2 rfl).1 (st_ty hNN fo.1 fo.2 rfl).2 (by decide) in_Vlt rfl rfl (by decide) rfl fr_Vlt_4 w_2_133 d_Opn_newTeller_58 ?_
  obtain ⟨hi, hw⟩ := hw
  refine w_iast (o := (stC (stC o 0) 13)) hx hb hK hW hS (st_ty hNN (st_ty hNN fo.1 fo.2 rfl).1 (st_ty hNN fo.1 fo.2 rfl).2 rfl).1 (st_ty hNN (st_ty hNN fo.1 fo.2 rfl).1 (st_ty hNN fo.1 fo.2 rfl).2 rfl).2 hi d_Opn_newTeller_61 (fun H locs hW hS => ?_)
  obtain ⟨x1, ex1⟩ : ∃ y : St, y = setA x (stC (stC o 0) 13) l1 (fI x (stC o 0) 4) := ⟨_, rfl⟩
  rw [← ex1] at hW
  have hw := hw x1 ex1
  refine lv_aload_n hx hb d_Opn_newTeller_62 rfl (lv_at hl 0 rfl) ?_
  refine w_getf (q := (stC o 0)) (k := 0) (t := 7) (C := R_Opn) (T := F_Opn) (N := 17) hx hb hT hown hK hW fo.1 fo.2 (by decide) in_Opn rfl rfl (by decide) rfl fr_Opn_0 w_3_15 d_Opn_newTeller_63 rfl ?_
  refine w_getf (q := (stC (stC o 0) 14)) (k := 14) (t := 6) (C := R_Vlt) (T := F_Vlt) (N := 20) hx hb hT hown hK hW (st_ty hNN fo.1 fo.2 rfl).1 (st_ty hNN fo.1 fo.2 rfl).2 (by decide) in_Vlt rfl rfl (by decide) rfl fr_Vlt_14 w_2_166 d_Opn_newTeller_66 rfl ?_
  refine lv_iload_n hx hb d_Opn_newTeller_69 rfl (lv_at hl 1 rfl) ?_
  refine lv_iconst (v := 0) hx hb d_Opn_newTeller_70 (by decide) ?_
  obtain ⟨hi, hw⟩ := hw
  refine w_iast (o := (stC (stC o 0) 14)) hx hb hK hW hS (st_ty hNN (st_ty hNN fo.1 fo.2 rfl).1 (st_ty hNN fo.1 fo.2 rfl).2 rfl).1 (st_ty hNN (st_ty hNN fo.1 fo.2 rfl).1 (st_ty hNN fo.1 fo.2 rfl).2 rfl).2 hi d_Opn_newTeller_71 (fun H locs hW hS => ?_)
  obtain ⟨x2, ex2⟩ : ∃ y : St, y = setA x1 (stC (stC o 0) 14) l1 0 := ⟨_, rfl⟩
  rw [← ex2] at hW
  have hw := hw x2 ex2
  refine lv_aload_n hx hb d_Opn_newTeller_72 rfl (lv_at hl 0 rfl) ?_
  refine w_getf (q := (stC o 0)) (k := 0) (t := 7) (C := R_Opn) (T := F_Opn) (N := 17) hx hb hT hown hK hW fo.1 fo.2 (by decide) in_Opn rfl rfl (by decide) rfl fr_Opn_0 w_3_15 d_Opn_newTeller_73 rfl ?_
  refine w_getf (q := (stC (stC o 0) 15)) (k := 15) (t := 6) (C := R_Vlt) (T := F_Vlt) (N := 20) hx hb hT hown hK hW (st_ty hNN fo.1 fo.2 rfl).1 (st_ty hNN fo.1 fo.2 rfl).2 (by decide) in_Vlt rfl rfl (by decide) rfl fr_Vlt_15 w_2_169 d_Opn_newTeller_76 rfl ?_
  refine lv_iload_n hx hb d_Opn_newTeller_79 rfl (lv_at hl 1 rfl) ?_
  refine lv_iconst (v := 0) hx hb d_Opn_newTeller_80 (by decide) ?_
  obtain ⟨hi, hw⟩ := hw
  refine w_iast (o := (stC (stC o 0) 15)) hx hb hK hW hS (st_ty hNN (st_ty hNN fo.1 fo.2 rfl).1 (st_ty hNN fo.1 fo.2 rfl).2 rfl).1 (st_ty hNN (st_ty hNN fo.1 fo.2 rfl).1 (st_ty hNN fo.1 fo.2 rfl).2 rfl).2 hi d_Opn_newTeller_81 (fun H locs hW hS => ?_)
  obtain ⟨x3, ex3⟩ : ∃ y : St, y = setA x2 (stC (stC o 0) 15) l1 0 := ⟨_, rfl⟩
  rw [← ex3] at hW
  have hw := hw x3 ex3
  refine lv_aload_n hx hb d_Opn_newTeller_82 rfl (lv_at hl 0 rfl) ?_
  refine w_getf (q := (stC o 0)) (k := 0) (t := 7) (C := R_Opn) (T := F_Opn) (N := 17) hx hb hT hown hK hW fo.1 fo.2 (by decide) in_Opn rfl rfl (by decide) rfl fr_Opn_0 w_3_15 d_Opn_newTeller_83 rfl ?_
  refine w_getf (q := (stC (stC o 0) 18)) (k := 18) (t := 6) (C := R_Vlt) (T := F_Vlt) (N := 20) hx hb hT hown hK hW (st_ty hNN fo.1 fo.2 rfl).1 (st_ty hNN fo.1 fo.2 rfl).2 (by decide) in_Vlt rfl rfl (by decide) rfl fr_Vlt_18 w_2_178 d_Opn_newTeller_86 rfl ?_
  refine lv_iload_n hx hb d_Opn_newTeller_89 rfl (lv_at hl 1 rfl) ?_
  refine lv_iconst (v := (-1)) hx hb d_Opn_newTeller_90 (by decide) ?_
  obtain ⟨hi, hw⟩ := hw
  refine w_iast (o := (stC (stC o 0) 18)) hx hb hK hW hS (st_ty hNN (st_ty hNN fo.1 fo.2 rfl).1 (st_ty hNN fo.1 fo.2 rfl).2 rfl).1 (st_ty hNN (st_ty hNN fo.1 fo.2 rfl).1 (st_ty hNN fo.1 fo.2 rfl).2 rfl).2 hi d_Opn_newTeller_91 (fun H locs hW hS => ?_)
  obtain ⟨x4, ex4⟩ : ∃ y : St, y = setA x3 (stC (stC o 0) 18) l1 (-1) := ⟨_, rfl⟩
  rw [← ex4] at hW
  have hw := hw x4 ex4
  refine lv_iload_n hx hb d_Opn_newTeller_92 rfl (lv_at hl 1 rfl) ?_
  exact hret l1 x4 H locs 93 ls d_Opn_newTeller_93 hw hW hS
set_option maxRecDepth 100000 in
set_option maxHeartbeats 4000000 in
set_option maxRecDepth 100000 in
theorem t_Opn_newTeller_21 {p : Program} {l : Launch} {e : Env} {R : Room} {s : State} {m : MethodId} {args : Array Value} {below : List Frame} {meth : Method} {c : Code} {cells slots : Nat} {Q : State → Prop} {dC : Nat → ClassId} {dI : Nat → Nat → Nat} {cI cB cJ cZ : ClassId} {A : Nat → Prop} {ad : Nat → Nat} {NN : Nat} {E : Heap} {tM tC : Nat} {kK kV : Nat → Nat} {post : Int32 → St → Prop} (hx : p.tables.exec = Jvm.exec) (hb : c.code = b_Opn_newTeller) (hml : c.maxLocals = 2) (hown : s.vm.findClass R_Opn = some m.cls) (hT : ∀ w ∈ TG, w.before args s = true) (hK : va_K (dC, dI) CL (TY cI cB cJ cZ) s) (hN : NW s) (hA : ∀ q : Nat, s.heap.size ≤ q → A q) (hRc : cells ≤ R.cells) (hRs : slots ≤ R.slots) (hRf : 1 ≤ R.frames) (hRl : 22 ≤ R.locals) (hNN : 152 ≤ NN) (hE : CE E tM tC kK kV A s) (hret : ∀ (r : Int32) (x : St) (H : Heap) (locs : List Loc) (pc : Nat) (ls : Array Slot), decode b_Opn_newTeller pc = .ok (.ireturn, 1) → post r x → Wd dC dI cI cB cJ cZ ad stC kcC NN A x H → va_S A s.heap H locs → W p l e R s m args below meth c H locs cells slots Q (F0 m pc ls [.int r]))  : ∀ (o : Nat) (l1 : Int32) (s0 : Int32) (s1 : Nat) (x : St) (H : Heap) (locs : List Loc) (ls : Array Slot), (o < NN ∧ kcC o = 7) → (s1 < NN ∧ kcC s1 = 8) → j_Opn_newTeller_21 post o l1 s0 s1 x → Wd dC dI cI cB cJ cZ ad stC kcC NN A x H → va_S A s.heap H locs → lv_has ls 2 [(0, .ref (ad o)), (1, .int l1)] → W p l e R s m args below meth c H locs cells slots Q (F0 m 21 ls [.int s0, .ref (ad s1)]) := by
  intro o l1 s0 s1 x H locs ls fo fs1 hw hW hS hl
  unfold j_Opn_newTeller_21 at hw
  refine lv_bipush (v := 22) hx hb d_Opn_newTeller_21 (by decide) ?_
  have hF := hW.free hS hA
  refine va_callv (va_runV (C := R_Src) (As := [.int s0, .int 22]) (rest := []) ⟨hx, hb, hml, hown, hT⟩ (k_Src_check l dC dI cI cB cJ cZ ad NN E tM tC kK kV hNN H.size s1 s0 22 x fs1 hw) ⟨callB_of 2 hT (gwt_in w_6_116) rfl rfl rfl (hT _ w_1_11) (hT _ w_6_113) (by decide +kernel) ⟨Nat.le_trans (Nat.le_of_ble_eq_true rfl) hRf, Nat.le_trans (Nat.le_of_ble_eq_true rfl) hRl⟩, hT _ w_6_114, hT _ w_6_115⟩ ⟨PVc.blind, va_recv hK hW.1 (ci := 8) (q0 := s1) rfl (pic_obj fs1.1 fs1.2 (by decide)), PVc.at _ hW hK hN hE hS hF⟩ rfl rfl hl.1 rfl (lv_room (Nat.le_of_ble_eq_true rfl)) d_Opn_newTeller_23 ⟨hRc, hRs⟩) hS (fun q _ h => hF q h) hF (fun  x5 t H locs ht hvm hw hB hz1 hk1 hS => ?_)
  have hW := Wd.back hB ht hF
  clear hB ht hF hz1 hk1 hvm
  refine lv_aload_n hx hb d_Opn_newTeller_26 rfl (lv_at hl 0 rfl) ?_
  refine w_getf (q := (stC o 2)) (k := 2) (t := 7) (C := R_Opn) (T := F_Opn) (N := 17) hx hb hT hown hK hW fo.1 fo.2 (by decide) in_Opn rfl rfl (by decide) rfl fr_Opn_2 w_3_17 d_Opn_newTeller_27 rfl ?_
  refine w_geti (k := 3) (t := 8) (C := R_Src) (T := F_Src) (N := 5) hx hb hT hown hK hW (st_ty hNN fo.1 fo.2 rfl).1 (st_ty hNN fo.1 fo.2 rfl).2 (by decide) in_Src rfl rfl (by decide) rfl fr_Src_3 w_3_2 d_Opn_newTeller_30 ?_
  refine lv_if_ne (tgt := 46) hx hb d_Opn_newTeller_33 (by decide) (fun c6 => ?_) (fun c6 => ?_)
  · have hw := hw.1 c6
    exact t_Opn_newTeller_46 hx hb hml hown hT hK hN hA hRc hRs hRf hRl hNN hE hret  o l1 x5 H locs ls fo hw hW hS (lv_sub hl [0, 1] rfl)
  · have hw := hw.2 c6
    refine lv_aload_n hx hb d_Opn_newTeller_36 rfl (lv_at hl 0 rfl) ?_
    refine lv_dup hx hb d_Opn_newTeller_37 rfl ?_
    refine w_geti (k := 10) (t := 7) (C := R_Opn) (T := F_Opn) (N := 17) hx hb hT hown hK hW fo.1 fo.2 (by decide) in_Opn rfl rfl (by decide) rfl fr_Opn_10 w_3_26 d_Opn_newTeller_38 ?_
    refine lv_iconst (v := 1) hx hb d_Opn_newTeller_41 (by decide) ?_
    refine lv_iadd hx hb d_Opn_newTeller_42 ?_
    refine w_puti (ty := .int) (k := 10) (t := 7) (C := R_Opn) (T := F_Opn) (N := 17) hx hb hT hown hK hW hS fo.1 fo.2 (by decide) in_Opn t_Opn t_Opn_ok n_Opn rfl rfl (by decide) rfl fr_Opn_10 w_3_26 (by decide +kernel) rfl rfl d_Opn_newTeller_43 (fun H locs hW hS => ?_)
    obtain ⟨x7, ex7⟩ : ∃ y : St, y = setI x5 o 10 ((fI x5 o 10) + 1) := ⟨_, rfl⟩
    rw [← ex7] at hW
    have hw := hw x7 ex7
    exact t_Opn_newTeller_46 hx hb hml hown hT hK hN hA hRc hRs hRf hRl hNN hE hret  o l1 x7 H locs ls fo hw hW hS (lv_sub hl [0, 1] rfl)
set_option maxRecDepth 100000 in
set_option maxHeartbeats 4000000 in
set_option maxRecDepth 100000 in
theorem t_Opn_newTeller_e {p : Program} {l : Launch} {e : Env} {R : Room} {s : State} {m : MethodId} {args : Array Value} {below : List Frame} {meth : Method} {c : Code} {cells slots : Nat} {Q : State → Prop} {dC : Nat → ClassId} {dI : Nat → Nat → Nat} {cI cB cJ cZ : ClassId} {A : Nat → Prop} {ad : Nat → Nat} {NN : Nat} {E : Heap} {tM tC : Nat} {kK kV : Nat → Nat} {post : Int32 → St → Prop} (hx : p.tables.exec = Jvm.exec) (hb : c.code = b_Opn_newTeller) (hml : c.maxLocals = 2) (hown : s.vm.findClass R_Opn = some m.cls) (hT : ∀ w ∈ TG, w.before args s = true) (hK : va_K (dC, dI) CL (TY cI cB cJ cZ) s) (hN : NW s) (hA : ∀ q : Nat, s.heap.size ≤ q → A q) (hRc : cells ≤ R.cells) (hRs : slots ≤ R.slots) (hRf : 1 ≤ R.frames) (hRl : 22 ≤ R.locals) (hNN : 152 ≤ NN) (hE : CE E tM tC kK kV A s) (hret : ∀ (r : Int32) (x : St) (H : Heap) (locs : List Loc) (pc : Nat) (ls : Array Slot), decode b_Opn_newTeller pc = .ok (.ireturn, 1) → post r x → Wd dC dI cI cB cJ cZ ad stC kcC NN A x H → va_S A s.heap H locs → W p l e R s m args below meth c H locs cells slots Q (F0 m pc ls [.int r])) : ∀ (o : Nat) (x : St) (H : Heap) (locs : List Loc) (ls : Array Slot), (o < NN ∧ kcC o = 7) → wp_Opn_newTeller post o x → Wd dC dI cI cB cJ cZ ad stC kcC NN A x H → va_S A s.heap H locs → lv_has ls 2 [(0, .ref (ad o))] → W p l e R s m args below meth c H locs cells slots Q (F0 m 0 ls []) := by
  intro o x H locs ls fo hw hW hS hl
  unfold wp_Opn_newTeller at hw
  refine lv_aload_n hx hb d_Opn_newTeller_0 rfl (lv_at hl 0 rfl) ?_
  refine w_geti (k := 10) (t := 7) (C := R_Opn) (T := F_Opn) (N := 17) hx hb hT hown hK hW fo.1 fo.2 (by decide) in_Opn rfl rfl (by decide) rfl fr_Opn_10 w_3_26 d_Opn_newTeller_1 ?_
  refine lv_topi (fun v8 ev8 => ?_)
  have hw := hw v8 ev8
  refine lv_istore_n (lv' := [(1, .int v8), (0, .ref (ad o))]) hx hb d_Opn_newTeller_4 rfl hl (by decide) rfl (fun ls hl => ?_)
  refine lv_aload_n hx hb d_Opn_newTeller_5 rfl (lv_at hl 1 rfl) ?_
  refine w_getf (q := (stC o 2)) (k := 2) (t := 7) (C := R_Opn) (T := F_Opn) (N := 17) hx hb hT hown hK hW fo.1 fo.2 (by decide) in_Opn rfl rfl (by decide) rfl fr_Opn_2 w_3_17 d_Opn_newTeller_6 rfl ?_
  refine lv_iload_n hx hb d_Opn_newTeller_9 rfl (lv_at hl 0 rfl) ?_
  refine lv_sipush (v := 5999) hx hb d_Opn_newTeller_10 (by decide) ?_
  refine lv_icmp_ge (tgt := 20) hx hb d_Opn_newTeller_13 (by decide) (fun c9 => ?_) (fun c9 => ?_)
  · have hw := hw.1 c9
    refine lv_iconst (v := 0) hx hb d_Opn_newTeller_20 (by decide) ?_
    exact t_Opn_newTeller_21 hx hb hml hown hT hK hN hA hRc hRs hRf hRl hNN hE hret  o v8 0 (stC o 2) x H locs ls fo (st_ty hNN fo.1 fo.2 rfl) hw hW hS (lv_sub hl [1, 0] rfl)
  · have hw := hw.2 c9
    refine lv_iconst (v := 1) hx hb d_Opn_newTeller_16 (by decide) ?_
    refine lv_goto (tgt := 21) hx hb d_Opn_newTeller_17 (by decide) ?_
    exact t_Opn_newTeller_21 hx hb hml hown hT hK hN hA hRc hRs hRf hRl hNN hE hret  o v8 1 (stC o 2) x H locs ls fo (st_ty hNN fo.1 fo.2 rfl) hw hW hS (lv_sub hl [1, 0] rfl)
set_option maxHeartbeats 4000000 in
set_option maxRecDepth 100000 in
theorem k_Opn_newTeller (l : Launch) (dC : Nat → ClassId) (dI : Nat → Nat → Nat) (cI cB cJ cZ : ClassId) (ad : Nat → Nat) (NN : Nat) (E : Heap) (tM tC : Nat) (kK kV : Nat → Nat) (hNN : 152 ≤ NN) (sz : Nat) (o : Nat) (x : St) (fo : o < NN ∧ kcC o = 7) {post : Int32 → St → Prop} (hw : wp_Opn_newTeller post o x) : Met l y_Opn_newTeller (wsOf y_Opn_newTeller b_Opn_newTeller 2 (some (.int))) ({ frames := 1, cells := 0, slots := 0, locals := 22 }) (va_Pc [.ref (ad o)] (PVc dC dI cI cB cJ cZ ad stC kcC NN E tM tC kK kV sz x)) (va_Qi (fun (r : Int32) (y : St) => post r y) (fun y t => Wd dC dI cI cB cJ cZ ad stC kcC NN (va_A (pic ad stC kcC NN cI cB cJ cZ x) sz) y t.heap) (va_A (pic ad stC kcC NN cI cB cJ cZ x) sz)) 0 0 (va_A (pic ad stC kcC NN cI cB cJ cZ x) sz) := by
  refine Met.ofW (cc := b_Opn_newTeller) (maxL := 2) (ret := some (.int)) (by decide) rfl ?_
  intro p e s m args below meth c s₁ B hml hv
  obtain ⟨rfl, ⟨hsz, hW0, hK, hN⟩, hE⟩ := hv
  have hx := B.exec
  have hb := B.bytes
  have hr := B.returns
  have hts := atoms_spec B.pre
  have hT : ∀ w ∈ TG, w.before _ s = true := fun w h => hts w (List.mem_cons_of_mem _ h)
  have hown : s.vm.findClass R_Opn = some m.cls := findClass_of_methodNamed B.named
  have hlocks := B.notSynchronized
  subst hsz
  have hW : Wd dC dI cI cB cJ cZ ad stC kcC NN (va_A (pic ad stC kcC NN cI cB cJ cZ x) s.heap.size) x s.heap := ⟨hW0.1, hW0.2.1.self (sz := s.heap.size), hW0.2.2⟩
  generalize hAe : va_A (pic ad stC kcC NN cI cB cJ cZ x) s.heap.size = A at hW hE ⊢
  have hA : ∀ q : Nat, s.heap.size ≤ q → A q := fun q h => by rw [← hAe]; exact Or.inr h
  have hS : va_S A s.heap s.heap [] := va_S.rf
  have hl := lv_entry ([.ref (ad o)]) (n := 2) (Nat.le_of_ble_eq_true rfl)
  rw [lg_entry_eq]
  generalize (lg_sl ([.ref (ad o)]) ++ List.replicate (2 - (lg_sl ([.ref (ad o)])).length) Slot.unset).toArray = ls at hl ⊢
  have hl : lv_has ls 2 [(0, .ref (ad o))] := hl
  exact t_Opn_newTeller_e hx hb hml hown hT hK hN hA (Nat.le_refl 0) (Nat.le_refl 0) (Nat.le_refl 1) (Nat.le_refl 22) hNN hE (fun r x H locs pc ls hd hp hW hS => W.iret (v := r) hx hb hr (fun t ht hM => ⟨⟨r, x, rfl, hp, Wd.back hW ht.symm (fun _ z => z)⟩, hS.F ht⟩) hS.2.2 hd hlocks)  o x _ _ ls fo hw hW hS hl
set_option maxRecDepth 100000 in
set_option maxHeartbeats 4000000 in
set_option maxRecDepth 100000 in
theorem t_Opn_beginChunk_64 {p : Program} {l : Launch} {e : Env} {R : Room} {s : State} {m : MethodId} {args : Array Value} {below : List Frame} {meth : Method} {c : Code} {cells slots : Nat} {Q : State → Prop} {dC : Nat → ClassId} {dI : Nat → Nat → Nat} {cI cB cJ cZ : ClassId} {A : Nat → Prop} {ad : Nat → Nat} {NN : Nat} {E : Heap} {tM tC : Nat} {kK kV : Nat → Nat} {post : Int32 → St → Prop} (hx : p.tables.exec = Jvm.exec) (hb : c.code = b_Opn_beginChunk) (hml : c.maxLocals = 5) (hown : s.vm.findClass R_Opn = some m.cls) (hT : ∀ w ∈ TG, w.before args s = true) (hK : va_K (dC, dI) CL (TY cI cB cJ cZ) s) (hN : NW s) (hA : ∀ q : Nat, s.heap.size ≤ q → A q) (hRc : cells ≤ R.cells) (hRs : slots ≤ R.slots) (hRf : 2 ≤ R.frames) (hRl : 43 ≤ R.locals) (hNN : 152 ≤ NN) (hE : CE E tM tC kK kV A s) (hret : ∀ (r : Int32) (x : St) (H : Heap) (locs : List Loc) (pc : Nat) (ls : Array Slot), decode b_Opn_beginChunk pc = .ok (.ireturn, 1) → post r x → Wd dC dI cI cB cJ cZ ad stC kcC NN A x H → va_S A s.heap H locs → W p l e R s m args below meth c H locs cells slots Q (F0 m pc ls [.int r]))  : ∀ (o : Nat) (l1 : Int32) (l2 : Int32) (l3 : Int32) (l4 : Int32) (x : St) (H : Heap) (locs : List Loc) (ls : Array Slot), (o < NN ∧ kcC o = 7) → j_Opn_beginChunk_64 post o l1 l2 l3 l4 x → Wd dC dI cI cB cJ cZ ad stC kcC NN A x H → va_S A s.heap H locs → lv_has ls 5 [(0, .ref (ad o)), (1, .int l1), (2, .int l2), (3, .int l3), (4, .int l4)] → W p l e R s m args below meth c H locs cells slots Q (F0 m 64 ls []) := by
  intro o l1 l2 l3 l4 x H locs ls fo hw hW hS hl
  unfold j_Opn_beginChunk_64 at hw
  refine lv_aload_n hx hb d_Opn_beginChunk_64 rfl (lv_at hl 0 rfl) ?_
  refine lv_aload_n hx hb d_Opn_beginChunk_65 rfl (lv_at hl 0 rfl) ?_
  refine w_getf (q := (stC o 2)) (k := 2) (t := 7) (C := R_Opn) (T := F_Opn) (N := 17) hx hb hT hown hK hW fo.1 fo.2 (by decide) in_Opn rfl rfl (by decide) rfl fr_Opn_2 w_3_17 d_Opn_beginChunk_66 rfl ?_
  refine w_geti (k := 1) (t := 8) (C := R_Src) (T := F_Src) (N := 5) hx hb hT hown hK hW (st_ty hNN fo.1 fo.2 rfl).1 (st_ty hNN fo.1 fo.2 rfl).2 (by decide) in_Src rfl rfl (by decide) rfl fr_Src_1 w_2_238 d_Opn_beginChunk_69 ?_
  refine lv_aload_n hx hb d_Opn_beginChunk_72 rfl (lv_at hl 0 rfl) ?_
  refine w_getf (q := (stC o 6)) (k := 6) (t := 7) (C := R_Opn) (T := F_Opn) (N := 17) hx hb hT hown hK hW fo.1 fo.2 (by decide) in_Opn rfl rfl (by decide) rfl fr_Opn_6 w_3_22 d_Opn_beginChunk_73 rfl ?_
  refine lv_iconst (v := 0) hx hb d_Opn_beginChunk_76 (by decide) ?_
  obtain ⟨hi, hw⟩ := hw
  refine w_lald (o := (stC o 6)) hx hb hK hW (st_ty hNN fo.1 fo.2 rfl).1 (st_ty hNN fo.1 fo.2 rfl).2 hi d_Opn_beginChunk_77 ?_
  refine lv_l2i hx hb d_Opn_beginChunk_78 rfl ?_
  refine lv_iadd hx hb d_Opn_beginChunk_79 ?_
  refine w_puti (ty := .int) (k := 11) (t := 7) (C := R_Opn) (T := F_Opn) (N := 17) hx hb hT hown hK hW hS fo.1 fo.2 (by decide) in_Opn t_Opn t_Opn_ok n_Opn rfl rfl (by decide) rfl fr_Opn_11 w_3_27 (by decide +kernel) rfl rfl d_Opn_beginChunk_80 (fun H locs hW hS => ?_)
  obtain ⟨x1, ex1⟩ : ∃ y : St, y = setI x o 11 ((fI x (stC o 2) 1) + ((rL x (stC o 6) 0) : Int64).toInt32) := ⟨_, rfl⟩
  rw [← ex1] at hW
  have hw := hw x1 ex1
  refine lv_aload_n hx hb d_Opn_beginChunk_83 rfl (lv_at hl 0 rfl) ?_
  refine lv_iconst (v := 0) hx hb d_Opn_beginChunk_84 (by decide) ?_
  refine w_puti (ty := .int) (k := 12) (t := 7) (C := R_Opn) (T := F_Opn) (N := 17) hx hb hT hown hK hW hS fo.1 fo.2 (by decide) in_Opn t_Opn t_Opn_ok n_Opn rfl rfl (by decide) rfl fr_Opn_12 w_3_28 (by decide +kernel) rfl rfl d_Opn_beginChunk_85 (fun H locs hW hS => ?_)
  obtain ⟨x2, ex2⟩ : ∃ y : St, y = setI x1 o 12 0 := ⟨_, rfl⟩
  rw [← ex2] at hW
  have hw := hw x2 ex2
  refine lv_iload_n hx hb d_Opn_beginChunk_88 rfl (lv_at hl 3 rfl) ?_
  exact hret l3 x2 H locs 89 ls d_Opn_beginChunk_89 hw hW hS
set_option maxRecDepth 100000 in
set_option maxHeartbeats 4000000 in
set_option maxRecDepth 100000 in
theorem t_Opn_beginChunk_38 {p : Program} {l : Launch} {e : Env} {R : Room} {s : State} {m : MethodId} {args : Array Value} {below : List Frame} {meth : Method} {c : Code} {cells slots : Nat} {Q : State → Prop} {dC : Nat → ClassId} {dI : Nat → Nat → Nat} {cI cB cJ cZ : ClassId} {A : Nat → Prop} {ad : Nat → Nat} {NN : Nat} {E : Heap} {tM tC : Nat} {kK kV : Nat → Nat} {post : Int32 → St → Prop} (hx : p.tables.exec = Jvm.exec) (hb : c.code = b_Opn_beginChunk) (hml : c.maxLocals = 5) (hown : s.vm.findClass R_Opn = some m.cls) (hT : ∀ w ∈ TG, w.before args s = true) (hK : va_K (dC, dI) CL (TY cI cB cJ cZ) s) (hN : NW s) (hA : ∀ q : Nat, s.heap.size ≤ q → A q) (hRc : cells ≤ R.cells) (hRs : slots ≤ R.slots) (hRf : 2 ≤ R.frames) (hRl : 43 ≤ R.locals) (hNN : 152 ≤ NN) (hE : CE E tM tC kK kV A s) (hret : ∀ (r : Int32) (x : St) (H : Heap) (locs : List Loc) (pc : Nat) (ls : Array Slot), decode b_Opn_beginChunk pc = .ok (.ireturn, 1) → post r x → Wd dC dI cI cB cJ cZ ad stC kcC NN A x H → va_S A s.heap H locs → W p l e R s m args below meth c H locs cells slots Q (F0 m pc ls [.int r]))  : ∀ (o : Nat) (l1 : Int32) (l2 : Int32) (l3 : Int32) (l4 : Int32) (s0 : Int32) (s1 : Nat) (x : St) (H : Heap) (locs : List Loc) (ls : Array Slot), (o < NN ∧ kcC o = 7) → (s1 < NN ∧ kcC s1 = 8) → j_Opn_beginChunk_38 post o l1 l2 l3 l4 s0 s1 x → Wd dC dI cI cB cJ cZ ad stC kcC NN A x H → va_S A s.heap H locs → lv_has ls 5 [(0, .ref (ad o)), (1, .int l1), (2, .int l2), (3, .int l3), (4, .int l4)] → W p l e R s m args below meth c H locs cells slots Q (F0 m 38 ls [.int s0, .ref (ad s1)]) := by
  intro o l1 l2 l3 l4 s0 s1 x H locs ls fo fs1 hw hW hS hl
  unfold j_Opn_beginChunk_38 at hw
  refine lv_bipush (v := 22) hx hb d_Opn_beginChunk_38 (by decide) ?_
  have hF := hW.free hS hA
  refine va_callv (va_runV (C := R_Src) (As := [.int s0, .int 22]) (rest := []) ⟨hx, hb, hml, hown, hT⟩ (k_Src_check l dC dI cI cB cJ cZ ad NN E tM tC kK kV hNN H.size s1 s0 22 x fs1 hw) ⟨callB_of 2 hT (gwt_in w_6_116) rfl rfl rfl (hT _ w_1_11) (hT _ w_6_113) (by decide +kernel) ⟨Nat.le_trans (Nat.le_of_ble_eq_true rfl) hRf, Nat.le_trans (Nat.le_of_ble_eq_true rfl) hRl⟩, hT _ w_6_114, hT _ w_6_115⟩ ⟨PVc.blind, va_recv hK hW.1 (ci := 8) (q0 := s1) rfl (pic_obj fs1.1 fs1.2 (by decide)), PVc.at _ hW hK hN hE hS hF⟩ rfl rfl hl.1 rfl (lv_room (Nat.le_of_ble_eq_true rfl)) d_Opn_beginChunk_40 ⟨hRc, hRs⟩) hS (fun q _ h => hF q h) hF (fun  x3 t H locs ht hvm hw hB hz1 hk1 hS => ?_)
  have hW := Wd.back hB ht hF
  clear hB ht hF hz1 hk1 hvm
  refine lv_aload_n hx hb d_Opn_beginChunk_43 rfl (lv_at hl 0 rfl) ?_
  refine w_getf (q := (stC o 2)) (k := 2) (t := 7) (C := R_Opn) (T := F_Opn) (N := 17) hx hb hT hown hK hW fo.1 fo.2 (by decide) in_Opn rfl rfl (by decide) rfl fr_Opn_2 w_3_17 d_Opn_beginChunk_44 rfl ?_
  refine w_geti (k := 3) (t := 8) (C := R_Src) (T := F_Src) (N := 5) hx hb hT hown hK hW (st_ty hNN fo.1 fo.2 rfl).1 (st_ty hNN fo.1 fo.2 rfl).2 (by decide) in_Src rfl rfl (by decide) rfl fr_Src_3 w_3_2 d_Opn_beginChunk_47 ?_
  refine lv_if_ne (tgt := 64) hx hb d_Opn_beginChunk_50 (by decide) (fun c4 => ?_) (fun c4 => ?_)
  · have hw := hw.1 c4
    exact t_Opn_beginChunk_64 hx hb hml hown hT hK hN hA hRc hRs hRf hRl hNN hE hret  o l1 l2 l3 l4 x3 H locs ls fo hw hW hS (lv_sub hl [0, 1, 2, 3, 4] rfl)
  · have hw := hw.2 c4
    refine lv_aload_n hx hb d_Opn_beginChunk_53 rfl (lv_at hl 0 rfl) ?_
    refine w_getf (q := (stC o 0)) (k := 0) (t := 7) (C := R_Opn) (T := F_Opn) (N := 17) hx hb hT hown hK hW fo.1 fo.2 (by decide) in_Opn rfl rfl (by decide) rfl fr_Opn_0 w_3_15 d_Opn_beginChunk_54 rfl ?_
    refine w_getf (q := (stC (stC o 0) 12)) (k := 12) (t := 6) (C := R_Vlt) (T := F_Vlt) (N := 20) hx hb hT hown hK hW (st_ty hNN fo.1 fo.2 rfl).1 (st_ty hNN fo.1 fo.2 rfl).2 (by decide) in_Vlt rfl rfl (by decide) rfl fr_Vlt_12 w_2_160 d_Opn_beginChunk_57 rfl ?_
    refine lv_iload hx hb d_Opn_beginChunk_60 (lv_at hl 4 rfl) ?_
    refine lv_iload_n hx hb d_Opn_beginChunk_62 rfl (lv_at hl 3 rfl) ?_
    obtain ⟨hi, hw⟩ := hw
    refine w_iast (o := (stC (stC o 0) 12)) hx hb hK hW hS (st_ty hNN (st_ty hNN fo.1 fo.2 rfl).1 (st_ty hNN fo.1 fo.2 rfl).2 rfl).1 (st_ty hNN (st_ty hNN fo.1 fo.2 rfl).1 (st_ty hNN fo.1 fo.2 rfl).2 rfl).2 hi d_Opn_beginChunk_63 (fun H locs hW hS => ?_)
    obtain ⟨x5, ex5⟩ : ∃ y : St, y = setA x3 (stC (stC o 0) 12) l4 l3 := ⟨_, rfl⟩
    rw [← ex5] at hW
    have hw := hw x5 ex5
    exact t_Opn_beginChunk_64 hx hb hml hown hT hK hN hA hRc hRs hRf hRl hNN hE hret  o l1 l2 l3 l4 x5 H locs ls fo hw hW hS (lv_sub hl [0, 1, 2, 3, 4] rfl)
set_option maxRecDepth 100000 in
set_option maxHeartbeats 4000000 in
set_option maxRecDepth 100000 in
theorem t_Opn_beginChunk_e {p : Program} {l : Launch} {e : Env} {R : Room} {s : State} {m : MethodId} {args : Array Value} {below : List Frame} {meth : Method} {c : Code} {cells slots : Nat} {Q : State → Prop} {dC : Nat → ClassId} {dI : Nat → Nat → Nat} {cI cB cJ cZ : ClassId} {A : Nat → Prop} {ad : Nat → Nat} {NN : Nat} {E : Heap} {tM tC : Nat} {kK kV : Nat → Nat} {post : Int32 → St → Prop} (hx : p.tables.exec = Jvm.exec) (hb : c.code = b_Opn_beginChunk) (hml : c.maxLocals = 5) (hown : s.vm.findClass R_Opn = some m.cls) (hT : ∀ w ∈ TG, w.before args s = true) (hK : va_K (dC, dI) CL (TY cI cB cJ cZ) s) (hN : NW s) (hA : ∀ q : Nat, s.heap.size ≤ q → A q) (hRc : cells ≤ R.cells) (hRs : slots ≤ R.slots) (hRf : 2 ≤ R.frames) (hRl : 43 ≤ R.locals) (hNN : 152 ≤ NN) (hE : CE E tM tC kK kV A s) (hret : ∀ (r : Int32) (x : St) (H : Heap) (locs : List Loc) (pc : Nat) (ls : Array Slot), decode b_Opn_beginChunk pc = .ok (.ireturn, 1) → post r x → Wd dC dI cI cB cJ cZ ad stC kcC NN A x H → va_S A s.heap H locs → W p l e R s m args below meth c H locs cells slots Q (F0 m pc ls [.int r])) : ∀ (o : Nat) (l1 : Int32) (l2 : Int32) (x : St) (H : Heap) (locs : List Loc) (ls : Array Slot), (o < NN ∧ kcC o = 7) → wp_Opn_beginChunk post o l1 l2 x → Wd dC dI cI cB cJ cZ ad stC kcC NN A x H → va_S A s.heap H locs → lv_has ls 5 [(0, .ref (ad o)), (1, .int l1), (2, .int l2)] → W p l e R s m args below meth c H locs cells slots Q (F0 m 0 ls []) := by
  intro o l1 l2 x H locs ls fo hw hW hS hl
  unfold wp_Opn_beginChunk at hw
  refine lv_aload_n hx hb d_Opn_beginChunk_0 rfl (lv_at hl 0 rfl) ?_
  have hF := hW.free hS hA
  refine va_calli (va_runV (C := R_Opn) (As := []) (rest := []) ⟨hx, hb, hml, hown, hT⟩ (k_Opn_newTeller l dC dI cI cB cJ cZ ad NN E tM tC kK kV hNN H.size o x fo hw) ⟨callB_of 0 hT (gwt_in w_6_179) rfl rfl rfl (hT _ w_1_10) (hT _ w_6_176) (by decide +kernel) ⟨Nat.le_trans (Nat.le_of_ble_eq_true rfl) hRf, Nat.le_trans (Nat.le_of_ble_eq_true rfl) hRl⟩, hT _ w_6_178, hT _ ws_39⟩ ⟨PVc.blind, va_recv hK hW.1 (ci := 7) (q0 := o) rfl (pic_obj fo.1 fo.2 (by decide)), PVc.at _ hW hK hN hE hS hF⟩ rfl rfl hl.1 rfl (lv_room (Nat.le_of_ble_eq_true rfl)) d_Opn_beginChunk_1 ⟨hRc, hRs⟩) hS (fun q _ h => hF q h) hF (fun r7 x6 t H locs ht hvm hw hB hz1 hk1 hS => ?_)
  have hW := Wd.back hB ht hF
  clear hB ht hF hz1 hk1 hvm
  refine lv_istore_n (lv' := [(3, .int r7), (0, .ref (ad o)), (1, .int l1), (2, .int l2)]) hx hb d_Opn_beginChunk_4 rfl hl (by decide) rfl (fun ls hl => ?_)
  refine lv_iload_n hx hb d_Opn_beginChunk_5 rfl (lv_at hl 2 rfl) ?_
  refine lv_aload_n hx hb d_Opn_beginChunk_6 rfl (lv_at hl 1 rfl) ?_
  refine w_getf (q := (stC o 0)) (k := 0) (t := 7) (C := R_Opn) (T := F_Opn) (N := 17) hx hb hT hown hK hW fo.1 fo.2 (by decide) in_Opn rfl rfl (by decide) rfl fr_Opn_0 w_3_15 d_Opn_beginChunk_7 rfl ?_
  refine w_getf (q := (stC (stC o 0) 5)) (k := 5) (t := 6) (C := R_Vlt) (T := F_Vlt) (N := 20) hx hb hT hown hK hW (st_ty hNN fo.1 fo.2 rfl).1 (st_ty hNN fo.1 fo.2 rfl).2 (by decide) in_Vlt rfl rfl (by decide) rfl fr_Vlt_5 w_2_136 d_Opn_beginChunk_10 rfl ?_
  refine w_geti (k := 1) (t := 3) (C := R_Sch) (T := F_Sch) (N := 13) hx hb hT hown hK hW (st_ty hNN (st_ty hNN fo.1 fo.2 rfl).1 (st_ty hNN fo.1 fo.2 rfl).2 rfl).1 (st_ty hNN (st_ty hNN fo.1 fo.2 rfl).1 (st_ty hNN fo.1 fo.2 rfl).2 rfl).2 (by decide) in_Sch rfl rfl (by decide) rfl fr_Sch_1 w_1_137 d_Opn_beginChunk_13 ?_
  refine lv_imul hx hb d_Opn_beginChunk_16 ?_
  refine lv_iload_n hx hb d_Opn_beginChunk_17 rfl (lv_at hl 3 rfl) ?_
  refine lv_iadd hx hb d_Opn_beginChunk_18 ?_
  refine lv_topi (fun v8 ev8 => ?_)
  have hw := hw v8 ev8
  refine lv_istore (lv' := [(4, .int v8), (3, .int r7), (0, .ref (ad o)), (1, .int l1), (2, .int l2)]) hx hb d_Opn_beginChunk_19 hl (by decide) rfl (fun ls hl => ?_)
  refine lv_aload_n hx hb d_Opn_beginChunk_21 rfl (lv_at hl 2 rfl) ?_
  refine w_getf (q := (stC o 2)) (k := 2) (t := 7) (C := R_Opn) (T := F_Opn) (N := 17) hx hb hT hown hK hW fo.1 fo.2 (by decide) in_Opn rfl rfl (by decide) rfl fr_Opn_2 w_3_17 d_Opn_beginChunk_22 rfl ?_
  refine lv_iload hx hb d_Opn_beginChunk_25 (lv_at hl 0 rfl) ?_
  refine lv_sipush (v := 6000) hx hb d_Opn_beginChunk_27 (by decide) ?_
  refine lv_icmp_ge (tgt := 37) hx hb d_Opn_beginChunk_30 (by decide) (fun c9 => ?_) (fun c9 => ?_)
  · have hw := hw.1 c9
    refine lv_iconst (v := 0) hx hb d_Opn_beginChunk_37 (by decide) ?_
    exact t_Opn_beginChunk_38 hx hb hml hown hT hK hN hA hRc hRs hRf hRl hNN hE hret  o l1 l2 r7 v8 0 (stC o 2) x6 H locs ls fo (st_ty hNN fo.1 fo.2 rfl) hw hW hS (lv_sub hl [2, 3, 4, 1, 0] rfl)
  · have hw := hw.2 c9
    refine lv_iconst (v := 1) hx hb d_Opn_beginChunk_33 (by decide) ?_
    refine lv_goto (tgt := 38) hx hb d_Opn_beginChunk_34 (by decide) ?_
    exact t_Opn_beginChunk_38 hx hb hml hown hT hK hN hA hRc hRs hRf hRl hNN hE hret  o l1 l2 r7 v8 1 (stC o 2) x6 H locs ls fo (st_ty hNN fo.1 fo.2 rfl) hw hW hS (lv_sub hl [2, 3, 4, 1, 0] rfl)
set_option maxHeartbeats 4000000 in
set_option maxRecDepth 100000 in
theorem k_Opn_beginChunk (l : Launch) (dC : Nat → ClassId) (dI : Nat → Nat → Nat) (cI cB cJ cZ : ClassId) (ad : Nat → Nat) (NN : Nat) (E : Heap) (tM tC : Nat) (kK kV : Nat → Nat) (hNN : 152 ≤ NN) (sz : Nat) (o : Nat) (l1 : Int32) (l2 : Int32) (x : St) (fo : o < NN ∧ kcC o = 7) {post : Int32 → St → Prop} (hw : wp_Opn_beginChunk post o l1 l2 x) : Met l y_Opn_beginChunk (wsOf y_Opn_beginChunk b_Opn_beginChunk 5 (some (.int))) ({ frames := 2, cells := 0, slots := 0, locals := 43 }) (va_Pc [.ref (ad o), .int l1, .int l2] (PVc dC dI cI cB cJ cZ ad stC kcC NN E tM tC kK kV sz x)) (va_Qi (fun (r : Int32) (y : St) => post r y) (fun y t => Wd dC dI cI cB cJ cZ ad stC kcC NN (va_A (pic ad stC kcC NN cI cB cJ cZ x) sz) y t.heap) (va_A (pic ad stC kcC NN cI cB cJ cZ x) sz)) 0 0 (va_A (pic ad stC kcC NN cI cB cJ cZ x) sz) := by
  refine Met.ofW (cc := b_Opn_beginChunk) (maxL := 5) (ret := some (.int)) (by decide) rfl ?_
  intro p e s m args below meth c s₁ B hml hv
  obtain ⟨rfl, ⟨hsz, hW0, hK, hN⟩, hE⟩ := hv
  have hx := B.exec
  have hb := B.bytes
  have hr := B.returns
  have hts := atoms_spec B.pre
  have hT : ∀ w ∈ TG, w.before _ s = true := fun w h => hts w (List.mem_cons_of_mem _ h)
  have hown : s.vm.findClass R_Opn = some m.cls := findClass_of_methodNamed B.named
  have hlocks := B.notSynchronized
  subst hsz
  have hW : Wd dC dI cI cB cJ cZ ad stC kcC NN (va_A (pic ad stC kcC NN cI cB cJ cZ x) s.heap.size) x s.heap := ⟨hW0.1, hW0.2.1.self (sz := s.heap.size), hW0.2.2⟩
  generalize hAe : va_A (pic ad stC kcC NN cI cB cJ cZ x) s.heap.size = A at hW hE ⊢
  have hA : ∀ q : Nat, s.heap.size ≤ q → A q := fun q h => by rw [← hAe]; exact Or.inr h
  have hS : va_S A s.heap s.heap [] := va_S.rf
  have hl := lv_entry ([.ref (ad o), .int l1, .int l2]) (n := 5) (Nat.le_of_ble_eq_true rfl)
  rw [lg_entry_eq]
  generalize (lg_sl ([.ref (ad o), .int l1, .int l2]) ++ List.replicate (5 - (lg_sl ([.ref (ad o), .int l1, .int l2])).length) Slot.unset).toArray = ls at hl ⊢
  have hl : lv_has ls 5 [(0, .ref (ad o)), (1, .int l1), (2, .int l2)] := hl
  exact t_Opn_beginChunk_e hx hb hml hown hT hK hN hA (Nat.le_refl 0) (Nat.le_refl 0) (Nat.le_refl 2) (Nat.le_refl 43) hNN hE (fun r x H locs pc ls hd hp hW hS => W.iret (v := r) hx hb hr (fun t ht hM => ⟨⟨r, x, rfl, hp, Wd.back hW ht.symm (fun _ z => z)⟩, hS.F ht⟩) hS.2.2 hd hlocks)  o l1 l2 x _ _ ls fo hw hW hS hl
set_option maxRecDepth 100000 in
set_option maxHeartbeats 4000000 in
set_option maxRecDepth 100000 in
theorem t_Src_narrow_24 {p : Program} {l : Launch} {e : Env} {R : Room} {s : State} {m : MethodId} {args : Array Value} {below : List Frame} {meth : Method} {c : Code} {cells slots : Nat} {Q : State → Prop} {dC : Nat → ClassId} {dI : Nat → Nat → Nat} {cI cB cJ cZ : ClassId} {A : Nat → Prop} {ad : Nat → Nat} {NN : Nat} {E : Heap} {tM tC : Nat} {kK kV : Nat → Nat} {post : Int32 → St → Prop} (hx : p.tables.exec = Jvm.exec) (hb : c.code = b_Src_narrow) (hml : c.maxLocals = 4) (hown : s.vm.findClass R_Src = some m.cls) (hT : ∀ w ∈ TG, w.before args s = true) (hK : va_K (dC, dI) CL (TY cI cB cJ cZ) s) (hN : NW s) (hA : ∀ q : Nat, s.heap.size ≤ q → A q) (hRc : cells ≤ R.cells) (hRs : slots ≤ R.slots) (hRf : 1 ≤ R.frames) (hRl : 22 ≤ R.locals) (hNN : 152 ≤ NN) (hE : CE E tM tC kK kV A s) (hret : ∀ (r : Int32) (x : St) (H : Heap) (locs : List Loc) (pc : Nat) (ls : Array Slot), decode b_Src_narrow pc = .ok (.ireturn, 1) → post r x → Wd dC dI cI cB cJ cZ ad stC kcC NN A x H → va_S A s.heap H locs → W p l e R s m args below meth c H locs cells slots Q (F0 m pc ls [.int r]))  : ∀ (o : Nat) (l1 : Int64) (l3 : Int32) (x : St) (H : Heap) (locs : List Loc) (ls : Array Slot), (o < NN ∧ kcC o = 8) → j_Src_narrow_24 post o l1 l3 x → Wd dC dI cI cB cJ cZ ad stC kcC NN A x H → va_S A s.heap H locs → lv_has ls 4 [(0, .ref (ad o)), (1, .long l1), (3, .int l3)] → W p l e R s m args below meth c H locs cells slots Q (F0 m 24 ls []) := by
  intro o l1 l3 x H locs ls fo hw hW hS hl
  unfold j_Src_narrow_24 at hw
  refine lv_iload_n hx hb d_Src_narrow_24 rfl (lv_at hl 2 rfl) ?_
  exact hret l3 x H locs 25 ls d_Src_narrow_25 hw hW hS
set_option maxRecDepth 100000 in
set_option maxHeartbeats 4000000 in
set_option maxRecDepth 100000 in
theorem t_Src_narrow_e {p : Program} {l : Launch} {e : Env} {R : Room} {s : State} {m : MethodId} {args : Array Value} {below : List Frame} {meth : Method} {c : Code} {cells slots : Nat} {Q : State → Prop} {dC : Nat → ClassId} {dI : Nat → Nat → Nat} {cI cB cJ cZ : ClassId} {A : Nat → Prop} {ad : Nat → Nat} {NN : Nat} {E : Heap} {tM tC : Nat} {kK kV : Nat → Nat} {post : Int32 → St → Prop} (hx : p.tables.exec = Jvm.exec) (hb : c.code = b_Src_narrow) (hml : c.maxLocals = 4) (hown : s.vm.findClass R_Src = some m.cls) (hT : ∀ w ∈ TG, w.before args s = true) (hK : va_K (dC, dI) CL (TY cI cB cJ cZ) s) (hN : NW s) (hA : ∀ q : Nat, s.heap.size ≤ q → A q) (hRc : cells ≤ R.cells) (hRs : slots ≤ R.slots) (hRf : 1 ≤ R.frames) (hRl : 22 ≤ R.locals) (hNN : 152 ≤ NN) (hE : CE E tM tC kK kV A s) (hret : ∀ (r : Int32) (x : St) (H : Heap) (locs : List Loc) (pc : Nat) (ls : Array Slot), decode b_Src_narrow pc = .ok (.ireturn, 1) → post r x → Wd dC dI cI cB cJ cZ ad stC kcC NN A x H → va_S A s.heap H locs → W p l e R s m args below meth c H locs cells slots Q (F0 m pc ls [.int r])) : ∀ (o : Nat) (l1 : Int64) (x : St) (H : Heap) (locs : List Loc) (ls : Array Slot), (o < NN ∧ kcC o = 8) → wp_Src_narrow post o l1 x → Wd dC dI cI cB cJ cZ ad stC kcC NN A x H → va_S A s.heap H locs → lv_has ls 4 [(0, .ref (ad o)), (1, .long l1)] → W p l e R s m args below meth c H locs cells slots Q (F0 m 0 ls []) := by
  intro o l1 x H locs ls fo hw hW hS hl
  unfold wp_Src_narrow at hw
  refine lv_aload_n hx hb d_Src_narrow_0 rfl (lv_at hl 0 rfl) ?_
  refine w_geti (k := 2) (t := 8) (C := R_Src) (T := F_Src) (N := 5) hx hb hT hown hK hW fo.1 fo.2 (by decide) in_Src rfl rfl (by decide) rfl fr_Src_2 w_2_239 d_Src_narrow_1 ?_
  refine lv_topi (fun v1 ev1 => ?_)
  have hw := hw v1 ev1
  refine lv_istore_n (lv' := [(3, .int v1), (0, .ref (ad o)), (1, .long l1)]) hx hb d_Src_narrow_4 rfl hl (by decide) rfl (fun ls hl => ?_)
  refine lv_aload_n hx hb d_Src_narrow_5 rfl (lv_at hl 1 rfl) ?_
  refine lv_lload_n hx hb d_Src_narrow_6 rfl (lv_at hl 2 rfl) ?_
  have hF := hW.free hS hA
  refine va_calli (va_runV (C := R_Src) (As := [.long l1]) (rest := []) ⟨hx, hb, hml, hown, hT⟩ (k_Src_has l dC dI cI cB cJ cZ ad NN E tM tC kK kV hNN H.size o l1 x fo hw) ⟨callB_of 1 hT (gwt_in w_6_128) rfl rfl rfl (hT _ w_1_11) (hT _ w_6_157) (by decide +kernel) ⟨Nat.le_trans (Nat.le_of_ble_eq_true rfl) hRf, Nat.le_trans (Nat.le_of_ble_eq_true rfl) hRl⟩, hT _ w_6_126, hT _ w_6_127⟩ ⟨PVc.blind, va_recv hK hW.1 (ci := 8) (q0 := o) rfl (pic_obj fo.1 fo.2 (by decide)), PVc.at _ hW hK hN hE hS hF⟩ rfl rfl hl.1 rfl (lv_room (Nat.le_of_ble_eq_true rfl)) d_Src_narrow_7 ⟨hRc, hRs⟩) hS (fun q _ h => hF q h) hF (fun r3 x2 t H locs ht hvm hw hB hz1 hk1 hS => ?_)
  have hW := Wd.back hB ht hF
  clear hB ht hF hz1 hk1 hvm
  refine lv_if_eq (tgt := 24) hx hb d_Src_narrow_10 (by decide) (fun c4 => ?_) (fun c4 => ?_)
  · have hw := hw.1 c4
    exact t_Src_narrow_24 hx hb hml hown hT hK hN hA hRc hRs hRf hRl hNN hE hret  o l1 v1 x2 H locs ls fo hw hW hS (lv_sub hl [1, 2, 0] rfl)
  · have hw := hw.2 c4
    refine lv_aload_n hx hb d_Src_narrow_13 rfl (lv_at hl 1 rfl) ?_
    refine lv_aload_n hx hb d_Src_narrow_14 rfl (lv_at hl 1 rfl) ?_
    refine w_geti (k := 1) (t := 8) (C := R_Src) (T := F_Src) (N := 5) hx hb hT hown hK hW fo.1 fo.2 (by decide) in_Src rfl rfl (by decide) rfl fr_Src_1 w_2_237 d_Src_narrow_15 ?_
    refine lv_lload_n hx hb d_Src_narrow_18 rfl (lv_at hl 2 rfl) ?_
    refine lv_l2i hx hb d_Src_narrow_19 rfl ?_
    refine lv_iadd hx hb d_Src_narrow_20 ?_
    refine w_puti (ty := .int) (k := 2) (t := 8) (C := R_Src) (T := F_Src) (N := 5) hx hb hT hown hK hW hS fo.1 fo.2 (by decide) in_Src t_Src t_Src_ok n_Src rfl rfl (by decide) rfl fr_Src_2 w_2_239 (by decide +kernel) rfl rfl d_Src_narrow_21 (fun H locs hW hS => ?_)
    obtain ⟨x5, ex5⟩ : ∃ y : St, y = setI x2 o 2 ((fI x2 o 1) + (l1 : Int64).toInt32) := ⟨_, rfl⟩
    rw [← ex5] at hW
    have hw := hw x5 ex5
    exact t_Src_narrow_24 hx hb hml hown hT hK hN hA hRc hRs hRf hRl hNN hE hret  o l1 v1 x5 H locs ls fo hw hW hS (lv_sub hl [1, 2, 0] rfl)
set_option maxHeartbeats 4000000 in
set_option maxRecDepth 100000 in
theorem k_Src_narrow (l : Launch) (dC : Nat → ClassId) (dI : Nat → Nat → Nat) (cI cB cJ cZ : ClassId) (ad : Nat → Nat) (NN : Nat) (E : Heap) (tM tC : Nat) (kK kV : Nat → Nat) (hNN : 152 ≤ NN) (sz : Nat) (o : Nat) (l1 : Int64) (x : St) (fo : o < NN ∧ kcC o = 8) {post : Int32 → St → Prop} (hw : wp_Src_narrow post o l1 x) : Met l y_Src_narrow (wsOf y_Src_narrow b_Src_narrow 4 (some (.int))) ({ frames := 1, cells := 0, slots := 0, locals := 22 }) (va_Pc [.ref (ad o), .long l1] (PVc dC dI cI cB cJ cZ ad stC kcC NN E tM tC kK kV sz x)) (va_Qi (fun (r : Int32) (y : St) => post r y) (fun y t => Wd dC dI cI cB cJ cZ ad stC kcC NN (va_A (pic ad stC kcC NN cI cB cJ cZ x) sz) y t.heap) (va_A (pic ad stC kcC NN cI cB cJ cZ x) sz)) 0 0 (va_A (pic ad stC kcC NN cI cB cJ cZ x) sz) := by
  refine Met.ofW (cc := b_Src_narrow) (maxL := 4) (ret := some (.int)) (by decide) rfl ?_
  intro p e s m args below meth c s₁ B hml hv
  obtain ⟨rfl, ⟨hsz, hW0, hK, hN⟩, hE⟩ := hv
  have hx := B.exec
  have hb := B.bytes
  have hr := B.returns
  have hts := atoms_spec B.pre
  have hT : ∀ w ∈ TG, w.before _ s = true := fun w h => hts w (List.mem_cons_of_mem _ h)
  have hown : s.vm.findClass R_Src = some m.cls := findClass_of_methodNamed B.named
  have hlocks := B.notSynchronized
  subst hsz
  have hW : Wd dC dI cI cB cJ cZ ad stC kcC NN (va_A (pic ad stC kcC NN cI cB cJ cZ x) s.heap.size) x s.heap := ⟨hW0.1, hW0.2.1.self (sz := s.heap.size), hW0.2.2⟩
  generalize hAe : va_A (pic ad stC kcC NN cI cB cJ cZ x) s.heap.size = A at hW hE ⊢
  have hA : ∀ q : Nat, s.heap.size ≤ q → A q := fun q h => by rw [← hAe]; exact Or.inr h
  have hS : va_S A s.heap s.heap [] := va_S.rf
  have hl := lv_entry ([.ref (ad o), .long l1]) (n := 4) (Nat.le_of_ble_eq_true rfl)
  rw [lg_entry_eq]
  generalize (lg_sl ([.ref (ad o), .long l1]) ++ List.replicate (4 - (lg_sl ([.ref (ad o), .long l1])).length) Slot.unset).toArray = ls at hl ⊢
  have hl : lv_has ls 4 [(0, .ref (ad o)), (1, .long l1)] := hl
  exact t_Src_narrow_e hx hb hml hown hT hK hN hA (Nat.le_refl 0) (Nat.le_refl 0) (Nat.le_refl 1) (Nat.le_refl 22) hNN hE (fun r x H locs pc ls hd hp hW hS => W.iret (v := r) hx hb hr (fun t ht hM => ⟨⟨r, x, rfl, hp, Wd.back hW ht.symm (fun _ z => z)⟩, hS.F ht⟩) hS.2.2 hd hlocks)  o l1 x _ _ ls fo hw hW hS hl
set_option maxRecDepth 100000 in
set_option maxHeartbeats 4000000 in
set_option maxRecDepth 100000 in
theorem t_Opn_readPageHead_269 {p : Program} {l : Launch} {e : Env} {R : Room} {s : State} {m : MethodId} {args : Array Value} {below : List Frame} {meth : Method} {c : Code} {cells slots : Nat} {Q : State → Prop} {dC : Nat → ClassId} {dI : Nat → Nat → Nat} {cI cB cJ cZ : ClassId} {A : Nat → Prop} {ad : Nat → Nat} {NN : Nat} {E : Heap} {tM tC : Nat} {kK kV : Nat → Nat} {post : Int32 → St → Prop} (hx : p.tables.exec = Jvm.exec) (hb : c.code = b_Opn_readPageHead) (hml : c.maxLocals = 11) (hown : s.vm.findClass R_Opn = some m.cls) (hT : ∀ w ∈ TG, w.before args s = true) (hK : va_K (dC, dI) CL (TY cI cB cJ cZ) s) (hN : NW s) (hA : ∀ q : Nat, s.heap.size ≤ q → A q) (hRc : cells ≤ R.cells) (hRs : slots ≤ R.slots) (hRf : 3 ≤ R.frames) (hRl : 69 ≤ R.locals) (hNN : 152 ≤ NN) (hE : CE E tM tC kK kV A s) (hret : ∀ (r : Int32) (x : St) (H : Heap) (locs : List Loc) (pc : Nat) (ls : Array Slot), decode b_Opn_readPageHead pc = .ok (.ireturn, 1) → post r x → Wd dC dI cI cB cJ cZ ad stC kcC NN A x H → va_S A s.heap H locs → W p l e R s m args below meth c H locs cells slots Q (F0 m pc ls [.int r]))  : ∀ (o : Nat) (l1 : Int32) (l2 : Int32) (l3 : Int64) (l5 : Int64) (l7 : Int32) (l8 : Int64) (l10 : Int32) (x : St) (H : Heap) (locs : List Loc) (ls : Array Slot), (o < NN ∧ kcC o = 7) → j_Opn_readPageHead_269 post o l1 l2 l3 l5 l7 l8 l10 x → Wd dC dI cI cB cJ cZ ad stC kcC NN A x H → va_S A s.heap H locs → lv_has ls 11 [(0, .ref (ad o)), (1, .int l1), (2, .int l2), (3, .long l3), (5, .long l5), (7, .int l7), (8, .long l8), (10, .int l10)] → W p l e R s m args below meth c H locs cells slots Q (F0 m 269 ls []) := by
  intro o l1 l2 l3 l5 l7 l8 l10 x H locs ls fo hw hW hS hl
  unfold j_Opn_readPageHead_269 at hw
  refine lv_iload hx hb d_Opn_readPageHead_269 (lv_at hl 5 rfl) ?_
  exact hret l7 x H locs 271 ls d_Opn_readPageHead_271 hw hW hS
set_option maxRecDepth 100000 in
set_option maxHeartbeats 4000000 in
set_option maxRecDepth 100000 in
theorem t_Opn_readPageHead_241 {p : Program} {l : Launch} {e : Env} {R : Room} {s : State} {m : MethodId} {args : Array Value} {below : List Frame} {meth : Method} {c : Code} {cells slots : Nat} {Q : State → Prop} {dC : Nat → ClassId} {dI : Nat → Nat → Nat} {cI cB cJ cZ : ClassId} {A : Nat → Prop} {ad : Nat → Nat} {NN : Nat} {E : Heap} {tM tC : Nat} {kK kV : Nat → Nat} {post : Int32 → St → Prop} (hx : p.tables.exec = Jvm.exec) (hb : c.code = b_Opn_readPageHead) (hml : c.maxLocals = 11) (hown : s.vm.findClass R_Opn = some m.cls) (hT : ∀ w ∈ TG, w.before args s = true) (hK : va_K (dC, dI) CL (TY cI cB cJ cZ) s) (hN : NW s) (hA : ∀ q : Nat, s.heap.size ≤ q → A q) (hRc : cells ≤ R.cells) (hRs : slots ≤ R.slots) (hRf : 3 ≤ R.frames) (hRl : 69 ≤ R.locals) (hNN : 152 ≤ NN) (hE : CE E tM tC kK kV A s) (hret : ∀ (r : Int32) (x : St) (H : Heap) (locs : List Loc) (pc : Nat) (ls : Array Slot), decode b_Opn_readPageHead pc = .ok (.ireturn, 1) → post r x → Wd dC dI cI cB cJ cZ ad stC kcC NN A x H → va_S A s.heap H locs → W p l e R s m args below meth c H locs cells slots Q (F0 m pc ls [.int r]))  : ∀ (o : Nat) (l1 : Int32) (l2 : Int32) (l3 : Int64) (l5 : Int64) (l7 : Int32) (l8 : Int64) (l10 : Int32) (s0 : Int32) (s1 : Nat) (x : St) (H : Heap) (locs : List Loc) (ls : Array Slot), (o < NN ∧ kcC o = 7) → (s1 < NN ∧ kcC s1 = 8) → j_Opn_readPageHead_241 post o l1 l2 l3 l5 l7 l8 l10 s0 s1 x → Wd dC dI cI cB cJ cZ ad stC kcC NN A x H → va_S A s.heap H locs → lv_has ls 11 [(0, .ref (ad o)), (1, .int l1), (2, .int l2), (3, .long l3), (5, .long l5), (7, .int l7), (8, .long l8), (10, .int l10)] → W p l e R s m args below meth c H locs cells slots Q (F0 m 241 ls [.int s0, .ref (ad s1)]) := by
  intro o l1 l2 l3 l5 l7 l8 l10 s0 s1 x H locs ls fo fs1 hw hW hS hl
  unfold j_Opn_readPageHead_241 at hw
  refine lv_bipush (v := 8) hx hb d_Opn_readPageHead_241 (by decide) ?_
  have hF := hW.free hS hA
  refine va_callv (va_runV (C := R_Src) (As := [.int s0, .int 8]) (rest := []) ⟨hx, hb, hml, hown, hT⟩ (k_Src_check l dC dI cI cB cJ cZ ad NN E tM tC kK kV hNN H.size s1 s0 8 x fs1 hw) ⟨callB_of 2 hT (gwt_in w_6_116) rfl rfl rfl (hT _ w_1_11) (hT _ w_6_113) (by decide +kernel) ⟨Nat.le_trans (Nat.le_of_ble_eq_true rfl) hRf, Nat.le_trans (Nat.le_of_ble_eq_true rfl) hRl⟩, hT _ w_6_114, hT _ w_6_115⟩ ⟨PVc.blind, va_recv hK hW.1 (ci := 8) (q0 := s1) rfl (pic_obj fs1.1 fs1.2 (by decide)), PVc.at _ hW hK hN hE hS hF⟩ rfl rfl hl.1 rfl (lv_room (Nat.le_of_ble_eq_true rfl)) d_Opn_readPageHead_243 ⟨hRc, hRs⟩) hS (fun q _ h => hF q h) hF (fun  x1 t H locs ht hvm hw hB hz1 hk1 hS => ?_)
  have hW := Wd.back hB ht hF
  clear hB ht hF hz1 hk1 hvm
  refine lv_aload_n hx hb d_Opn_readPageHead_246 rfl (lv_at hl 0 rfl) ?_
  refine w_getf (q := (stC o 0)) (k := 0) (t := 7) (C := R_Opn) (T := F_Opn) (N := 17) hx hb hT hown hK hW fo.1 fo.2 (by decide) in_Opn rfl rfl (by decide) rfl fr_Opn_0 w_3_15 d_Opn_readPageHead_247 rfl ?_
  refine w_getf (q := (stC (stC o 0) 14)) (k := 14) (t := 6) (C := R_Vlt) (T := F_Vlt) (N := 20) hx hb hT hown hK hW (st_ty hNN fo.1 fo.2 rfl).1 (st_ty hNN fo.1 fo.2 rfl).2 (by decide) in_Vlt rfl rfl (by decide) rfl fr_Vlt_14 w_2_166 d_Opn_readPageHead_250 rfl ?_
  refine lv_iload_n hx hb d_Opn_readPageHead_253 rfl (lv_at hl 2 rfl) ?_
  refine lv_lload_n hx hb d_Opn_readPageHead_254 rfl (lv_at hl 3 rfl) ?_
  refine lv_l2i hx hb d_Opn_readPageHead_255 rfl ?_
  obtain ⟨hi, hw⟩ := hw
  refine w_iast (o := (stC (stC o 0) 14)) hx hb hK hW hS (st_ty hNN (st_ty hNN fo.1 fo.2 rfl).1 (st_ty hNN fo.1 fo.2 rfl).2 rfl).1 (st_ty hNN (st_ty hNN fo.1 fo.2 rfl).1 (st_ty hNN fo.1 fo.2 rfl).2 rfl).2 hi d_Opn_readPageHead_256 (fun H locs hW hS => ?_)
  obtain ⟨x2, ex2⟩ : ∃ y : St, y = setA x1 (stC (stC o 0) 14) l2 (l3 : Int64).toInt32 := ⟨_, rfl⟩
  rw [← ex2] at hW
  have hw := hw x2 ex2
  refine lv_aload_n hx hb d_Opn_readPageHead_257 rfl (lv_at hl 0 rfl) ?_
  refine w_getf (q := (stC o 0)) (k := 0) (t := 7) (C := R_Opn) (T := F_Opn) (N := 17) hx hb hT hown hK hW fo.1 fo.2 (by decide) in_Opn rfl rfl (by decide) rfl fr_Opn_0 w_3_15 d_Opn_readPageHead_258 rfl ?_
  refine w_getf (q := (stC (stC o 0) 15)) (k := 15) (t := 6) (C := R_Vlt) (T := F_Vlt) (N := 20) hx hb hT hown hK hW (st_ty hNN fo.1 fo.2 rfl).1 (st_ty hNN fo.1 fo.2 rfl).2 (by decide) in_Vlt rfl rfl (by decide) rfl fr_Vlt_15 w_2_169 d_Opn_readPageHead_261 rfl ?_
  refine lv_iload_n hx hb d_Opn_readPageHead_264 rfl (lv_at hl 2 rfl) ?_
  refine lv_lload hx hb d_Opn_readPageHead_265 (lv_at hl 4 rfl) ?_
  refine lv_l2i hx hb d_Opn_readPageHead_267 rfl ?_
  obtain ⟨hi, hw⟩ := hw
  refine w_iast (o := (stC (stC o 0) 15)) hx hb hK hW hS (st_ty hNN (st_ty hNN fo.1 fo.2 rfl).1 (st_ty hNN fo.1 fo.2 rfl).2 rfl).1 (st_ty hNN (st_ty hNN fo.1 fo.2 rfl).1 (st_ty hNN fo.1 fo.2 rfl).2 rfl).2 hi d_Opn_readPageHead_268 (fun H locs hW hS => ?_)
  obtain ⟨x3, ex3⟩ : ∃ y : St, y = setA x2 (stC (stC o 0) 15) l2 (l5 : Int64).toInt32 := ⟨_, rfl⟩
  rw [← ex3] at hW
  have hw := hw x3 ex3
  exact t_Opn_readPageHead_269 hx hb hml hown hT hK hN hA hRc hRs hRf hRl hNN hE hret  o l1 l2 l3 l5 l7 l8 l10 x3 H locs ls fo hw hW hS (lv_sub hl [0, 1, 2, 3, 4, 5, 6, 7] rfl)
set_option maxRecDepth 100000 in
set_option maxHeartbeats 4000000 in
set_option maxRecDepth 100000 in
theorem t_Opn_readPageHead_163 {p : Program} {l : Launch} {e : Env} {R : Room} {s : State} {m : MethodId} {args : Array Value} {below : List Frame} {meth : Method} {c : Code} {cells slots : Nat} {Q : State → Prop} {dC : Nat → ClassId} {dI : Nat → Nat → Nat} {cI cB cJ cZ : ClassId} {A : Nat → Prop} {ad : Nat → Nat} {NN : Nat} {E : Heap} {tM tC : Nat} {kK kV : Nat → Nat} {post : Int32 → St → Prop} (hx : p.tables.exec = Jvm.exec) (hb : c.code = b_Opn_readPageHead) (hml : c.maxLocals = 11) (hown : s.vm.findClass R_Opn = some m.cls) (hT : ∀ w ∈ TG, w.before args s = true) (hK : va_K (dC, dI) CL (TY cI cB cJ cZ) s) (hN : NW s) (hA : ∀ q : Nat, s.heap.size ≤ q → A q) (hRc : cells ≤ R.cells) (hRs : slots ≤ R.slots) (hRf : 3 ≤ R.frames) (hRl : 69 ≤ R.locals) (hNN : 152 ≤ NN) (hE : CE E tM tC kK kV A s) (hret : ∀ (r : Int32) (x : St) (H : Heap) (locs : List Loc) (pc : Nat) (ls : Array Slot), decode b_Opn_readPageHead pc = .ok (.ireturn, 1) → post r x → Wd dC dI cI cB cJ cZ ad stC kcC NN A x H → va_S A s.heap H locs → W p l e R s m args below meth c H locs cells slots Q (F0 m pc ls [.int r]))  : ∀ (o : Nat) (l1 : Int32) (l2 : Int32) (l3 : Int64) (l5 : Int64) (l7 : Int32) (x : St) (H : Heap) (locs : List Loc) (ls : Array Slot), (o < NN ∧ kcC o = 7) → j_Opn_readPageHead_163 post o l1 l2 l3 l5 l7 x → Wd dC dI cI cB cJ cZ ad stC kcC NN A x H → va_S A s.heap H locs → lv_has ls 11 [(0, .ref (ad o)), (1, .int l1), (2, .int l2), (3, .long l3), (5, .long l5), (7, .int l7)] → W p l e R s m args below meth c H locs cells slots Q (F0 m 163 ls []) := by
  intro o l1 l2 l3 l5 l7 x H locs ls fo hw hW hS hl
  unfold j_Opn_readPageHead_163 at hw
  refine lv_aload_n hx hb d_Opn_readPageHead_163 rfl (lv_at hl 0 rfl) ?_
  refine w_getf (q := (stC o 2)) (k := 2) (t := 7) (C := R_Opn) (T := F_Opn) (N := 17) hx hb hT hown hK hW fo.1 fo.2 (by decide) in_Opn rfl rfl (by decide) rfl fr_Opn_2 w_3_17 d_Opn_readPageHead_164 rfl ?_
  have hF := hW.free hS hA
  refine va_calll (va_runV (C := R_Src) (As := []) (rest := []) ⟨hx, hb, hml, hown, hT⟩ (k_Src_readVarint l dC dI cI cB cJ cZ ad NN E tM tC kK kV hNN H.size (stC o 2) x (st_ty hNN fo.1 fo.2 rfl) hw) ⟨callB_of 0 hT (gwt_in w_6_108) rfl rfl rfl (hT _ w_1_11) (hT _ w_6_105) (by decide +kernel) ⟨Nat.le_trans (Nat.le_of_ble_eq_true rfl) hRf, Nat.le_trans (Nat.le_of_ble_eq_true rfl) hRl⟩, hT _ w_6_106, hT _ w_6_107⟩ ⟨PVc.blind, va_recv hK hW.1 (ci := 8) (q0 := (stC o 2)) rfl (pic_obj (st_ty hNN fo.1 fo.2 rfl).1 (st_ty hNN fo.1 fo.2 rfl).2 (by decide)), PVc.at _ hW hK hN hE hS hF⟩ rfl rfl hl.1 rfl (lv_room (Nat.le_of_ble_eq_true rfl)) d_Opn_readPageHead_167 ⟨hRc, hRs⟩) hS (fun q _ h => hF q h) hF (fun r5 x4 t H locs ht hvm hw hB hz1 hk1 hS => ?_)
  have hW := Wd.back hB ht hF
  clear hB ht hF hz1 hk1 hvm
  refine lv_lstore (lv' := [(8, .long r5), (0, .ref (ad o)), (1, .int l1), (2, .int l2), (3, .long l3), (5, .long l5), (7, .int l7)]) hx hb d_Opn_readPageHead_170 hl (by decide) rfl (fun ls hl => ?_)
  refine lv_aload_n hx hb d_Opn_readPageHead_172 rfl (lv_at hl 1 rfl) ?_
  refine w_getf (q := (stC o 2)) (k := 2) (t := 7) (C := R_Opn) (T := F_Opn) (N := 17) hx hb hT hown hK hW fo.1 fo.2 (by decide) in_Opn rfl rfl (by decide) rfl fr_Opn_2 w_3_17 d_Opn_readPageHead_173 rfl ?_
  refine lv_iconst (v := 4) hx hb d_Opn_readPageHead_176 (by decide) ?_
  have hF := hW.free hS hA
  refine va_calll (va_runV (C := R_Src) (As := [.int 4]) (rest := []) ⟨hx, hb, hml, hown, hT⟩ (k_Src_readFixed l dC dI cI cB cJ cZ ad NN E tM tC kK kV hNN H.size (stC o 2) 4 x4 (st_ty hNN fo.1 fo.2 rfl) hw) ⟨callB_of 1 hT (gwt_in w_6_93) rfl rfl rfl (hT _ w_1_11) (hT _ w_6_90) (by decide +kernel) ⟨Nat.le_trans (Nat.le_of_ble_eq_true rfl) hRf, Nat.le_trans (Nat.le_of_ble_eq_true rfl) hRl⟩, hT _ w_6_91, hT _ w_6_92⟩ ⟨PVc.blind, va_recv hK hW.1 (ci := 8) (q0 := (stC o 2)) rfl (pic_obj (st_ty hNN fo.1 fo.2 rfl).1 (st_ty hNN fo.1 fo.2 rfl).2 (by decide)), PVc.at _ hW hK hN hE hS hF⟩ rfl rfl hl.1 rfl (lv_room (Nat.le_of_ble_eq_true rfl)) d_Opn_readPageHead_177 ⟨hRc, hRs⟩) hS (fun q _ h => hF q h) hF (fun r7 x6 t H locs ht hvm hw hB hz1 hk1 hS => ?_)
  have hW := Wd.back hB ht hF
  clear hB ht hF hz1 hk1 hvm
  refine lv_l2i hx hb d_Opn_readPageHead_180 rfl ?_
  refine lv_topi (fun v8 ev8 => ?_)
  have hw := hw v8 ev8
  refine lv_istore (lv' := [(10, .int v8), (8, .long r5), (0, .ref (ad o)), (1, .int l1), (2, .int l2), (3, .long l3), (5, .long l5), (7, .int l7)]) hx hb d_Opn_readPageHead_181 hl (by decide) rfl (fun ls hl => ?_)
  refine lv_aload_n hx hb d_Opn_readPageHead_183 rfl (lv_at hl 2 rfl) ?_
  refine w_getf (q := (stC o 2)) (k := 2) (t := 7) (C := R_Opn) (T := F_Opn) (N := 17) hx hb hT hown hK hW fo.1 fo.2 (by decide) in_Opn rfl rfl (by decide) rfl fr_Opn_2 w_3_17 d_Opn_readPageHead_184 rfl ?_
  refine lv_lload hx hb d_Opn_readPageHead_187 (lv_at hl 1 rfl) ?_
  have hF := hW.free hS hA
  refine va_calli (va_runV (C := R_Src) (As := [.long r5]) (rest := []) ⟨hx, hb, hml, hown, hT⟩ (k_Src_narrow l dC dI cI cB cJ cZ ad NN E tM tC kK kV hNN H.size (stC o 2) r5 x6 (st_ty hNN fo.1 fo.2 rfl) hw) ⟨callB_of 1 hT (gwt_in w_6_193) rfl rfl rfl (hT _ w_1_11) (hT _ w_6_190) (by decide +kernel) ⟨Nat.le_trans (Nat.le_of_ble_eq_true rfl) hRf, Nat.le_trans (Nat.le_of_ble_eq_true rfl) hRl⟩, hT _ w_6_191, hT _ w_6_192⟩ ⟨PVc.blind, va_recv hK hW.1 (ci := 8) (q0 := (stC o 2)) rfl (pic_obj (st_ty hNN fo.1 fo.2 rfl).1 (st_ty hNN fo.1 fo.2 rfl).2 (by decide)), PVc.at _ hW hK hN hE hS hF⟩ rfl rfl hl.1 rfl (lv_room (Nat.le_of_ble_eq_true rfl)) d_Opn_readPageHead_189 ⟨hRc, hRs⟩) hS (fun q _ h => hF q h) hF (fun r10 x9 t H locs ht hvm hw hB hz1 hk1 hS => ?_)
  have hW := Wd.back hB ht hF
  clear hB ht hF hz1 hk1 hvm
  refine lv_pop hx hb d_Opn_readPageHead_192 rfl ?_
  refine lv_aload_n hx hb d_Opn_readPageHead_193 rfl (lv_at hl 2 rfl) ?_
  refine w_getf (q := (stC o 2)) (k := 2) (t := 7) (C := R_Opn) (T := F_Opn) (N := 17) hx hb hT hown hK hW fo.1 fo.2 (by decide) in_Opn rfl rfl (by decide) rfl fr_Opn_2 w_3_17 d_Opn_readPageHead_194 rfl ?_
  refine w_geti (k := 3) (t := 8) (C := R_Src) (T := F_Src) (N := 5) hx hb hT hown hK hW (st_ty hNN fo.1 fo.2 rfl).1 (st_ty hNN fo.1 fo.2 rfl).2 (by decide) in_Src rfl rfl (by decide) rfl fr_Src_3 w_3_2 d_Opn_readPageHead_197 ?_
  refine lv_if_ne (tgt := 269) hx hb d_Opn_readPageHead_200 (by decide) (fun c11 => ?_) (fun c11 => ?_)
  · have hw := hw.1 c11
    exact t_Opn_readPageHead_269 hx hb hml hown hT hK hN hA hRc hRs hRf hRl hNN hE hret  o l1 l2 l3 l5 l7 r5 v8 x9 H locs ls fo hw hW hS (lv_sub hl [2, 3, 4, 5, 6, 7, 1, 0] rfl)
  · have hw := hw.2 c11
    refine lv_aload_n hx hb d_Opn_readPageHead_203 rfl (lv_at hl 2 rfl) ?_
    refine w_getf (q := (stC o 2)) (k := 2) (t := 7) (C := R_Opn) (T := F_Opn) (N := 17) hx hb hT hown hK hW fo.1 fo.2 (by decide) in_Opn rfl rfl (by decide) rfl fr_Opn_2 w_3_17 d_Opn_readPageHead_204 rfl ?_
    refine lv_iload hx hb d_Opn_readPageHead_207 (lv_at hl 0 rfl) ?_
    refine lv_aload_n hx hb d_Opn_readPageHead_209 rfl (lv_at hl 2 rfl) ?_
    refine w_getf (q := (stC o 0)) (k := 0) (t := 7) (C := R_Opn) (T := F_Opn) (N := 17) hx hb hT hown hK hW fo.1 fo.2 (by decide) in_Opn rfl rfl (by decide) rfl fr_Opn_0 w_3_15 d_Opn_readPageHead_210 rfl ?_
    refine w_getf (q := (stC (stC o 0) 6)) (k := 6) (t := 6) (C := R_Vlt) (T := F_Vlt) (N := 20) hx hb hT hown hK hW (st_ty hNN fo.1 fo.2 rfl).1 (st_ty hNN fo.1 fo.2 rfl).2 (by decide) in_Vlt rfl rfl (by decide) rfl fr_Vlt_6 w_2_140 d_Opn_readPageHead_213 rfl ?_
    refine lv_aload_n hx hb d_Opn_readPageHead_216 rfl (lv_at hl 2 rfl) ?_
    refine w_getf (q := (stC o 2)) (k := 2) (t := 7) (C := R_Opn) (T := F_Opn) (N := 17) hx hb hT hown hK hW fo.1 fo.2 (by decide) in_Opn rfl rfl (by decide) rfl fr_Opn_2 w_3_17 d_Opn_readPageHead_217 rfl ?_
    refine w_geti (k := 1) (t := 8) (C := R_Src) (T := F_Src) (N := 5) hx hb hT hown hK hW (st_ty hNN fo.1 fo.2 rfl).1 (st_ty hNN fo.1 fo.2 rfl).2 (by decide) in_Src rfl rfl (by decide) rfl fr_Src_1 w_2_238 d_Opn_readPageHead_220 ?_
    refine lv_aload_n hx hb d_Opn_readPageHead_223 rfl (lv_at hl 2 rfl) ?_
    refine w_getf (q := (stC o 2)) (k := 2) (t := 7) (C := R_Opn) (T := F_Opn) (N := 17) hx hb hT hown hK hW fo.1 fo.2 (by decide) in_Opn rfl rfl (by decide) rfl fr_Opn_2 w_3_17 d_Opn_readPageHead_224 rfl ?_
    refine w_geti (k := 2) (t := 8) (C := R_Src) (T := F_Src) (N := 5) hx hb hT hown hK hW (st_ty hNN fo.1 fo.2 rfl).1 (st_ty hNN fo.1 fo.2 rfl).2 (by decide) in_Src rfl rfl (by decide) rfl fr_Src_2 w_3_0 d_Opn_readPageHead_227 ?_
    have hF := hW.free hS hA
    refine va_calli (va_runSN (As := [.ref (ad (stC (stC o 0) 6)), .int (fI x9 (stC o 2) 1), .int (fI x9 (stC o 2) 2)]) (rest := [.int v8, .ref (ad (stC o 2))]) ⟨hx, hb, hml, hown, hT⟩ (k_V_checkOf l dC dI cI cB cJ cZ ad NN E tM tC kK kV hNN H.size (stC (stC o 0) 6) (fI x9 (stC o 2) 1) (fI x9 (stC o 2) 2) x9 (st_ty hNN (st_ty hNN fo.1 fo.2 rfl).1 (st_ty hNN fo.1 fo.2 rfl).2 rfl) hw) ⟨va_cnB 3 hT (gwt_in w_6_43) rfl rfl rfl (hN _ wn_6_95 rfl) (hT _ w_1_1) (by decide +kernel) ⟨Nat.le_trans (Nat.le_of_ble_eq_true rfl) hRf, Nat.le_trans (Nat.le_of_ble_eq_true rfl) hRl⟩, hT _ w_6_42, trivial⟩ ⟨PVc.blind, PVc.at _ hW hK hN hE hS hF⟩ rfl rfl hl.1 rfl (lv_room (Nat.le_of_ble_eq_true rfl)) d_Opn_readPageHead_230 ⟨hRc, hRs⟩) hS (fun q _ h => hF q h) hF (fun r13 x12 t H locs ht hvm hw hB hz1 hk1 hS => ?_)
    have hW := Wd.back hB ht hF
    clear hB ht hF hz1 hk1 hvm
    refine lv_icmp_ne (tgt := 240) hx hb d_Opn_readPageHead_233 (by decide) (fun c14 => ?_) (fun c14 => ?_)
    · have hw := hw.1 c14
      refine lv_iconst (v := 0) hx hb d_Opn_readPageHead_240 (by decide) ?_
      exact t_Opn_readPageHead_241 hx hb hml hown hT hK hN hA hRc hRs hRf hRl hNN hE hret  o l1 l2 l3 l5 l7 r5 v8 0 (stC o 2) x12 H locs ls fo (st_ty hNN fo.1 fo.2 rfl) hw hW hS (lv_sub hl [2, 3, 4, 5, 6, 7, 1, 0] rfl)
    · have hw := hw.2 c14
      refine lv_iconst (v := 1) hx hb d_Opn_readPageHead_236 (by decide) ?_
      refine lv_goto (tgt := 241) hx hb d_Opn_readPageHead_237 (by decide) ?_
      exact t_Opn_readPageHead_241 hx hb hml hown hT hK hN hA hRc hRs hRf hRl hNN hE hret  o l1 l2 l3 l5 l7 r5 v8 1 (stC o 2) x12 H locs ls fo (st_ty hNN fo.1 fo.2 rfl) hw hW hS (lv_sub hl [2, 3, 4, 5, 6, 7, 1, 0] rfl)
set_option maxRecDepth 100000 in
set_option maxHeartbeats 4000000 in
set_option maxRecDepth 100000 in
theorem t_Opn_readPageHead_107 {p : Program} {l : Launch} {e : Env} {R : Room} {s : State} {m : MethodId} {args : Array Value} {below : List Frame} {meth : Method} {c : Code} {cells slots : Nat} {Q : State → Prop} {dC : Nat → ClassId} {dI : Nat → Nat → Nat} {cI cB cJ cZ : ClassId} {A : Nat → Prop} {ad : Nat → Nat} {NN : Nat} {E : Heap} {tM tC : Nat} {kK kV : Nat → Nat} {post : Int32 → St → Prop} (hx : p.tables.exec = Jvm.exec) (hb : c.code = b_Opn_readPageHead) (hml : c.maxLocals = 11) (hown : s.vm.findClass R_Opn = some m.cls) (hT : ∀ w ∈ TG, w.before args s = true) (hK : va_K (dC, dI) CL (TY cI cB cJ cZ) s) (hN : NW s) (hA : ∀ q : Nat, s.heap.size ≤ q → A q) (hRc : cells ≤ R.cells) (hRs : slots ≤ R.slots) (hRf : 3 ≤ R.frames) (hRl : 69 ≤ R.locals) (hNN : 152 ≤ NN) (hE : CE E tM tC kK kV A s) (hret : ∀ (r : Int32) (x : St) (H : Heap) (locs : List Loc) (pc : Nat) (ls : Array Slot), decode b_Opn_readPageHead pc = .ok (.ireturn, 1) → post r x → Wd dC dI cI cB cJ cZ ad stC kcC NN A x H → va_S A s.heap H locs → W p l e R s m args below meth c H locs cells slots Q (F0 m pc ls [.int r]))  : ∀ (o : Nat) (l1 : Int32) (l2 : Int32) (l3 : Int64) (l5 : Int64) (l7 : Int32) (s0 : Int32) (s1 : Nat) (x : St) (H : Heap) (locs : List Loc) (ls : Array Slot), (o < NN ∧ kcC o = 7) → (s1 < NN ∧ kcC s1 = 8) → j_Opn_readPageHead_107 post o l1 l2 l3 l5 l7 s0 s1 x → Wd dC dI cI cB cJ cZ ad stC kcC NN A x H → va_S A s.heap H locs → lv_has ls 11 [(0, .ref (ad o)), (1, .int l1), (2, .int l2), (3, .long l3), (5, .long l5), (7, .int l7)] → W p l e R s m args below meth c H locs cells slots Q (F0 m 107 ls [.int s0, .ref (ad s1)]) := by
  intro o l1 l2 l3 l5 l7 s0 s1 x H locs ls fo fs1 hw hW hS hl
  unfold j_Opn_readPageHead_107 at hw
  refine lv_bipush (v := 7) hx hb d_Opn_readPageHead_107 (by decide) ?_
  have hF := hW.free hS hA
  refine va_callv (va_runV (C := R_Src) (As := [.int s0, .int 7]) (rest := []) ⟨hx, hb, hml, hown, hT⟩ (k_Src_check l dC dI cI cB cJ cZ ad NN E tM tC kK kV hNN H.size s1 s0 7 x fs1 hw) ⟨callB_of 2 hT (gwt_in w_6_116) rfl rfl rfl (hT _ w_1_11) (hT _ w_6_113) (by decide +kernel) ⟨Nat.le_trans (Nat.le_of_ble_eq_true rfl) hRf, Nat.le_trans (Nat.le_of_ble_eq_true rfl) hRl⟩, hT _ w_6_114, hT _ w_6_115⟩ ⟨PVc.blind, va_recv hK hW.1 (ci := 8) (q0 := s1) rfl (pic_obj fs1.1 fs1.2 (by decide)), PVc.at _ hW hK hN hE hS hF⟩ rfl rfl hl.1 rfl (lv_room (Nat.le_of_ble_eq_true rfl)) d_Opn_readPageHead_109 ⟨hRc, hRs⟩) hS (fun q _ h => hF q h) hF (fun  x15 t H locs ht hvm hw hB hz1 hk1 hS => ?_)
  have hW := Wd.back hB ht hF
  clear hB ht hF hz1 hk1 hvm
  refine lv_aload_n hx hb d_Opn_readPageHead_112 rfl (lv_at hl 0 rfl) ?_
  refine w_getf (q := (stC o 2)) (k := 2) (t := 7) (C := R_Opn) (T := F_Opn) (N := 17) hx hb hT hown hK hW fo.1 fo.2 (by decide) in_Opn rfl rfl (by decide) rfl fr_Opn_2 w_3_17 d_Opn_readPageHead_113 rfl ?_
  refine w_geti (k := 3) (t := 8) (C := R_Src) (T := F_Src) (N := 5) hx hb hT hown hK hW (st_ty hNN fo.1 fo.2 rfl).1 (st_ty hNN fo.1 fo.2 rfl).2 (by decide) in_Src rfl rfl (by decide) rfl fr_Src_3 w_3_2 d_Opn_readPageHead_116 ?_
  refine lv_if_ne (tgt := 163) hx hb d_Opn_readPageHead_119 (by decide) (fun c16 => ?_) (fun c16 => ?_)
  · have hw := hw.1 c16
    exact t_Opn_readPageHead_163 hx hb hml hown hT hK hN hA hRc hRs hRf hRl hNN hE hret  o l1 l2 l3 l5 l7 x15 H locs ls fo hw hW hS (lv_sub hl [0, 1, 2, 3, 4, 5] rfl)
  · have hw := hw.2 c16
    refine lv_lload hx hb d_Opn_readPageHead_122 (lv_at hl 4 rfl) ?_
    refine lv_lload_n hx hb d_Opn_readPageHead_124 rfl (lv_at hl 3 rfl) ?_
    refine W.lcmp hx hb d_Opn_readPageHead_125 ?_
    refine lv_if_ge (tgt := 163) hx hb d_Opn_readPageHead_126 (by decide) (fun c17 => ?_) (fun c17 => ?_)
    · have hw := hw.1 c17
      exact t_Opn_readPageHead_163 hx hb hml hown hT hK hN hA hRc hRs hRf hRl hNN hE hret  o l1 l2 l3 l5 l7 x15 H locs ls fo hw hW hS (lv_sub hl [0, 1, 2, 3, 4, 5] rfl)
    · have hw := hw.2 c17
      refine lv_aload_n hx hb d_Opn_readPageHead_129 rfl (lv_at hl 0 rfl) ?_
      refine w_getf (q := (stC o 0)) (k := 0) (t := 7) (C := R_Opn) (T := F_Opn) (N := 17) hx hb hT hown hK hW fo.1 fo.2 (by decide) in_Opn rfl rfl (by decide) rfl fr_Opn_0 w_3_15 d_Opn_readPageHead_130 rfl ?_
      refine w_getf (q := (stC (stC o 0) 16)) (k := 16) (t := 6) (C := R_Vlt) (T := F_Vlt) (N := 20) hx hb hT hown hK hW (st_ty hNN fo.1 fo.2 rfl).1 (st_ty hNN fo.1 fo.2 rfl).2 (by decide) in_Vlt rfl rfl (by decide) rfl fr_Vlt_16 w_2_172 d_Opn_readPageHead_133 rfl ?_
      refine lv_iload_n hx hb d_Opn_readPageHead_136 rfl (lv_at hl 2 rfl) ?_
      refine lv_aload_n hx hb d_Opn_readPageHead_137 rfl (lv_at hl 0 rfl) ?_
      refine w_getf (q := (stC o 2)) (k := 2) (t := 7) (C := R_Opn) (T := F_Opn) (N := 17) hx hb hT hown hK hW fo.1 fo.2 (by decide) in_Opn rfl rfl (by decide) rfl fr_Opn_2 w_3_17 d_Opn_readPageHead_138 rfl ?_
      refine lv_iload_n hx hb d_Opn_readPageHead_141 rfl (lv_at hl 1 rfl) ?_
      have hF := hW.free hS hA
      refine va_calll (va_runV (C := R_Src) (As := [.int l1]) (rest := [.int l2, .ref (ad (stC (stC o 0) 16))]) ⟨hx, hb, hml, hown, hT⟩ (k_Src_readTold l dC dI cI cB cJ cZ ad NN E tM tC kK kV hNN H.size (stC o 2) l1 x15 (st_ty hNN fo.1 fo.2 rfl) hw) ⟨callB_of 1 hT (gwt_in w_6_150) rfl rfl rfl (hT _ w_1_11) (hT _ w_6_147) (by decide +kernel) ⟨Nat.le_trans (Nat.le_of_ble_eq_true rfl) hRf, Nat.le_trans (Nat.le_of_ble_eq_true rfl) hRl⟩, hT _ w_6_148, hT _ w_6_149⟩ ⟨PVc.blind, va_recv hK hW.1 (ci := 8) (q0 := (stC o 2)) rfl (pic_obj (st_ty hNN fo.1 fo.2 rfl).1 (st_ty hNN fo.1 fo.2 rfl).2 (by decide)), PVc.at _ hW hK hN hE hS hF⟩ rfl rfl hl.1 rfl (lv_room (Nat.le_of_ble_eq_true rfl)) d_Opn_readPageHead_142 ⟨hRc, hRs⟩) hS (fun q _ h => hF q h) hF (fun r19 x18 t H locs ht hvm hw hB hz1 hk1 hS => ?_)
      have hW := Wd.back hB ht hF
      clear hB ht hF hz1 hk1 hvm
      obtain ⟨hi, hw⟩ := hw
      refine w_last (o := (stC (stC o 0) 16)) hx hb hK hW hS (st_ty hNN (st_ty hNN fo.1 fo.2 rfl).1 (st_ty hNN fo.1 fo.2 rfl).2 rfl).1 (st_ty hNN (st_ty hNN fo.1 fo.2 rfl).1 (st_ty hNN fo.1 fo.2 rfl).2 rfl).2 hi d_Opn_readPageHead_145 (fun H locs hW hS => ?_)
      obtain ⟨x20, ex20⟩ : ∃ y : St, y = setL x18 (stC (stC o 0) 16) l2 r19 := ⟨_, rfl⟩
      rw [← ex20] at hW
      have hw := hw x20 ex20
      refine lv_aload_n hx hb d_Opn_readPageHead_146 rfl (lv_at hl 0 rfl) ?_
      refine w_getf (q := (stC o 0)) (k := 0) (t := 7) (C := R_Opn) (T := F_Opn) (N := 17) hx hb hT hown hK hW fo.1 fo.2 (by decide) in_Opn rfl rfl (by decide) rfl fr_Opn_0 w_3_15 d_Opn_readPageHead_147 rfl ?_
      refine w_getf (q := (stC (stC o 0) 17)) (k := 17) (t := 6) (C := R_Vlt) (T := F_Vlt) (N := 20) hx hb hT hown hK hW (st_ty hNN fo.1 fo.2 rfl).1 (st_ty hNN fo.1 fo.2 rfl).2 (by decide) in_Vlt rfl rfl (by decide) rfl fr_Vlt_17 w_2_175 d_Opn_readPageHead_150 rfl ?_
      refine lv_iload_n hx hb d_Opn_readPageHead_153 rfl (lv_at hl 2 rfl) ?_
      refine lv_aload_n hx hb d_Opn_readPageHead_154 rfl (lv_at hl 0 rfl) ?_
      refine w_getf (q := (stC o 2)) (k := 2) (t := 7) (C := R_Opn) (T := F_Opn) (N := 17) hx hb hT hown hK hW fo.1 fo.2 (by decide) in_Opn rfl rfl (by decide) rfl fr_Opn_2 w_3_17 d_Opn_readPageHead_155 rfl ?_
      refine lv_iload_n hx hb d_Opn_readPageHead_158 rfl (lv_at hl 1 rfl) ?_
      have hF := hW.free hS hA
      refine va_calll (va_runV (C := R_Src) (As := [.int l1]) (rest := [.int l2, .ref (ad (stC (stC o 0) 17))]) ⟨hx, hb, hml, hown, hT⟩ (k_Src_readTold l dC dI cI cB cJ cZ ad NN E tM tC kK kV hNN H.size (stC o 2) l1 x20 (st_ty hNN fo.1 fo.2 rfl) hw) ⟨callB_of 1 hT (gwt_in w_6_150) rfl rfl rfl (hT _ w_1_11) (hT _ w_6_147) (by decide +kernel) ⟨Nat.le_trans (Nat.le_of_ble_eq_true rfl) hRf, Nat.le_trans (Nat.le_of_ble_eq_true rfl) hRl⟩, hT _ w_6_148, hT _ w_6_149⟩ ⟨PVc.blind, va_recv hK hW.1 (ci := 8) (q0 := (stC o 2)) rfl (pic_obj (st_ty hNN fo.1 fo.2 rfl).1 (st_ty hNN fo.1 fo.2 rfl).2 (by decide)), PVc.at _ hW hK hN hE hS hF⟩ rfl rfl hl.1 rfl (lv_room (Nat.le_of_ble_eq_true rfl)) d_Opn_readPageHead_159 ⟨hRc, hRs⟩) hS (fun q _ h => hF q h) hF (fun r22 x21 t H locs ht hvm hw hB hz1 hk1 hS => ?_)
      have hW := Wd.back hB ht hF
      clear hB ht hF hz1 hk1 hvm
      obtain ⟨hi, hw⟩ := hw
      refine w_last (o := (stC (stC o 0) 17)) hx hb hK hW hS (st_ty hNN (st_ty hNN fo.1 fo.2 rfl).1 (st_ty hNN fo.1 fo.2 rfl).2 rfl).1 (st_ty hNN (st_ty hNN fo.1 fo.2 rfl).1 (st_ty hNN fo.1 fo.2 rfl).2 rfl).2 hi d_Opn_readPageHead_162 (fun H locs hW hS => ?_)
      obtain ⟨x23, ex23⟩ : ∃ y : St, y = setL x21 (stC (stC o 0) 17) l2 r22 := ⟨_, rfl⟩
      rw [← ex23] at hW
      have hw := hw x23 ex23
      exact t_Opn_readPageHead_163 hx hb hml hown hT hK hN hA hRc hRs hRf hRl hNN hE hret  o l1 l2 l3 l5 l7 x23 H locs ls fo hw hW hS (lv_sub hl [0, 1, 2, 3, 4, 5] rfl)
set_option maxRecDepth 100000 in
set_option maxHeartbeats 4000000 in
set_option maxRecDepth 100000 in
theorem t_Opn_readPageHead_99 {p : Program} {l : Launch} {e : Env} {R : Room} {s : State} {m : MethodId} {args : Array Value} {below : List Frame} {meth : Method} {c : Code} {cells slots : Nat} {Q : State → Prop} {dC : Nat → ClassId} {dI : Nat → Nat → Nat} {cI cB cJ cZ : ClassId} {A : Nat → Prop} {ad : Nat → Nat} {NN : Nat} {E : Heap} {tM tC : Nat} {kK kV : Nat → Nat} {post : Int32 → St → Prop} (hx : p.tables.exec = Jvm.exec) (hb : c.code = b_Opn_readPageHead) (hml : c.maxLocals = 11) (hown : s.vm.findClass R_Opn = some m.cls) (hT : ∀ w ∈ TG, w.before args s = true) (hK : va_K (dC, dI) CL (TY cI cB cJ cZ) s) (hN : NW s) (hA : ∀ q : Nat, s.heap.size ≤ q → A q) (hRc : cells ≤ R.cells) (hRs : slots ≤ R.slots) (hRf : 3 ≤ R.frames) (hRl : 69 ≤ R.locals) (hNN : 152 ≤ NN) (hE : CE E tM tC kK kV A s) (hret : ∀ (r : Int32) (x : St) (H : Heap) (locs : List Loc) (pc : Nat) (ls : Array Slot), decode b_Opn_readPageHead pc = .ok (.ireturn, 1) → post r x → Wd dC dI cI cB cJ cZ ad stC kcC NN A x H → va_S A s.heap H locs → W p l e R s m args below meth c H locs cells slots Q (F0 m pc ls [.int r]))  : ∀ (o : Nat) (l1 : Int32) (l2 : Int32) (l3 : Int64) (l5 : Int64) (l7 : Int32) (s0 : Int32) (s1 : Int32) (s2 : Nat) (x : St) (H : Heap) (locs : List Loc) (ls : Array Slot), (o < NN ∧ kcC o = 7) → (s2 < NN ∧ kcC s2 = 8) → j_Opn_readPageHead_99 post o l1 l2 l3 l5 l7 s0 s1 s2 x → Wd dC dI cI cB cJ cZ ad stC kcC NN A x H → va_S A s.heap H locs → lv_has ls 11 [(0, .ref (ad o)), (1, .int l1), (2, .int l2), (3, .long l3), (5, .long l5), (7, .int l7)] → W p l e R s m args below meth c H locs cells slots Q (F0 m 99 ls [.int s0, .int s1, .ref (ad s2)]) := by
  intro o l1 l2 l3 l5 l7 s0 s1 s2 x H locs ls fo fs2 hw hW hS hl
  unfold j_Opn_readPageHead_99 at hw
  refine lv_icmp_gt (tgt := 106) hx hb d_Opn_readPageHead_99 (by decide) (fun c24 => ?_) (fun c24 => ?_)
  · have hw := hw.1 c24
    refine lv_iconst (v := 0) hx hb d_Opn_readPageHead_106 (by decide) ?_
    exact t_Opn_readPageHead_107 hx hb hml hown hT hK hN hA hRc hRs hRf hRl hNN hE hret  o l1 l2 l3 l5 l7 0 s2 x H locs ls fo fs2 hw hW hS (lv_sub hl [0, 1, 2, 3, 4, 5] rfl)
  · have hw := hw.2 c24
    refine lv_iconst (v := 1) hx hb d_Opn_readPageHead_102 (by decide) ?_
    refine lv_goto (tgt := 107) hx hb d_Opn_readPageHead_103 (by decide) ?_
    exact t_Opn_readPageHead_107 hx hb hml hown hT hK hN hA hRc hRs hRf hRl hNN hE hret  o l1 l2 l3 l5 l7 1 s2 x H locs ls fo fs2 hw hW hS (lv_sub hl [0, 1, 2, 3, 4, 5] rfl)
set_option maxRecDepth 100000 in
set_option maxHeartbeats 4000000 in
set_option maxRecDepth 100000 in
theorem t_Opn_readPageHead_23 {p : Program} {l : Launch} {e : Env} {R : Room} {s : State} {m : MethodId} {args : Array Value} {below : List Frame} {meth : Method} {c : Code} {cells slots : Nat} {Q : State → Prop} {dC : Nat → ClassId} {dI : Nat → Nat → Nat} {cI cB cJ cZ : ClassId} {A : Nat → Prop} {ad : Nat → Nat} {NN : Nat} {E : Heap} {tM tC : Nat} {kK kV : Nat → Nat} {post : Int32 → St → Prop} (hx : p.tables.exec = Jvm.exec) (hb : c.code = b_Opn_readPageHead) (hml : c.maxLocals = 11) (hown : s.vm.findClass R_Opn = some m.cls) (hT : ∀ w ∈ TG, w.before args s = true) (hK : va_K (dC, dI) CL (TY cI cB cJ cZ) s) (hN : NW s) (hA : ∀ q : Nat, s.heap.size ≤ q → A q) (hRc : cells ≤ R.cells) (hRs : slots ≤ R.slots) (hRf : 3 ≤ R.frames) (hRl : 69 ≤ R.locals) (hNN : 152 ≤ NN) (hE : CE E tM tC kK kV A s) (hret : ∀ (r : Int32) (x : St) (H : Heap) (locs : List Loc) (pc : Nat) (ls : Array Slot), decode b_Opn_readPageHead pc = .ok (.ireturn, 1) → post r x → Wd dC dI cI cB cJ cZ ad stC kcC NN A x H → va_S A s.heap H locs → W p l e R s m args below meth c H locs cells slots Q (F0 m pc ls [.int r]))  : ∀ (o : Nat) (l1 : Int32) (l2 : Int32) (l3 : Int64) (s0 : Int32) (s1 : Nat) (x : St) (H : Heap) (locs : List Loc) (ls : Array Slot), (o < NN ∧ kcC o = 7) → (s1 < NN ∧ kcC s1 = 8) → j_Opn_readPageHead_23 post o l1 l2 l3 s0 s1 x → Wd dC dI cI cB cJ cZ ad stC kcC NN A x H → va_S A s.heap H locs → lv_has ls 11 [(0, .ref (ad o)), (1, .int l1), (2, .int l2), (3, .long l3)] → W p l e R s m args below meth c H locs cells slots Q (F0 m 23 ls [.int s0, .ref (ad s1)]) := by
  intro o l1 l2 l3 s0 s1 x H locs ls fo fs1 hw hW hS hl
  unfold j_Opn_readPageHead_23 at hw
  refine lv_iconst (v := 3) hx hb d_Opn_readPageHead_23 (by decide) ?_
  have hF := hW.free hS hA
  refine va_callv (va_runV (C := R_Src) (As := [.int s0, .int 3]) (rest := []) ⟨hx, hb, hml, hown, hT⟩ (k_Src_check l dC dI cI cB cJ cZ ad NN E tM tC kK kV hNN H.size s1 s0 3 x fs1 hw) ⟨callB_of 2 hT (gwt_in w_6_116) rfl rfl rfl (hT _ w_1_11) (hT _ w_6_113) (by decide +kernel) ⟨Nat.le_trans (Nat.le_of_ble_eq_true rfl) hRf, Nat.le_trans (Nat.le_of_ble_eq_true rfl) hRl⟩, hT _ w_6_114, hT _ w_6_115⟩ ⟨PVc.blind, va_recv hK hW.1 (ci := 8) (q0 := s1) rfl (pic_obj fs1.1 fs1.2 (by decide)), PVc.at _ hW hK hN hE hS hF⟩ rfl rfl hl.1 rfl (lv_room (Nat.le_of_ble_eq_true rfl)) d_Opn_readPageHead_24 ⟨hRc, hRs⟩) hS (fun q _ h => hF q h) hF (fun  x25 t H locs ht hvm hw hB hz1 hk1 hS => ?_)
  have hW := Wd.back hB ht hF
  clear hB ht hF hz1 hk1 hvm
  refine lv_aload_n hx hb d_Opn_readPageHead_27 rfl (lv_at hl 0 rfl) ?_
  refine w_getf (q := (stC o 2)) (k := 2) (t := 7) (C := R_Opn) (T := F_Opn) (N := 17) hx hb hT hown hK hW fo.1 fo.2 (by decide) in_Opn rfl rfl (by decide) rfl fr_Opn_2 w_3_17 d_Opn_readPageHead_28 rfl ?_
  refine lv_lload_n hx hb d_Opn_readPageHead_31 rfl (lv_at hl 3 rfl) ?_
  refine lv_ldc2 hx hb hown (hT _ w_6_189) d_Opn_readPageHead_32 ?_
  have hF := hW.free hS hA
  refine va_calli (va_runSN (As := [.long l3, .long 1000]) (rest := [.ref (ad (stC o 2))]) ⟨hx, hb, hml, hown, hT⟩ (k_V_within l dC dI cI cB cJ cZ ad NN E tM tC kK kV hNN H.size l3 1000 x25  hw) ⟨va_cnB 2 hT (gwt_in w_6_112) rfl rfl rfl (hN _ wn_6_110 rfl) (hT _ w_1_1) (by decide +kernel) ⟨Nat.le_trans (Nat.le_of_ble_eq_true rfl) hRf, Nat.le_trans (Nat.le_of_ble_eq_true rfl) hRl⟩, hT _ w_6_111, trivial⟩ ⟨PVc.blind, PVc.at _ hW hK hN hE hS hF⟩ rfl rfl hl.1 rfl (lv_room (Nat.le_of_ble_eq_true rfl)) d_Opn_readPageHead_35 ⟨hRc, hRs⟩) hS (fun q _ h => hF q h) hF (fun r27 x26 t H locs ht hvm hw hB hz1 hk1 hS => ?_)
  have hW := Wd.back hB ht hF
  clear hB ht hF hz1 hk1 hvm
  refine lv_iconst (v := 4) hx hb d_Opn_readPageHead_38 (by decide) ?_
  have hF := hW.free hS hA
  refine va_callv (va_runV (C := R_Src) (As := [.int r27, .int 4]) (rest := []) ⟨hx, hb, hml, hown, hT⟩ (k_Src_check l dC dI cI cB cJ cZ ad NN E tM tC kK kV hNN H.size (stC o 2) r27 4 x26 (st_ty hNN fo.1 fo.2 rfl) hw) ⟨callB_of 2 hT (gwt_in w_6_116) rfl rfl rfl (hT _ w_1_11) (hT _ w_6_113) (by decide +kernel) ⟨Nat.le_trans (Nat.le_of_ble_eq_true rfl) hRf, Nat.le_trans (Nat.le_of_ble_eq_true rfl) hRl⟩, hT _ w_6_114, hT _ w_6_115⟩ ⟨PVc.blind, va_recv hK hW.1 (ci := 8) (q0 := (stC o 2)) rfl (pic_obj (st_ty hNN fo.1 fo.2 rfl).1 (st_ty hNN fo.1 fo.2 rfl).2 (by decide)), PVc.at _ hW hK hN hE hS hF⟩ rfl rfl hl.1 rfl (lv_room (Nat.le_of_ble_eq_true rfl)) d_Opn_readPageHead_39 ⟨hRc, hRs⟩) hS (fun q _ h => hF q h) hF (fun  x28 t H locs ht hvm hw hB hz1 hk1 hS => ?_)
  have hW := Wd.back hB ht hF
  clear hB ht hF hz1 hk1 hvm
  refine lv_aload_n hx hb d_Opn_readPageHead_42 rfl (lv_at hl 0 rfl) ?_
  refine w_getf (q := (stC o 2)) (k := 2) (t := 7) (C := R_Opn) (T := F_Opn) (N := 17) hx hb hT hown hK hW fo.1 fo.2 (by decide) in_Opn rfl rfl (by decide) rfl fr_Opn_2 w_3_17 d_Opn_readPageHead_43 rfl ?_
  have hF := hW.free hS hA
  refine va_calll (va_runV (C := R_Src) (As := []) (rest := []) ⟨hx, hb, hml, hown, hT⟩ (k_Src_readVarint l dC dI cI cB cJ cZ ad NN E tM tC kK kV hNN H.size (stC o 2) x28 (st_ty hNN fo.1 fo.2 rfl) hw) ⟨callB_of 0 hT (gwt_in w_6_108) rfl rfl rfl (hT _ w_1_11) (hT _ w_6_105) (by decide +kernel) ⟨Nat.le_trans (Nat.le_of_ble_eq_true rfl) hRf, Nat.le_trans (Nat.le_of_ble_eq_true rfl) hRl⟩, hT _ w_6_106, hT _ w_6_107⟩ ⟨PVc.blind, va_recv hK hW.1 (ci := 8) (q0 := (stC o 2)) rfl (pic_obj (st_ty hNN fo.1 fo.2 rfl).1 (st_ty hNN fo.1 fo.2 rfl).2 (by decide)), PVc.at _ hW hK hN hE hS hF⟩ rfl rfl hl.1 rfl (lv_room (Nat.le_of_ble_eq_true rfl)) d_Opn_readPageHead_46 ⟨hRc, hRs⟩) hS (fun q _ h => hF q h) hF (fun r30 x29 t H locs ht hvm hw hB hz1 hk1 hS => ?_)
  have hW := Wd.back hB ht hF
  clear hB ht hF hz1 hk1 hvm
  refine lv_lstore (lv' := [(5, .long r30), (0, .ref (ad o)), (1, .int l1), (2, .int l2), (3, .long l3)]) hx hb d_Opn_readPageHead_49 hl (by decide) rfl (fun ls hl => ?_)
  refine lv_aload_n hx hb d_Opn_readPageHead_51 rfl (lv_at hl 1 rfl) ?_
  refine w_getf (q := (stC o 2)) (k := 2) (t := 7) (C := R_Opn) (T := F_Opn) (N := 17) hx hb hT hown hK hW fo.1 fo.2 (by decide) in_Opn rfl rfl (by decide) rfl fr_Opn_2 w_3_17 d_Opn_readPageHead_52 rfl ?_
  refine lv_lload hx hb d_Opn_readPageHead_55 (lv_at hl 0 rfl) ?_
  refine lv_lload_n hx hb d_Opn_readPageHead_57 rfl (lv_at hl 4 rfl) ?_
  have hF := hW.free hS hA
  refine va_calli (va_runSN (As := [.long r30, .long l3]) (rest := [.ref (ad (stC o 2))]) ⟨hx, hb, hml, hown, hT⟩ (k_V_within l dC dI cI cB cJ cZ ad NN E tM tC kK kV hNN H.size r30 l3 x29  hw) ⟨va_cnB 2 hT (gwt_in w_6_112) rfl rfl rfl (hN _ wn_6_110 rfl) (hT _ w_1_1) (by decide +kernel) ⟨Nat.le_trans (Nat.le_of_ble_eq_true rfl) hRf, Nat.le_trans (Nat.le_of_ble_eq_true rfl) hRl⟩, hT _ w_6_111, trivial⟩ ⟨PVc.blind, PVc.at _ hW hK hN hE hS hF⟩ rfl rfl hl.1 rfl (lv_room (Nat.le_of_ble_eq_true rfl)) d_Opn_readPageHead_58 ⟨hRc, hRs⟩) hS (fun q _ h => hF q h) hF (fun r32 x31 t H locs ht hvm hw hB hz1 hk1 hS => ?_)
  have hW := Wd.back hB ht hF
  clear hB ht hF hz1 hk1 hvm
  refine lv_bipush (v := 7) hx hb d_Opn_readPageHead_61 (by decide) ?_
  have hF := hW.free hS hA
  refine va_callv (va_runV (C := R_Src) (As := [.int r32, .int 7]) (rest := []) ⟨hx, hb, hml, hown, hT⟩ (k_Src_check l dC dI cI cB cJ cZ ad NN E tM tC kK kV hNN H.size (stC o 2) r32 7 x31 (st_ty hNN fo.1 fo.2 rfl) hw) ⟨callB_of 2 hT (gwt_in w_6_116) rfl rfl rfl (hT _ w_1_11) (hT _ w_6_113) (by decide +kernel) ⟨Nat.le_trans (Nat.le_of_ble_eq_true rfl) hRf, Nat.le_trans (Nat.le_of_ble_eq_true rfl) hRl⟩, hT _ w_6_114, hT _ w_6_115⟩ ⟨PVc.blind, va_recv hK hW.1 (ci := 8) (q0 := (stC o 2)) rfl (pic_obj (st_ty hNN fo.1 fo.2 rfl).1 (st_ty hNN fo.1 fo.2 rfl).2 (by decide)), PVc.at _ hW hK hN hE hS hF⟩ rfl rfl hl.1 rfl (lv_room (Nat.le_of_ble_eq_true rfl)) d_Opn_readPageHead_63 ⟨hRc, hRs⟩) hS (fun q _ h => hF q h) hF (fun  x33 t H locs ht hvm hw hB hz1 hk1 hS => ?_)
  have hW := Wd.back hB ht hF
  clear hB ht hF hz1 hk1 hvm
  refine lv_aload_n hx hb d_Opn_readPageHead_66 rfl (lv_at hl 1 rfl) ?_
  refine w_getf (q := (stC o 2)) (k := 2) (t := 7) (C := R_Opn) (T := F_Opn) (N := 17) hx hb hT hown hK hW fo.1 fo.2 (by decide) in_Opn rfl rfl (by decide) rfl fr_Opn_2 w_3_17 d_Opn_readPageHead_67 rfl ?_
  have hF := hW.free hS hA
  refine va_calli (va_runV (C := R_Src) (As := []) (rest := []) ⟨hx, hb, hml, hown, hT⟩ (k_Src_readByte l dC dI cI cB cJ cZ ad NN E tM tC kK kV hNN H.size (stC o 2) x33 (st_ty hNN fo.1 fo.2 rfl) hw) ⟨callB_of 0 hT (gwt_in w_6_124) rfl rfl rfl (hT _ w_1_11) (hT _ w_6_121) (by decide +kernel) ⟨Nat.le_trans (Nat.le_of_ble_eq_true rfl) hRf, Nat.le_trans (Nat.le_of_ble_eq_true rfl) hRl⟩, hT _ w_6_122, hT _ w_6_123⟩ ⟨PVc.blind, va_recv hK hW.1 (ci := 8) (q0 := (stC o 2)) rfl (pic_obj (st_ty hNN fo.1 fo.2 rfl).1 (st_ty hNN fo.1 fo.2 rfl).2 (by decide)), PVc.at _ hW hK hN hE hS hF⟩ rfl rfl hl.1 rfl (lv_room (Nat.le_of_ble_eq_true rfl)) d_Opn_readPageHead_70 ⟨hRc, hRs⟩) hS (fun q _ h => hF q h) hF (fun r35 x34 t H locs ht hvm hw hB hz1 hk1 hS => ?_)
  have hW := Wd.back hB ht hF
  clear hB ht hF hz1 hk1 hvm
  refine lv_istore (lv' := [(7, .int r35), (5, .long r30), (0, .ref (ad o)), (1, .int l1), (2, .int l2), (3, .long l3)]) hx hb d_Opn_readPageHead_73 hl (by decide) rfl (fun ls hl => ?_)
  refine lv_aload_n hx hb d_Opn_readPageHead_75 rfl (lv_at hl 2 rfl) ?_
  refine w_getf (q := (stC o 2)) (k := 2) (t := 7) (C := R_Opn) (T := F_Opn) (N := 17) hx hb hT hown hK hW fo.1 fo.2 (by decide) in_Opn rfl rfl (by decide) rfl fr_Opn_2 w_3_17 d_Opn_readPageHead_76 rfl ?_
  refine lv_iload hx hb d_Opn_readPageHead_79 (lv_at hl 0 rfl) ?_
  refine lv_iload_n hx hb d_Opn_readPageHead_81 rfl (lv_at hl 3 rfl) ?_
  refine lv_if_ne (tgt := 89) hx hb d_Opn_readPageHead_82 (by decide) (fun c36 => ?_) (fun c36 => ?_)
  · have hw := hw.1 c36
    refine lv_iload_n hx hb d_Opn_readPageHead_89 rfl (lv_at hl 3 rfl) ?_
    refine lv_iconst (v := 3) hx hb d_Opn_readPageHead_90 (by decide) ?_
    refine lv_icmp_ne (tgt := 98) hx hb d_Opn_readPageHead_91 (by decide) (fun c37 => ?_) (fun c37 => ?_)
    · have hw := hw.1 c37
      refine lv_iconst (v := 2) hx hb d_Opn_readPageHead_98 (by decide) ?_
      exact t_Opn_readPageHead_99 hx hb hml hown hT hK hN hA hRc hRs hRf hRl hNN hE hret  o l1 l2 l3 r30 r35 2 r35 (stC o 2) x34 H locs ls fo (st_ty hNN fo.1 fo.2 rfl) hw hW hS (lv_sub hl [2, 3, 4, 5, 1, 0] rfl)
    · have hw := hw.2 c37
      refine lv_iconst (v := 3) hx hb d_Opn_readPageHead_94 (by decide) ?_
      refine lv_goto (tgt := 99) hx hb d_Opn_readPageHead_95 (by decide) ?_
      exact t_Opn_readPageHead_99 hx hb hml hown hT hK hN hA hRc hRs hRf hRl hNN hE hret  o l1 l2 l3 r30 r35 3 r35 (stC o 2) x34 H locs ls fo (st_ty hNN fo.1 fo.2 rfl) hw hW hS (lv_sub hl [2, 3, 4, 5, 1, 0] rfl)
  · have hw := hw.2 c36
    refine lv_iconst (v := 1) hx hb d_Opn_readPageHead_85 (by decide) ?_
    refine lv_goto (tgt := 99) hx hb d_Opn_readPageHead_86 (by decide) ?_
    exact t_Opn_readPageHead_99 hx hb hml hown hT hK hN hA hRc hRs hRf hRl hNN hE hret  o l1 l2 l3 r30 r35 1 r35 (stC o 2) x34 H locs ls fo (st_ty hNN fo.1 fo.2 rfl) hw hW hS (lv_sub hl [2, 3, 4, 5, 1, 0] rfl)
set_option maxRecDepth 100000 in
set_option maxHeartbeats 4000000 in
set_option maxRecDepth 100000 in
theorem t_Opn_readPageHead_e {p : Program} {l : Launch} {e : Env} {R : Room} {s : State} {m : MethodId} {args : Array Value} {below : List Frame} {meth : Method} {c : Code} {cells slots : Nat} {Q : State → Prop} {dC : Nat → ClassId} {dI : Nat → Nat → Nat} {cI cB cJ cZ : ClassId} {A : Nat → Prop} {ad : Nat → Nat} {NN : Nat} {E : Heap} {tM tC : Nat} {kK kV : Nat → Nat} {post : Int32 → St → Prop} (hx : p.tables.exec = Jvm.exec) (hb : c.code = b_Opn_readPageHead) (hml : c.maxLocals = 11) (hown : s.vm.findClass R_Opn = some m.cls) (hT : ∀ w ∈ TG, w.before args s = true) (hK : va_K (dC, dI) CL (TY cI cB cJ cZ) s) (hN : NW s) (hA : ∀ q : Nat, s.heap.size ≤ q → A q) (hRc : cells ≤ R.cells) (hRs : slots ≤ R.slots) (hRf : 3 ≤ R.frames) (hRl : 69 ≤ R.locals) (hNN : 152 ≤ NN) (hE : CE E tM tC kK kV A s) (hret : ∀ (r : Int32) (x : St) (H : Heap) (locs : List Loc) (pc : Nat) (ls : Array Slot), decode b_Opn_readPageHead pc = .ok (.ireturn, 1) → post r x → Wd dC dI cI cB cJ cZ ad stC kcC NN A x H → va_S A s.heap H locs → W p l e R s m args below meth c H locs cells slots Q (F0 m pc ls [.int r])) : ∀ (o : Nat) (l1 : Int32) (l2 : Int32) (x : St) (H : Heap) (locs : List Loc) (ls : Array Slot), (o < NN ∧ kcC o = 7) → wp_Opn_readPageHead post o l1 l2 x → Wd dC dI cI cB cJ cZ ad stC kcC NN A x H → va_S A s.heap H locs → lv_has ls 11 [(0, .ref (ad o)), (1, .int l1), (2, .int l2)] → W p l e R s m args below meth c H locs cells slots Q (F0 m 0 ls []) := by
  intro o l1 l2 x H locs ls fo hw hW hS hl
  unfold wp_Opn_readPageHead at hw
  refine lv_aload_n hx hb d_Opn_readPageHead_0 rfl (lv_at hl 0 rfl) ?_
  refine w_getf (q := (stC o 2)) (k := 2) (t := 7) (C := R_Opn) (T := F_Opn) (N := 17) hx hb hT hown hK hW fo.1 fo.2 (by decide) in_Opn rfl rfl (by decide) rfl fr_Opn_2 w_3_17 d_Opn_readPageHead_1 rfl ?_
  have hF := hW.free hS hA
  refine va_calll (va_runV (C := R_Src) (As := []) (rest := []) ⟨hx, hb, hml, hown, hT⟩ (k_Src_readVarint l dC dI cI cB cJ cZ ad NN E tM tC kK kV hNN H.size (stC o 2) x (st_ty hNN fo.1 fo.2 rfl) hw) ⟨callB_of 0 hT (gwt_in w_6_108) rfl rfl rfl (hT _ w_1_11) (hT _ w_6_105) (by decide +kernel) ⟨Nat.le_trans (Nat.le_of_ble_eq_true rfl) hRf, Nat.le_trans (Nat.le_of_ble_eq_true rfl) hRl⟩, hT _ w_6_106, hT _ w_6_107⟩ ⟨PVc.blind, va_recv hK hW.1 (ci := 8) (q0 := (stC o 2)) rfl (pic_obj (st_ty hNN fo.1 fo.2 rfl).1 (st_ty hNN fo.1 fo.2 rfl).2 (by decide)), PVc.at _ hW hK hN hE hS hF⟩ rfl rfl hl.1 rfl (lv_room (Nat.le_of_ble_eq_true rfl)) d_Opn_readPageHead_4 ⟨hRc, hRs⟩) hS (fun q _ h => hF q h) hF (fun r39 x38 t H locs ht hvm hw hB hz1 hk1 hS => ?_)
  have hW := Wd.back hB ht hF
  clear hB ht hF hz1 hk1 hvm
  refine lv_lstore_n (lv' := [(3, .long r39), (0, .ref (ad o)), (1, .int l1), (2, .int l2)]) hx hb d_Opn_readPageHead_7 rfl hl (by decide) rfl (fun ls hl => ?_)
  refine lv_aload_n hx hb d_Opn_readPageHead_8 rfl (lv_at hl 1 rfl) ?_
  refine w_getf (q := (stC o 2)) (k := 2) (t := 7) (C := R_Opn) (T := F_Opn) (N := 17) hx hb hT hown hK hW fo.1 fo.2 (by decide) in_Opn rfl rfl (by decide) rfl fr_Opn_2 w_3_17 d_Opn_readPageHead_9 rfl ?_
  refine lv_lload_n hx hb d_Opn_readPageHead_12 rfl (lv_at hl 0 rfl) ?_
  refine lv_lconst (v := 0) hx hb d_Opn_readPageHead_13 (by decide) ?_
  refine W.lcmp hx hb d_Opn_readPageHead_14 ?_
  refine lv_if_eq (tgt := 22) hx hb d_Opn_readPageHead_15 (by decide) (fun c40 => ?_) (fun c40 => ?_)
  · have hw := hw.1 c40
    refine lv_iconst (v := 0) hx hb d_Opn_readPageHead_22 (by decide) ?_
    exact t_Opn_readPageHead_23 hx hb hml hown hT hK hN hA hRc hRs hRf hRl hNN hE hret  o l1 l2 r39 0 (stC o 2) x38 H locs ls fo (st_ty hNN fo.1 fo.2 rfl) hw hW hS (lv_sub hl [1, 2, 3, 0] rfl)
  · have hw := hw.2 c40
    refine lv_iconst (v := 1) hx hb d_Opn_readPageHead_18 (by decide) ?_
    refine lv_goto (tgt := 23) hx hb d_Opn_readPageHead_19 (by decide) ?_
    exact t_Opn_readPageHead_23 hx hb hml hown hT hK hN hA hRc hRs hRf hRl hNN hE hret  o l1 l2 r39 1 (stC o 2) x38 H locs ls fo (st_ty hNN fo.1 fo.2 rfl) hw hW hS (lv_sub hl [1, 2, 3, 0] rfl)
set_option maxHeartbeats 4000000 in
set_option maxRecDepth 100000 in
theorem k_Opn_readPageHead (l : Launch) (dC : Nat → ClassId) (dI : Nat → Nat → Nat) (cI cB cJ cZ : ClassId) (ad : Nat → Nat) (NN : Nat) (E : Heap) (tM tC : Nat) (kK kV : Nat → Nat) (hNN : 152 ≤ NN) (sz : Nat) (o : Nat) (l1 : Int32) (l2 : Int32) (x : St) (fo : o < NN ∧ kcC o = 7) {post : Int32 → St → Prop} (hw : wp_Opn_readPageHead post o l1 l2 x) : Met l y_Opn_readPageHead (wsOf y_Opn_readPageHead b_Opn_readPageHead 11 (some (.int))) ({ frames := 3, cells := 0, slots := 0, locals := 69 }) (va_Pc [.ref (ad o), .int l1, .int l2] (PVc dC dI cI cB cJ cZ ad stC kcC NN E tM tC kK kV sz x)) (va_Qi (fun (r : Int32) (y : St) => post r y) (fun y t => Wd dC dI cI cB cJ cZ ad stC kcC NN (va_A (pic ad stC kcC NN cI cB cJ cZ x) sz) y t.heap) (va_A (pic ad stC kcC NN cI cB cJ cZ x) sz)) 0 0 (va_A (pic ad stC kcC NN cI cB cJ cZ x) sz) := by
  refine Met.ofW (cc := b_Opn_readPageHead) (maxL := 11) (ret := some (.int)) (by decide) rfl ?_
  intro p e s m args below meth c s₁ B hml hv
  obtain ⟨rfl, ⟨hsz, hW0, hK, hN⟩, hE⟩ := hv
  have hx := B.exec
  have hb := B.bytes
  have hr := B.returns
  have hts := atoms_spec B.pre
  have hT : ∀ w ∈ TG, w.before _ s = true := fun w h => hts w (List.mem_cons_of_mem _ h)
  have hown : s.vm.findClass R_Opn = some m.cls := findClass_of_methodNamed B.named
  have hlocks := B.notSynchronized
  subst hsz
  have hW : Wd dC dI cI cB cJ cZ ad stC kcC NN (va_A (pic ad stC kcC NN cI cB cJ cZ x) s.heap.size) x s.heap := ⟨hW0.1, hW0.2.1.self (sz := s.heap.size), hW0.2.2⟩
  generalize hAe : va_A (pic ad stC kcC NN cI cB cJ cZ x) s.heap.size = A at hW hE ⊢
  have hA : ∀ q : Nat, s.heap.size ≤ q → A q := fun q h => by rw [← hAe]; exact Or.inr h
  have hS : va_S A s.heap s.heap [] := va_S.rf
  have hl := lv_entry ([.ref (ad o), .int l1, .int l2]) (n := 11) (Nat.le_of_ble_eq_true rfl)
  rw [lg_entry_eq]
  generalize (lg_sl ([.ref (ad o), .int l1, .int l2]) ++ List.replicate (11 - (lg_sl ([.ref (ad o), .int l1, .int l2])).length) Slot.unset).toArray = ls at hl ⊢
  have hl : lv_has ls 11 [(0, .ref (ad o)), (1, .int l1), (2, .int l2)] := hl
  exact t_Opn_readPageHead_e hx hb hml hown hT hK hN hA (Nat.le_refl 0) (Nat.le_refl 0) (Nat.le_refl 3) (Nat.le_refl 69) hNN hE (fun r x H locs pc ls hd hp hW hS => W.iret (v := r) hx hb hr (fun t ht hM => ⟨⟨r, x, rfl, hp, Wd.back hW ht.symm (fun _ z => z)⟩, hS.F ht⟩) hS.2.2 hd hlocks)  o l1 l2 x _ _ ls fo hw hW hS hl
set_option maxRecDepth 100000 in
set_option maxHeartbeats 4000000 in
set_option maxRecDepth 100000 in
theorem t_Src_readSame_52 {p : Program} {l : Launch} {e : Env} {R : Room} {s : State} {m : MethodId} {args : Array Value} {below : List Frame} {meth : Method} {c : Code} {cells slots : Nat} {Q : State → Prop} {dC : Nat → ClassId} {dI : Nat → Nat → Nat} {cI cB cJ cZ : ClassId} {A : Nat → Prop} {ad : Nat → Nat} {NN : Nat} {E : Heap} {tM tC : Nat} {kK kV : Nat → Nat} {post : Int32 → St → Prop} {rec52 : Nat → Nat → Int32 → Int64 → Int32 → Int64 → Int32 → Int32 → St → Prop} (hx : p.tables.exec = Jvm.exec) (hb : c.code = b_Src_readSame) (hml : c.maxLocals = 10) (hown : s.vm.findClass R_Src = some m.cls) (hT : ∀ w ∈ TG, w.before args s = true) (hK : va_K (dC, dI) CL (TY cI cB cJ cZ) s) (hN : NW s) (hA : ∀ q : Nat, s.heap.size ≤ q → A q) (hRc : cells ≤ R.cells) (hRs : slots ≤ R.slots) (hRf : 1 ≤ R.frames) (hRl : 24 ≤ R.locals) (hNN : 152 ≤ NN) (hE : CE E tM tC kK kV A s) (hret : ∀ (r : Int32) (x : St) (H : Heap) (locs : List Loc) (pc : Nat) (ls : Array Slot), decode b_Src_readSame pc = .ok (.ireturn, 1) → post r x → Wd dC dI cI cB cJ cZ ad stC kcC NN A x H → va_S A s.heap H locs → W p l e R s m args below meth c H locs cells slots Q (F0 m pc ls [.int r])) (hrec52 : ∀ (o : Nat) (l1 : Nat) (l2 : Int32) (l3 : Int64) (l5 : Int32) (l6 : Int64) (l8 : Int32) (l9 : Int32) (x : St) (H : Heap) (locs : List Loc) (ls : Array Slot), (o < NN ∧ kcC o = 8) → (l1 < NN ∧ kcC l1 = 22) → rec52 o l1 l2 l3 l5 l6 l8 l9 x → Wd dC dI cI cB cJ cZ ad stC kcC NN A x H → va_S A s.heap H locs → lv_has ls 10 [(0, .ref (ad o)), (1, .ref (ad l1)), (2, .int l2), (3, .long l3), (5, .int l5), (6, .long l6), (8, .int l8), (9, .int l9)] → W p l e R s m args below meth c H locs cells slots Q (F0 m 52 ls [])) : ∀ (o : Nat) (l1 : Nat) (l2 : Int32) (l3 : Int64) (l5 : Int32) (l6 : Int64) (l8 : Int32) (l9 : Int32) (x : St) (H : Heap) (locs : List Loc) (ls : Array Slot), (o < NN ∧ kcC o = 8) → (l1 < NN ∧ kcC l1 = 22) → j_Src_readSame_52 post rec52 o l1 l2 l3 l5 l6 l8 l9 x → Wd dC dI cI cB cJ cZ ad stC kcC NN A x H → va_S A s.heap H locs → lv_has ls 10 [(0, .ref (ad o)), (1, .ref (ad l1)), (2, .int l2), (3, .long l3), (5, .int l5), (6, .long l6), (8, .int l8), (9, .int l9)] → W p l e R s m args below meth c H locs cells slots Q (F0 m 52 ls []) := by
  intro o l1 l2 l3 l5 l6 l8 l9 x H locs ls fo fl1 hw hW hS hl
  unfold j_Src_readSame_52 at hw
  refine lv_iload hx hb d_Src_readSame_52 (lv_at hl 7 rfl) ?_
  refine lv_iload hx hb d_Src_readSame_54 (lv_at hl 6 rfl) ?_
  refine lv_icmp_ge (tgt := 71) hx hb d_Src_readSame_56 (by decide) (fun c1 => ?_) (fun c1 => ?_)
  · have hw := hw.1 c1
    refine lv_iload hx hb d_Src_readSame_71 (lv_at hl 6 rfl) ?_
    exact hret l8 x H locs 73 ls d_Src_readSame_73 hw hW hS
  · have hw := hw.2 c1
    refine lv_aload_n hx hb d_Src_readSame_59 rfl (lv_at hl 1 rfl) ?_
    refine lv_iload hx hb d_Src_readSame_60 (lv_at hl 7 rfl) ?_
    refine lv_lload hx hb d_Src_readSame_62 (lv_at hl 5 rfl) ?_
    obtain ⟨hi, hw⟩ := hw
    refine w_last (o := l1) hx hb hK hW hS fl1.1 fl1.2 hi d_Src_readSame_64 (fun H locs hW hS => ?_)
    obtain ⟨x2, ex2⟩ : ∃ y : St, y = setL x l1 l9 l6 := ⟨_, rfl⟩
    rw [← ex2] at hW
    have hw := hw x2 ex2
    refine lv_iinc (v := (l9 + 1)) (lv' := [(9, .int (l9 + 1)), (0, .ref (ad o)), (1, .ref (ad l1)), (2, .int l2), (3, .long l3), (5, .int l5), (6, .long l6), (8, .int l8)]) hx hb d_Src_readSame_65 hl (k := 7) rfl rfl (by decide) rfl (fun ls hl => ?_)
    refine lv_goto (tgt := 52) hx hb d_Src_readSame_68 (by decide) ?_
    exact hrec52 o l1 l2 l3 l5 l6 l8 (l9 + 1) x2 H locs ls fo fl1 hw hW hS (lv_sub hl [1, 2, 3, 4, 5, 6, 7, 0] rfl)
set_option maxHeartbeats 4000000 in
set_option maxRecDepth 100000 in
theorem tl_Src_readSame_52 {p : Program} {l : Launch} {e : Env} {R : Room} {s : State} {m : MethodId} {args : Array Value} {below : List Frame} {meth : Method} {c : Code} {cells slots : Nat} {Q : State → Prop} {dC : Nat → ClassId} {dI : Nat → Nat → Nat} {cI cB cJ cZ : ClassId} {A : Nat → Prop} {ad : Nat → Nat} {NN : Nat} {E : Heap} {tM tC : Nat} {kK kV : Nat → Nat} {post : Int32 → St → Prop} (hx : p.tables.exec = Jvm.exec) (hb : c.code = b_Src_readSame) (hml : c.maxLocals = 10) (hown : s.vm.findClass R_Src = some m.cls) (hT : ∀ w ∈ TG, w.before args s = true) (hK : va_K (dC, dI) CL (TY cI cB cJ cZ) s) (hN : NW s) (hA : ∀ q : Nat, s.heap.size ≤ q → A q) (hRc : cells ≤ R.cells) (hRs : slots ≤ R.slots) (hRf : 1 ≤ R.frames) (hRl : 24 ≤ R.locals) (hNN : 152 ≤ NN) (hE : CE E tM tC kK kV A s) (hret : ∀ (r : Int32) (x : St) (H : Heap) (locs : List Loc) (pc : Nat) (ls : Array Slot), decode b_Src_readSame pc = .ok (.ireturn, 1) → post r x → Wd dC dI cI cB cJ cZ ad stC kcC NN A x H → va_S A s.heap H locs → W p l e R s m args below meth c H locs cells slots Q (F0 m pc ls [.int r]))  : ∀ n : Nat, ∀ (o : Nat) (l1 : Nat) (l2 : Int32) (l3 : Int64) (l5 : Int32) (l6 : Int64) (l8 : Int32) (l9 : Int32) (x : St) (H : Heap) (locs : List Loc) (ls : Array Slot), (o < NN ∧ kcC o = 8) → (l1 < NN ∧ kcC l1 = 22) → wl_Src_readSame_52 post n o l1 l2 l3 l5 l6 l8 l9 x → Wd dC dI cI cB cJ cZ ad stC kcC NN A x H → va_S A s.heap H locs → lv_has ls 10 [(0, .ref (ad o)), (1, .ref (ad l1)), (2, .int l2), (3, .long l3), (5, .int l5), (6, .long l6), (8, .int l8), (9, .int l9)] → W p l e R s m args below meth c H locs cells slots Q (F0 m 52 ls []) := by
  intro n
  induction n with
  | zero => intro o l1 l2 l3 l5 l6 l8 l9 x H locs ls fo fl1 hw; exact hw.elim
  | succ n ih => intro o l1 l2 l3 l5 l6 l8 l9 x H locs ls fo fl1 hw hW hS hl; exact t_Src_readSame_52 hx hb hml hown hT hK hN hA hRc hRs hRf hRl hNN hE hret  ih o l1 l2 l3 l5 l6 l8 l9 x H locs ls fo fl1 hw hW hS hl
set_option maxRecDepth 100000 in
set_option maxHeartbeats 4000000 in
set_option maxRecDepth 100000 in
theorem t_Src_readSame_30 {p : Program} {l : Launch} {e : Env} {R : Room} {s : State} {m : MethodId} {args : Array Value} {below : List Frame} {meth : Method} {c : Code} {cells slots : Nat} {Q : State → Prop} {dC : Nat → ClassId} {dI : Nat → Nat → Nat} {cI cB cJ cZ : ClassId} {A : Nat → Prop} {ad : Nat → Nat} {NN : Nat} {E : Heap} {tM tC : Nat} {kK kV : Nat → Nat} {post : Int32 → St → Prop} (hx : p.tables.exec = Jvm.exec) (hb : c.code = b_Src_readSame) (hml : c.maxLocals = 10) (hown : s.vm.findClass R_Src = some m.cls) (hT : ∀ w ∈ TG, w.before args s = true) (hK : va_K (dC, dI) CL (TY cI cB cJ cZ) s) (hN : NW s) (hA : ∀ q : Nat, s.heap.size ≤ q → A q) (hRc : cells ≤ R.cells) (hRs : slots ≤ R.slots) (hRf : 1 ≤ R.frames) (hRl : 24 ≤ R.locals) (hNN : 152 ≤ NN) (hE : CE E tM tC kK kV A s) (hret : ∀ (r : Int32) (x : St) (H : Heap) (locs : List Loc) (pc : Nat) (ls : Array Slot), decode b_Src_readSame pc = .ok (.ireturn, 1) → post r x → Wd dC dI cI cB cJ cZ ad stC kcC NN A x H → va_S A s.heap H locs → W p l e R s m args below meth c H locs cells slots Q (F0 m pc ls [.int r]))  : ∀ (o : Nat) (l1 : Nat) (l2 : Int32) (l3 : Int64) (l5 : Int32) (l6 : Int64) (s0 : Int32) (s1 : Nat) (x : St) (H : Heap) (locs : List Loc) (ls : Array Slot), (o < NN ∧ kcC o = 8) → (l1 < NN ∧ kcC l1 = 22) → (s1 < NN ∧ kcC s1 = 8) → j_Src_readSame_30 post o l1 l2 l3 l5 l6 s0 s1 x → Wd dC dI cI cB cJ cZ ad stC kcC NN A x H → va_S A s.heap H locs → lv_has ls 10 [(0, .ref (ad o)), (1, .ref (ad l1)), (2, .int l2), (3, .long l3), (5, .int l5), (6, .long l6)] → W p l e R s m args below meth c H locs cells slots Q (F0 m 30 ls [.int s0, .ref (ad s1)]) := by
  intro o l1 l2 l3 l5 l6 s0 s1 x H locs ls fo fl1 fs1 hw hW hS hl
  unfold j_Src_readSame_30 at hw
  refine lv_iconst (v := 5) hx hb d_Src_readSame_30 (by decide) ?_
  have hF := hW.free hS hA
  refine va_callv (va_runV (C := R_Src) (As := [.int s0, .int 5]) (rest := []) ⟨hx, hb, hml, hown, hT⟩ (k_Src_check l dC dI cI cB cJ cZ ad NN E tM tC kK kV hNN H.size s1 s0 5 x fs1 hw) ⟨callB_of 2 hT (gwt_in w_6_116) rfl rfl rfl (hT _ w_1_11) (hT _ w_6_156) (by decide +kernel) ⟨Nat.le_trans (Nat.le_of_ble_eq_true rfl) hRf, Nat.le_trans (Nat.le_of_ble_eq_true rfl) hRl⟩, hT _ w_6_114, hT _ w_6_115⟩ ⟨PVc.blind, va_recv hK hW.1 (ci := 8) (q0 := s1) rfl (pic_obj fs1.1 fs1.2 (by decide)), PVc.at _ hW hK hN hE hS hF⟩ rfl rfl hl.1 rfl (lv_room (Nat.le_of_ble_eq_true rfl)) d_Src_readSame_31 ⟨hRc, hRs⟩) hS (fun q _ h => hF q h) hF (fun  x3 t H locs ht hvm hw hB hz1 hk1 hS => ?_)
  have hW := Wd.back hB ht hF
  clear hB ht hF hz1 hk1 hvm
  refine lv_aload_n hx hb d_Src_readSame_34 rfl (lv_at hl 0 rfl) ?_
  refine w_geti (k := 3) (t := 8) (C := R_Src) (T := F_Src) (N := 5) hx hb hT hown hK hW fo.1 fo.2 (by decide) in_Src rfl rfl (by decide) rfl fr_Src_3 w_3_1 d_Src_readSame_35 ?_
  refine lv_if_eq (tgt := 43) hx hb d_Src_readSame_38 (by decide) (fun c4 => ?_) (fun c4 => ?_)
  · have hw := hw.1 c4
    refine lv_iload_n hx hb d_Src_readSame_43 rfl (lv_at hl 2 rfl) ?_
    refine lv_lload_n hx hb d_Src_readSame_44 rfl (lv_at hl 3 rfl) ?_
    refine lv_l2i hx hb d_Src_readSame_45 rfl ?_
    refine lv_iadd hx hb d_Src_readSame_46 ?_
    refine lv_topi (fun v5 ev5 => ?_)
    have hw := hw v5 ev5
    refine lv_istore (lv' := [(8, .int v5), (0, .ref (ad o)), (1, .ref (ad l1)), (2, .int l2), (3, .long l3), (5, .int l5), (6, .long l6)]) hx hb d_Src_readSame_47 hl (by decide) rfl (fun ls hl => ?_)
    refine lv_iload_n hx hb d_Src_readSame_49 rfl (lv_at hl 3 rfl) ?_
    refine lv_istore (lv' := [(9, .int l2), (8, .int v5), (0, .ref (ad o)), (1, .ref (ad l1)), (2, .int l2), (3, .long l3), (5, .int l5), (6, .long l6)]) hx hb d_Src_readSame_50 hl (by decide) rfl (fun ls hl => ?_)
    obtain ⟨n, hw⟩ := hw
    exact tl_Src_readSame_52 hx hb hml hown hT hK hN hA hRc hRs hRf hRl hNN hE hret  n o l1 l2 l3 l5 l6 v5 l2 x3 H locs ls fo fl1 hw hW hS (lv_sub hl [2, 3, 4, 5, 6, 7, 1, 0] rfl)
  · have hw := hw.2 c4
    refine lv_iload_n hx hb d_Src_readSame_41 rfl (lv_at hl 2 rfl) ?_
    exact hret l2 x3 H locs 42 ls d_Src_readSame_42 hw hW hS
set_option maxRecDepth 100000 in
set_option maxHeartbeats 4000000 in
set_option maxRecDepth 100000 in
theorem t_Src_readSame_e {p : Program} {l : Launch} {e : Env} {R : Room} {s : State} {m : MethodId} {args : Array Value} {below : List Frame} {meth : Method} {c : Code} {cells slots : Nat} {Q : State → Prop} {dC : Nat → ClassId} {dI : Nat → Nat → Nat} {cI cB cJ cZ : ClassId} {A : Nat → Prop} {ad : Nat → Nat} {NN : Nat} {E : Heap} {tM tC : Nat} {kK kV : Nat → Nat} {post : Int32 → St → Prop} (hx : p.tables.exec = Jvm.exec) (hb : c.code = b_Src_readSame) (hml : c.maxLocals = 10) (hown : s.vm.findClass R_Src = some m.cls) (hT : ∀ w ∈ TG, w.before args s = true) (hK : va_K (dC, dI) CL (TY cI cB cJ cZ) s) (hN : NW s) (hA : ∀ q : Nat, s.heap.size ≤ q → A q) (hRc : cells ≤ R.cells) (hRs : slots ≤ R.slots) (hRf : 1 ≤ R.frames) (hRl : 24 ≤ R.locals) (hNN : 152 ≤ NN) (hE : CE E tM tC kK kV A s) (hret : ∀ (r : Int32) (x : St) (H : Heap) (locs : List Loc) (pc : Nat) (ls : Array Slot), decode b_Src_readSame pc = .ok (.ireturn, 1) → post r x → Wd dC dI cI cB cJ cZ ad stC kcC NN A x H → va_S A s.heap H locs → W p l e R s m args below meth c H locs cells slots Q (F0 m pc ls [.int r])) : ∀ (o : Nat) (l1 : Nat) (l2 : Int32) (l3 : Int64) (l5 : Int32) (x : St) (H : Heap) (locs : List Loc) (ls : Array Slot), (o < NN ∧ kcC o = 8) → (l1 < NN ∧ kcC l1 = 22) → wp_Src_readSame post o l1 l2 l3 l5 x → Wd dC dI cI cB cJ cZ ad stC kcC NN A x H → va_S A s.heap H locs → lv_has ls 10 [(0, .ref (ad o)), (1, .ref (ad l1)), (2, .int l2), (3, .long l3), (5, .int l5)] → W p l e R s m args below meth c H locs cells slots Q (F0 m 0 ls []) := by
  intro o l1 l2 l3 l5 x H locs ls fo fl1 hw hW hS hl
  unfold wp_Src_readSame at hw
  refine lv_aload_n hx hb d_Src_readSame_0 rfl (lv_at hl 0 rfl) ?_
  refine lv_iload hx hb d_Src_readSame_1 (lv_at hl 4 rfl) ?_
  refine lv_bipush (v := 7) hx hb d_Src_readSame_3 (by decide) ?_
  refine lv_iadd hx hb d_Src_readSame_5 ?_
  refine lv_bipush (v := 8) hx hb d_Src_readSame_6 (by decide) ?_
  refine lv_idiv hx hb d_Src_readSame_8 (by decide) ?_
  have hF := hW.free hS hA
  refine va_calll (va_runV (C := R_Src) (As := [.int ((l5 + 7) / 8)]) (rest := []) ⟨hx, hb, hml, hown, hT⟩ (k_Src_readFixed l dC dI cI cB cJ cZ ad NN E tM tC kK kV hNN H.size o ((l5 + 7) / 8) x fo hw) ⟨callB_of 1 hT (gwt_in w_6_93) rfl rfl rfl (hT _ w_1_11) (hT _ w_6_207) (by decide +kernel) ⟨Nat.le_trans (Nat.le_of_ble_eq_true rfl) hRf, Nat.le_trans (Nat.le_of_ble_eq_true rfl) hRl⟩, hT _ w_6_91, hT _ w_6_92⟩ ⟨PVc.blind, va_recv hK hW.1 (ci := 8) (q0 := o) rfl (pic_obj fo.1 fo.2 (by decide)), PVc.at _ hW hK hN hE hS hF⟩ rfl rfl hl.1 rfl (lv_room (Nat.le_of_ble_eq_true rfl)) d_Src_readSame_9 ⟨hRc, hRs⟩) hS (fun q _ h => hF q h) hF (fun r7 x6 t H locs ht hvm hw hB hz1 hk1 hS => ?_)
  have hW := Wd.back hB ht hF
  clear hB ht hF hz1 hk1 hvm
  refine lv_lstore (lv' := [(6, .long r7), (0, .ref (ad o)), (1, .ref (ad l1)), (2, .int l2), (3, .long l3), (5, .int l5)]) hx hb d_Src_readSame_12 hl (by decide) rfl (fun ls hl => ?_)
  refine lv_aload_n hx hb d_Src_readSame_14 rfl (lv_at hl 1 rfl) ?_
  refine lv_lload hx hb d_Src_readSame_15 (lv_at hl 0 rfl) ?_
  refine lv_iload hx hb d_Src_readSame_17 (lv_at hl 5 rfl) ?_
  refine lv_lushr hx hb d_Src_readSame_19 rfl ?_
  refine lv_lconst (v := 0) hx hb d_Src_readSame_20 (by decide) ?_
  refine W.lcmp hx hb d_Src_readSame_21 ?_
  refine lv_if_ne (tgt := 29) hx hb d_Src_readSame_22 (by decide) (fun c8 => ?_) (fun c8 => ?_)
  · have hw := hw.1 c8
    refine lv_iconst (v := 0) hx hb d_Src_readSame_29 (by decide) ?_
    exact t_Src_readSame_30 hx hb hml hown hT hK hN hA hRc hRs hRf hRl hNN hE hret  o l1 l2 l3 l5 r7 0 o x6 H locs ls fo fl1 fo hw hW hS (lv_sub hl [1, 2, 3, 4, 5, 0] rfl)
  · have hw := hw.2 c8
    refine lv_iconst (v := 1) hx hb d_Src_readSame_25 (by decide) ?_
    refine lv_goto (tgt := 30) hx hb d_Src_readSame_26 (by decide) ?_
    exact t_Src_readSame_30 hx hb hml hown hT hK hN hA hRc hRs hRf hRl hNN hE hret  o l1 l2 l3 l5 r7 1 o x6 H locs ls fo fl1 fo hw hW hS (lv_sub hl [1, 2, 3, 4, 5, 0] rfl)
set_option maxHeartbeats 4000000 in
set_option maxRecDepth 100000 in
theorem k_Src_readSame (l : Launch) (dC : Nat → ClassId) (dI : Nat → Nat → Nat) (cI cB cJ cZ : ClassId) (ad : Nat → Nat) (NN : Nat) (E : Heap) (tM tC : Nat) (kK kV : Nat → Nat) (hNN : 152 ≤ NN) (sz : Nat) (o : Nat) (l1 : Nat) (l2 : Int32) (l3 : Int64) (l5 : Int32) (x : St) (fo : o < NN ∧ kcC o = 8) (fl1 : l1 < NN ∧ kcC l1 = 22) {post : Int32 → St → Prop} (hw : wp_Src_readSame post o l1 l2 l3 l5 x) : Met l y_Src_readSame (wsOf y_Src_readSame b_Src_readSame 10 (some (.int))) ({ frames := 1, cells := 0, slots := 0, locals := 24 }) (va_Pc [.ref (ad o), .ref (ad l1), .int l2, .long l3, .int l5] (PVc dC dI cI cB cJ cZ ad stC kcC NN E tM tC kK kV sz x)) (va_Qi (fun (r : Int32) (y : St) => post r y) (fun y t => Wd dC dI cI cB cJ cZ ad stC kcC NN (va_A (pic ad stC kcC NN cI cB cJ cZ x) sz) y t.heap) (va_A (pic ad stC kcC NN cI cB cJ cZ x) sz)) 0 0 (va_A (pic ad stC kcC NN cI cB cJ cZ x) sz) := by
  refine Met.ofW (cc := b_Src_readSame) (maxL := 10) (ret := some (.int)) (by decide) rfl ?_
  intro p e s m args below meth c s₁ B hml hv
  obtain ⟨rfl, ⟨hsz, hW0, hK, hN⟩, hE⟩ := hv
  have hx := B.exec
  have hb := B.bytes
  have hr := B.returns
  have hts := atoms_spec B.pre
  have hT : ∀ w ∈ TG, w.before _ s = true := fun w h => hts w (List.mem_cons_of_mem _ h)
  have hown : s.vm.findClass R_Src = some m.cls := findClass_of_methodNamed B.named
  have hlocks := B.notSynchronized
  subst hsz
  have hW : Wd dC dI cI cB cJ cZ ad stC kcC NN (va_A (pic ad stC kcC NN cI cB cJ cZ x) s.heap.size) x s.heap := ⟨hW0.1, hW0.2.1.self (sz := s.heap.size), hW0.2.2⟩
  generalize hAe : va_A (pic ad stC kcC NN cI cB cJ cZ x) s.heap.size = A at hW hE ⊢
  have hA : ∀ q : Nat, s.heap.size ≤ q → A q := fun q h => by rw [← hAe]; exact Or.inr h
  have hS : va_S A s.heap s.heap [] := va_S.rf
  have hl := lv_entry ([.ref (ad o), .ref (ad l1), .int l2, .long l3, .int l5]) (n := 10) (Nat.le_of_ble_eq_true rfl)
  rw [lg_entry_eq]
  generalize (lg_sl ([.ref (ad o), .ref (ad l1), .int l2, .long l3, .int l5]) ++ List.replicate (10 - (lg_sl ([.ref (ad o), .ref (ad l1), .int l2, .long l3, .int l5])).length) Slot.unset).toArray = ls at hl ⊢
  have hl : lv_has ls 10 [(0, .ref (ad o)), (1, .ref (ad l1)), (2, .int l2), (3, .long l3), (5, .int l5)] := hl
  exact t_Src_readSame_e hx hb hml hown hT hK hN hA (Nat.le_refl 0) (Nat.le_refl 0) (Nat.le_refl 1) (Nat.le_refl 24) hNN hE (fun r x H locs pc ls hd hp hW hS => W.iret (v := r) hx hb hr (fun t ht hM => ⟨⟨r, x, rfl, hp, Wd.back hW ht.symm (fun _ z => z)⟩, hS.F ht⟩) hS.2.2 hd hlocks)  o l1 l2 l3 l5 x _ _ ls fo fl1 hw hW hS hl
end
