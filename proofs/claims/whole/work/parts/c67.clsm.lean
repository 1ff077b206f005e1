theorem fr_Wrt_2 : F_Wrt 2 = (R_Wrt, "body", "LStripedVault$Sink;", true) := rfl
theorem w_1_159 : (Jvm.Cond.fieldLink "StripedVault$Writer" (204 : Nat) "StripedVault$Schema" "rep" "[I") ∈ TG := tw_1 159 (by decide +kernel) (by decide +kernel)
theorem w_1_41 : (Jvm.Cond.fieldLink "StripedVault$Writer" (123 : Nat) "StripedVault$Sink" "bytes" "[B") ∈ TG := tw_1 41 (by decide +kernel) (by decide +kernel)
theorem w_1_49 : (Jvm.Cond.fieldLink "StripedVault$Writer" (135 : Nat) "StripedVault$Sink" "over" "Z") ∈ TG := tw_1 49 (by decide +kernel) (by decide +kernel)
theorem w_2_53 : (Jvm.Cond.fieldLink "StripedVault$Writer" (24 : Nat) "StripedVault$Writer" "body" "LStripedVault$Sink;") ∈ TG := tw_2 53 (by decide +kernel) (by decide +kernel)
theorem w_5_155 : (Jvm.Cond.methodLink "StripedVault$Writer" (142 : Nat) ({ cls := "StripedVault$Writer", name := "fillPage", desc := "(III)I" } : Jvm.MethodName)) ∈ TG := tw_5 155 (by decide +kernel) (by decide +kernel)
theorem w_5_157 : (Jvm.Cond.instanceMethod ({ cls := "StripedVault$Writer", name := "fillPage", desc := "(III)I" } : Jvm.MethodName)) ∈ TG := tw_5 157 (by decide +kernel) (by decide +kernel)
theorem w_5_158 : (Jvm.Cond.code ({ cls := "StripedVault$Writer", name := "fillPage", desc := "(III)I" } : Jvm.MethodName) prog_12_method_8_code (12 : Nat) (Option.some Jvm.ClassFile.FieldType.int)) ∈ TG := tw_5 158 (by decide +kernel) (by decide +kernel)
theorem w_5_167 : (Jvm.Cond.methodLink "StripedVault$Writer" (146 : Nat) ({ cls := "StripedVault$Writer", name := "chooseCoding", desc := "(I)I" } : Jvm.MethodName)) ∈ TG := tw_5 167 (by decide +kernel) (by decide +kernel)
theorem w_5_169 : (Jvm.Cond.instanceMethod ({ cls := "StripedVault$Writer", name := "chooseCoding", desc := "(I)I" } : Jvm.MethodName)) ∈ TG := tw_5 169 (by decide +kernel) (by decide +kernel)
theorem w_5_170 : (Jvm.Cond.code ({ cls := "StripedVault$Writer", name := "chooseCoding", desc := "(I)I" } : Jvm.MethodName) prog_12_method_13_code (6 : Nat) (Option.some Jvm.ClassFile.FieldType.int)) ∈ TG := tw_5 170 (by decide +kernel) (by decide +kernel)
theorem w_6_20 : (Jvm.Cond.methodLink "StripedVault$Writer" (150 : Nat) ({ cls := "StripedVault$Writer", name := "putPage", desc := "(II)V" } : Jvm.MethodName)) ∈ TG := tw_6 20 (by decide +kernel) (by decide +kernel)
theorem w_6_22 : (Jvm.Cond.instanceMethod ({ cls := "StripedVault$Writer", name := "putPage", desc := "(II)V" } : Jvm.MethodName)) ∈ TG := tw_6 22 (by decide +kernel) (by decide +kernel)
theorem w_6_23 : (Jvm.Cond.code ({ cls := "StripedVault$Writer", name := "putPage", desc := "(II)V" } : Jvm.MethodName) prog_12_method_10_code (5 : Nat) (Option.none : Option Jvm.ClassFile.FieldType)) ∈ TG := tw_6 23 (by decide +kernel) (by decide +kernel)
theorem w_6_24 : (Jvm.Cond.methodLink "StripedVault$Writer" (206 : Nat) ({ cls := "StripedVault$Writer", name := "putLevels", desc := "([II)V" } : Jvm.MethodName)) ∈ TG := tw_6 24 (by decide +kernel) (by decide +kernel)
theorem w_6_26 : (Jvm.Cond.instanceMethod ({ cls := "StripedVault$Writer", name := "putLevels", desc := "([II)V" } : Jvm.MethodName)) ∈ TG := tw_6 26 (by decide +kernel) (by decide +kernel)
theorem w_6_27 : (Jvm.Cond.code ({ cls := "StripedVault$Writer", name := "putLevels", desc := "([II)V" } : Jvm.MethodName) prog_12_method_11_code (4 : Nat) (Option.none : Option Jvm.ClassFile.FieldType)) ∈ TG := tw_6 27 (by decide +kernel) (by decide +kernel)
theorem w_6_28 : (Jvm.Cond.methodLink "StripedVault$Writer" (210 : Nat) ({ cls := "StripedVault$Writer", name := "findBounds", desc := "(I)V" } : Jvm.MethodName)) ∈ TG := tw_6 28 (by decide +kernel) (by decide +kernel)
theorem w_6_30 : (Jvm.Cond.instanceMethod ({ cls := "StripedVault$Writer", name := "findBounds", desc := "(I)V" } : Jvm.MethodName)) ∈ TG := tw_6 30 (by decide +kernel) (by decide +kernel)
theorem w_6_31 : (Jvm.Cond.code ({ cls := "StripedVault$Writer", name := "findBounds", desc := "(I)V" } : Jvm.MethodName) prog_12_method_12_code (3 : Nat) (Option.none : Option Jvm.ClassFile.FieldType)) ∈ TG := tw_6 31 (by decide +kernel) (by decide +kernel)
theorem w_6_36 : (Jvm.Cond.methodLink "StripedVault$Writer" (174 : Nat) ({ cls := "StripedVault$Sink", name := "putTold", desc := "(I[BJ)V" } : Jvm.MethodName)) ∈ TG := tw_6 36 (by decide +kernel) (by decide +kernel)
theorem w_6_37 : (Jvm.Cond.instanceMethod ({ cls := "StripedVault$Sink", name := "putTold", desc := "(I[BJ)V" } : Jvm.MethodName)) ∈ TG := tw_6 37 (by decide +kernel) (by decide +kernel)
theorem w_6_38 : (Jvm.Cond.selects "StripedVault$Sink" ({ cls := "StripedVault$Sink", name := "putTold", desc := "(I[BJ)V" } : Jvm.MethodName) ({ cls := "StripedVault$Sink", name := "putTold", desc := "(I[BJ)V" } : Jvm.MethodName)) ∈ TG := tw_6 38 (by decide +kernel) (by decide +kernel)
theorem w_6_39 : (Jvm.Cond.code ({ cls := "StripedVault$Sink", name := "putTold", desc := "(I[BJ)V" } : Jvm.MethodName) prog_9_method_9_code (5 : Nat) (Option.none : Option Jvm.ClassFile.FieldType)) ∈ TG := tw_6 39 (by decide +kernel) (by decide +kernel)
theorem w_6_40 : (Jvm.Cond.methodLink "StripedVault$Sink" (76 : Nat) ({ cls := "StripedVault$Sink", name := "putText", desc := "([BJ)V" } : Jvm.MethodName)) ∈ TG := tw_6 40 (by decide +kernel) (by decide +kernel)
theorem wn_6_41 : (Jvm.Cond.methodLinkNest "StripedVault$Writer" (131 : Nat) ({ cls := "StripedVault", name := "checkOf", desc := "([BII)I" } : Jvm.MethodName) "StripedVault") ∈ lw_tbl := tb_6 _ (List.mem_of_getElem? (i := 41) (by decide +kernel))
theorem ws_18 : Cond.selects R_Wrt y_Wrt_fillPage y_Wrt_fillPage ∈ TG := tw_s 18 (by decide +kernel) (by decide +kernel)
theorem ws_20 : Cond.selects R_Wrt y_Wrt_chooseCoding y_Wrt_chooseCoding ∈ TG := tw_s 20 (by decide +kernel) (by decide +kernel)
theorem ws_29 : Cond.selects R_Wrt y_Wrt_putPage y_Wrt_putPage ∈ TG := tw_s 29 (by decide +kernel) (by decide +kernel)
theorem ws_30 : Cond.selects R_Wrt y_Wrt_putLevels y_Wrt_putLevels ∈ TG := tw_s 30 (by decide +kernel) (by decide +kernel)
theorem ws_31 : Cond.selects R_Wrt y_Wrt_findBounds y_Wrt_findBounds ∈ TG := tw_s 31 (by decide +kernel) (by decide +kernel)
theorem d_Wrt_putLevels_0 : decode b_Wrt_putLevels 0 = .ok (.iload_n 2, 1) := by decide +kernel
theorem d_Wrt_putLevels_1 : decode b_Wrt_putLevels 1 = .ok (.ifCond .ne 4, 3) := by decide +kernel
theorem d_Wrt_putLevels_5 : decode b_Wrt_putLevels 5 = .ok (.aload_n 0, 1) := by decide +kernel
theorem d_Wrt_putLevels_6 : decode b_Wrt_putLevels 6 = .ok (.getfield 24, 3) := by decide +kernel
theorem d_Wrt_putLevels_9 : decode b_Wrt_putLevels 9 = .ok (.getfield 126, 3) := by decide +kernel
theorem d_Wrt_putLevels_12 : decode b_Wrt_putLevels 12 = .ok (.istore_n 3, 1) := by decide +kernel
theorem d_Wrt_putLevels_13 : decode b_Wrt_putLevels 13 = .ok (.aload_n 0, 1) := by decide +kernel
theorem d_Wrt_putLevels_14 : decode b_Wrt_putLevels 14 = .ok (.getfield 24, 3) := by decide +kernel
theorem d_Wrt_putLevels_17 : decode b_Wrt_putLevels 17 = .ok (.aload_n 1, 1) := by decide +kernel
theorem d_Wrt_putLevels_18 : decode b_Wrt_putLevels 18 = .ok (.aload_n 0, 1) := by decide +kernel
theorem d_Wrt_putLevels_19 : decode b_Wrt_putLevels 19 = .ok (.getfield 168, 3) := by decide +kernel
theorem d_Wrt_putLevels_22 : decode b_Wrt_putLevels 22 = .ok (.iload_n 2, 1) := by decide +kernel
theorem d_Wrt_putLevels_23 : decode b_Wrt_putLevels 23 = .ok (.i2l, 1) := by decide +kernel
theorem d_Wrt_putLevels_24 : decode b_Wrt_putLevels 24 = .ok (.invokestatic 213, 3) := by decide +kernel
theorem d_Wrt_putLevels_27 : decode b_Wrt_putLevels 27 = .ok (.invokevirtual 216, 3) := by decide +kernel
theorem d_Wrt_putLevels_30 : decode b_Wrt_putLevels 30 = .ok (.aload_n 0, 1) := by decide +kernel
theorem d_Wrt_putLevels_31 : decode b_Wrt_putLevels 31 = .ok (.getfield 24, 3) := by decide +kernel
theorem d_Wrt_putLevels_34 : decode b_Wrt_putLevels 34 = .ok (.iload_n 3, 1) := by decide +kernel
theorem d_Wrt_putLevels_35 : decode b_Wrt_putLevels 35 = .ok (.invokevirtual 220, 3) := by decide +kernel
theorem d_Wrt_putLevels_38 : decode b_Wrt_putLevels 38 = .ok (.return_, 1) := by decide +kernel
theorem d_Wrt_putLevels_4 : decode b_Wrt_putLevels 4 = .ok (.return_, 1) := by decide +kernel
theorem d_Snk_putTold_0 : decode b_Snk_putTold 0 = .ok (.iload_n 1, 1) := by decide +kernel
theorem d_Snk_putTold_1 : decode b_Snk_putTold 1 = .ok (.iconst 3, 1) := by decide +kernel
theorem d_Snk_putTold_2 : decode b_Snk_putTold 2 = .ok (.if_icmp .ne 12, 3) := by decide +kernel
theorem d_Snk_putTold_14 : decode b_Snk_putTold 14 = .ok (.iload_n 1, 1) := by decide +kernel
theorem d_Snk_putTold_15 : decode b_Snk_putTold 15 = .ok (.ifCond .ne 12, 3) := by decide +kernel
theorem d_Snk_putTold_27 : decode b_Snk_putTold 27 = .ok (.aload_n 0, 1) := by decide +kernel
theorem d_Snk_putTold_28 : decode b_Snk_putTold 28 = .ok (.lload_n 3, 1) := by decide +kernel
theorem d_Snk_putTold_29 : decode b_Snk_putTold 29 = .ok (.invokestatic 80, 3) := by decide +kernel
theorem d_Snk_putTold_32 : decode b_Snk_putTold 32 = .ok (.invokevirtual 65, 3) := by decide +kernel
theorem d_Snk_putTold_35 : decode b_Snk_putTold 35 = .ok (.return_, 1) := by decide +kernel
theorem d_Snk_putTold_18 : decode b_Snk_putTold 18 = .ok (.aload_n 0, 1) := by decide +kernel
theorem d_Snk_putTold_19 : decode b_Snk_putTold 19 = .ok (.lload_n 3, 1) := by decide +kernel
theorem d_Snk_putTold_20 : decode b_Snk_putTold 20 = .ok (.l2i, 1) := by decide +kernel
theorem d_Snk_putTold_21 : decode b_Snk_putTold 21 = .ok (.invokevirtual 57, 3) := by decide +kernel
theorem d_Snk_putTold_24 : decode b_Snk_putTold 24 = .ok (.goto 11, 3) := by decide +kernel
theorem d_Snk_putTold_5 : decode b_Snk_putTold 5 = .ok (.aload_n 0, 1) := by decide +kernel
theorem d_Snk_putTold_6 : decode b_Snk_putTold 6 = .ok (.aload_n 2, 1) := by decide +kernel
theorem d_Snk_putTold_7 : decode b_Snk_putTold 7 = .ok (.lload_n 3, 1) := by decide +kernel
theorem d_Snk_putTold_8 : decode b_Snk_putTold 8 = .ok (.invokevirtual 76, 3) := by decide +kernel
theorem d_Snk_putTold_11 : decode b_Snk_putTold 11 = .ok (.goto 24, 3) := by decide +kernel
theorem d_Wrt_putPage_174 : decode b_Wrt_putPage 174 = .ok (.aload_n 0, 1) := by decide +kernel
theorem d_Wrt_putPage_175 : decode b_Wrt_putPage 175 = .ok (.getfield 15, 3) := by decide +kernel
theorem d_Wrt_putPage_178 : decode b_Wrt_putPage 178 = .ok (.aload_n 0, 1) := by decide +kernel
theorem d_Wrt_putPage_179 : decode b_Wrt_putPage 179 = .ok (.getfield 24, 3) := by decide +kernel
theorem d_Wrt_putPage_182 : decode b_Wrt_putPage 182 = .ok (.getfield 126, 3) := by decide +kernel
theorem d_Wrt_putPage_185 : decode b_Wrt_putPage 185 = .ok (.i2l, 1) := by decide +kernel
theorem d_Wrt_putPage_186 : decode b_Wrt_putPage 186 = .ok (.invokevirtual 98, 3) := by decide +kernel
theorem d_Wrt_putPage_189 : decode b_Wrt_putPage 189 = .ok (.aload_n 0, 1) := by decide +kernel
theorem d_Wrt_putPage_190 : decode b_Wrt_putPage 190 = .ok (.getfield 15, 3) := by decide +kernel
theorem d_Wrt_putPage_193 : decode b_Wrt_putPage 193 = .ok (.aload_n 0, 1) := by decide +kernel
theorem d_Wrt_putPage_194 : decode b_Wrt_putPage 194 = .ok (.getfield 24, 3) := by decide +kernel
theorem d_Wrt_putPage_197 : decode b_Wrt_putPage 197 = .ok (.getfield 123, 3) := by decide +kernel
theorem d_Wrt_putPage_200 : decode b_Wrt_putPage 200 = .ok (.iconst 0, 1) := by decide +kernel
theorem d_Wrt_putPage_201 : decode b_Wrt_putPage 201 = .ok (.aload_n 0, 1) := by decide +kernel
theorem d_Wrt_putPage_202 : decode b_Wrt_putPage 202 = .ok (.getfield 24, 3) := by decide +kernel
theorem d_Wrt_putPage_205 : decode b_Wrt_putPage 205 = .ok (.getfield 126, 3) := by decide +kernel
theorem d_Wrt_putPage_208 : decode b_Wrt_putPage 208 = .ok (.invokestatic 131, 3) := by decide +kernel
theorem d_Wrt_putPage_211 : decode b_Wrt_putPage 211 = .ok (.i2l, 1) := by decide +kernel
theorem d_Wrt_putPage_212 : decode b_Wrt_putPage 212 = .ok (.iconst 4, 1) := by decide +kernel
theorem d_Wrt_putPage_213 : decode b_Wrt_putPage 213 = .ok (.invokevirtual 127, 3) := by decide +kernel
theorem d_Wrt_putPage_216 : decode b_Wrt_putPage 216 = .ok (.aload_n 0, 1) := by decide +kernel
theorem d_Wrt_putPage_217 : decode b_Wrt_putPage 217 = .ok (.getfield 15, 3) := by decide +kernel
theorem d_Wrt_putPage_220 : decode b_Wrt_putPage 220 = .ok (.aload_n 0, 1) := by decide +kernel
theorem d_Wrt_putPage_221 : decode b_Wrt_putPage 221 = .ok (.getfield 24, 3) := by decide +kernel
theorem d_Wrt_putPage_224 : decode b_Wrt_putPage 224 = .ok (.getfield 123, 3) := by decide +kernel
theorem d_Wrt_putPage_227 : decode b_Wrt_putPage 227 = .ok (.iconst 0, 1) := by decide +kernel
theorem d_Wrt_putPage_228 : decode b_Wrt_putPage 228 = .ok (.aload_n 0, 1) := by decide +kernel
theorem d_Wrt_putPage_229 : decode b_Wrt_putPage 229 = .ok (.getfield 24, 3) := by decide +kernel
theorem d_Wrt_putPage_232 : decode b_Wrt_putPage 232 = .ok (.getfield 126, 3) := by decide +kernel
theorem d_Wrt_putPage_235 : decode b_Wrt_putPage 235 = .ok (.invokevirtual 88, 3) := by decide +kernel
theorem d_Wrt_putPage_238 : decode b_Wrt_putPage 238 = .ok (.return_, 1) := by decide +kernel
theorem d_Wrt_putPage_0 : decode b_Wrt_putPage 0 = .ok (.aload_n 0, 1) := by decide +kernel
theorem d_Wrt_putPage_1 : decode b_Wrt_putPage 1 = .ok (.getfield 62, 3) := by decide +kernel
theorem d_Wrt_putPage_4 : decode b_Wrt_putPage 4 = .ok (.getfield 139, 3) := by decide +kernel
theorem d_Wrt_putPage_7 : decode b_Wrt_putPage 7 = .ok (.iload_n 1, 1) := by decide +kernel
theorem d_Wrt_putPage_8 : decode b_Wrt_putPage 8 = .ok (.iaload, 1) := by decide +kernel
theorem d_Wrt_putPage_9 : decode b_Wrt_putPage 9 = .ok (.istore_n 3, 1) := by decide +kernel
theorem d_Wrt_putPage_10 : decode b_Wrt_putPage 10 = .ok (.aload_n 0, 1) := by decide +kernel
theorem d_Wrt_putPage_11 : decode b_Wrt_putPage 11 = .ok (.getfield 62, 3) := by decide +kernel
theorem d_Wrt_putPage_14 : decode b_Wrt_putPage 14 = .ok (.getfield 105, 3) := by decide +kernel
theorem d_Wrt_putPage_17 : decode b_Wrt_putPage 17 = .ok (.iload_n 3, 1) := by decide +kernel
theorem d_Wrt_putPage_18 : decode b_Wrt_putPage 18 = .ok (.iaload, 1) := by decide +kernel
theorem d_Wrt_putPage_19 : decode b_Wrt_putPage 19 = .ok (.istore 4, 2) := by decide +kernel
theorem d_Wrt_putPage_21 : decode b_Wrt_putPage 21 = .ok (.aload_n 0, 1) := by decide +kernel
theorem d_Wrt_putPage_22 : decode b_Wrt_putPage 22 = .ok (.getfield 24, 3) := by decide +kernel
theorem d_Wrt_putPage_25 : decode b_Wrt_putPage 25 = .ok (.invokevirtual 81, 3) := by decide +kernel
theorem d_Wrt_putPage_28 : decode b_Wrt_putPage 28 = .ok (.aload_n 0, 1) := by decide +kernel
theorem d_Wrt_putPage_29 : decode b_Wrt_putPage 29 = .ok (.aload_n 0, 1) := by decide +kernel
theorem d_Wrt_putPage_30 : decode b_Wrt_putPage 30 = .ok (.getfield 37, 3) := by decide +kernel
theorem d_Wrt_putPage_33 : decode b_Wrt_putPage 33 = .ok (.aload_n 0, 1) := by decide +kernel
theorem d_Wrt_putPage_34 : decode b_Wrt_putPage 34 = .ok (.getfield 62, 3) := by decide +kernel
theorem d_Wrt_putPage_37 : decode b_Wrt_putPage 37 = .ok (.getfield 204, 3) := by decide +kernel
theorem d_Wrt_putPage_40 : decode b_Wrt_putPage 40 = .ok (.iload_n 3, 1) := by decide +kernel
theorem d_Wrt_putPage_41 : decode b_Wrt_putPage 41 = .ok (.iaload, 1) := by decide +kernel
theorem d_Wrt_putPage_42 : decode b_Wrt_putPage 42 = .ok (.invokevirtual 206, 3) := by decide +kernel
theorem d_Wrt_putPage_45 : decode b_Wrt_putPage 45 = .ok (.aload_n 0, 1) := by decide +kernel
theorem d_Wrt_putPage_46 : decode b_Wrt_putPage 46 = .ok (.aload_n 0, 1) := by decide +kernel
theorem d_Wrt_putPage_47 : decode b_Wrt_putPage 47 = .ok (.getfield 40, 3) := by decide +kernel
theorem d_Wrt_putPage_50 : decode b_Wrt_putPage 50 = .ok (.aload_n 0, 1) := by decide +kernel
theorem d_Wrt_putPage_51 : decode b_Wrt_putPage 51 = .ok (.getfield 62, 3) := by decide +kernel
theorem d_Wrt_putPage_54 : decode b_Wrt_putPage 54 = .ok (.getfield 195, 3) := by decide +kernel
theorem d_Wrt_putPage_57 : decode b_Wrt_putPage 57 = .ok (.iload_n 3, 1) := by decide +kernel
theorem d_Wrt_putPage_58 : decode b_Wrt_putPage 58 = .ok (.iaload, 1) := by decide +kernel
theorem d_Wrt_putPage_59 : decode b_Wrt_putPage 59 = .ok (.invokevirtual 206, 3) := by decide +kernel
theorem d_Wrt_putPage_62 : decode b_Wrt_putPage 62 = .ok (.aload_n 0, 1) := by decide +kernel
theorem d_Wrt_putPage_63 : decode b_Wrt_putPage 63 = .ok (.getfield 24, 3) := by decide +kernel
theorem d_Wrt_putPage_66 : decode b_Wrt_putPage 66 = .ok (.aload_n 0, 1) := by decide +kernel
theorem d_Wrt_putPage_67 : decode b_Wrt_putPage 67 = .ok (.getfield 27, 3) := by decide +kernel
theorem d_Wrt_putPage_70 : decode b_Wrt_putPage 70 = .ok (.getfield 123, 3) := by decide +kernel
theorem d_Wrt_putPage_73 : decode b_Wrt_putPage 73 = .ok (.iconst 0, 1) := by decide +kernel
theorem d_Wrt_putPage_74 : decode b_Wrt_putPage 74 = .ok (.aload_n 0, 1) := by decide +kernel
theorem d_Wrt_putPage_75 : decode b_Wrt_putPage 75 = .ok (.getfield 27, 3) := by decide +kernel
theorem d_Wrt_putPage_78 : decode b_Wrt_putPage 78 = .ok (.getfield 126, 3) := by decide +kernel
theorem d_Wrt_putPage_81 : decode b_Wrt_putPage 81 = .ok (.invokevirtual 88, 3) := by decide +kernel
theorem d_Wrt_putPage_84 : decode b_Wrt_putPage 84 = .ok (.aload_n 0, 1) := by decide +kernel
theorem d_Wrt_putPage_85 : decode b_Wrt_putPage 85 = .ok (.getfield 15, 3) := by decide +kernel
theorem d_Wrt_putPage_88 : decode b_Wrt_putPage 88 = .ok (.aload_n 0, 1) := by decide +kernel
theorem d_Wrt_putPage_89 : decode b_Wrt_putPage 89 = .ok (.getfield 168, 3) := by decide +kernel
theorem d_Wrt_putPage_92 : decode b_Wrt_putPage 92 = .ok (.i2l, 1) := by decide +kernel
theorem d_Wrt_putPage_93 : decode b_Wrt_putPage 93 = .ok (.invokevirtual 98, 3) := by decide +kernel
theorem d_Wrt_putPage_96 : decode b_Wrt_putPage 96 = .ok (.aload_n 0, 1) := by decide +kernel
theorem d_Wrt_putPage_97 : decode b_Wrt_putPage 97 = .ok (.getfield 15, 3) := by decide +kernel
theorem d_Wrt_putPage_100 : decode b_Wrt_putPage 100 = .ok (.aload_n 0, 1) := by decide +kernel
theorem d_Wrt_putPage_101 : decode b_Wrt_putPage 101 = .ok (.getfield 168, 3) := by decide +kernel
theorem d_Wrt_putPage_104 : decode b_Wrt_putPage 104 = .ok (.aload_n 0, 1) := by decide +kernel
theorem d_Wrt_putPage_105 : decode b_Wrt_putPage 105 = .ok (.getfield 154, 3) := by decide +kernel
theorem d_Wrt_putPage_108 : decode b_Wrt_putPage 108 = .ok (.isub, 1) := by decide +kernel
theorem d_Wrt_putPage_109 : decode b_Wrt_putPage 109 = .ok (.i2l, 1) := by decide +kernel
theorem d_Wrt_putPage_110 : decode b_Wrt_putPage 110 = .ok (.invokevirtual 98, 3) := by decide +kernel
theorem d_Wrt_putPage_113 : decode b_Wrt_putPage 113 = .ok (.aload_n 0, 1) := by decide +kernel
theorem d_Wrt_putPage_114 : decode b_Wrt_putPage 114 = .ok (.getfield 15, 3) := by decide +kernel
theorem d_Wrt_putPage_117 : decode b_Wrt_putPage 117 = .ok (.iload_n 2, 1) := by decide +kernel
theorem d_Wrt_putPage_118 : decode b_Wrt_putPage 118 = .ok (.invokevirtual 108, 3) := by decide +kernel
theorem d_Wrt_putPage_121 : decode b_Wrt_putPage 121 = .ok (.aload_n 0, 1) := by decide +kernel
theorem d_Wrt_putPage_122 : decode b_Wrt_putPage 122 = .ok (.getfield 154, 3) := by decide +kernel
theorem d_Wrt_putPage_125 : decode b_Wrt_putPage 125 = .ok (.ifCond .le 49, 3) := by decide +kernel
theorem d_Wrt_putPage_128 : decode b_Wrt_putPage 128 = .ok (.aload_n 0, 1) := by decide +kernel
theorem d_Wrt_putPage_129 : decode b_Wrt_putPage 129 = .ok (.iload 4, 2) := by decide +kernel
theorem d_Wrt_putPage_131 : decode b_Wrt_putPage 131 = .ok (.invokevirtual 210, 3) := by decide +kernel
theorem d_Wrt_putPage_134 : decode b_Wrt_putPage 134 = .ok (.aload_n 0, 1) := by decide +kernel
theorem d_Wrt_putPage_135 : decode b_Wrt_putPage 135 = .ok (.getfield 15, 3) := by decide +kernel
theorem d_Wrt_putPage_138 : decode b_Wrt_putPage 138 = .ok (.iload 4, 2) := by decide +kernel
theorem d_Wrt_putPage_140 : decode b_Wrt_putPage 140 = .ok (.aload_n 0, 1) := by decide +kernel
theorem d_Wrt_putPage_141 : decode b_Wrt_putPage 141 = .ok (.getfield 66, 3) := by decide +kernel
theorem d_Wrt_putPage_144 : decode b_Wrt_putPage 144 = .ok (.getfield 171, 3) := by decide +kernel
theorem d_Wrt_putPage_147 : decode b_Wrt_putPage 147 = .ok (.aload_n 0, 1) := by decide +kernel
theorem d_Wrt_putPage_148 : decode b_Wrt_putPage 148 = .ok (.getfield 157, 3) := by decide +kernel
theorem d_Wrt_putPage_151 : decode b_Wrt_putPage 151 = .ok (.invokevirtual 174, 3) := by decide +kernel
theorem d_Wrt_putPage_154 : decode b_Wrt_putPage 154 = .ok (.aload_n 0, 1) := by decide +kernel
theorem d_Wrt_putPage_155 : decode b_Wrt_putPage 155 = .ok (.getfield 15, 3) := by decide +kernel
theorem d_Wrt_putPage_158 : decode b_Wrt_putPage 158 = .ok (.iload 4, 2) := by decide +kernel
theorem d_Wrt_putPage_160 : decode b_Wrt_putPage 160 = .ok (.aload_n 0, 1) := by decide +kernel
theorem d_Wrt_putPage_161 : decode b_Wrt_putPage 161 = .ok (.getfield 66, 3) := by decide +kernel
theorem d_Wrt_putPage_164 : decode b_Wrt_putPage 164 = .ok (.getfield 171, 3) := by decide +kernel
theorem d_Wrt_putPage_167 : decode b_Wrt_putPage 167 = .ok (.aload_n 0, 1) := by decide +kernel
theorem d_Wrt_putPage_168 : decode b_Wrt_putPage 168 = .ok (.getfield 165, 3) := by decide +kernel
theorem d_Wrt_putPage_171 : decode b_Wrt_putPage 171 = .ok (.invokevirtual 174, 3) := by decide +kernel
theorem d_Wrt_putChunk_292 : decode b_Wrt_putChunk 292 = .ok (.aload_n 0, 1) := by decide +kernel
theorem d_Wrt_putChunk_293 : decode b_Wrt_putChunk 293 = .ok (.getfield 21, 3) := by decide +kernel
theorem d_Wrt_putChunk_296 : decode b_Wrt_putChunk 296 = .ok (.getfield 135, 3) := by decide +kernel
theorem d_Wrt_putChunk_299 : decode b_Wrt_putChunk 299 = .ok (.ifCond .ne 7, 3) := by decide +kernel
theorem d_Wrt_putChunk_306 : decode b_Wrt_putChunk 306 = .ok (.iconst 0, 1) := by decide +kernel
theorem d_Wrt_putChunk_307 : decode b_Wrt_putChunk 307 = .ok (.ireturn, 1) := by decide +kernel
theorem d_Wrt_putChunk_302 : decode b_Wrt_putChunk 302 = .ok (.iconst 1, 1) := by decide +kernel
theorem d_Wrt_putChunk_303 : decode b_Wrt_putChunk 303 = .ok (.goto 4, 3) := by decide +kernel
theorem d_Wrt_putChunk_200 : decode b_Wrt_putChunk 200 = .ok (.aload_n 0, 1) := by decide +kernel
theorem d_Wrt_putChunk_201 : decode b_Wrt_putChunk 201 = .ok (.getfield 21, 3) := by decide +kernel
theorem d_Wrt_putChunk_204 : decode b_Wrt_putChunk 204 = .ok (.aload_n 0, 1) := by decide +kernel
theorem d_Wrt_putChunk_205 : decode b_Wrt_putChunk 205 = .ok (.getfield 15, 3) := by decide +kernel
theorem d_Wrt_putChunk_208 : decode b_Wrt_putChunk 208 = .ok (.getfield 126, 3) := by decide +kernel
theorem d_Wrt_putChunk_211 : decode b_Wrt_putChunk 211 = .ok (.iload 5, 2) := by decide +kernel
theorem d_Wrt_putChunk_213 : decode b_Wrt_putChunk 213 = .ok (.isub, 1) := by decide +kernel
theorem d_Wrt_putChunk_214 : decode b_Wrt_putChunk 214 = .ok (.i2l, 1) := by decide +kernel
theorem d_Wrt_putChunk_215 : decode b_Wrt_putChunk 215 = .ok (.invokevirtual 98, 3) := by decide +kernel
theorem d_Wrt_putChunk_218 : decode b_Wrt_putChunk 218 = .ok (.aload_n 0, 1) := by decide +kernel
theorem d_Wrt_putChunk_219 : decode b_Wrt_putChunk 219 = .ok (.getfield 21, 3) := by decide +kernel
theorem d_Wrt_putChunk_222 : decode b_Wrt_putChunk 222 = .ok (.iload 6, 2) := by decide +kernel
theorem d_Wrt_putChunk_224 : decode b_Wrt_putChunk 224 = .ok (.i2l, 1) := by decide +kernel
theorem d_Wrt_putChunk_225 : decode b_Wrt_putChunk 225 = .ok (.invokevirtual 98, 3) := by decide +kernel
theorem d_Wrt_putChunk_228 : decode b_Wrt_putChunk 228 = .ok (.aload_n 0, 1) := by decide +kernel
theorem d_Wrt_putChunk_229 : decode b_Wrt_putChunk 229 = .ok (.getfield 21, 3) := by decide +kernel
theorem d_Wrt_putChunk_232 : decode b_Wrt_putChunk 232 = .ok (.iload 7, 2) := by decide +kernel
theorem d_Wrt_putChunk_234 : decode b_Wrt_putChunk 234 = .ok (.i2l, 1) := by decide +kernel
theorem d_Wrt_putChunk_235 : decode b_Wrt_putChunk 235 = .ok (.invokevirtual 98, 3) := by decide +kernel
theorem d_Wrt_putChunk_238 : decode b_Wrt_putChunk 238 = .ok (.aload_n 0, 1) := by decide +kernel
theorem d_Wrt_putChunk_239 : decode b_Wrt_putChunk 239 = .ok (.getfield 21, 3) := by decide +kernel
theorem d_Wrt_putChunk_242 : decode b_Wrt_putChunk 242 = .ok (.iload 7, 2) := by decide +kernel
theorem d_Wrt_putChunk_244 : decode b_Wrt_putChunk 244 = .ok (.iload 8, 2) := by decide +kernel
theorem d_Wrt_putChunk_246 : decode b_Wrt_putChunk 246 = .ok (.isub, 1) := by decide +kernel
theorem d_Wrt_putChunk_247 : decode b_Wrt_putChunk 247 = .ok (.i2l, 1) := by decide +kernel
theorem d_Wrt_putChunk_248 : decode b_Wrt_putChunk 248 = .ok (.invokevirtual 98, 3) := by decide +kernel
theorem d_Wrt_putChunk_251 : decode b_Wrt_putChunk 251 = .ok (.iload 8, 2) := by decide +kernel
theorem d_Wrt_putChunk_253 : decode b_Wrt_putChunk 253 = .ok (.ifCond .le 39, 3) := by decide +kernel
theorem d_Wrt_putChunk_256 : decode b_Wrt_putChunk 256 = .ok (.aload_n 0, 1) := by decide +kernel
theorem d_Wrt_putChunk_257 : decode b_Wrt_putChunk 257 = .ok (.getfield 21, 3) := by decide +kernel
theorem d_Wrt_putChunk_260 : decode b_Wrt_putChunk 260 = .ok (.iload 4, 2) := by decide +kernel
theorem d_Wrt_putChunk_262 : decode b_Wrt_putChunk 262 = .ok (.aload_n 0, 1) := by decide +kernel
theorem d_Wrt_putChunk_263 : decode b_Wrt_putChunk 263 = .ok (.getfield 66, 3) := by decide +kernel
theorem d_Wrt_putChunk_266 : decode b_Wrt_putChunk 266 = .ok (.getfield 171, 3) := by decide +kernel
theorem d_Wrt_putChunk_269 : decode b_Wrt_putChunk 269 = .ok (.lload 9, 2) := by decide +kernel
theorem d_Wrt_putChunk_271 : decode b_Wrt_putChunk 271 = .ok (.invokevirtual 174, 3) := by decide +kernel
theorem d_Wrt_putChunk_274 : decode b_Wrt_putChunk 274 = .ok (.aload_n 0, 1) := by decide +kernel
theorem d_Wrt_putChunk_275 : decode b_Wrt_putChunk 275 = .ok (.getfield 21, 3) := by decide +kernel
theorem d_Wrt_putChunk_278 : decode b_Wrt_putChunk 278 = .ok (.iload 4, 2) := by decide +kernel
theorem d_Wrt_putChunk_280 : decode b_Wrt_putChunk 280 = .ok (.aload_n 0, 1) := by decide +kernel
theorem d_Wrt_putChunk_281 : decode b_Wrt_putChunk 281 = .ok (.getfield 66, 3) := by decide +kernel
theorem d_Wrt_putChunk_284 : decode b_Wrt_putChunk 284 = .ok (.getfield 171, 3) := by decide +kernel
theorem d_Wrt_putChunk_287 : decode b_Wrt_putChunk 287 = .ok (.lload 11, 2) := by decide +kernel
theorem d_Wrt_putChunk_289 : decode b_Wrt_putChunk 289 = .ok (.invokevirtual 174, 3) := by decide +kernel
theorem d_Wrt_putChunk_176 : decode b_Wrt_putChunk 176 = .ok (.iload 7, 2) := by decide +kernel
theorem d_Wrt_putChunk_178 : decode b_Wrt_putChunk 178 = .ok (.aload_n 0, 1) := by decide +kernel
theorem d_Wrt_putChunk_179 : decode b_Wrt_putChunk 179 = .ok (.getfield 168, 3) := by decide +kernel
theorem d_Wrt_putChunk_182 : decode b_Wrt_putChunk 182 = .ok (.iadd, 1) := by decide +kernel
theorem d_Wrt_putChunk_183 : decode b_Wrt_putChunk 183 = .ok (.istore 7, 2) := by decide +kernel
theorem d_Wrt_putChunk_185 : decode b_Wrt_putChunk 185 = .ok (.iload 8, 2) := by decide +kernel
theorem d_Wrt_putChunk_187 : decode b_Wrt_putChunk 187 = .ok (.aload_n 0, 1) := by decide +kernel
theorem d_Wrt_putChunk_188 : decode b_Wrt_putChunk 188 = .ok (.getfield 154, 3) := by decide +kernel
theorem d_Wrt_putChunk_191 : decode b_Wrt_putChunk 191 = .ok (.iadd, 1) := by decide +kernel
theorem d_Wrt_putChunk_192 : decode b_Wrt_putChunk 192 = .ok (.istore 8, 2) := by decide +kernel
theorem d_Wrt_putChunk_194 : decode b_Wrt_putChunk 194 = .ok (.iinc 14 1, 3) := by decide +kernel
theorem d_Wrt_putChunk_197 : decode b_Wrt_putChunk 197 = .ok (.goto (-148), 3) := by decide +kernel
theorem d_Wrt_putChunk_170 : decode b_Wrt_putChunk 170 = .ok (.aload_n 0, 1) := by decide +kernel
theorem d_Wrt_putChunk_171 : decode b_Wrt_putChunk 171 = .ok (.getfield 165, 3) := by decide +kernel
theorem d_Wrt_putChunk_174 : decode b_Wrt_putChunk 174 = .ok (.lstore 11, 2) := by decide +kernel
theorem d_Wrt_putChunk_143 : decode b_Wrt_putChunk 143 = .ok (.aload_n 0, 1) := by decide +kernel
theorem d_Wrt_putChunk_144 : decode b_Wrt_putChunk 144 = .ok (.getfield 154, 3) := by decide +kernel
theorem d_Wrt_putChunk_147 : decode b_Wrt_putChunk 147 = .ok (.ifCond .le 29, 3) := by decide +kernel
theorem d_Wrt_putChunk_150 : decode b_Wrt_putChunk 150 = .ok (.iload 8, 2) := by decide +kernel
theorem d_Wrt_putChunk_152 : decode b_Wrt_putChunk 152 = .ok (.ifCond .eq 18, 3) := by decide +kernel
theorem d_Wrt_putChunk_155 : decode b_Wrt_putChunk 155 = .ok (.aload_n 0, 1) := by decide +kernel
theorem d_Wrt_putChunk_156 : decode b_Wrt_putChunk 156 = .ok (.iload 4, 2) := by decide +kernel
theorem d_Wrt_putChunk_158 : decode b_Wrt_putChunk 158 = .ok (.aload_n 0, 1) := by decide +kernel
theorem d_Wrt_putChunk_159 : decode b_Wrt_putChunk 159 = .ok (.getfield 165, 3) := by decide +kernel
theorem d_Wrt_putChunk_162 : decode b_Wrt_putChunk 162 = .ok (.lload 11, 2) := by decide +kernel
theorem d_Wrt_putChunk_164 : decode b_Wrt_putChunk 164 = .ok (.invokevirtual 161, 3) := by decide +kernel
theorem d_Wrt_putChunk_167 : decode b_Wrt_putChunk 167 = .ok (.ifCond .le 9, 3) := by decide +kernel
theorem d_Wrt_putChunk_137 : decode b_Wrt_putChunk 137 = .ok (.aload_n 0, 1) := by decide +kernel
theorem d_Wrt_putChunk_138 : decode b_Wrt_putChunk 138 = .ok (.getfield 157, 3) := by decide +kernel
theorem d_Wrt_putChunk_141 : decode b_Wrt_putChunk 141 = .ok (.lstore 9, 2) := by decide +kernel
theorem d_Wrt_putChunk_49 : decode b_Wrt_putChunk 49 = .ok (.iload 14, 2) := by decide +kernel
theorem d_Wrt_putChunk_51 : decode b_Wrt_putChunk 51 = .ok (.iload_n 2, 1) := by decide +kernel
theorem d_Wrt_putChunk_52 : decode b_Wrt_putChunk 52 = .ok (.if_icmp .ge 148, 3) := by decide +kernel
theorem d_Wrt_putChunk_55 : decode b_Wrt_putChunk 55 = .ok (.iload 13, 2) := by decide +kernel
theorem d_Wrt_putChunk_57 : decode b_Wrt_putChunk 57 = .ok (.ifCond .le 143, 3) := by decide +kernel
theorem d_Wrt_putChunk_60 : decode b_Wrt_putChunk 60 = .ok (.aload_n 0, 1) := by decide +kernel
theorem d_Wrt_putChunk_61 : decode b_Wrt_putChunk 61 = .ok (.iload_n 1, 1) := by decide +kernel
theorem d_Wrt_putChunk_62 : decode b_Wrt_putChunk 62 = .ok (.iload 13, 2) := by decide +kernel
theorem d_Wrt_putChunk_64 : decode b_Wrt_putChunk 64 = .ok (.iload_n 3, 1) := by decide +kernel
theorem d_Wrt_putChunk_65 : decode b_Wrt_putChunk 65 = .ok (.invokevirtual 142, 3) := by decide +kernel
theorem d_Wrt_putChunk_68 : decode b_Wrt_putChunk 68 = .ok (.istore 15, 2) := by decide +kernel
theorem d_Wrt_putChunk_70 : decode b_Wrt_putChunk 70 = .ok (.iload 15, 2) := by decide +kernel
theorem d_Wrt_putChunk_72 : decode b_Wrt_putChunk 72 = .ok (.ifCond .ne 5, 3) := by decide +kernel
theorem d_Wrt_putChunk_77 : decode b_Wrt_putChunk 77 = .ok (.iload 13, 2) := by decide +kernel
theorem d_Wrt_putChunk_79 : decode b_Wrt_putChunk 79 = .ok (.iload 15, 2) := by decide +kernel
theorem d_Wrt_putChunk_81 : decode b_Wrt_putChunk 81 = .ok (.isub, 1) := by decide +kernel
theorem d_Wrt_putChunk_82 : decode b_Wrt_putChunk 82 = .ok (.istore 13, 2) := by decide +kernel
theorem d_Wrt_putChunk_84 : decode b_Wrt_putChunk 84 = .ok (.iinc 6 1, 3) := by decide +kernel
theorem d_Wrt_putChunk_87 : decode b_Wrt_putChunk 87 = .ok (.aload_n 0, 1) := by decide +kernel
theorem d_Wrt_putChunk_88 : decode b_Wrt_putChunk 88 = .ok (.iload_n 1, 1) := by decide +kernel
theorem d_Wrt_putChunk_89 : decode b_Wrt_putChunk 89 = .ok (.aload_n 0, 1) := by decide +kernel
theorem d_Wrt_putChunk_90 : decode b_Wrt_putChunk 90 = .ok (.iload 4, 2) := by decide +kernel
theorem d_Wrt_putChunk_92 : decode b_Wrt_putChunk 92 = .ok (.invokevirtual 146, 3) := by decide +kernel
theorem d_Wrt_putChunk_95 : decode b_Wrt_putChunk 95 = .ok (.invokevirtual 150, 3) := by decide +kernel
theorem d_Wrt_putChunk_98 : decode b_Wrt_putChunk 98 = .ok (.aload_n 0, 1) := by decide +kernel
theorem d_Wrt_putChunk_99 : decode b_Wrt_putChunk 99 = .ok (.getfield 15, 3) := by decide +kernel
theorem d_Wrt_putChunk_102 : decode b_Wrt_putChunk 102 = .ok (.getfield 135, 3) := by decide +kernel
theorem d_Wrt_putChunk_105 : decode b_Wrt_putChunk 105 = .ok (.ifCond .eq 5, 3) := by decide +kernel
theorem d_Wrt_putChunk_110 : decode b_Wrt_putChunk 110 = .ok (.aload_n 0, 1) := by decide +kernel
theorem d_Wrt_putChunk_111 : decode b_Wrt_putChunk 111 = .ok (.getfield 154, 3) := by decide +kernel
theorem d_Wrt_putChunk_114 : decode b_Wrt_putChunk 114 = .ok (.ifCond .le 29, 3) := by decide +kernel
theorem d_Wrt_putChunk_117 : decode b_Wrt_putChunk 117 = .ok (.iload 8, 2) := by decide +kernel
theorem d_Wrt_putChunk_119 : decode b_Wrt_putChunk 119 = .ok (.ifCond .eq 18, 3) := by decide +kernel
theorem d_Wrt_putChunk_122 : decode b_Wrt_putChunk 122 = .ok (.aload_n 0, 1) := by decide +kernel
theorem d_Wrt_putChunk_123 : decode b_Wrt_putChunk 123 = .ok (.iload 4, 2) := by decide +kernel
theorem d_Wrt_putChunk_125 : decode b_Wrt_putChunk 125 = .ok (.aload_n 0, 1) := by decide +kernel
theorem d_Wrt_putChunk_126 : decode b_Wrt_putChunk 126 = .ok (.getfield 157, 3) := by decide +kernel
theorem d_Wrt_putChunk_129 : decode b_Wrt_putChunk 129 = .ok (.lload 9, 2) := by decide +kernel
theorem d_Wrt_putChunk_131 : decode b_Wrt_putChunk 131 = .ok (.invokevirtual 161, 3) := by decide +kernel
theorem d_Wrt_putChunk_134 : decode b_Wrt_putChunk 134 = .ok (.ifCond .ge 9, 3) := by decide +kernel
theorem d_Wrt_putChunk_108 : decode b_Wrt_putChunk 108 = .ok (.iconst 0, 1) := by decide +kernel
theorem d_Wrt_putChunk_109 : decode b_Wrt_putChunk 109 = .ok (.ireturn, 1) := by decide +kernel
theorem d_Wrt_putChunk_75 : decode b_Wrt_putChunk 75 = .ok (.iconst 0, 1) := by decide +kernel
theorem d_Wrt_putChunk_76 : decode b_Wrt_putChunk 76 = .ok (.ireturn, 1) := by decide +kernel
theorem d_Wrt_putChunk_0 : decode b_Wrt_putChunk 0 = .ok (.aload_n 0, 1) := by decide +kernel
theorem d_Wrt_putChunk_1 : decode b_Wrt_putChunk 1 = .ok (.getfield 62, 3) := by decide +kernel
theorem d_Wrt_putChunk_4 : decode b_Wrt_putChunk 4 = .ok (.getfield 105, 3) := by decide +kernel
theorem d_Wrt_putChunk_7 : decode b_Wrt_putChunk 7 = .ok (.aload_n 0, 1) := by decide +kernel
theorem d_Wrt_putChunk_8 : decode b_Wrt_putChunk 8 = .ok (.getfield 62, 3) := by decide +kernel
theorem d_Wrt_putChunk_11 : decode b_Wrt_putChunk 11 = .ok (.getfield 139, 3) := by decide +kernel
theorem d_Wrt_putChunk_14 : decode b_Wrt_putChunk 14 = .ok (.iload_n 1, 1) := by decide +kernel
theorem d_Wrt_putChunk_15 : decode b_Wrt_putChunk 15 = .ok (.iaload, 1) := by decide +kernel
theorem d_Wrt_putChunk_16 : decode b_Wrt_putChunk 16 = .ok (.iaload, 1) := by decide +kernel
theorem d_Wrt_putChunk_17 : decode b_Wrt_putChunk 17 = .ok (.istore 4, 2) := by decide +kernel
theorem d_Wrt_putChunk_19 : decode b_Wrt_putChunk 19 = .ok (.aload_n 0, 1) := by decide +kernel
theorem d_Wrt_putChunk_20 : decode b_Wrt_putChunk 20 = .ok (.getfield 15, 3) := by decide +kernel
theorem d_Wrt_putChunk_23 : decode b_Wrt_putChunk 23 = .ok (.getfield 126, 3) := by decide +kernel
theorem d_Wrt_putChunk_26 : decode b_Wrt_putChunk 26 = .ok (.istore 5, 2) := by decide +kernel
theorem d_Wrt_putChunk_28 : decode b_Wrt_putChunk 28 = .ok (.iconst 0, 1) := by decide +kernel
theorem d_Wrt_putChunk_29 : decode b_Wrt_putChunk 29 = .ok (.istore 6, 2) := by decide +kernel
theorem d_Wrt_putChunk_31 : decode b_Wrt_putChunk 31 = .ok (.iconst 0, 1) := by decide +kernel
theorem d_Wrt_putChunk_32 : decode b_Wrt_putChunk 32 = .ok (.istore 7, 2) := by decide +kernel
theorem d_Wrt_putChunk_34 : decode b_Wrt_putChunk 34 = .ok (.iconst 0, 1) := by decide +kernel
theorem d_Wrt_putChunk_35 : decode b_Wrt_putChunk 35 = .ok (.istore 8, 2) := by decide +kernel
theorem d_Wrt_putChunk_37 : decode b_Wrt_putChunk 37 = .ok (.lconst 0, 1) := by decide +kernel
theorem d_Wrt_putChunk_38 : decode b_Wrt_putChunk 38 = .ok (.lstore 9, 2) := by decide +kernel
theorem d_Wrt_putChunk_40 : decode b_Wrt_putChunk 40 = .ok (.lconst 0, 1) := by decide +kernel
theorem d_Wrt_putChunk_41 : decode b_Wrt_putChunk 41 = .ok (.lstore 11, 2) := by decide +kernel
theorem d_Wrt_putChunk_43 : decode b_Wrt_putChunk 43 = .ok (.iload_n 2, 1) := by decide +kernel
theorem d_Wrt_putChunk_44 : decode b_Wrt_putChunk 44 = .ok (.istore 13, 2) := by decide +kernel
theorem d_Wrt_putChunk_46 : decode b_Wrt_putChunk 46 = .ok (.iconst 0, 1) := by decide +kernel
theorem d_Wrt_putChunk_47 : decode b_Wrt_putChunk 47 = .ok (.istore 14, 2) := by decide +kernel
section
variable (l : Launch) (dC : Nat → ClassId) (dI : Nat → Nat → Nat) (cI cB cJ cZ : ClassId)
set_option maxRecDepth 100000 in
def wp_Wrt_putLevels (post : St → Prop) (o : Nat) (l1 : Nat) (l2 : Int32) (kb : Nat) (nb : Nat) (x : St) : Prop := ((¬ l2 = 0 → (∀ v2 : Int32, v2 = (fI x (stC o 2) 1) → wp_V_widthOf (fun (r4 : Int32) (x3 : St) => (∃ k5 n6 k7 n8 : Nat, k5 + k7 = kb ∧ n6 + n8 = nb ∧ wp_Snk_putRuns (fun (x9 : St) => (∃ k10 n11 k12 n13 : Nat, k10 + k12 = k7 ∧ n11 + n13 = n8 ∧ wp_Snk_tellSizeFrom (fun (x14 : St) => post x14) (stC o 2) v2 k10 n11 x9)) (stC o 2) l1 (fI x o 11) r4 k5 n6 x3)) (l2 : Int32).toInt64 x)) ∧ (l2 = 0 → post x))
set_option maxHeartbeats 4000000 in
set_option maxRecDepth 100000 in
theorem t_Wrt_putLevels_e {p : Program} {l : Launch} {e : Env} {R : Room} {s : State} {m : MethodId} {args : Array Value} {below : List Frame} {meth : Method} {c : Code} {Q : State → Prop} {dC : Nat → ClassId} {dI : Nat → Nat → Nat} {cI cB cJ cZ : ClassId} {A : Nat → Prop} {E : Heap} {tM tC : Nat} {kK kV : Nat → Nat} {ad0 : Nat → Nat} {NN0 : Nat} {post : St → Prop} (hx : p.tables.exec = Jvm.exec) (hb : c.code = b_Wrt_putLevels) (hml : c.maxLocals = 4) (hown : s.vm.findClass R_Wrt = some m.cls) (hT : ∀ w ∈ TG, w.before args s = true) (hK : va_K (dC, dI) CL (TY cI cB cJ cZ) s) (hN : NW s) (hA : ∀ q : Nat, s.heap.size ≤ q → A q) (hRf : 6 ≤ R.frames) (hRl : 299 ≤ R.locals) (hE : CE E tM tC kK kV A s) (hret : ∀ (ad : Nat → Nat) (NN cells slots : Nat) (x : St) (H : Heap) (locs : List Loc) (pc : Nat) (ls : Array Slot), decode b_Wrt_putLevels pc = .ok (.return_, 1) → (NN0 ≤ NN ∧ ∀ o : Nat, o < NN0 → ad o = ad0 o) → cells ≤ R.cells → slots ≤ R.slots → post x → Wd dC dI cI cB cJ cZ ad stC kcC NN A x H → va_S A s.heap H locs → W p l e R s m args below meth c H locs cells slots Q (F0 m pc ls [])) : ∀ (ad : Nat → Nat) (NN cells slots : Nat) (o : Nat) (l1 : Nat) (l2 : Int32) (kb : Nat) (nb : Nat) (x : St) (H : Heap) (locs : List Loc) (ls : Array Slot), (152 ≤ NN) → (NN0 ≤ NN ∧ ∀ o : Nat, o < NN0 → ad o = ad0 o) → (cells + kb ≤ R.cells) → (slots + nb ≤ R.slots) → (o < NN ∧ kcC o = 5) → (l1 < NN ∧ kcC l1 = 20) → wp_Wrt_putLevels post o l1 l2 kb nb x → Wd dC dI cI cB cJ cZ ad stC kcC NN A x H → va_S A s.heap H locs → lv_has ls 4 [(0, .ref (ad o)), (1, .ref (ad l1)), (2, .int l2)] → W p l e R s m args below meth c H locs cells slots Q (F0 m 0 ls []) := by
  intro ad NN cells slots o l1 l2 kb nb x H locs ls hNN hag hRc hRs fo fl1 hw hW hS hl
  unfold wp_Wrt_putLevels at hw
  refine lv_iload_n hx hb d_Wrt_putLevels_0 rfl (lv_at hl 2 rfl) ?_
  refine lv_if_ne (tgt := 5) hx hb d_Wrt_putLevels_1 (by decide) (fun c1 => ?_) (fun c1 => ?_)
  · have hw := hw.1 c1
    refine lv_aload_n hx hb d_Wrt_putLevels_5 rfl (lv_at hl 0 rfl) ?_
    refine w_getf (q := (stC o 2)) (k := 2) (t := 5) (C := R_Wrt) (T := F_Wrt) (N := 20) hx hb hT hown hK hW fo.1 fo.2 (by decide) in_Wrt rfl rfl (by decide) rfl fr_Wrt_2 w_2_53 d_Wrt_putLevels_6 rfl ?_
    refine w_geti (k := 1) (t := 1) (C := R_Snk) (T := F_Snk) (N := 7) hx hb hT hown hK hW (st_ty hNN fo.1 fo.2 rfl).1 (st_ty hNN fo.1 fo.2 rfl).2 (by decide) in_Snk rfl rfl (by decide) rfl fr_Snk_1 w_1_46 d_Wrt_putLevels_9 ?_
    refine lv_topi (fun v2 ev2 => ?_)
    have hw := hw v2 ev2
    refine lv_istore_n (lv' := [(3, .int v2), (0, .ref (ad o)), (1, .ref (ad l1)), (2, .int l2)]) hx hb d_Wrt_putLevels_12 rfl hl (by decide) rfl (fun ls hl => ?_)
    refine lv_aload_n hx hb d_Wrt_putLevels_13 rfl (lv_at hl 1 rfl) ?_
    refine w_getf (q := (stC o 2)) (k := 2) (t := 5) (C := R_Wrt) (T := F_Wrt) (N := 20) hx hb hT hown hK hW fo.1 fo.2 (by decide) in_Wrt rfl rfl (by decide) rfl fr_Wrt_2 w_2_53 d_Wrt_putLevels_14 rfl ?_
    refine lv_aload_n hx hb d_Wrt_putLevels_17 rfl (lv_at hl 2 rfl) ?_
    refine lv_aload_n hx hb d_Wrt_putLevels_18 rfl (lv_at hl 1 rfl) ?_
    refine w_geti (k := 11) (t := 5) (C := R_Wrt) (T := F_Wrt) (N := 20) hx hb hT hown hK hW fo.1 fo.2 (by decide) in_Wrt rfl rfl (by decide) rfl fr_Wrt_11 w_2_62 d_Wrt_putLevels_19 ?_
    refine lv_iload_n hx hb d_Wrt_putLevels_22 rfl (lv_at hl 3 rfl) ?_
    refine lv_i2l hx hb d_Wrt_putLevels_23 rfl ?_
    have hF := hW.free hS hA
    refine va_calli (va_runSN (As := [.long (l2 : Int32).toInt64]) (rest := [.int (fI x o 11), .ref (ad l1), .ref (ad (stC o 2))]) ⟨hx, hb, hml, hown, hT⟩ (k_V_widthOf l dC dI cI cB cJ cZ ad NN E tM tC kK kV hNN H.size (l2 : Int32).toInt64 x  hw) ⟨va_cnB 1 hT (gw_in w_5_231) rfl rfl rfl (hN _ wn_5_229 rfl) (hT _ w_1_1) (by decide +kernel) ⟨Nat.le_trans (by decide) hRf, Nat.le_trans (by decide) hRl⟩, hT _ w_5_230, trivial⟩ ⟨PV.blind, PV.at _ hW hK hN hE hS hF⟩ rfl rfl hl.1 rfl (lv_room (Nat.le_of_ble_eq_true rfl)) d_Wrt_putLevels_24 ⟨(Nat.le_trans (Nat.le_add_right _ _) hRc), (Nat.le_trans (Nat.le_add_right _ _) hRs)⟩) hS (fun q _ h => hF q h) hF (fun r4 x3 t H locs ht hvm hw hB hz1 hk1 hS => ?_)
    have hW := Wd.back hB ht hF
    clear hB ht hF hz1 hk1 hvm
    obtain ⟨k5, n6, k7, n8, ek5, en6, hw⟩ := hw
    have hF := hW.free hS hA
    refine va_callv (va_runV (C := R_Snk) (As := [.ref (ad l1), .int (fI x o 11), .int r4]) (rest := []) ⟨hx, hb, hml, hown, hT⟩ (k_Snk_putRuns l dC dI cI cB cJ cZ ad NN E tM tC kK kV hNN H.size (stC o 2) l1 (fI x o 11) r4 k5 n6 x3 (st_ty hNN fo.1 fo.2 rfl) fl1 hw) ⟨callB_of 3 hT (gw_in w_5_197) rfl rfl rfl (hT _ w_1_2) (hT _ w_5_194) (by decide +kernel) ⟨Nat.le_trans (by decide) hRf, Nat.le_trans (by decide) hRl⟩, hT _ w_5_195, hT _ w_5_196⟩ ⟨PV.blind, va_recv hK hW.1 (ci := 1) (q0 := (stC o 2)) rfl (pic_obj (st_ty hNN fo.1 fo.2 rfl).1 (st_ty hNN fo.1 fo.2 rfl).2 (by decide)), PV.at _ hW hK hN hE hS hF⟩ rfl rfl hl.1 rfl (lv_room (Nat.le_of_ble_eq_true rfl)) d_Wrt_putLevels_27 ⟨show cells + k5 ≤ R.cells by omega, show slots + n6 ≤ R.slots by omega⟩) hS (fun q _ h => hF q h) hF (fun  x9 t H locs ht hvm hw hB hz1 hk1 hS => ?_)
    obtain ⟨x9, ad, NN⟩ := x9
    obtain ⟨hB, hle, hg⟩ := hB
    try dsimp only at hw hB hle hg
    have hW := Wd.back hB ht hF
    rw [← hg o fo.1] at hl
    rw [← hg l1 fl1.1] at hl
    have fl1 : l1 < NN ∧ kcC l1 = 20 := ⟨Nat.lt_of_lt_of_le fl1.1 hle, fl1.2⟩
    have fo : o < NN ∧ kcC o = 5 := ⟨Nat.lt_of_lt_of_le fo.1 hle, fo.2⟩
    have hag : NN0 ≤ NN ∧ ∀ o : Nat, o < NN0 → ad o = ad0 o := ⟨Nat.le_trans hag.1 hle, fun o h => (hg o (Nat.lt_of_lt_of_le h hag.1)).trans (hag.2 o h)⟩
    have hNN : 152 ≤ NN := Nat.le_trans hNN hle
    clear hg hle
    obtain ⟨cells, ec⟩ : ∃ z, z = cells + k5 := ⟨_, rfl⟩
    obtain ⟨slots, es⟩ : ∃ z, z = slots + n6 := ⟨_, rfl⟩
    rw [← ec, ← es]
    have hRc : cells + k7 ≤ R.cells := by omega
    have hRs : slots + n8 ≤ R.slots := by omega
    clear ec es hB ht hF hz1 hk1 hvm ek5 en6
    refine lv_aload_n hx hb d_Wrt_putLevels_30 rfl (lv_at hl 1 rfl) ?_
    refine w_getf (q := (stC o 2)) (k := 2) (t := 5) (C := R_Wrt) (T := F_Wrt) (N := 20) hx hb hT hown hK hW fo.1 fo.2 (by decide) in_Wrt rfl rfl (by decide) rfl fr_Wrt_2 w_2_53 d_Wrt_putLevels_31 rfl ?_
    refine lv_iload_n hx hb d_Wrt_putLevels_34 rfl (lv_at hl 0 rfl) ?_
    obtain ⟨k10, n11, k12, n13, ek10, en11, hw⟩ := hw
    have hF := hW.free hS hA
    refine va_callv (va_runV (C := R_Snk) (As := [.int v2]) (rest := []) ⟨hx, hb, hml, hown, hT⟩ (k_Snk_tellSizeFrom l dC dI cI cB cJ cZ ad NN E tM tC kK kV hNN H.size (stC o 2) v2 k10 n11 x9 (st_ty hNN fo.1 fo.2 rfl) hw) ⟨callB_of 1 hT (gw_in w_6_18) rfl rfl rfl (hT _ w_1_2) (hT _ w_6_15) (by decide +kernel) ⟨Nat.le_trans (by decide) hRf, Nat.le_trans (by decide) hRl⟩, hT _ w_6_16, hT _ w_6_17⟩ ⟨PV.blind, va_recv hK hW.1 (ci := 1) (q0 := (stC o 2)) rfl (pic_obj (st_ty hNN fo.1 fo.2 rfl).1 (st_ty hNN fo.1 fo.2 rfl).2 (by decide)), PV.at _ hW hK hN hE hS hF⟩ rfl rfl hl.1 rfl (lv_room (Nat.le_of_ble_eq_true rfl)) d_Wrt_putLevels_35 ⟨show cells + k10 ≤ R.cells by omega, show slots + n11 ≤ R.slots by omega⟩) hS (fun q _ h => hF q h) hF (fun  x14 t H locs ht hvm hw hB hz1 hk1 hS => ?_)
    obtain ⟨x14, ad, NN⟩ := x14
    obtain ⟨hB, hle, hg⟩ := hB
    try dsimp only at hw hB hle hg
    have hW := Wd.back hB ht hF
    rw [← hg o fo.1] at hl
    rw [← hg l1 fl1.1] at hl
    have fl1 : l1 < NN ∧ kcC l1 = 20 := ⟨Nat.lt_of_lt_of_le fl1.1 hle, fl1.2⟩
    have fo : o < NN ∧ kcC o = 5 := ⟨Nat.lt_of_lt_of_le fo.1 hle, fo.2⟩
    have hag : NN0 ≤ NN ∧ ∀ o : Nat, o < NN0 → ad o = ad0 o := ⟨Nat.le_trans hag.1 hle, fun o h => (hg o (Nat.lt_of_lt_of_le h hag.1)).trans (hag.2 o h)⟩
    have hNN : 152 ≤ NN := Nat.le_trans hNN hle
    clear hg hle
    obtain ⟨cells, ec⟩ : ∃ z, z = cells + k10 := ⟨_, rfl⟩
    obtain ⟨slots, es⟩ : ∃ z, z = slots + n11 := ⟨_, rfl⟩
    rw [← ec, ← es]
    have hRc : cells + k12 ≤ R.cells := by omega
    have hRs : slots + n13 ≤ R.slots := by omega
    clear ec es hB ht hF hz1 hk1 hvm ek10 en11
    exact hret ad NN cells slots x14 H locs 38 ls d_Wrt_putLevels_38 hag (Nat.le_trans (Nat.le_add_right _ _) hRc) (Nat.le_trans (Nat.le_add_right _ _) hRs) hw hW hS
  · have hw := hw.2 c1
    exact hret ad NN cells slots x H locs 4 ls d_Wrt_putLevels_4 hag (Nat.le_trans (Nat.le_add_right _ _) hRc) (Nat.le_trans (Nat.le_add_right _ _) hRs) hw hW hS
set_option maxHeartbeats 4000000 in
set_option maxRecDepth 100000 in
theorem k_Wrt_putLevels (l : Launch) (dC : Nat → ClassId) (dI : Nat → Nat → Nat) (cI cB cJ cZ : ClassId) (ad : Nat → Nat) (NN : Nat) (E : Heap) (tM tC : Nat) (kK kV : Nat → Nat) (hNN : 152 ≤ NN) (sz : Nat) (o : Nat) (l1 : Nat) (l2 : Int32) (kb : Nat) (nb : Nat) (x : St) (fo : o < NN ∧ kcC o = 5) (fl1 : l1 < NN ∧ kcC l1 = 20) {post : St → Prop} (hw : wp_Wrt_putLevels post o l1 l2 kb nb x) : Met l y_Wrt_putLevels (wsOf y_Wrt_putLevels b_Wrt_putLevels 4 (none)) ({ frames := 6, cells := kb, slots := nb, locals := 299 }) (va_Pc [.ref (ad o), .ref (ad l1), .int l2] (PV dC dI cI cB cJ cZ ad stC kcC NN E tM tC kK kV sz x)) (va_Qv (fun (u : St × (Nat → Nat) × Nat) => post u.1) (fun u t => Wd dC dI cI cB cJ cZ u.2.1 stC kcC u.2.2 (va_A (pic ad stC kcC NN cI cB cJ cZ x) sz) u.1 t.heap ∧ NN ≤ u.2.2 ∧ ∀ o : Nat, o < NN → u.2.1 o = ad o) (va_A (pic ad stC kcC NN cI cB cJ cZ x) sz)) kb nb (va_A (pic ad stC kcC NN cI cB cJ cZ x) sz) := by
  refine Met.ofW (cc := b_Wrt_putLevels) (maxL := 4) (ret := none) (by decide) rfl ?_
  intro p e s m args below meth c s₁ B hml hv
  obtain ⟨rfl, ⟨hsz, hW0, hK, hN⟩, hE⟩ := hv
  have hx := B.exec
  have hb := B.bytes
  have hr := B.returns
  have hts := atoms_spec B.pre
  have hT : ∀ w ∈ TG, w.before _ s = true := fun w h => hts w (List.mem_cons_of_mem _ h)
  have hown : s.vm.findClass R_Wrt = some m.cls := findClass_of_methodNamed B.named
  have hlocks := B.notSynchronized
  subst hsz
  have hW : Wd dC dI cI cB cJ cZ ad stC kcC NN (va_A (pic ad stC kcC NN cI cB cJ cZ x) s.heap.size) x s.heap := ⟨hW0.1, hW0.2.1.self (sz := s.heap.size), hW0.2.2⟩
  generalize hAe : va_A (pic ad stC kcC NN cI cB cJ cZ x) s.heap.size = A at hW hE ⊢
  have hA : ∀ q : Nat, s.heap.size ≤ q → A q := fun q h => by rw [← hAe]; exact Or.inr h
  have hS : va_S A s.heap s.heap [] := va_S.rf
  have hl := lv_entry ([.ref (ad o), .ref (ad l1), .int l2]) (n := 4) (Nat.le_of_ble_eq_true rfl)
  rw [lg_entry_eq]
  generalize (lg_sl ([.ref (ad o), .ref (ad l1), .int l2]) ++ List.replicate (4 - (lg_sl ([.ref (ad o), .ref (ad l1), .int l2])).length) Slot.unset).toArray = ls at hl ⊢
  have hl : lv_has ls 4 [(0, .ref (ad o)), (1, .ref (ad l1)), (2, .int l2)] := hl
  exact t_Wrt_putLevels_e hx hb hml hown hT hK hN hA (Nat.le_refl 6) (Nat.le_refl 299) hE (fun ad1 NN1 cells slots x1 H locs pc ls hd hag hc hs hp hW hS => W.widen (k := kb) (n := nb) hc hs (W.vret hx hb hr (fun t ht hM => ⟨⟨(x1, ad1, NN1), rfl, hp, Wd.back hW ht.symm (fun _ z => z), hag.1, hag.2⟩, hS.F ht⟩) hS.2.2 hd hlocks))  ad NN 0 0 o l1 l2 kb nb x _ _ ls hNN ⟨Nat.le_refl _, fun _ _ => rfl⟩ (Nat.le_of_eq (Nat.zero_add kb)) (Nat.le_of_eq (Nat.zero_add nb)) fo fl1 hw hW hS hl
set_option maxRecDepth 100000 in
def wp_Snk_putTold (post : St → Prop) (o : Nat) (l1 : Int32) (l2 : Nat) (l3 : Int64) (kb : Nat) (nb : Nat) (x : St) : Prop := ((¬ l1 = 3 → ((¬ l1 = 0 → wp_V_zigzag (fun (r4 : Int64) (x3 : St) => (∃ k5 n6 k7 n8 : Nat, k5 + k7 = kb ∧ n6 + n8 = nb ∧ wp_Snk_putVarint (fun (x9 : St) => post x9) o r4 k5 n6 x3)) l3 x) ∧ (l1 = 0 → (∃ k10 n11 k12 n13 : Nat, k10 + k12 = kb ∧ n11 + n13 = nb ∧ wp_Snk_put (fun (x14 : St) => post x14) o (l3 : Int64).toInt32 k10 n11 x)))) ∧ (l1 = 3 → (∃ k15 n16 k17 n18 : Nat, k15 + k17 = kb ∧ n16 + n18 = nb ∧ wp_Snk_putText (fun (x19 : St) => post x19) o l2 l3 k15 n16 x)))
set_option maxHeartbeats 4000000 in
set_option maxRecDepth 100000 in
theorem t_Snk_putTold_e {p : Program} {l : Launch} {e : Env} {R : Room} {s : State} {m : MethodId} {args : Array Value} {below : List Frame} {meth : Method} {c : Code} {Q : State → Prop} {dC : Nat → ClassId} {dI : Nat → Nat → Nat} {cI cB cJ cZ : ClassId} {A : Nat → Prop} {E : Heap} {tM tC : Nat} {kK kV : Nat → Nat} {ad0 : Nat → Nat} {NN0 : Nat} {post : St → Prop} (hx : p.tables.exec = Jvm.exec) (hb : c.code = b_Snk_putTold) (hml : c.maxLocals = 5) (hown : s.vm.findClass R_Snk = some m.cls) (hT : ∀ w ∈ TG, w.before args s = true) (hK : va_K (dC, dI) CL (TY cI cB cJ cZ) s) (hN : NW s) (hA : ∀ q : Nat, s.heap.size ≤ q → A q) (hRf : 5 ≤ R.frames) (hRl : 270 ≤ R.locals) (hE : CE E tM tC kK kV A s) (hret : ∀ (ad : Nat → Nat) (NN cells slots : Nat) (x : St) (H : Heap) (locs : List Loc) (pc : Nat) (ls : Array Slot), decode b_Snk_putTold pc = .ok (.return_, 1) → (NN0 ≤ NN ∧ ∀ o : Nat, o < NN0 → ad o = ad0 o) → cells ≤ R.cells → slots ≤ R.slots → post x → Wd dC dI cI cB cJ cZ ad stC kcC NN A x H → va_S A s.heap H locs → W p l e R s m args below meth c H locs cells slots Q (F0 m pc ls [])) : ∀ (ad : Nat → Nat) (NN cells slots : Nat) (o : Nat) (l1 : Int32) (l2 : Nat) (l3 : Int64) (kb : Nat) (nb : Nat) (x : St) (H : Heap) (locs : List Loc) (ls : Array Slot), (152 ≤ NN) → (NN0 ≤ NN ∧ ∀ o : Nat, o < NN0 → ad o = ad0 o) → (cells + kb ≤ R.cells) → (slots + nb ≤ R.slots) → (o < NN ∧ kcC o = 1) → (l2 < NN ∧ kcC l2 = 21) → wp_Snk_putTold post o l1 l2 l3 kb nb x → Wd dC dI cI cB cJ cZ ad stC kcC NN A x H → va_S A s.heap H locs → lv_has ls 5 [(0, .ref (ad o)), (1, .int l1), (2, .ref (ad l2)), (3, .long l3)] → W p l e R s m args below meth c H locs cells slots Q (F0 m 0 ls []) := by
  intro ad NN cells slots o l1 l2 l3 kb nb x H locs ls hNN hag hRc hRs fo fl2 hw hW hS hl
  unfold wp_Snk_putTold at hw
  refine lv_iload_n hx hb d_Snk_putTold_0 rfl (lv_at hl 1 rfl) ?_
  refine lv_iconst (v := 3) hx hb d_Snk_putTold_1 (by decide) ?_
  refine lv_icmp_ne (tgt := 14) hx hb d_Snk_putTold_2 (by decide) (fun c1 => ?_) (fun c1 => ?_)
  · have hw := hw.1 c1
    refine lv_iload_n hx hb d_Snk_putTold_14 rfl (lv_at hl 1 rfl) ?_
    refine lv_if_ne (tgt := 27) hx hb d_Snk_putTold_15 (by decide) (fun c2 => ?_) (fun c2 => ?_)
    · have hw := hw.1 c2
      refine lv_aload_n hx hb d_Snk_putTold_27 rfl (lv_at hl 0 rfl) ?_
      refine lv_lload_n hx hb d_Snk_putTold_28 rfl (lv_at hl 3 rfl) ?_
      have hF := hW.free hS hA
      refine va_calll (va_runSN (As := [.long l3]) (rest := [.ref (ad o)]) ⟨hx, hb, hml, hown, hT⟩ (k_V_zigzag l dC dI cI cB cJ cZ ad NN E tM tC kK kV hNN H.size l3 x  hw) ⟨va_cnB 1 hT (gw_in w_6_8) rfl rfl rfl (hN _ wn_6_6 rfl) (hT _ w_1_1) (by decide +kernel) ⟨Nat.le_trans (by decide) hRf, Nat.le_trans (by decide) hRl⟩, hT _ w_6_7, trivial⟩ ⟨PV.blind, PV.at _ hW hK hN hE hS hF⟩ rfl rfl hl.1 rfl (lv_room (Nat.le_of_ble_eq_true rfl)) d_Snk_putTold_29 ⟨(Nat.le_trans (Nat.le_add_right _ _) hRc), (Nat.le_trans (Nat.le_add_right _ _) hRs)⟩) hS (fun q _ h => hF q h) hF (fun r4 x3 t H locs ht hvm hw hB hz1 hk1 hS => ?_)
      have hW := Wd.back hB ht hF
      clear hB ht hF hz1 hk1 hvm
      obtain ⟨k5, n6, k7, n8, ek5, en6, hw⟩ := hw
      have hF := hW.free hS hA
      refine va_callv (va_runV (C := R_Snk) (As := [.long r4]) (rest := []) ⟨hx, hb, hml, hown, hT⟩ (k_Snk_putVarint l dC dI cI cB cJ cZ ad NN E tM tC kK kV hNN H.size o r4 k5 n6 x3 fo hw) ⟨callB_of 1 hT (gw_in w_5_143) rfl rfl rfl (hT _ w_1_2) (hT _ w_5_180) (by decide +kernel) ⟨Nat.le_trans (by decide) hRf, Nat.le_trans (by decide) hRl⟩, hT _ w_5_141, hT _ w_5_142⟩ ⟨PV.blind, va_recv hK hW.1 (ci := 1) (q0 := o) rfl (pic_obj fo.1 fo.2 (by decide)), PV.at _ hW hK hN hE hS hF⟩ rfl rfl hl.1 rfl (lv_room (Nat.le_of_ble_eq_true rfl)) d_Snk_putTold_32 ⟨show cells + k5 ≤ R.cells by omega, show slots + n6 ≤ R.slots by omega⟩) hS (fun q _ h => hF q h) hF (fun  x9 t H locs ht hvm hw hB hz1 hk1 hS => ?_)
      obtain ⟨x9, ad, NN⟩ := x9
      obtain ⟨hB, hle, hg⟩ := hB
      try dsimp only at hw hB hle hg
      have hW := Wd.back hB ht hF
      rw [← hg o fo.1] at hl
      rw [← hg l2 fl2.1] at hl
      have fl2 : l2 < NN ∧ kcC l2 = 21 := ⟨Nat.lt_of_lt_of_le fl2.1 hle, fl2.2⟩
      have fo : o < NN ∧ kcC o = 1 := ⟨Nat.lt_of_lt_of_le fo.1 hle, fo.2⟩
      have hag : NN0 ≤ NN ∧ ∀ o : Nat, o < NN0 → ad o = ad0 o := ⟨Nat.le_trans hag.1 hle, fun o h => (hg o (Nat.lt_of_lt_of_le h hag.1)).trans (hag.2 o h)⟩
      have hNN : 152 ≤ NN := Nat.le_trans hNN hle
      clear hg hle
      obtain ⟨cells, ec⟩ : ∃ z, z = cells + k5 := ⟨_, rfl⟩
      obtain ⟨slots, es⟩ : ∃ z, z = slots + n6 := ⟨_, rfl⟩
      rw [← ec, ← es]
      have hRc : cells + k7 ≤ R.cells := by omega
      have hRs : slots + n8 ≤ R.slots := by omega
      clear ec es hB ht hF hz1 hk1 hvm ek5 en6
      exact hret ad NN cells slots x9 H locs 35 ls d_Snk_putTold_35 hag (Nat.le_trans (Nat.le_add_right _ _) hRc) (Nat.le_trans (Nat.le_add_right _ _) hRs) hw hW hS
    · have hw := hw.2 c2
      refine lv_aload_n hx hb d_Snk_putTold_18 rfl (lv_at hl 0 rfl) ?_
      refine lv_lload_n hx hb d_Snk_putTold_19 rfl (lv_at hl 3 rfl) ?_
      refine lv_l2i hx hb d_Snk_putTold_20 rfl ?_
      obtain ⟨k10, n11, k12, n13, ek10, en11, hw⟩ := hw
      have hF := hW.free hS hA
      refine va_callv (va_runV (C := R_Snk) (As := [.int (l3 : Int64).toInt32]) (rest := []) ⟨hx, hb, hml, hown, hT⟩ (k_Snk_put l dC dI cI cB cJ cZ ad NN E tM tC kK kV hNN H.size o (l3 : Int64).toInt32 k10 n11 x fo hw) ⟨callB_of 1 hT (gw_in w_4_52) rfl rfl rfl (hT _ w_1_2) (hT _ w_5_189) (by decide +kernel) ⟨Nat.le_trans (by decide) hRf, Nat.le_trans (by decide) hRl⟩, hT _ w_4_50, hT _ w_4_51⟩ ⟨PV.blind, va_recv hK hW.1 (ci := 1) (q0 := o) rfl (pic_obj fo.1 fo.2 (by decide)), PV.at _ hW hK hN hE hS hF⟩ rfl rfl hl.1 rfl (lv_room (Nat.le_of_ble_eq_true rfl)) d_Snk_putTold_21 ⟨show cells + k10 ≤ R.cells by omega, show slots + n11 ≤ R.slots by omega⟩) hS (fun q _ h => hF q h) hF (fun  x14 t H locs ht hvm hw hB hz1 hk1 hS => ?_)
      obtain ⟨x14, ad, NN⟩ := x14
      obtain ⟨hB, hle, hg⟩ := hB
      try dsimp only at hw hB hle hg
      have hW := Wd.back hB ht hF
      rw [← hg o fo.1] at hl
      rw [← hg l2 fl2.1] at hl
      have fl2 : l2 < NN ∧ kcC l2 = 21 := ⟨Nat.lt_of_lt_of_le fl2.1 hle, fl2.2⟩
      have fo : o < NN ∧ kcC o = 1 := ⟨Nat.lt_of_lt_of_le fo.1 hle, fo.2⟩
      have hag : NN0 ≤ NN ∧ ∀ o : Nat, o < NN0 → ad o = ad0 o := ⟨Nat.le_trans hag.1 hle, fun o h => (hg o (Nat.lt_of_lt_of_le h hag.1)).trans (hag.2 o h)⟩
      have hNN : 152 ≤ NN := Nat.le_trans hNN hle
      clear hg hle
      obtain ⟨cells, ec⟩ : ∃ z, z = cells + k10 := ⟨_, rfl⟩
      obtain ⟨slots, es⟩ : ∃ z, z = slots + n11 := ⟨_, rfl⟩
      rw [← ec, ← es]
      have hRc : cells + k12 ≤ R.cells := by omega
      have hRs : slots + n13 ≤ R.slots := by omega
      clear ec es hB ht hF hz1 hk1 hvm ek10 en11
      refine lv_goto (tgt := 35) hx hb d_Snk_putTold_24 (by decide) ?_
      exact hret ad NN cells slots x14 H locs 35 ls d_Snk_putTold_35 hag (Nat.le_trans (Nat.le_add_right _ _) hRc) (Nat.le_trans (Nat.le_add_right _ _) hRs) hw hW hS
  · have hw := hw.2 c1
    refine lv_aload_n hx hb d_Snk_putTold_5 rfl (lv_at hl 0 rfl) ?_
    refine lv_aload_n hx hb d_Snk_putTold_6 rfl (lv_at hl 2 rfl) ?_
    refine lv_lload_n hx hb d_Snk_putTold_7 rfl (lv_at hl 3 rfl) ?_
    obtain ⟨k15, n16, k17, n18, ek15, en16, hw⟩ := hw
    have hF := hW.free hS hA
    refine va_callv (va_runV (C := R_Snk) (As := [.ref (ad l2), .long l3]) (rest := []) ⟨hx, hb, hml, hown, hT⟩ (k_Snk_putText l dC dI cI cB cJ cZ ad NN E tM tC kK kV hNN H.size o l2 l3 k15 n16 x fo fl2 hw) ⟨callB_of 2 hT (gw_in w_5_178) rfl rfl rfl (hT _ w_1_2) (hT _ w_6_40) (by decide +kernel) ⟨Nat.le_trans (by decide) hRf, Nat.le_trans (by decide) hRl⟩, hT _ w_5_176, hT _ w_5_177⟩ ⟨PV.blind, va_recv hK hW.1 (ci := 1) (q0 := o) rfl (pic_obj fo.1 fo.2 (by decide)), PV.at _ hW hK hN hE hS hF⟩ rfl rfl hl.1 rfl (lv_room (Nat.le_of_ble_eq_true rfl)) d_Snk_putTold_8 ⟨show cells + k15 ≤ R.cells by omega, show slots + n16 ≤ R.slots by omega⟩) hS (fun q _ h => hF q h) hF (fun  x19 t H locs ht hvm hw hB hz1 hk1 hS => ?_)
    obtain ⟨x19, ad, NN⟩ := x19
    obtain ⟨hB, hle, hg⟩ := hB
    try dsimp only at hw hB hle hg
    have hW := Wd.back hB ht hF
    rw [← hg o fo.1] at hl
    rw [← hg l2 fl2.1] at hl
    have fl2 : l2 < NN ∧ kcC l2 = 21 := ⟨Nat.lt_of_lt_of_le fl2.1 hle, fl2.2⟩
    have fo : o < NN ∧ kcC o = 1 := ⟨Nat.lt_of_lt_of_le fo.1 hle, fo.2⟩
    have hag : NN0 ≤ NN ∧ ∀ o : Nat, o < NN0 → ad o = ad0 o := ⟨Nat.le_trans hag.1 hle, fun o h => (hg o (Nat.lt_of_lt_of_le h hag.1)).trans (hag.2 o h)⟩
    have hNN : 152 ≤ NN := Nat.le_trans hNN hle
    clear hg hle
    obtain ⟨cells, ec⟩ : ∃ z, z = cells + k15 := ⟨_, rfl⟩
    obtain ⟨slots, es⟩ : ∃ z, z = slots + n16 := ⟨_, rfl⟩
    rw [← ec, ← es]
    have hRc : cells + k17 ≤ R.cells := by omega
    have hRs : slots + n18 ≤ R.slots := by omega
    clear ec es hB ht hF hz1 hk1 hvm ek15 en16
    refine lv_goto (tgt := 35) hx hb d_Snk_putTold_11 (by decide) ?_
    exact hret ad NN cells slots x19 H locs 35 ls d_Snk_putTold_35 hag (Nat.le_trans (Nat.le_add_right _ _) hRc) (Nat.le_trans (Nat.le_add_right _ _) hRs) hw hW hS
set_option maxHeartbeats 4000000 in
set_option maxRecDepth 100000 in
theorem k_Snk_putTold (l : Launch) (dC : Nat → ClassId) (dI : Nat → Nat → Nat) (cI cB cJ cZ : ClassId) (ad : Nat → Nat) (NN : Nat) (E : Heap) (tM tC : Nat) (kK kV : Nat → Nat) (hNN : 152 ≤ NN) (sz : Nat) (o : Nat) (l1 : Int32) (l2 : Nat) (l3 : Int64) (kb : Nat) (nb : Nat) (x : St) (fo : o < NN ∧ kcC o = 1) (fl2 : l2 < NN ∧ kcC l2 = 21) {post : St → Prop} (hw : wp_Snk_putTold post o l1 l2 l3 kb nb x) : Met l y_Snk_putTold (wsOf y_Snk_putTold b_Snk_putTold 5 (none)) ({ frames := 5, cells := kb, slots := nb, locals := 270 }) (va_Pc [.ref (ad o), .int l1, .ref (ad l2), .long l3] (PV dC dI cI cB cJ cZ ad stC kcC NN E tM tC kK kV sz x)) (va_Qv (fun (u : St × (Nat → Nat) × Nat) => post u.1) (fun u t => Wd dC dI cI cB cJ cZ u.2.1 stC kcC u.2.2 (va_A (pic ad stC kcC NN cI cB cJ cZ x) sz) u.1 t.heap ∧ NN ≤ u.2.2 ∧ ∀ o : Nat, o < NN → u.2.1 o = ad o) (va_A (pic ad stC kcC NN cI cB cJ cZ x) sz)) kb nb (va_A (pic ad stC kcC NN cI cB cJ cZ x) sz) := by
  refine Met.ofW (cc := b_Snk_putTold) (maxL := 5) (ret := none) (by decide) rfl ?_
  intro p e s m args below meth c s₁ B hml hv
  obtain ⟨rfl, ⟨hsz, hW0, hK, hN⟩, hE⟩ := hv
  have hx := B.exec
  have hb := B.bytes
  have hr := B.returns
  have hts := atoms_spec B.pre
  have hT : ∀ w ∈ TG, w.before _ s = true := fun w h => hts w (List.mem_cons_of_mem _ h)
  have hown : s.vm.findClass R_Snk = some m.cls := findClass_of_methodNamed B.named
  have hlocks := B.notSynchronized
  subst hsz
  have hW : Wd dC dI cI cB cJ cZ ad stC kcC NN (va_A (pic ad stC kcC NN cI cB cJ cZ x) s.heap.size) x s.heap := ⟨hW0.1, hW0.2.1.self (sz := s.heap.size), hW0.2.2⟩
  generalize hAe : va_A (pic ad stC kcC NN cI cB cJ cZ x) s.heap.size = A at hW hE ⊢
  have hA : ∀ q : Nat, s.heap.size ≤ q → A q := fun q h => by rw [← hAe]; exact Or.inr h
  have hS : va_S A s.heap s.heap [] := va_S.rf
  have hl := lv_entry ([.ref (ad o), .int l1, .ref (ad l2), .long l3]) (n := 5) (Nat.le_of_ble_eq_true rfl)
  rw [lg_entry_eq]
  generalize (lg_sl ([.ref (ad o), .int l1, .ref (ad l2), .long l3]) ++ List.replicate (5 - (lg_sl ([.ref (ad o), .int l1, .ref (ad l2), .long l3])).length) Slot.unset).toArray = ls at hl ⊢
  have hl : lv_has ls 5 [(0, .ref (ad o)), (1, .int l1), (2, .ref (ad l2)), (3, .long l3)] := hl
  exact t_Snk_putTold_e hx hb hml hown hT hK hN hA (Nat.le_refl 5) (Nat.le_refl 270) hE (fun ad1 NN1 cells slots x1 H locs pc ls hd hag hc hs hp hW hS => W.widen (k := kb) (n := nb) hc hs (W.vret hx hb hr (fun t ht hM => ⟨⟨(x1, ad1, NN1), rfl, hp, Wd.back hW ht.symm (fun _ z => z), hag.1, hag.2⟩, hS.F ht⟩) hS.2.2 hd hlocks))  ad NN 0 0 o l1 l2 l3 kb nb x _ _ ls hNN ⟨Nat.le_refl _, fun _ _ => rfl⟩ (Nat.le_of_eq (Nat.zero_add kb)) (Nat.le_of_eq (Nat.zero_add nb)) fo fl2 hw hW hS hl
set_option maxRecDepth 100000 in
def j_Wrt_putPage_174 (post : St → Prop) (o : Nat) (l1 : Int32) (l2 : Int32) (l3 : Int32) (l4 : Int32) (kb : Nat) (nb : Nat) (x : St) : Prop := (∃ q1 : Nat, fR x o 0 = some q1 ∧ (∃ k2 n3 k4 n5 : Nat, k2 + k4 = kb ∧ n3 + n5 = nb ∧ wp_Snk_putVarint (fun (x6 : St) => (∃ q7 : Nat, fR x6 o 0 = some q7 ∧ (∃ q8 : Nat, fR x6 (stC o 2) 0 = some q8 ∧ wp_V_checkOf (fun (r10 : Int32) (x9 : St) => (∃ k11 n12 k13 n14 : Nat, k11 + k13 = k4 ∧ n12 + n14 = n5 ∧ wp_Snk_putFixed (fun (x15 : St) => (∃ q16 : Nat, fR x15 o 0 = some q16 ∧ (∃ q17 : Nat, fR x15 (stC o 2) 0 = some q17 ∧ (∃ k18 n19 k20 n21 : Nat, k18 + k20 = k13 ∧ n19 + n21 = n14 ∧ wp_Snk_putAll (fun (x22 : St) => post x22) q16 q17 0 (fI x15 (stC o 2) 1) k18 n19 x15)))) q7 (r10 : Int32).toInt64 4 k11 n12 x9)) q8 0 (fI x6 (stC o 2) 1) x6))) q1 ((fI x (stC o 2) 1) : Int32).toInt64 k2 n3 x))
set_option maxHeartbeats 4000000 in
set_option maxRecDepth 100000 in
theorem t_Wrt_putPage_174 {p : Program} {l : Launch} {e : Env} {R : Room} {s : State} {m : MethodId} {args : Array Value} {below : List Frame} {meth : Method} {c : Code} {Q : State → Prop} {dC : Nat → ClassId} {dI : Nat → Nat → Nat} {cI cB cJ cZ : ClassId} {A : Nat → Prop} {E : Heap} {tM tC : Nat} {kK kV : Nat → Nat} {ad0 : Nat → Nat} {NN0 : Nat} {post : St → Prop} (hx : p.tables.exec = Jvm.exec) (hb : c.code = b_Wrt_putPage) (hml : c.maxLocals = 5) (hown : s.vm.findClass R_Wrt = some m.cls) (hT : ∀ w ∈ TG, w.before args s = true) (hK : va_K (dC, dI) CL (TY cI cB cJ cZ) s) (hN : NW s) (hA : ∀ q : Nat, s.heap.size ≤ q → A q) (hRf : 7 ≤ R.frames) (hRl : 322 ≤ R.locals) (hE : CE E tM tC kK kV A s) (hret : ∀ (ad : Nat → Nat) (NN cells slots : Nat) (x : St) (H : Heap) (locs : List Loc) (pc : Nat) (ls : Array Slot), decode b_Wrt_putPage pc = .ok (.return_, 1) → (NN0 ≤ NN ∧ ∀ o : Nat, o < NN0 → ad o = ad0 o) → cells ≤ R.cells → slots ≤ R.slots → post x → Wd dC dI cI cB cJ cZ ad stC kcC NN A x H → va_S A s.heap H locs → W p l e R s m args below meth c H locs cells slots Q (F0 m pc ls []))  : ∀ (ad : Nat → Nat) (NN cells slots : Nat) (o : Nat) (l1 : Int32) (l2 : Int32) (l3 : Int32) (l4 : Int32) (kb : Nat) (nb : Nat) (x : St) (H : Heap) (locs : List Loc) (ls : Array Slot), (152 ≤ NN) → (NN0 ≤ NN ∧ ∀ o : Nat, o < NN0 → ad o = ad0 o) → (cells + kb ≤ R.cells) → (slots + nb ≤ R.slots) → (o < NN ∧ kcC o = 5) → j_Wrt_putPage_174 post o l1 l2 l3 l4 kb nb x → Wd dC dI cI cB cJ cZ ad stC kcC NN A x H → va_S A s.heap H locs → lv_has ls 5 [(0, .ref (ad o)), (1, .int l1), (2, .int l2), (3, .int l3), (4, .int l4)] → W p l e R s m args below meth c H locs cells slots Q (F0 m 174 ls []) := by
  intro ad NN cells slots o l1 l2 l3 l4 kb nb x H locs ls hNN hag hRc hRs fo hw hW hS hl
  unfold j_Wrt_putPage_174 at hw
  refine lv_aload_n hx hb d_Wrt_putPage_174 rfl (lv_at hl 0 rfl) ?_
  obtain ⟨q1, hq1, hw⟩ := hw
  refine w_getr (q := q1) (k := 0) (t := 5) (C := R_Wrt) (T := F_Wrt) (N := 20) hx hb hT hown hK hW fo.1 fo.2 (by decide) in_Wrt rfl rfl (by decide) rfl fr_Wrt_0 w_2_51 d_Wrt_putPage_175 hq1 (fun aq1 bq1 => ?_)
  have fq1 : q1 < NN ∧ kcC q1 = 1 := ⟨aq1, bq1⟩
  refine lv_aload_n hx hb d_Wrt_putPage_178 rfl (lv_at hl 0 rfl) ?_
  refine w_getf (q := (stC o 2)) (k := 2) (t := 5) (C := R_Wrt) (T := F_Wrt) (N := 20) hx hb hT hown hK hW fo.1 fo.2 (by decide) in_Wrt rfl rfl (by decide) rfl fr_Wrt_2 w_2_53 d_Wrt_putPage_179 rfl ?_
  refine w_geti (k := 1) (t := 1) (C := R_Snk) (T := F_Snk) (N := 7) hx hb hT hown hK hW (st_ty hNN fo.1 fo.2 rfl).1 (st_ty hNN fo.1 fo.2 rfl).2 (by decide) in_Snk rfl rfl (by decide) rfl fr_Snk_1 w_1_46 d_Wrt_putPage_182 ?_
  refine lv_i2l hx hb d_Wrt_putPage_185 rfl ?_
  obtain ⟨k2, n3, k4, n5, ek2, en3, hw⟩ := hw
  have hF := hW.free hS hA
  refine va_callv (va_runV (C := R_Snk) (As := [.long ((fI x (stC o 2) 1) : Int32).toInt64]) (rest := []) ⟨hx, hb, hml, hown, hT⟩ (k_Snk_putVarint l dC dI cI cB cJ cZ ad NN E tM tC kK kV hNN H.size q1 ((fI x (stC o 2) 1) : Int32).toInt64 k2 n3 x fq1 hw) ⟨callB_of 1 hT (gw_in w_5_143) rfl rfl rfl (hT _ w_1_2) (hT _ w_5_140) (by decide +kernel) ⟨Nat.le_trans (by decide) hRf, Nat.le_trans (by decide) hRl⟩, hT _ w_5_141, hT _ w_5_142⟩ ⟨PV.blind, va_recv hK hW.1 (ci := 1) (q0 := q1) rfl (pic_obj fq1.1 fq1.2 (by decide)), PV.at _ hW hK hN hE hS hF⟩ rfl rfl hl.1 rfl (lv_room (Nat.le_of_ble_eq_true rfl)) d_Wrt_putPage_186 ⟨show cells + k2 ≤ R.cells by omega, show slots + n3 ≤ R.slots by omega⟩) hS (fun q _ h => hF q h) hF (fun  x6 t H locs ht hvm hw hB hz1 hk1 hS => ?_)
  obtain ⟨x6, ad, NN⟩ := x6
  obtain ⟨hB, hle, hg⟩ := hB
  try dsimp only at hw hB hle hg
  have hW := Wd.back hB ht hF
  rw [← hg o fo.1] at hl
  have fo : o < NN ∧ kcC o = 5 := ⟨Nat.lt_of_lt_of_le fo.1 hle, fo.2⟩
  have fq1 : q1 < NN ∧ kcC q1 = 1 := ⟨Nat.lt_of_lt_of_le fq1.1 hle, fq1.2⟩
  have hag : NN0 ≤ NN ∧ ∀ o : Nat, o < NN0 → ad o = ad0 o := ⟨Nat.le_trans hag.1 hle, fun o h => (hg o (Nat.lt_of_lt_of_le h hag.1)).trans (hag.2 o h)⟩
  have hNN : 152 ≤ NN := Nat.le_trans hNN hle
  clear hg hle
  obtain ⟨cells, ec⟩ : ∃ z, z = cells + k2 := ⟨_, rfl⟩
  obtain ⟨slots, es⟩ : ∃ z, z = slots + n3 := ⟨_, rfl⟩
  rw [← ec, ← es]
  have hRc : cells + k4 ≤ R.cells := by omega
  have hRs : slots + n5 ≤ R.slots := by omega
  clear ec es hB ht hF hz1 hk1 hvm ek2 en3
  refine lv_aload_n hx hb d_Wrt_putPage_189 rfl (lv_at hl 0 rfl) ?_
  obtain ⟨q7, hq7, hw⟩ := hw
  refine w_getr (q := q7) (k := 0) (t := 5) (C := R_Wrt) (T := F_Wrt) (N := 20) hx hb hT hown hK hW fo.1 fo.2 (by decide) in_Wrt rfl rfl (by decide) rfl fr_Wrt_0 w_2_51 d_Wrt_putPage_190 hq7 (fun aq7 bq7 => ?_)
  have fq7 : q7 < NN ∧ kcC q7 = 1 := ⟨aq7, bq7⟩
  refine lv_aload_n hx hb d_Wrt_putPage_193 rfl (lv_at hl 0 rfl) ?_
  refine w_getf (q := (stC o 2)) (k := 2) (t := 5) (C := R_Wrt) (T := F_Wrt) (N := 20) hx hb hT hown hK hW fo.1 fo.2 (by decide) in_Wrt rfl rfl (by decide) rfl fr_Wrt_2 w_2_53 d_Wrt_putPage_194 rfl ?_
  obtain ⟨q8, hq8, hw⟩ := hw
  refine w_getr (q := q8) (k := 0) (t := 1) (C := R_Snk) (T := F_Snk) (N := 7) hx hb hT hown hK hW (st_ty hNN fo.1 fo.2 rfl).1 (st_ty hNN fo.1 fo.2 rfl).2 (by decide) in_Snk rfl rfl (by decide) rfl fr_Snk_0 w_1_41 d_Wrt_putPage_197 hq8 (fun aq8 bq8 => ?_)
  have fq8 : q8 < NN ∧ kcC q8 = 21 := ⟨aq8, bq8⟩
  refine lv_iconst (v := 0) hx hb d_Wrt_putPage_200 (by decide) ?_
  refine lv_aload_n hx hb d_Wrt_putPage_201 rfl (lv_at hl 0 rfl) ?_
  refine w_getf (q := (stC o 2)) (k := 2) (t := 5) (C := R_Wrt) (T := F_Wrt) (N := 20) hx hb hT hown hK hW fo.1 fo.2 (by decide) in_Wrt rfl rfl (by decide) rfl fr_Wrt_2 w_2_53 d_Wrt_putPage_202 rfl ?_
  refine w_geti (k := 1) (t := 1) (C := R_Snk) (T := F_Snk) (N := 7) hx hb hT hown hK hW (st_ty hNN fo.1 fo.2 rfl).1 (st_ty hNN fo.1 fo.2 rfl).2 (by decide) in_Snk rfl rfl (by decide) rfl fr_Snk_1 w_1_46 d_Wrt_putPage_205 ?_
  have hF := hW.free hS hA
  refine va_calli (va_runSN (As := [.ref (ad q8), .int 0, .int (fI x6 (stC o 2) 1)]) (rest := [.ref (ad q7)]) ⟨hx, hb, hml, hown, hT⟩ (k_V_checkOf l dC dI cI cB cJ cZ ad NN E tM tC kK kV hNN H.size q8 0 (fI x6 (stC o 2) 1) x6 fq8 hw) ⟨va_cnB 3 hT (gw_in w_6_43) rfl rfl rfl (hN _ wn_6_41 rfl) (hT _ w_1_1) (by decide +kernel) ⟨Nat.le_trans (by decide) hRf, Nat.le_trans (by decide) hRl⟩, hT _ w_6_42, trivial⟩ ⟨PV.blind, PV.at _ hW hK hN hE hS hF⟩ rfl rfl hl.1 rfl (lv_room (Nat.le_of_ble_eq_true rfl)) d_Wrt_putPage_208 ⟨(Nat.le_trans (Nat.le_add_right _ _) hRc), (Nat.le_trans (Nat.le_add_right _ _) hRs)⟩) hS (fun q _ h => hF q h) hF (fun r10 x9 t H locs ht hvm hw hB hz1 hk1 hS => ?_)
  have hW := Wd.back hB ht hF
  clear hB ht hF hz1 hk1 hvm
  refine lv_i2l hx hb d_Wrt_putPage_211 rfl ?_
  refine lv_iconst (v := 4) hx hb d_Wrt_putPage_212 (by decide) ?_
  obtain ⟨k11, n12, k13, n14, ek11, en12, hw⟩ := hw
  have hF := hW.free hS hA
  refine va_callv (va_runV (C := R_Snk) (As := [.long (r10 : Int32).toInt64, .int 4]) (rest := []) ⟨hx, hb, hml, hown, hT⟩ (k_Snk_putFixed l dC dI cI cB cJ cZ ad NN E tM tC kK kV hNN H.size q7 (r10 : Int32).toInt64 4 k11 n12 x9 fq7 hw) ⟨callB_of 2 hT (gw_in w_5_188) rfl rfl rfl (hT _ w_1_2) (hT _ w_5_185) (by decide +kernel) ⟨Nat.le_trans (by decide) hRf, Nat.le_trans (by decide) hRl⟩, hT _ w_5_186, hT _ w_5_187⟩ ⟨PV.blind, va_recv hK hW.1 (ci := 1) (q0 := q7) rfl (pic_obj fq7.1 fq7.2 (by decide)), PV.at _ hW hK hN hE hS hF⟩ rfl rfl hl.1 rfl (lv_room (Nat.le_of_ble_eq_true rfl)) d_Wrt_putPage_213 ⟨show cells + k11 ≤ R.cells by omega, show slots + n12 ≤ R.slots by omega⟩) hS (fun q _ h => hF q h) hF (fun  x15 t H locs ht hvm hw hB hz1 hk1 hS => ?_)
  obtain ⟨x15, ad, NN⟩ := x15
  obtain ⟨hB, hle, hg⟩ := hB
  try dsimp only at hw hB hle hg
  have hW := Wd.back hB ht hF
  rw [← hg o fo.1] at hl
  have fo : o < NN ∧ kcC o = 5 := ⟨Nat.lt_of_lt_of_le fo.1 hle, fo.2⟩
  have fq1 : q1 < NN ∧ kcC q1 = 1 := ⟨Nat.lt_of_lt_of_le fq1.1 hle, fq1.2⟩
  have fq7 : q7 < NN ∧ kcC q7 = 1 := ⟨Nat.lt_of_lt_of_le fq7.1 hle, fq7.2⟩
  have fq8 : q8 < NN ∧ kcC q8 = 21 := ⟨Nat.lt_of_lt_of_le fq8.1 hle, fq8.2⟩
  have hag : NN0 ≤ NN ∧ ∀ o : Nat, o < NN0 → ad o = ad0 o := ⟨Nat.le_trans hag.1 hle, fun o h => (hg o (Nat.lt_of_lt_of_le h hag.1)).trans (hag.2 o h)⟩
  have hNN : 152 ≤ NN := Nat.le_trans hNN hle
  clear hg hle
  obtain ⟨cells, ec⟩ : ∃ z, z = cells + k11 := ⟨_, rfl⟩
  obtain ⟨slots, es⟩ : ∃ z, z = slots + n12 := ⟨_, rfl⟩
  rw [← ec, ← es]
  have hRc : cells + k13 ≤ R.cells := by omega
  have hRs : slots + n14 ≤ R.slots := by omega
  clear ec es hB ht hF hz1 hk1 hvm ek11 en12
  refine lv_aload_n hx hb d_Wrt_putPage_216 rfl (lv_at hl 0 rfl) ?_
  obtain ⟨q16, hq16, hw⟩ := hw
  refine w_getr (q := q16) (k := 0) (t := 5) (C := R_Wrt) (T := F_Wrt) (N := 20) hx hb hT hown hK hW fo.1 fo.2 (by decide) in_Wrt rfl rfl (by decide) rfl fr_Wrt_0 w_2_51 d_Wrt_putPage_217 hq16 (fun aq16 bq16 => ?_)
  have fq16 : q16 < NN ∧ kcC q16 = 1 := ⟨aq16, bq16⟩
  refine lv_aload_n hx hb d_Wrt_putPage_220 rfl (lv_at hl 0 rfl) ?_
  refine w_getf (q := (stC o 2)) (k := 2) (t := 5) (C := R_Wrt) (T := F_Wrt) (N := 20) hx hb hT hown hK hW fo.1 fo.2 (by decide) in_Wrt rfl rfl (by decide) rfl fr_Wrt_2 w_2_53 d_Wrt_putPage_221 rfl ?_
  obtain ⟨q17, hq17, hw⟩ := hw
  refine w_getr (q := q17) (k := 0) (t := 1) (C := R_Snk) (T := F_Snk) (N := 7) hx hb hT hown hK hW (st_ty hNN fo.1 fo.2 rfl).1 (st_ty hNN fo.1 fo.2 rfl).2 (by decide) in_Snk rfl rfl (by decide) rfl fr_Snk_0 w_1_41 d_Wrt_putPage_224 hq17 (fun aq17 bq17 => ?_)
  have fq17 : q17 < NN ∧ kcC q17 = 21 := ⟨aq17, bq17⟩
  refine lv_iconst (v := 0) hx hb d_Wrt_putPage_227 (by decide) ?_
  refine lv_aload_n hx hb d_Wrt_putPage_228 rfl (lv_at hl 0 rfl) ?_
  refine w_getf (q := (stC o 2)) (k := 2) (t := 5) (C := R_Wrt) (T := F_Wrt) (N := 20) hx hb hT hown hK hW fo.1 fo.2 (by decide) in_Wrt rfl rfl (by decide) rfl fr_Wrt_2 w_2_53 d_Wrt_putPage_229 rfl ?_
  refine w_geti (k := 1) (t := 1) (C := R_Snk) (T := F_Snk) (N := 7) hx hb hT hown hK hW (st_ty hNN fo.1 fo.2 rfl).1 (st_ty hNN fo.1 fo.2 rfl).2 (by decide) in_Snk rfl rfl (by decide) rfl fr_Snk_1 w_1_46 d_Wrt_putPage_232 ?_
  obtain ⟨k18, n19, k20, n21, ek18, en19, hw⟩ := hw
  have hF := hW.free hS hA
  refine va_callv (va_runV (C := R_Snk) (As := [.ref (ad q17), .int 0, .int (fI x15 (stC o 2) 1)]) (rest := []) ⟨hx, hb, hml, hown, hT⟩ (k_Snk_putAll l dC dI cI cB cJ cZ ad NN E tM tC kK kV hNN H.size q16 q17 0 (fI x15 (stC o 2) 1) k18 n19 x15 fq16 fq17 hw) ⟨callB_of 3 hT (gw_in w_5_138) rfl rfl rfl (hT _ w_1_2) (hT _ w_5_135) (by decide +kernel) ⟨Nat.le_trans (by decide) hRf, Nat.le_trans (by decide) hRl⟩, hT _ w_5_136, hT _ w_5_137⟩ ⟨PV.blind, va_recv hK hW.1 (ci := 1) (q0 := q16) rfl (pic_obj fq16.1 fq16.2 (by decide)), PV.at _ hW hK hN hE hS hF⟩ rfl rfl hl.1 rfl (lv_room (Nat.le_of_ble_eq_true rfl)) d_Wrt_putPage_235 ⟨show cells + k18 ≤ R.cells by omega, show slots + n19 ≤ R.slots by omega⟩) hS (fun q _ h => hF q h) hF (fun  x22 t H locs ht hvm hw hB hz1 hk1 hS => ?_)
  obtain ⟨x22, ad, NN⟩ := x22
  obtain ⟨hB, hle, hg⟩ := hB
  try dsimp only at hw hB hle hg
  have hW := Wd.back hB ht hF
  rw [← hg o fo.1] at hl
  have fo : o < NN ∧ kcC o = 5 := ⟨Nat.lt_of_lt_of_le fo.1 hle, fo.2⟩
  have fq1 : q1 < NN ∧ kcC q1 = 1 := ⟨Nat.lt_of_lt_of_le fq1.1 hle, fq1.2⟩
  have fq16 : q16 < NN ∧ kcC q16 = 1 := ⟨Nat.lt_of_lt_of_le fq16.1 hle, fq16.2⟩
  have fq17 : q17 < NN ∧ kcC q17 = 21 := ⟨Nat.lt_of_lt_of_le fq17.1 hle, fq17.2⟩
  have fq7 : q7 < NN ∧ kcC q7 = 1 := ⟨Nat.lt_of_lt_of_le fq7.1 hle, fq7.2⟩
  have fq8 : q8 < NN ∧ kcC q8 = 21 := ⟨Nat.lt_of_lt_of_le fq8.1 hle, fq8.2⟩
  have hag : NN0 ≤ NN ∧ ∀ o : Nat, o < NN0 → ad o = ad0 o := ⟨Nat.le_trans hag.1 hle, fun o h => (hg o (Nat.lt_of_lt_of_le h hag.1)).trans (hag.2 o h)⟩
  have hNN : 152 ≤ NN := Nat.le_trans hNN hle
  clear hg hle
  obtain ⟨cells, ec⟩ : ∃ z, z = cells + k18 := ⟨_, rfl⟩
  obtain ⟨slots, es⟩ : ∃ z, z = slots + n19 := ⟨_, rfl⟩
  rw [← ec, ← es]
  have hRc : cells + k20 ≤ R.cells := by omega
  have hRs : slots + n21 ≤ R.slots := by omega
  clear ec es hB ht hF hz1 hk1 hvm ek18 en19
  exact hret ad NN cells slots x22 H locs 238 ls d_Wrt_putPage_238 hag (Nat.le_trans (Nat.le_add_right _ _) hRc) (Nat.le_trans (Nat.le_add_right _ _) hRs) hw hW hS
set_option maxRecDepth 100000 in
def wp_Wrt_putPage (post : St → Prop) (o : Nat) (l1 : Int32) (l2 : Int32) (kb : Nat) (nb : Nat) (x : St) : Prop := (∃ q23 : Nat, fR x o 5 = some q23 ∧ (vp_in l1 (fN x (stC q23 10)) ∧ (∀ v24 : Int32, v24 = (rA x (stC q23 10) l1) → (∃ q25 : Nat, fR x o 5 = some q25 ∧ (vp_in v24 (fN x (stC q25 3)) ∧ (∀ v26 : Int32, v26 = (rA x (stC q25 3) v24) → wp_Snk_forget (fun (x27 : St) => (∃ q28 : Nat, fR x27 o 5 = some q28 ∧ (vp_in v24 (fN x27 (stC q28 5)) ∧ (∃ k29 n30 k31 n32 : Nat, k29 + k31 = kb ∧ n30 + n32 = nb ∧ wp_Wrt_putLevels (fun (x33 : St) => (∃ q34 : Nat, fR x33 o 5 = some q34 ∧ (vp_in v24 (fN x33 (stC q34 6)) ∧ (∃ k35 n36 k37 n38 : Nat, k35 + k37 = k31 ∧ n36 + n38 = n32 ∧ wp_Wrt_putLevels (fun (x39 : St) => (∃ q40 : Nat, fR x39 o 3 = some q40 ∧ (∃ q41 : Nat, fR x39 q40 0 = some q41 ∧ (∃ q42 : Nat, fR x39 o 3 = some q42 ∧ (∃ k43 n44 k45 n46 : Nat, k43 + k45 = k37 ∧ n44 + n46 = n38 ∧ wp_Snk_putAll (fun (x47 : St) => (∃ q48 : Nat, fR x47 o 0 = some q48 ∧ (∃ k49 n50 k51 n52 : Nat, k49 + k51 = k45 ∧ n50 + n52 = n46 ∧ wp_Snk_putVarint (fun (x53 : St) => (∃ q54 : Nat, fR x53 o 0 = some q54 ∧ (∃ k55 n56 k57 n58 : Nat, k55 + k57 = k51 ∧ n56 + n58 = n52 ∧ wp_Snk_putVarint (fun (x59 : St) => (∃ q60 : Nat, fR x59 o 0 = some q60 ∧ (∃ k61 n62 k63 n64 : Nat, k61 + k63 = k57 ∧ n62 + n64 = n58 ∧ wp_Snk_put (fun (x65 : St) => (((fI x65 o 12) ≤ 0 → j_Wrt_putPage_174 post o l1 l2 v24 v26 k63 n64 x65) ∧ (¬ (fI x65 o 12) ≤ 0 → wp_Wrt_findBounds (fun (x67 : St) => (∃ q68 : Nat, fR x67 o 0 = some q68 ∧ (∃ q69 : Nat, fR x67 o 6 = some q69 ∧ (∃ k70 n71 k72 n73 : Nat, k70 + k72 = k63 ∧ n71 + n73 = n64 ∧ wp_Snk_putTold (fun (x74 : St) => (∃ q75 : Nat, fR x74 o 0 = some q75 ∧ (∃ q76 : Nat, fR x74 o 6 = some q76 ∧ (∃ k77 n78 k79 n80 : Nat, k77 + k79 = k72 ∧ n78 + n80 = n73 ∧ wp_Snk_putTold (fun (x81 : St) => j_Wrt_putPage_174 post o l1 l2 v24 v26 k79 n80 x81) q75 v26 (stC q76 12) (fJ x74 o 14) k77 n78 x74)))) q68 v26 (stC q69 12) (fJ x67 o 13) k70 n71 x67)))) o v26 x65))) q60 l2 k61 n62 x59))) q54 (((fI x53 o 11) - (fI x53 o 12)) : Int32).toInt64 k55 n56 x53))) q48 ((fI x47 o 11) : Int32).toInt64 k49 n50 x47))) (stC o 2) q41 0 (fI x39 q42 1) k43 n44 x39))))) o (stC o 9) (rA x33 (stC q34 6) v24) k35 n36 x33)))) o (stC o 8) (rA x27 (stC q28 5) v24) k29 n30 x27)))) (stC o 2) x))))))
set_option maxHeartbeats 4000000 in
set_option maxRecDepth 100000 in
theorem t_Wrt_putPage_e {p : Program} {l : Launch} {e : Env} {R : Room} {s : State} {m : MethodId} {args : Array Value} {below : List Frame} {meth : Method} {c : Code} {Q : State → Prop} {dC : Nat → ClassId} {dI : Nat → Nat → Nat} {cI cB cJ cZ : ClassId} {A : Nat → Prop} {E : Heap} {tM tC : Nat} {kK kV : Nat → Nat} {ad0 : Nat → Nat} {NN0 : Nat} {post : St → Prop} (hx : p.tables.exec = Jvm.exec) (hb : c.code = b_Wrt_putPage) (hml : c.maxLocals = 5) (hown : s.vm.findClass R_Wrt = some m.cls) (hT : ∀ w ∈ TG, w.before args s = true) (hK : va_K (dC, dI) CL (TY cI cB cJ cZ) s) (hN : NW s) (hA : ∀ q : Nat, s.heap.size ≤ q → A q) (hRf : 7 ≤ R.frames) (hRl : 322 ≤ R.locals) (hE : CE E tM tC kK kV A s) (hret : ∀ (ad : Nat → Nat) (NN cells slots : Nat) (x : St) (H : Heap) (locs : List Loc) (pc : Nat) (ls : Array Slot), decode b_Wrt_putPage pc = .ok (.return_, 1) → (NN0 ≤ NN ∧ ∀ o : Nat, o < NN0 → ad o = ad0 o) → cells ≤ R.cells → slots ≤ R.slots → post x → Wd dC dI cI cB cJ cZ ad stC kcC NN A x H → va_S A s.heap H locs → W p l e R s m args below meth c H locs cells slots Q (F0 m pc ls [])) : ∀ (ad : Nat → Nat) (NN cells slots : Nat) (o : Nat) (l1 : Int32) (l2 : Int32) (kb : Nat) (nb : Nat) (x : St) (H : Heap) (locs : List Loc) (ls : Array Slot), (152 ≤ NN) → (NN0 ≤ NN ∧ ∀ o : Nat, o < NN0 → ad o = ad0 o) → (cells + kb ≤ R.cells) → (slots + nb ≤ R.slots) → (o < NN ∧ kcC o = 5) → wp_Wrt_putPage post o l1 l2 kb nb x → Wd dC dI cI cB cJ cZ ad stC kcC NN A x H → va_S A s.heap H locs → lv_has ls 5 [(0, .ref (ad o)), (1, .int l1), (2, .int l2)] → W p l e R s m args below meth c H locs cells slots Q (F0 m 0 ls []) := by
  intro ad NN cells slots o l1 l2 kb nb x H locs ls hNN hag hRc hRs fo hw hW hS hl
  unfold wp_Wrt_putPage at hw
  refine lv_aload_n hx hb d_Wrt_putPage_0 rfl (lv_at hl 0 rfl) ?_
  obtain ⟨q23, hq23, hw⟩ := hw
  refine w_getr (q := q23) (k := 5) (t := 5) (C := R_Wrt) (T := F_Wrt) (N := 20) hx hb hT hown hK hW fo.1 fo.2 (by decide) in_Wrt rfl rfl (by decide) rfl fr_Wrt_5 w_2_56 d_Wrt_putPage_1 hq23 (fun aq23 bq23 => ?_)
  have fq23 : q23 < NN ∧ kcC q23 = 3 := ⟨aq23, bq23⟩
  refine w_getf (q := (stC q23 10)) (k := 10) (t := 3) (C := R_Sch) (T := F_Sch) (N := 13) hx hb hT hown hK hW fq23.1 fq23.2 (by decide) in_Sch rfl rfl (by decide) rfl fr_Sch_10 w_1_182 d_Wrt_putPage_4 rfl ?_
  refine lv_iload_n hx hb d_Wrt_putPage_7 rfl (lv_at hl 1 rfl) ?_
  obtain ⟨hi, hw⟩ := hw
  refine w_iald (o := (stC q23 10)) hx hb hK hW (st_ty hNN fq23.1 fq23.2 rfl).1 (st_ty hNN fq23.1 fq23.2 rfl).2 hi d_Wrt_putPage_8 ?_
  refine lv_topi (fun v24 ev24 => ?_)
  have hw := hw v24 ev24
  refine lv_istore_n (lv' := [(3, .int v24), (0, .ref (ad o)), (1, .int l1), (2, .int l2)]) hx hb d_Wrt_putPage_9 rfl hl (by decide) rfl (fun ls hl => ?_)
  refine lv_aload_n hx hb d_Wrt_putPage_10 rfl (lv_at hl 1 rfl) ?_
  obtain ⟨q25, hq25, hw⟩ := hw
  refine w_getr (q := q25) (k := 5) (t := 5) (C := R_Wrt) (T := F_Wrt) (N := 20) hx hb hT hown hK hW fo.1 fo.2 (by decide) in_Wrt rfl rfl (by decide) rfl fr_Wrt_5 w_2_56 d_Wrt_putPage_11 hq25 (fun aq25 bq25 => ?_)
  have fq25 : q25 < NN ∧ kcC q25 = 3 := ⟨aq25, bq25⟩
  refine w_getf (q := (stC q25 3)) (k := 3) (t := 3) (C := R_Sch) (T := F_Sch) (N := 13) hx hb hT hown hK hW fq25.1 fq25.2 (by decide) in_Sch rfl rfl (by decide) rfl fr_Sch_3 w_1_146 d_Wrt_putPage_14 rfl ?_
  refine lv_iload_n hx hb d_Wrt_putPage_17 rfl (lv_at hl 0 rfl) ?_
  obtain ⟨hi, hw⟩ := hw
  refine w_iald (o := (stC q25 3)) hx hb hK hW (st_ty hNN fq25.1 fq25.2 rfl).1 (st_ty hNN fq25.1 fq25.2 rfl).2 hi d_Wrt_putPage_18 ?_
  refine lv_topi (fun v26 ev26 => ?_)
  have hw := hw v26 ev26
  refine lv_istore (lv' := [(4, .int v26), (3, .int v24), (0, .ref (ad o)), (1, .int l1), (2, .int l2)]) hx hb d_Wrt_putPage_19 hl (by decide) rfl (fun ls hl => ?_)
  refine lv_aload_n hx hb d_Wrt_putPage_21 rfl (lv_at hl 2 rfl) ?_
  refine w_getf (q := (stC o 2)) (k := 2) (t := 5) (C := R_Wrt) (T := F_Wrt) (N := 20) hx hb hT hown hK hW fo.1 fo.2 (by decide) in_Wrt rfl rfl (by decide) rfl fr_Wrt_2 w_2_53 d_Wrt_putPage_22 rfl ?_
  have hF := hW.free hS hA
  refine va_callv (va_runV (C := R_Snk) (As := []) (rest := []) ⟨hx, hb, hml, hown, hT⟩ (k_Snk_forget l dC dI cI cB cJ cZ ad NN E tM tC kK kV hNN H.size (stC o 2) x (st_ty hNN fo.1 fo.2 rfl) hw) ⟨callB_of 0 hT (gw_in w_4_81) rfl rfl rfl (hT _ w_1_2) (hT _ w_5_132) (by decide +kernel) ⟨Nat.le_trans (by decide) hRf, Nat.le_trans (by decide) hRl⟩, hT _ w_4_79, hT _ w_4_80⟩ ⟨PV.blind, va_recv hK hW.1 (ci := 1) (q0 := (stC o 2)) rfl (pic_obj (st_ty hNN fo.1 fo.2 rfl).1 (st_ty hNN fo.1 fo.2 rfl).2 (by decide)), PV.at _ hW hK hN hE hS hF⟩ rfl rfl hl.1 rfl (lv_room (Nat.le_of_ble_eq_true rfl)) d_Wrt_putPage_25 ⟨(Nat.le_trans (Nat.le_add_right _ _) hRc), (Nat.le_trans (Nat.le_add_right _ _) hRs)⟩) hS (fun q _ h => hF q h) hF (fun  x27 t H locs ht hvm hw hB hz1 hk1 hS => ?_)
  have hW := Wd.back hB ht hF
  clear hB ht hF hz1 hk1 hvm
  refine lv_aload_n hx hb d_Wrt_putPage_28 rfl (lv_at hl 2 rfl) ?_
  refine lv_aload_n hx hb d_Wrt_putPage_29 rfl (lv_at hl 2 rfl) ?_
  refine w_getf (q := (stC o 8)) (k := 8) (t := 5) (C := R_Wrt) (T := F_Wrt) (N := 20) hx hb hT hown hK hW fo.1 fo.2 (by decide) in_Wrt rfl rfl (by decide) rfl fr_Wrt_8 w_2_59 d_Wrt_putPage_30 rfl ?_
  refine lv_aload_n hx hb d_Wrt_putPage_33 rfl (lv_at hl 2 rfl) ?_
  obtain ⟨q28, hq28, hw⟩ := hw
  refine w_getr (q := q28) (k := 5) (t := 5) (C := R_Wrt) (T := F_Wrt) (N := 20) hx hb hT hown hK hW fo.1 fo.2 (by decide) in_Wrt rfl rfl (by decide) rfl fr_Wrt_5 w_2_56 d_Wrt_putPage_34 hq28 (fun aq28 bq28 => ?_)
  have fq28 : q28 < NN ∧ kcC q28 = 3 := ⟨aq28, bq28⟩
  refine w_getf (q := (stC q28 5)) (k := 5) (t := 3) (C := R_Sch) (T := F_Sch) (N := 13) hx hb hT hown hK hW fq28.1 fq28.2 (by decide) in_Sch rfl rfl (by decide) rfl fr_Sch_5 w_1_159 d_Wrt_putPage_37 rfl ?_
  refine lv_iload_n hx hb d_Wrt_putPage_40 rfl (lv_at hl 1 rfl) ?_
  obtain ⟨hi, hw⟩ := hw
  refine w_iald (o := (stC q28 5)) hx hb hK hW (st_ty hNN fq28.1 fq28.2 rfl).1 (st_ty hNN fq28.1 fq28.2 rfl).2 hi d_Wrt_putPage_41 ?_
  obtain ⟨k29, n30, k31, n32, ek29, en30, hw⟩ := hw
  have hF := hW.free hS hA
  refine va_callv (va_runV (C := R_Wrt) (As := [.ref (ad (stC o 8)), .int (rA x27 (stC q28 5) v24)]) (rest := []) ⟨hx, hb, hml, hown, hT⟩ (k_Wrt_putLevels l dC dI cI cB cJ cZ ad NN E tM tC kK kV hNN H.size o (stC o 8) (rA x27 (stC q28 5) v24) k29 n30 x27 fo (st_ty hNN fo.1 fo.2 rfl) hw) ⟨callB_of 2 hT (gw_in w_6_27) rfl rfl rfl (hT _ w_1_8) (hT _ w_6_24) (by decide +kernel) ⟨Nat.le_trans (by decide) hRf, Nat.le_trans (by decide) hRl⟩, hT _ w_6_26, hT _ ws_30⟩ ⟨PV.blind, va_recv hK hW.1 (ci := 5) (q0 := o) rfl (pic_obj fo.1 fo.2 (by decide)), PV.at _ hW hK hN hE hS hF⟩ rfl rfl hl.1 rfl (lv_room (Nat.le_of_ble_eq_true rfl)) d_Wrt_putPage_42 ⟨show cells + k29 ≤ R.cells by omega, show slots + n30 ≤ R.slots by omega⟩) hS (fun q _ h => hF q h) hF (fun  x33 t H locs ht hvm hw hB hz1 hk1 hS => ?_)
  obtain ⟨x33, ad, NN⟩ := x33
  obtain ⟨hB, hle, hg⟩ := hB
  try dsimp only at hw hB hle hg
  have hW := Wd.back hB ht hF
  rw [← hg o fo.1] at hl
  have fo : o < NN ∧ kcC o = 5 := ⟨Nat.lt_of_lt_of_le fo.1 hle, fo.2⟩
  have fq23 : q23 < NN ∧ kcC q23 = 3 := ⟨Nat.lt_of_lt_of_le fq23.1 hle, fq23.2⟩
  have fq25 : q25 < NN ∧ kcC q25 = 3 := ⟨Nat.lt_of_lt_of_le fq25.1 hle, fq25.2⟩
  have fq28 : q28 < NN ∧ kcC q28 = 3 := ⟨Nat.lt_of_lt_of_le fq28.1 hle, fq28.2⟩
  have hag : NN0 ≤ NN ∧ ∀ o : Nat, o < NN0 → ad o = ad0 o := ⟨Nat.le_trans hag.1 hle, fun o h => (hg o (Nat.lt_of_lt_of_le h hag.1)).trans (hag.2 o h)⟩
  have hNN : 152 ≤ NN := Nat.le_trans hNN hle
  clear hg hle
  obtain ⟨cells, ec⟩ : ∃ z, z = cells + k29 := ⟨_, rfl⟩
  obtain ⟨slots, es⟩ : ∃ z, z = slots + n30 := ⟨_, rfl⟩
  rw [← ec, ← es]
  have hRc : cells + k31 ≤ R.cells := by omega
  have hRs : slots + n32 ≤ R.slots := by omega
  clear ec es hB ht hF hz1 hk1 hvm ek29 en30
  refine lv_aload_n hx hb d_Wrt_putPage_45 rfl (lv_at hl 2 rfl) ?_
  refine lv_aload_n hx hb d_Wrt_putPage_46 rfl (lv_at hl 2 rfl) ?_
  refine w_getf (q := (stC o 9)) (k := 9) (t := 5) (C := R_Wrt) (T := F_Wrt) (N := 20) hx hb hT hown hK hW fo.1 fo.2 (by decide) in_Wrt rfl rfl (by decide) rfl fr_Wrt_9 w_2_60 d_Wrt_putPage_47 rfl ?_
  refine lv_aload_n hx hb d_Wrt_putPage_50 rfl (lv_at hl 2 rfl) ?_
  obtain ⟨q34, hq34, hw⟩ := hw
  refine w_getr (q := q34) (k := 5) (t := 5) (C := R_Wrt) (T := F_Wrt) (N := 20) hx hb hT hown hK hW fo.1 fo.2 (by decide) in_Wrt rfl rfl (by decide) rfl fr_Wrt_5 w_2_56 d_Wrt_putPage_51 hq34 (fun aq34 bq34 => ?_)
  have fq34 : q34 < NN ∧ kcC q34 = 3 := ⟨aq34, bq34⟩
  refine w_getf (q := (stC q34 6)) (k := 6) (t := 3) (C := R_Sch) (T := F_Sch) (N := 13) hx hb hT hown hK hW fq34.1 fq34.2 (by decide) in_Sch rfl rfl (by decide) rfl fr_Sch_6 w_1_165 d_Wrt_putPage_54 rfl ?_
  refine lv_iload_n hx hb d_Wrt_putPage_57 rfl (lv_at hl 1 rfl) ?_
  obtain ⟨hi, hw⟩ := hw
  refine w_iald (o := (stC q34 6)) hx hb hK hW (st_ty hNN fq34.1 fq34.2 rfl).1 (st_ty hNN fq34.1 fq34.2 rfl).2 hi d_Wrt_putPage_58 ?_
  obtain ⟨k35, n36, k37, n38, ek35, en36, hw⟩ := hw
  have hF := hW.free hS hA
  refine va_callv (va_runV (C := R_Wrt) (As := [.ref (ad (stC o 9)), .int (rA x33 (stC q34 6) v24)]) (rest := []) ⟨hx, hb, hml, hown, hT⟩ (k_Wrt_putLevels l dC dI cI cB cJ cZ ad NN E tM tC kK kV hNN H.size o (stC o 9) (rA x33 (stC q34 6) v24) k35 n36 x33 fo (st_ty hNN fo.1 fo.2 rfl) hw) ⟨callB_of 2 hT (gw_in w_6_27) rfl rfl rfl (hT _ w_1_8) (hT _ w_6_24) (by decide +kernel) ⟨Nat.le_trans (by decide) hRf, Nat.le_trans (by decide) hRl⟩, hT _ w_6_26, hT _ ws_30⟩ ⟨PV.blind, va_recv hK hW.1 (ci := 5) (q0 := o) rfl (pic_obj fo.1 fo.2 (by decide)), PV.at _ hW hK hN hE hS hF⟩ rfl rfl hl.1 rfl (lv_room (Nat.le_of_ble_eq_true rfl)) d_Wrt_putPage_59 ⟨show cells + k35 ≤ R.cells by omega, show slots + n36 ≤ R.slots by omega⟩) hS (fun q _ h => hF q h) hF (fun  x39 t H locs ht hvm hw hB hz1 hk1 hS => ?_)
  obtain ⟨x39, ad, NN⟩ := x39
  obtain ⟨hB, hle, hg⟩ := hB
  try dsimp only at hw hB hle hg
  have hW := Wd.back hB ht hF
  rw [← hg o fo.1] at hl
  have fo : o < NN ∧ kcC o = 5 := ⟨Nat.lt_of_lt_of_le fo.1 hle, fo.2⟩
  have fq23 : q23 < NN ∧ kcC q23 = 3 := ⟨Nat.lt_of_lt_of_le fq23.1 hle, fq23.2⟩
  have fq25 : q25 < NN ∧ kcC q25 = 3 := ⟨Nat.lt_of_lt_of_le fq25.1 hle, fq25.2⟩
  have fq28 : q28 < NN ∧ kcC q28 = 3 := ⟨Nat.lt_of_lt_of_le fq28.1 hle, fq28.2⟩
  have fq34 : q34 < NN ∧ kcC q34 = 3 := ⟨Nat.lt_of_lt_of_le fq34.1 hle, fq34.2⟩
  have hag : NN0 ≤ NN ∧ ∀ o : Nat, o < NN0 → ad o = ad0 o := ⟨Nat.le_trans hag.1 hle, fun o h => (hg o (Nat.lt_of_lt_of_le h hag.1)).trans (hag.2 o h)⟩
  have hNN : 152 ≤ NN := Nat.le_trans hNN hle
  clear hg hle
  obtain ⟨cells, ec⟩ : ∃ z, z = cells + k35 := ⟨_, rfl⟩
  obtain ⟨slots, es⟩ : ∃ z, z = slots + n36 := ⟨_, rfl⟩
  rw [← ec, ← es]
  have hRc : cells + k37 ≤ R.cells := by omega
  have hRs : slots + n38 ≤ R.slots := by omega
  clear ec es hB ht hF hz1 hk1 hvm ek35 en36
  refine lv_aload_n hx hb d_Wrt_putPage_62 rfl (lv_at hl 2 rfl) ?_
  refine w_getf (q := (stC o 2)) (k := 2) (t := 5) (C := R_Wrt) (T := F_Wrt) (N := 20) hx hb hT hown hK hW fo.1 fo.2 (by decide) in_Wrt rfl rfl (by decide) rfl fr_Wrt_2 w_2_53 d_Wrt_putPage_63 rfl ?_
  refine lv_aload_n hx hb d_Wrt_putPage_66 rfl (lv_at hl 2 rfl) ?_
  obtain ⟨q40, hq40, hw⟩ := hw
  refine w_getr (q := q40) (k := 3) (t := 5) (C := R_Wrt) (T := F_Wrt) (N := 20) hx hb hT hown hK hW fo.1 fo.2 (by decide) in_Wrt rfl rfl (by decide) rfl fr_Wrt_3 w_2_54 d_Wrt_putPage_67 hq40 (fun aq40 bq40 => ?_)
  have fq40 : q40 < NN ∧ kcC q40 = 1 := ⟨aq40, bq40⟩
  obtain ⟨q41, hq41, hw⟩ := hw
  refine w_getr (q := q41) (k := 0) (t := 1) (C := R_Snk) (T := F_Snk) (N := 7) hx hb hT hown hK hW fq40.1 fq40.2 (by decide) in_Snk rfl rfl (by decide) rfl fr_Snk_0 w_1_41 d_Wrt_putPage_70 hq41 (fun aq41 bq41 => ?_)
  have fq41 : q41 < NN ∧ kcC q41 = 21 := ⟨aq41, bq41⟩
  refine lv_iconst (v := 0) hx hb d_Wrt_putPage_73 (by decide) ?_
  refine lv_aload_n hx hb d_Wrt_putPage_74 rfl (lv_at hl 2 rfl) ?_
  obtain ⟨q42, hq42, hw⟩ := hw
  refine w_getr (q := q42) (k := 3) (t := 5) (C := R_Wrt) (T := F_Wrt) (N := 20) hx hb hT hown hK hW fo.1 fo.2 (by decide) in_Wrt rfl rfl (by decide) rfl fr_Wrt_3 w_2_54 d_Wrt_putPage_75 hq42 (fun aq42 bq42 => ?_)
  have fq42 : q42 < NN ∧ kcC q42 = 1 := ⟨aq42, bq42⟩
  refine w_geti (k := 1) (t := 1) (C := R_Snk) (T := F_Snk) (N := 7) hx hb hT hown hK hW fq42.1 fq42.2 (by decide) in_Snk rfl rfl (by decide) rfl fr_Snk_1 w_1_46 d_Wrt_putPage_78 ?_
  obtain ⟨k43, n44, k45, n46, ek43, en44, hw⟩ := hw
  have hF := hW.free hS hA
  refine va_callv (va_runV (C := R_Snk) (As := [.ref (ad q41), .int 0, .int (fI x39 q42 1)]) (rest := []) ⟨hx, hb, hml, hown, hT⟩ (k_Snk_putAll l dC dI cI cB cJ cZ ad NN E tM tC kK kV hNN H.size (stC o 2) q41 0 (fI x39 q42 1) k43 n44 x39 (st_ty hNN fo.1 fo.2 rfl) fq41 hw) ⟨callB_of 3 hT (gw_in w_5_138) rfl rfl rfl (hT _ w_1_2) (hT _ w_5_135) (by decide +kernel) ⟨Nat.le_trans (by decide) hRf, Nat.le_trans (by decide) hRl⟩, hT _ w_5_136, hT _ w_5_137⟩ ⟨PV.blind, va_recv hK hW.1 (ci := 1) (q0 := (stC o 2)) rfl (pic_obj (st_ty hNN fo.1 fo.2 rfl).1 (st_ty hNN fo.1 fo.2 rfl).2 (by decide)), PV.at _ hW hK hN hE hS hF⟩ rfl rfl hl.1 rfl (lv_room (Nat.le_of_ble_eq_true rfl)) d_Wrt_putPage_81 ⟨show cells + k43 ≤ R.cells by omega, show slots + n44 ≤ R.slots by omega⟩) hS (fun q _ h => hF q h) hF (fun  x47 t H locs ht hvm hw hB hz1 hk1 hS => ?_)
  obtain ⟨x47, ad, NN⟩ := x47
  obtain ⟨hB, hle, hg⟩ := hB
  try dsimp only at hw hB hle hg
  have hW := Wd.back hB ht hF
  rw [← hg o fo.1] at hl
  have fo : o < NN ∧ kcC o = 5 := ⟨Nat.lt_of_lt_of_le fo.1 hle, fo.2⟩
  have fq23 : q23 < NN ∧ kcC q23 = 3 := ⟨Nat.lt_of_lt_of_le fq23.1 hle, fq23.2⟩
  have fq25 : q25 < NN ∧ kcC q25 = 3 := ⟨Nat.lt_of_lt_of_le fq25.1 hle, fq25.2⟩
  have fq28 : q28 < NN ∧ kcC q28 = 3 := ⟨Nat.lt_of_lt_of_le fq28.1 hle, fq28.2⟩
  have fq34 : q34 < NN ∧ kcC q34 = 3 := ⟨Nat.lt_of_lt_of_le fq34.1 hle, fq34.2⟩
  have fq40 : q40 < NN ∧ kcC q40 = 1 := ⟨Nat.lt_of_lt_of_le fq40.1 hle, fq40.2⟩
  have fq41 : q41 < NN ∧ kcC q41 = 21 := ⟨Nat.lt_of_lt_of_le fq41.1 hle, fq41.2⟩
  have fq42 : q42 < NN ∧ kcC q42 = 1 := ⟨Nat.lt_of_lt_of_le fq42.1 hle, fq42.2⟩
  have hag : NN0 ≤ NN ∧ ∀ o : Nat, o < NN0 → ad o = ad0 o := ⟨Nat.le_trans hag.1 hle, fun o h => (hg o (Nat.lt_of_lt_of_le h hag.1)).trans (hag.2 o h)⟩
  have hNN : 152 ≤ NN := Nat.le_trans hNN hle
  clear hg hle
  obtain ⟨cells, ec⟩ : ∃ z, z = cells + k43 := ⟨_, rfl⟩
  obtain ⟨slots, es⟩ : ∃ z, z = slots + n44 := ⟨_, rfl⟩
  rw [← ec, ← es]
  have hRc : cells + k45 ≤ R.cells := by omega
  have hRs : slots + n46 ≤ R.slots := by omega
  clear ec es hB ht hF hz1 hk1 hvm ek43 en44
  refine lv_aload_n hx hb d_Wrt_putPage_84 rfl (lv_at hl 2 rfl) ?_
  obtain ⟨q48, hq48, hw⟩ := hw
  refine w_getr (q := q48) (k := 0) (t := 5) (C := R_Wrt) (T := F_Wrt) (N := 20) hx hb hT hown hK hW fo.1 fo.2 (by decide) in_Wrt rfl rfl (by decide) rfl fr_Wrt_0 w_2_51 d_Wrt_putPage_85 hq48 (fun aq48 bq48 => ?_)
  have fq48 : q48 < NN ∧ kcC q48 = 1 := ⟨aq48, bq48⟩
  refine lv_aload_n hx hb d_Wrt_putPage_88 rfl (lv_at hl 2 rfl) ?_
  refine w_geti (k := 11) (t := 5) (C := R_Wrt) (T := F_Wrt) (N := 20) hx hb hT hown hK hW fo.1 fo.2 (by decide) in_Wrt rfl rfl (by decide) rfl fr_Wrt_11 w_2_62 d_Wrt_putPage_89 ?_
  refine lv_i2l hx hb d_Wrt_putPage_92 rfl ?_
  obtain ⟨k49, n50, k51, n52, ek49, en50, hw⟩ := hw
  have hF := hW.free hS hA
  refine va_callv (va_runV (C := R_Snk) (As := [.long ((fI x47 o 11) : Int32).toInt64]) (rest := []) ⟨hx, hb, hml, hown, hT⟩ (k_Snk_putVarint l dC dI cI cB cJ cZ ad NN E tM tC kK kV hNN H.size q48 ((fI x47 o 11) : Int32).toInt64 k49 n50 x47 fq48 hw) ⟨callB_of 1 hT (gw_in w_5_143) rfl rfl rfl (hT _ w_1_2) (hT _ w_5_140) (by decide +kernel) ⟨Nat.le_trans (by decide) hRf, Nat.le_trans (by decide) hRl⟩, hT _ w_5_141, hT _ w_5_142⟩ ⟨PV.blind, va_recv hK hW.1 (ci := 1) (q0 := q48) rfl (pic_obj fq48.1 fq48.2 (by decide)), PV.at _ hW hK hN hE hS hF⟩ rfl rfl hl.1 rfl (lv_room (Nat.le_of_ble_eq_true rfl)) d_Wrt_putPage_93 ⟨show cells + k49 ≤ R.cells by omega, show slots + n50 ≤ R.slots by omega⟩) hS (fun q _ h => hF q h) hF (fun  x53 t H locs ht hvm hw hB hz1 hk1 hS => ?_)
  obtain ⟨x53, ad, NN⟩ := x53
  obtain ⟨hB, hle, hg⟩ := hB
  try dsimp only at hw hB hle hg
  have hW := Wd.back hB ht hF
  rw [← hg o fo.1] at hl
  have fo : o < NN ∧ kcC o = 5 := ⟨Nat.lt_of_lt_of_le fo.1 hle, fo.2⟩
  have fq23 : q23 < NN ∧ kcC q23 = 3 := ⟨Nat.lt_of_lt_of_le fq23.1 hle, fq23.2⟩
  have fq25 : q25 < NN ∧ kcC q25 = 3 := ⟨Nat.lt_of_lt_of_le fq25.1 hle, fq25.2⟩
  have fq28 : q28 < NN ∧ kcC q28 = 3 := ⟨Nat.lt_of_lt_of_le fq28.1 hle, fq28.2⟩
  have fq34 : q34 < NN ∧ kcC q34 = 3 := ⟨Nat.lt_of_lt_of_le fq34.1 hle, fq34.2⟩
  have fq40 : q40 < NN ∧ kcC q40 = 1 := ⟨Nat.lt_of_lt_of_le fq40.1 hle, fq40.2⟩
  have fq41 : q41 < NN ∧ kcC q41 = 21 := ⟨Nat.lt_of_lt_of_le fq41.1 hle, fq41.2⟩
  have fq42 : q42 < NN ∧ kcC q42 = 1 := ⟨Nat.lt_of_lt_of_le fq42.1 hle, fq42.2⟩
  have fq48 : q48 < NN ∧ kcC q48 = 1 := ⟨Nat.lt_of_lt_of_le fq48.1 hle, fq48.2⟩
  have hag : NN0 ≤ NN ∧ ∀ o : Nat, o < NN0 → ad o = ad0 o := ⟨Nat.le_trans hag.1 hle, fun o h => (hg o (Nat.lt_of_lt_of_le h hag.1)).trans (hag.2 o h)⟩
  have hNN : 152 ≤ NN := Nat.le_trans hNN hle
  clear hg hle
  obtain ⟨cells, ec⟩ : ∃ z, z = cells + k49 := ⟨_, rfl⟩
  obtain ⟨slots, es⟩ : ∃ z, z = slots + n50 := ⟨_, rfl⟩
  rw [← ec, ← es]
  have hRc : cells + k51 ≤ R.cells := by omega
  have hRs : slots + n52 ≤ R.slots := by omega
  clear ec es hB ht hF hz1 hk1 hvm ek49 en50
  refine lv_aload_n hx hb d_Wrt_putPage_96 rfl (lv_at hl 2 rfl) ?_
  obtain ⟨q54, hq54, hw⟩ := hw
  refine w_getr (q := q54) (k := 0) (t := 5) (C := R_Wrt) (T := F_Wrt) (N := 20) hx hb hT hown hK hW fo.1 fo.2 (by decide) in_Wrt rfl rfl (by decide) rfl fr_Wrt_0 w_2_51 d_Wrt_putPage_97 hq54 (fun aq54 bq54 => ?_)
  have fq54 : q54 < NN ∧ kcC q54 = 1 := ⟨aq54, bq54⟩
  refine lv_aload_n hx hb d_Wrt_putPage_100 rfl (lv_at hl 2 rfl) ?_
  refine w_geti (k := 11) (t := 5) (C := R_Wrt) (T := F_Wrt) (N := 20) hx hb hT hown hK hW fo.1 fo.2 (by decide) in_Wrt rfl rfl (by decide) rfl fr_Wrt_11 w_2_62 d_Wrt_putPage_101 ?_
  refine lv_aload_n hx hb d_Wrt_putPage_104 rfl (lv_at hl 2 rfl) ?_
  refine w_geti (k := 12) (t := 5) (C := R_Wrt) (T := F_Wrt) (N := 20) hx hb hT hown hK hW fo.1 fo.2 (by decide) in_Wrt rfl rfl (by decide) rfl fr_Wrt_12 w_2_63 d_Wrt_putPage_105 ?_
  refine lv_isub hx hb d_Wrt_putPage_108 ?_
  refine lv_i2l hx hb d_Wrt_putPage_109 rfl ?_
  obtain ⟨k55, n56, k57, n58, ek55, en56, hw⟩ := hw
  have hF := hW.free hS hA
  refine va_callv (va_runV (C := R_Snk) (As := [.long (((fI x53 o 11) - (fI x53 o 12)) : Int32).toInt64]) (rest := []) ⟨hx, hb, hml, hown, hT⟩ (k_Snk_putVarint l dC dI cI cB cJ cZ ad NN E tM tC kK kV hNN H.size q54 (((fI x53 o 11) - (fI x53 o 12)) : Int32).toInt64 k55 n56 x53 fq54 hw) ⟨callB_of 1 hT (gw_in w_5_143) rfl rfl rfl (hT _ w_1_2) (hT _ w_5_140) (by decide +kernel) ⟨Nat.le_trans (by decide) hRf, Nat.le_trans (by decide) hRl⟩, hT _ w_5_141, hT _ w_5_142⟩ ⟨PV.blind, va_recv hK hW.1 (ci := 1) (q0 := q54) rfl (pic_obj fq54.1 fq54.2 (by decide)), PV.at _ hW hK hN hE hS hF⟩ rfl rfl hl.1 rfl (lv_room (Nat.le_of_ble_eq_true rfl)) d_Wrt_putPage_110 ⟨show cells + k55 ≤ R.cells by omega, show slots + n56 ≤ R.slots by omega⟩) hS (fun q _ h => hF q h) hF (fun  x59 t H locs ht hvm hw hB hz1 hk1 hS => ?_)
  obtain ⟨x59, ad, NN⟩ := x59
  obtain ⟨hB, hle, hg⟩ := hB
  try dsimp only at hw hB hle hg
  have hW := Wd.back hB ht hF
  rw [← hg o fo.1] at hl
  have fo : o < NN ∧ kcC o = 5 := ⟨Nat.lt_of_lt_of_le fo.1 hle, fo.2⟩
  have fq23 : q23 < NN ∧ kcC q23 = 3 := ⟨Nat.lt_of_lt_of_le fq23.1 hle, fq23.2⟩
  have fq25 : q25 < NN ∧ kcC q25 = 3 := ⟨Nat.lt_of_lt_of_le fq25.1 hle, fq25.2⟩
  have fq28 : q28 < NN ∧ kcC q28 = 3 := ⟨Nat.lt_of_lt_of_le fq28.1 hle, fq28.2⟩
  have fq34 : q34 < NN ∧ kcC q34 = 3 := ⟨Nat.lt_of_lt_of_le fq34.1 hle, fq34.2⟩
  have fq40 : q40 < NN ∧ kcC q40 = 1 := ⟨Nat.lt_of_lt_of_le fq40.1 hle, fq40.2⟩
  have fq41 : q41 < NN ∧ kcC q41 = 21 := ⟨Nat.lt_of_lt_of_le fq41.1 hle, fq41.2⟩
  have fq42 : q42 < NN ∧ kcC q42 = 1 := ⟨Nat.lt_of_lt_of_le fq42.1 hle, fq42.2⟩
  have fq48 : q48 < NN ∧ kcC q48 = 1 := ⟨Nat.lt_of_lt_of_le fq48.1 hle, fq48.2⟩
  have fq54 : q54 < NN ∧ kcC q54 = 1 := ⟨Nat.lt_of_lt_of_le fq54.1 hle, fq54.2⟩
  have hag : NN0 ≤ NN ∧ ∀ o : Nat, o < NN0 → ad o = ad0 o := ⟨Nat.le_trans hag.1 hle, fun o h => (hg o (Nat.lt_of_lt_of_le h hag.1)).trans (hag.2 o h)⟩
  have hNN : 152 ≤ NN := Nat.le_trans hNN hle
  clear hg hle
  obtain ⟨cells, ec⟩ : ∃ z, z = cells + k55 := ⟨_, rfl⟩
  obtain ⟨slots, es⟩ : ∃ z, z = slots + n56 := ⟨_, rfl⟩
  rw [← ec, ← es]
  have hRc : cells + k57 ≤ R.cells := by omega
  have hRs : slots + n58 ≤ R.slots := by omega
  clear ec es hB ht hF hz1 hk1 hvm ek55 en56
  refine lv_aload_n hx hb d_Wrt_putPage_113 rfl (lv_at hl 2 rfl) ?_
  obtain ⟨q60, hq60, hw⟩ := hw
  refine w_getr (q := q60) (k := 0) (t := 5) (C := R_Wrt) (T := F_Wrt) (N := 20) hx hb hT hown hK hW fo.1 fo.2 (by decide) in_Wrt rfl rfl (by decide) rfl fr_Wrt_0 w_2_51 d_Wrt_putPage_114 hq60 (fun aq60 bq60 => ?_)
  have fq60 : q60 < NN ∧ kcC q60 = 1 := ⟨aq60, bq60⟩
  refine lv_iload_n hx hb d_Wrt_putPage_117 rfl (lv_at hl 4 rfl) ?_
  obtain ⟨k61, n62, k63, n64, ek61, en62, hw⟩ := hw
  have hF := hW.free hS hA
  refine va_callv (va_runV (C := R_Snk) (As := [.int l2]) (rest := []) ⟨hx, hb, hml, hown, hT⟩ (k_Snk_put l dC dI cI cB cJ cZ ad NN E tM tC kK kV hNN H.size q60 l2 k61 n62 x59 fq60 hw) ⟨callB_of 1 hT (gw_in w_4_52) rfl rfl rfl (hT _ w_1_2) (hT _ w_5_145) (by decide +kernel) ⟨Nat.le_trans (by decide) hRf, Nat.le_trans (by decide) hRl⟩, hT _ w_4_50, hT _ w_4_51⟩ ⟨PV.blind, va_recv hK hW.1 (ci := 1) (q0 := q60) rfl (pic_obj fq60.1 fq60.2 (by decide)), PV.at _ hW hK hN hE hS hF⟩ rfl rfl hl.1 rfl (lv_room (Nat.le_of_ble_eq_true rfl)) d_Wrt_putPage_118 ⟨show cells + k61 ≤ R.cells by omega, show slots + n62 ≤ R.slots by omega⟩) hS (fun q _ h => hF q h) hF (fun  x65 t H locs ht hvm hw hB hz1 hk1 hS => ?_)
  obtain ⟨x65, ad, NN⟩ := x65
  obtain ⟨hB, hle, hg⟩ := hB
  try dsimp only at hw hB hle hg
  have hW := Wd.back hB ht hF
  rw [← hg o fo.1] at hl
  have fo : o < NN ∧ kcC o = 5 := ⟨Nat.lt_of_lt_of_le fo.1 hle, fo.2⟩
  have fq23 : q23 < NN ∧ kcC q23 = 3 := ⟨Nat.lt_of_lt_of_le fq23.1 hle, fq23.2⟩
  have fq25 : q25 < NN ∧ kcC q25 = 3 := ⟨Nat.lt_of_lt_of_le fq25.1 hle, fq25.2⟩
  have fq28 : q28 < NN ∧ kcC q28 = 3 := ⟨Nat.lt_of_lt_of_le fq28.1 hle, fq28.2⟩
  have fq34 : q34 < NN ∧ kcC q34 = 3 := ⟨Nat.lt_of_lt_of_le fq34.1 hle, fq34.2⟩
  have fq40 : q40 < NN ∧ kcC q40 = 1 := ⟨Nat.lt_of_lt_of_le fq40.1 hle, fq40.2⟩
  have fq41 : q41 < NN ∧ kcC q41 = 21 := ⟨Nat.lt_of_lt_of_le fq41.1 hle, fq41.2⟩
  have fq42 : q42 < NN ∧ kcC q42 = 1 := ⟨Nat.lt_of_lt_of_le fq42.1 hle, fq42.2⟩
  have fq48 : q48 < NN ∧ kcC q48 = 1 := ⟨Nat.lt_of_lt_of_le fq48.1 hle, fq48.2⟩
  have fq54 : q54 < NN ∧ kcC q54 = 1 := ⟨Nat.lt_of_lt_of_le fq54.1 hle, fq54.2⟩
  have fq60 : q60 < NN ∧ kcC q60 = 1 := ⟨Nat.lt_of_lt_of_le fq60.1 hle, fq60.2⟩
  have hag : NN0 ≤ NN ∧ ∀ o : Nat, o < NN0 → ad o = ad0 o := ⟨Nat.le_trans hag.1 hle, fun o h => (hg o (Nat.lt_of_lt_of_le h hag.1)).trans (hag.2 o h)⟩
  have hNN : 152 ≤ NN := Nat.le_trans hNN hle
  clear hg hle
  obtain ⟨cells, ec⟩ : ∃ z, z = cells + k61 := ⟨_, rfl⟩
  obtain ⟨slots, es⟩ : ∃ z, z = slots + n62 := ⟨_, rfl⟩
  rw [← ec, ← es]
  have hRc : cells + k63 ≤ R.cells := by omega
  have hRs : slots + n64 ≤ R.slots := by omega
  clear ec es hB ht hF hz1 hk1 hvm ek61 en62
  refine lv_aload_n hx hb d_Wrt_putPage_121 rfl (lv_at hl 2 rfl) ?_
  refine w_geti (k := 12) (t := 5) (C := R_Wrt) (T := F_Wrt) (N := 20) hx hb hT hown hK hW fo.1 fo.2 (by decide) in_Wrt rfl rfl (by decide) rfl fr_Wrt_12 w_2_63 d_Wrt_putPage_122 ?_
  refine lv_if_le (tgt := 174) hx hb d_Wrt_putPage_125 (by decide) (fun c66 => ?_) (fun c66 => ?_)
  · have hw := hw.1 c66
    exact t_Wrt_putPage_174 hx hb hml hown hT hK hN hA hRf hRl hE hret  ad NN cells slots o l1 l2 v24 v26 k63 n64 x65 H locs ls hNN hag hRc hRs fo hw hW hS (lv_sub hl [2, 3, 4, 1, 0] rfl)
  · have hw := hw.2 c66
    refine lv_aload_n hx hb d_Wrt_putPage_128 rfl (lv_at hl 2 rfl) ?_
    refine lv_iload hx hb d_Wrt_putPage_129 (lv_at hl 0 rfl) ?_
    have hF := hW.free hS hA
    refine va_callv (va_runV (C := R_Wrt) (As := [.int v26]) (rest := []) ⟨hx, hb, hml, hown, hT⟩ (k_Wrt_findBounds l dC dI cI cB cJ cZ ad NN E tM tC kK kV hNN H.size o v26 x65 fo hw) ⟨callB_of 1 hT (gw_in w_6_31) rfl rfl rfl (hT _ w_1_8) (hT _ w_6_28) (by decide +kernel) ⟨Nat.le_trans (by decide) hRf, Nat.le_trans (by decide) hRl⟩, hT _ w_6_30, hT _ ws_31⟩ ⟨PV.blind, va_recv hK hW.1 (ci := 5) (q0 := o) rfl (pic_obj fo.1 fo.2 (by decide)), PV.at _ hW hK hN hE hS hF⟩ rfl rfl hl.1 rfl (lv_room (Nat.le_of_ble_eq_true rfl)) d_Wrt_putPage_131 ⟨(Nat.le_trans (Nat.le_add_right _ _) hRc), (Nat.le_trans (Nat.le_add_right _ _) hRs)⟩) hS (fun q _ h => hF q h) hF (fun  x67 t H locs ht hvm hw hB hz1 hk1 hS => ?_)
    have hW := Wd.back hB ht hF
    clear hB ht hF hz1 hk1 hvm
    refine lv_aload_n hx hb d_Wrt_putPage_134 rfl (lv_at hl 2 rfl) ?_
    obtain ⟨q68, hq68, hw⟩ := hw
    refine w_getr (q := q68) (k := 0) (t := 5) (C := R_Wrt) (T := F_Wrt) (N := 20) hx hb hT hown hK hW fo.1 fo.2 (by decide) in_Wrt rfl rfl (by decide) rfl fr_Wrt_0 w_2_51 d_Wrt_putPage_135 hq68 (fun aq68 bq68 => ?_)
    have fq68 : q68 < NN ∧ kcC q68 = 1 := ⟨aq68, bq68⟩
    refine lv_iload hx hb d_Wrt_putPage_138 (lv_at hl 0 rfl) ?_
    refine lv_aload_n hx hb d_Wrt_putPage_140 rfl (lv_at hl 2 rfl) ?_
    obtain ⟨q69, hq69, hw⟩ := hw
    refine w_getr (q := q69) (k := 6) (t := 5) (C := R_Wrt) (T := F_Wrt) (N := 20) hx hb hT hown hK hW fo.1 fo.2 (by decide) in_Wrt rfl rfl (by decide) rfl fr_Wrt_6 w_2_57 d_Wrt_putPage_141 hq69 (fun aq69 bq69 => ?_)
    have fq69 : q69 < NN ∧ kcC q69 = 4 := ⟨aq69, bq69⟩
    refine w_getf (q := (stC q69 12)) (k := 12) (t := 4) (C := R_Rec) (T := F_Rec) (N := 15) hx hb hT hown hK hW fq69.1 fq69.2 (by decide) in_Rec rfl rfl (by decide) rfl fr_Rec_12 w_2_7 d_Wrt_putPage_144 rfl ?_
    refine lv_aload_n hx hb d_Wrt_putPage_147 rfl (lv_at hl 2 rfl) ?_
    refine w_getj (k := 13) (t := 5) (C := R_Wrt) (T := F_Wrt) (N := 20) hx hb hT hown hK hW fo.1 fo.2 (by decide) in_Wrt rfl rfl (by decide) rfl fr_Wrt_13 w_2_64 d_Wrt_putPage_148 ?_
    obtain ⟨k70, n71, k72, n73, ek70, en71, hw⟩ := hw
    have hF := hW.free hS hA
    refine va_callv (va_runV (C := R_Snk) (As := [.int v26, .ref (ad (stC q69 12)), .long (fJ x67 o 13)]) (rest := []) ⟨hx, hb, hml, hown, hT⟩ (k_Snk_putTold l dC dI cI cB cJ cZ ad NN E tM tC kK kV hNN H.size q68 v26 (stC q69 12) (fJ x67 o 13) k70 n71 x67 fq68 (st_ty hNN fq69.1 fq69.2 rfl) hw) ⟨callB_of 3 hT (gw_in w_6_39) rfl rfl rfl (hT _ w_1_2) (hT _ w_6_36) (by decide +kernel) ⟨Nat.le_trans (by decide) hRf, Nat.le_trans (by decide) hRl⟩, hT _ w_6_37, hT _ w_6_38⟩ ⟨PV.blind, va_recv hK hW.1 (ci := 1) (q0 := q68) rfl (pic_obj fq68.1 fq68.2 (by decide)), PV.at _ hW hK hN hE hS hF⟩ rfl rfl hl.1 rfl (lv_room (Nat.le_of_ble_eq_true rfl)) d_Wrt_putPage_151 ⟨show cells + k70 ≤ R.cells by omega, show slots + n71 ≤ R.slots by omega⟩) hS (fun q _ h => hF q h) hF (fun  x74 t H locs ht hvm hw hB hz1 hk1 hS => ?_)
    obtain ⟨x74, ad, NN⟩ := x74
    obtain ⟨hB, hle, hg⟩ := hB
    try dsimp only at hw hB hle hg
    have hW := Wd.back hB ht hF
    rw [← hg o fo.1] at hl
    have fo : o < NN ∧ kcC o = 5 := ⟨Nat.lt_of_lt_of_le fo.1 hle, fo.2⟩
    have fq23 : q23 < NN ∧ kcC q23 = 3 := ⟨Nat.lt_of_lt_of_le fq23.1 hle, fq23.2⟩
    have fq25 : q25 < NN ∧ kcC q25 = 3 := ⟨Nat.lt_of_lt_of_le fq25.1 hle, fq25.2⟩
    have fq28 : q28 < NN ∧ kcC q28 = 3 := ⟨Nat.lt_of_lt_of_le fq28.1 hle, fq28.2⟩
    have fq34 : q34 < NN ∧ kcC q34 = 3 := ⟨Nat.lt_of_lt_of_le fq34.1 hle, fq34.2⟩
    have fq40 : q40 < NN ∧ kcC q40 = 1 := ⟨Nat.lt_of_lt_of_le fq40.1 hle, fq40.2⟩
    have fq41 : q41 < NN ∧ kcC q41 = 21 := ⟨Nat.lt_of_lt_of_le fq41.1 hle, fq41.2⟩
    have fq42 : q42 < NN ∧ kcC q42 = 1 := ⟨Nat.lt_of_lt_of_le fq42.1 hle, fq42.2⟩
    have fq48 : q48 < NN ∧ kcC q48 = 1 := ⟨Nat.lt_of_lt_of_le fq48.1 hle, fq48.2⟩
    have fq54 : q54 < NN ∧ kcC q54 = 1 := ⟨Nat.lt_of_lt_of_le fq54.1 hle, fq54.2⟩
    have fq60 : q60 < NN ∧ kcC q60 = 1 := ⟨Nat.lt_of_lt_of_le fq60.1 hle, fq60.2⟩
    have fq68 : q68 < NN ∧ kcC q68 = 1 := ⟨Nat.lt_of_lt_of_le fq68.1 hle, fq68.2⟩
    have fq69 : q69 < NN ∧ kcC q69 = 4 := ⟨Nat.lt_of_lt_of_le fq69.1 hle, fq69.2⟩
    have hag : NN0 ≤ NN ∧ ∀ o : Nat, o < NN0 → ad o = ad0 o := ⟨Nat.le_trans hag.1 hle, fun o h => (hg o (Nat.lt_of_lt_of_le h hag.1)).trans (hag.2 o h)⟩
    have hNN : 152 ≤ NN := Nat.le_trans hNN hle
    clear hg hle
    obtain ⟨cells, ec⟩ : ∃ z, z = cells + k70 := ⟨_, rfl⟩
    obtain ⟨slots, es⟩ : ∃ z, z = slots + n71 := ⟨_, rfl⟩
    rw [← ec, ← es]
    have hRc : cells + k72 ≤ R.cells := by omega
    have hRs : slots + n73 ≤ R.slots := by omega
    clear ec es hB ht hF hz1 hk1 hvm ek70 en71
    refine lv_aload_n hx hb d_Wrt_putPage_154 rfl (lv_at hl 2 rfl) ?_
    obtain ⟨q75, hq75, hw⟩ := hw
    refine w_getr (q := q75) (k := 0) (t := 5) (C := R_Wrt) (T := F_Wrt) (N := 20) hx hb hT hown hK hW fo.1 fo.2 (by decide) in_Wrt rfl rfl (by decide) rfl fr_Wrt_0 w_2_51 d_Wrt_putPage_155 hq75 (fun aq75 bq75 => ?_)
    have fq75 : q75 < NN ∧ kcC q75 = 1 := ⟨aq75, bq75⟩
    refine lv_iload hx hb d_Wrt_putPage_158 (lv_at hl 0 rfl) ?_
    refine lv_aload_n hx hb d_Wrt_putPage_160 rfl (lv_at hl 2 rfl) ?_
    obtain ⟨q76, hq76, hw⟩ := hw
    refine w_getr (q := q76) (k := 6) (t := 5) (C := R_Wrt) (T := F_Wrt) (N := 20) hx hb hT hown hK hW fo.1 fo.2 (by decide) in_Wrt rfl rfl (by decide) rfl fr_Wrt_6 w_2_57 d_Wrt_putPage_161 hq76 (fun aq76 bq76 => ?_)
    have fq76 : q76 < NN ∧ kcC q76 = 4 := ⟨aq76, bq76⟩
    refine w_getf (q := (stC q76 12)) (k := 12) (t := 4) (C := R_Rec) (T := F_Rec) (N := 15) hx hb hT hown hK hW fq76.1 fq76.2 (by decide) in_Rec rfl rfl (by decide) rfl fr_Rec_12 w_2_7 d_Wrt_putPage_164 rfl ?_
    refine lv_aload_n hx hb d_Wrt_putPage_167 rfl (lv_at hl 2 rfl) ?_
    refine w_getj (k := 14) (t := 5) (C := R_Wrt) (T := F_Wrt) (N := 20) hx hb hT hown hK hW fo.1 fo.2 (by decide) in_Wrt rfl rfl (by decide) rfl fr_Wrt_14 w_2_65 d_Wrt_putPage_168 ?_
    obtain ⟨k77, n78, k79, n80, ek77, en78, hw⟩ := hw
    have hF := hW.free hS hA
    refine va_callv (va_runV (C := R_Snk) (As := [.int v26, .ref (ad (stC q76 12)), .long (fJ x74 o 14)]) (rest := []) ⟨hx, hb, hml, hown, hT⟩ (k_Snk_putTold l dC dI cI cB cJ cZ ad NN E tM tC kK kV hNN H.size q75 v26 (stC q76 12) (fJ x74 o 14) k77 n78 x74 fq75 (st_ty hNN fq76.1 fq76.2 rfl) hw) ⟨callB_of 3 hT (gw_in w_6_39) rfl rfl rfl (hT _ w_1_2) (hT _ w_6_36) (by decide +kernel) ⟨Nat.le_trans (by decide) hRf, Nat.le_trans (by decide) hRl⟩, hT _ w_6_37, hT _ w_6_38⟩ ⟨PV.blind, va_recv hK hW.1 (ci := 1) (q0 := q75) rfl (pic_obj fq75.1 fq75.2 (by decide)), PV.at _ hW hK hN hE hS hF⟩ rfl rfl hl.1 rfl (lv_room (Nat.le_of_ble_eq_true rfl)) d_Wrt_putPage_171 ⟨show cells + k77 ≤ R.cells by omega, show slots + n78 ≤ R.slots by omega⟩) hS (fun q _ h => hF q h) hF (fun  x81 t H locs ht hvm hw hB hz1 hk1 hS => ?_)
    obtain ⟨x81, ad, NN⟩ := x81
    obtain ⟨hB, hle, hg⟩ := hB
    try dsimp only at hw hB hle hg
    have hW := Wd.back hB ht hF
    rw [← hg o fo.1] at hl
    have fo : o < NN ∧ kcC o = 5 := ⟨Nat.lt_of_lt_of_le fo.1 hle, fo.2⟩
    have fq23 : q23 < NN ∧ kcC q23 = 3 := ⟨Nat.lt_of_lt_of_le fq23.1 hle, fq23.2⟩
    have fq25 : q25 < NN ∧ kcC q25 = 3 := ⟨Nat.lt_of_lt_of_le fq25.1 hle, fq25.2⟩
    have fq28 : q28 < NN ∧ kcC q28 = 3 := ⟨Nat.lt_of_lt_of_le fq28.1 hle, fq28.2⟩
    have fq34 : q34 < NN ∧ kcC q34 = 3 := ⟨Nat.lt_of_lt_of_le fq34.1 hle, fq34.2⟩
    have fq40 : q40 < NN ∧ kcC q40 = 1 := ⟨Nat.lt_of_lt_of_le fq40.1 hle, fq40.2⟩
    have fq41 : q41 < NN ∧ kcC q41 = 21 := ⟨Nat.lt_of_lt_of_le fq41.1 hle, fq41.2⟩
    have fq42 : q42 < NN ∧ kcC q42 = 1 := ⟨Nat.lt_of_lt_of_le fq42.1 hle, fq42.2⟩
    have fq48 : q48 < NN ∧ kcC q48 = 1 := ⟨Nat.lt_of_lt_of_le fq48.1 hle, fq48.2⟩
    have fq54 : q54 < NN ∧ kcC q54 = 1 := ⟨Nat.lt_of_lt_of_le fq54.1 hle, fq54.2⟩
    have fq60 : q60 < NN ∧ kcC q60 = 1 := ⟨Nat.lt_of_lt_of_le fq60.1 hle, fq60.2⟩
    have fq68 : q68 < NN ∧ kcC q68 = 1 := ⟨Nat.lt_of_lt_of_le fq68.1 hle, fq68.2⟩
    have fq69 : q69 < NN ∧ kcC q69 = 4 := ⟨Nat.lt_of_lt_of_le fq69.1 hle, fq69.2⟩
    have fq75 : q75 < NN ∧ kcC q75 = 1 := ⟨Nat.lt_of_lt_of_le fq75.1 hle, fq75.2⟩
    have fq76 : q76 < NN ∧ kcC q76 = 4 := ⟨Nat.lt_of_lt_of_le fq76.1 hle, fq76.2⟩
    have hag : NN0 ≤ NN ∧ ∀ o : Nat, o < NN0 → ad o = ad0 o := ⟨Nat.le_trans hag.1 hle, fun o h => (hg o (Nat.lt_of_lt_of_le h hag.1)).trans (hag.2 o h)⟩
    have hNN : 152 ≤ NN := Nat.le_trans hNN hle
    clear hg hle
    obtain ⟨cells, ec⟩ : ∃ z, z = cells + k77 := ⟨_, rfl⟩
    obtain ⟨slots, es⟩ : ∃ z, z = slots + n78 := ⟨_, rfl⟩
    rw [← ec, ← es]
    have hRc : cells + k79 ≤ R.cells := by omega
    have hRs : slots + n80 ≤ R.slots := by omega
    clear ec es hB ht hF hz1 hk1 hvm ek77 en78
    exact t_Wrt_putPage_174 hx hb hml hown hT hK hN hA hRf hRl hE hret  ad NN cells slots o l1 l2 v24 v26 k79 n80 x81 H locs ls hNN hag hRc hRs fo hw hW hS (lv_sub hl [2, 3, 4, 1, 0] rfl)
set_option maxHeartbeats 4000000 in
set_option maxRecDepth 100000 in
theorem k_Wrt_putPage (l : Launch) (dC : Nat → ClassId) (dI : Nat → Nat → Nat) (cI cB cJ cZ : ClassId) (ad : Nat → Nat) (NN : Nat) (E : Heap) (tM tC : Nat) (kK kV : Nat → Nat) (hNN : 152 ≤ NN) (sz : Nat) (o : Nat) (l1 : Int32) (l2 : Int32) (kb : Nat) (nb : Nat) (x : St) (fo : o < NN ∧ kcC o = 5) {post : St → Prop} (hw : wp_Wrt_putPage post o l1 l2 kb nb x) : Met l y_Wrt_putPage (wsOf y_Wrt_putPage b_Wrt_putPage 5 (none)) ({ frames := 7, cells := kb, slots := nb, locals := 322 }) (va_Pc [.ref (ad o), .int l1, .int l2] (PV dC dI cI cB cJ cZ ad stC kcC NN E tM tC kK kV sz x)) (va_Qv (fun (u : St × (Nat → Nat) × Nat) => post u.1) (fun u t => Wd dC dI cI cB cJ cZ u.2.1 stC kcC u.2.2 (va_A (pic ad stC kcC NN cI cB cJ cZ x) sz) u.1 t.heap ∧ NN ≤ u.2.2 ∧ ∀ o : Nat, o < NN → u.2.1 o = ad o) (va_A (pic ad stC kcC NN cI cB cJ cZ x) sz)) kb nb (va_A (pic ad stC kcC NN cI cB cJ cZ x) sz) := by
  refine Met.ofW (cc := b_Wrt_putPage) (maxL := 5) (ret := none) (by decide) rfl ?_
  intro p e s m args below meth c s₁ B hml hv
  obtain ⟨rfl, ⟨hsz, hW0, hK, hN⟩, hE⟩ := hv
  have hx := B.exec
  have hb := B.bytes
  have hr := B.returns
  have hts := atoms_spec B.pre
  have hT : ∀ w ∈ TG, w.before _ s = true := fun w h => hts w (List.mem_cons_of_mem _ h)
  have hown : s.vm.findClass R_Wrt = some m.cls := findClass_of_methodNamed B.named
  have hlocks := B.notSynchronized
  subst hsz
  have hW : Wd dC dI cI cB cJ cZ ad stC kcC NN (va_A (pic ad stC kcC NN cI cB cJ cZ x) s.heap.size) x s.heap := ⟨hW0.1, hW0.2.1.self (sz := s.heap.size), hW0.2.2⟩
  generalize hAe : va_A (pic ad stC kcC NN cI cB cJ cZ x) s.heap.size = A at hW hE ⊢
  have hA : ∀ q : Nat, s.heap.size ≤ q → A q := fun q h => by rw [← hAe]; exact Or.inr h
  have hS : va_S A s.heap s.heap [] := va_S.rf
  have hl := lv_entry ([.ref (ad o), .int l1, .int l2]) (n := 5) (Nat.le_of_ble_eq_true rfl)
  rw [lg_entry_eq]
  generalize (lg_sl ([.ref (ad o), .int l1, .int l2]) ++ List.replicate (5 - (lg_sl ([.ref (ad o), .int l1, .int l2])).length) Slot.unset).toArray = ls at hl ⊢
  have hl : lv_has ls 5 [(0, .ref (ad o)), (1, .int l1), (2, .int l2)] := hl
  exact t_Wrt_putPage_e hx hb hml hown hT hK hN hA (Nat.le_refl 7) (Nat.le_refl 322) hE (fun ad1 NN1 cells slots x1 H locs pc ls hd hag hc hs hp hW hS => W.widen (k := kb) (n := nb) hc hs (W.vret hx hb hr (fun t ht hM => ⟨⟨(x1, ad1, NN1), rfl, hp, Wd.back hW ht.symm (fun _ z => z), hag.1, hag.2⟩, hS.F ht⟩) hS.2.2 hd hlocks))  ad NN 0 0 o l1 l2 kb nb x _ _ ls hNN ⟨Nat.le_refl _, fun _ _ => rfl⟩ (Nat.le_of_eq (Nat.zero_add kb)) (Nat.le_of_eq (Nat.zero_add nb)) fo hw hW hS hl
set_option maxRecDepth 100000 in
def j_Wrt_putChunk_292 (post : Int32 → St → Prop) (o : Nat) (l1 : Int32) (l2 : Int32) (l3 : Int32) (l4 : Int32) (l5 : Int32) (l6 : Int32) (l7 : Int32) (l8 : Int32) (l9 : Int64) (l11 : Int64) (l13 : Int32) (l14 : Int32) (kb : Nat) (nb : Nat) (x : St) : Prop := ((¬ (fI x (stC o 1) 2) = 0 → post 0 x) ∧ ((fI x (stC o 1) 2) = 0 → post 1 x))
set_option maxHeartbeats 4000000 in
set_option maxRecDepth 100000 in
theorem t_Wrt_putChunk_292 {p : Program} {l : Launch} {e : Env} {R : Room} {s : State} {m : MethodId} {args : Array Value} {below : List Frame} {meth : Method} {c : Code} {Q : State → Prop} {dC : Nat → ClassId} {dI : Nat → Nat → Nat} {cI cB cJ cZ : ClassId} {A : Nat → Prop} {E : Heap} {tM tC : Nat} {kK kV : Nat → Nat} {ad0 : Nat → Nat} {NN0 : Nat} {post : Int32 → St → Prop} (hx : p.tables.exec = Jvm.exec) (hb : c.code = b_Wrt_putChunk) (hml : c.maxLocals = 16) (hown : s.vm.findClass R_Wrt = some m.cls) (hT : ∀ w ∈ TG, w.before args s = true) (hK : va_K (dC, dI) CL (TY cI cB cJ cZ) s) (hN : NW s) (hA : ∀ q : Nat, s.heap.size ≤ q → A q) (hRf : 8 ≤ R.frames) (hRl : 350 ≤ R.locals) (hE : CE E tM tC kK kV A s) (hret : ∀ (r : Int32) (ad : Nat → Nat) (NN cells slots : Nat) (x : St) (H : Heap) (locs : List Loc) (pc : Nat) (ls : Array Slot), decode b_Wrt_putChunk pc = .ok (.ireturn, 1) → narrow .boolean (.int r) = .int r → (NN0 ≤ NN ∧ ∀ o : Nat, o < NN0 → ad o = ad0 o) → cells ≤ R.cells → slots ≤ R.slots → post r x → Wd dC dI cI cB cJ cZ ad stC kcC NN A x H → va_S A s.heap H locs → W p l e R s m args below meth c H locs cells slots Q (F0 m pc ls [.int r]))  : ∀ (ad : Nat → Nat) (NN cells slots : Nat) (o : Nat) (l1 : Int32) (l2 : Int32) (l3 : Int32) (l4 : Int32) (l5 : Int32) (l6 : Int32) (l7 : Int32) (l8 : Int32) (l9 : Int64) (l11 : Int64) (l13 : Int32) (l14 : Int32) (kb : Nat) (nb : Nat) (x : St) (H : Heap) (locs : List Loc) (ls : Array Slot), (152 ≤ NN) → (NN0 ≤ NN ∧ ∀ o : Nat, o < NN0 → ad o = ad0 o) → (cells + kb ≤ R.cells) → (slots + nb ≤ R.slots) → (o < NN ∧ kcC o = 5) → j_Wrt_putChunk_292 post o l1 l2 l3 l4 l5 l6 l7 l8 l9 l11 l13 l14 kb nb x → Wd dC dI cI cB cJ cZ ad stC kcC NN A x H → va_S A s.heap H locs → lv_has ls 16 [(0, .ref (ad o)), (1, .int l1), (2, .int l2), (3, .int l3), (4, .int l4), (5, .int l5), (6, .int l6), (7, .int l7), (8, .int l8), (9, .long l9), (11, .long l11), (13, .int l13), (14, .int l14)] → W p l e R s m args below meth c H locs cells slots Q (F0 m 292 ls []) := by
  intro ad NN cells slots o l1 l2 l3 l4 l5 l6 l7 l8 l9 l11 l13 l14 kb nb x H locs ls hNN hag hRc hRs fo hw hW hS hl
  unfold j_Wrt_putChunk_292 at hw
  refine lv_aload_n hx hb d_Wrt_putChunk_292 rfl (lv_at hl 0 rfl) ?_
  refine w_getf (q := (stC o 1)) (k := 1) (t := 5) (C := R_Wrt) (T := F_Wrt) (N := 20) hx hb hT hown hK hW fo.1 fo.2 (by decide) in_Wrt rfl rfl (by decide) rfl fr_Wrt_1 w_2_52 d_Wrt_putChunk_293 rfl ?_
  refine w_geti (k := 2) (t := 1) (C := R_Snk) (T := F_Snk) (N := 7) hx hb hT hown hK hW (st_ty hNN fo.1 fo.2 rfl).1 (st_ty hNN fo.1 fo.2 rfl).2 (by decide) in_Snk rfl rfl (by decide) rfl fr_Snk_2 w_1_49 d_Wrt_putChunk_296 ?_
  refine lv_if_ne (tgt := 306) hx hb d_Wrt_putChunk_299 (by decide) (fun c1 => ?_) (fun c1 => ?_)
  · have hw := hw.1 c1
    refine lv_iconst (v := 0) hx hb d_Wrt_putChunk_306 (by decide) ?_
    exact hret 0 ad NN cells slots x H locs 307 ls d_Wrt_putChunk_307 rfl hag (Nat.le_trans (Nat.le_add_right _ _) hRc) (Nat.le_trans (Nat.le_add_right _ _) hRs) hw hW hS
  · have hw := hw.2 c1
    refine lv_iconst (v := 1) hx hb d_Wrt_putChunk_302 (by decide) ?_
    refine lv_goto (tgt := 307) hx hb d_Wrt_putChunk_303 (by decide) ?_
    exact hret 1 ad NN cells slots x H locs 307 ls d_Wrt_putChunk_307 rfl hag (Nat.le_trans (Nat.le_add_right _ _) hRc) (Nat.le_trans (Nat.le_add_right _ _) hRs) hw hW hS
set_option maxRecDepth 100000 in
def j_Wrt_putChunk_200 (post : Int32 → St → Prop) (o : Nat) (l1 : Int32) (l2 : Int32) (l3 : Int32) (l4 : Int32) (l5 : Int32) (l6 : Int32) (l7 : Int32) (l8 : Int32) (l9 : Int64) (l11 : Int64) (l13 : Int32) (l14 : Int32) (kb : Nat) (nb : Nat) (x : St) : Prop := (∃ q2 : Nat, fR x o 0 = some q2 ∧ (∃ k3 n4 k5 n6 : Nat, k3 + k5 = kb ∧ n4 + n6 = nb ∧ wp_Snk_putVarint (fun (x7 : St) => (∃ k8 n9 k10 n11 : Nat, k8 + k10 = k5 ∧ n9 + n11 = n6 ∧ wp_Snk_putVarint (fun (x12 : St) => (∃ k13 n14 k15 n16 : Nat, k13 + k15 = k10 ∧ n14 + n16 = n11 ∧ wp_Snk_putVarint (fun (x17 : St) => (∃ k18 n19 k20 n21 : Nat, k18 + k20 = k15 ∧ n19 + n21 = n16 ∧ wp_Snk_putVarint (fun (x22 : St) => ((l8 ≤ 0 → j_Wrt_putChunk_292 post o l1 l2 l3 l4 l5 l6 l7 l8 l9 l11 l13 l14 k20 n21 x22) ∧ (¬ l8 ≤ 0 → (∃ q24 : Nat, fR x22 o 6 = some q24 ∧ (∃ k25 n26 k27 n28 : Nat, k25 + k27 = k20 ∧ n26 + n28 = n21 ∧ wp_Snk_putTold (fun (x29 : St) => (∃ q30 : Nat, fR x29 o 6 = some q30 ∧ (∃ k31 n32 k33 n34 : Nat, k31 + k33 = k27 ∧ n32 + n34 = n28 ∧ wp_Snk_putTold (fun (x35 : St) => j_Wrt_putChunk_292 post o l1 l2 l3 l4 l5 l6 l7 l8 l9 l11 l13 l14 k33 n34 x35) (stC o 1) l4 (stC q30 12) l11 k31 n32 x29))) (stC o 1) l4 (stC q24 12) l9 k25 n26 x22))))) (stC o 1) ((l7 - l8) : Int32).toInt64 k18 n19 x17)) (stC o 1) (l7 : Int32).toInt64 k13 n14 x12)) (stC o 1) (l6 : Int32).toInt64 k8 n9 x7)) (stC o 1) (((fI x q2 1) - l5) : Int32).toInt64 k3 n4 x))
set_option maxHeartbeats 4000000 in
set_option maxRecDepth 100000 in
theorem t_Wrt_putChunk_200 {p : Program} {l : Launch} {e : Env} {R : Room} {s : State} {m : MethodId} {args : Array Value} {below : List Frame} {meth : Method} {c : Code} {Q : State → Prop} {dC : Nat → ClassId} {dI : Nat → Nat → Nat} {cI cB cJ cZ : ClassId} {A : Nat → Prop} {E : Heap} {tM tC : Nat} {kK kV : Nat → Nat} {ad0 : Nat → Nat} {NN0 : Nat} {post : Int32 → St → Prop} (hx : p.tables.exec = Jvm.exec) (hb : c.code = b_Wrt_putChunk) (hml : c.maxLocals = 16) (hown : s.vm.findClass R_Wrt = some m.cls) (hT : ∀ w ∈ TG, w.before args s = true) (hK : va_K (dC, dI) CL (TY cI cB cJ cZ) s) (hN : NW s) (hA : ∀ q : Nat, s.heap.size ≤ q → A q) (hRf : 8 ≤ R.frames) (hRl : 350 ≤ R.locals) (hE : CE E tM tC kK kV A s) (hret : ∀ (r : Int32) (ad : Nat → Nat) (NN cells slots : Nat) (x : St) (H : Heap) (locs : List Loc) (pc : Nat) (ls : Array Slot), decode b_Wrt_putChunk pc = .ok (.ireturn, 1) → narrow .boolean (.int r) = .int r → (NN0 ≤ NN ∧ ∀ o : Nat, o < NN0 → ad o = ad0 o) → cells ≤ R.cells → slots ≤ R.slots → post r x → Wd dC dI cI cB cJ cZ ad stC kcC NN A x H → va_S A s.heap H locs → W p l e R s m args below meth c H locs cells slots Q (F0 m pc ls [.int r]))  : ∀ (ad : Nat → Nat) (NN cells slots : Nat) (o : Nat) (l1 : Int32) (l2 : Int32) (l3 : Int32) (l4 : Int32) (l5 : Int32) (l6 : Int32) (l7 : Int32) (l8 : Int32) (l9 : Int64) (l11 : Int64) (l13 : Int32) (l14 : Int32) (kb : Nat) (nb : Nat) (x : St) (H : Heap) (locs : List Loc) (ls : Array Slot), (152 ≤ NN) → (NN0 ≤ NN ∧ ∀ o : Nat, o < NN0 → ad o = ad0 o) → (cells + kb ≤ R.cells) → (slots + nb ≤ R.slots) → (o < NN ∧ kcC o = 5) → j_Wrt_putChunk_200 post o l1 l2 l3 l4 l5 l6 l7 l8 l9 l11 l13 l14 kb nb x → Wd dC dI cI cB cJ cZ ad stC kcC NN A x H → va_S A s.heap H locs → lv_has ls 16 [(0, .ref (ad o)), (1, .int l1), (2, .int l2), (3, .int l3), (4, .int l4), (5, .int l5), (6, .int l6), (7, .int l7), (8, .int l8), (9, .long l9), (11, .long l11), (13, .int l13), (14, .int l14)] → W p l e R s m args below meth c H locs cells slots Q (F0 m 200 ls []) := by
  intro ad NN cells slots o l1 l2 l3 l4 l5 l6 l7 l8 l9 l11 l13 l14 kb nb x H locs ls hNN hag hRc hRs fo hw hW hS hl
  unfold j_Wrt_putChunk_200 at hw
  refine lv_aload_n hx hb d_Wrt_putChunk_200 rfl (lv_at hl 0 rfl) ?_
  refine w_getf (q := (stC o 1)) (k := 1) (t := 5) (C := R_Wrt) (T := F_Wrt) (N := 20) hx hb hT hown hK hW fo.1 fo.2 (by decide) in_Wrt rfl rfl (by decide) rfl fr_Wrt_1 w_2_52 d_Wrt_putChunk_201 rfl ?_
  refine lv_aload_n hx hb d_Wrt_putChunk_204 rfl (lv_at hl 0 rfl) ?_
  obtain ⟨q2, hq2, hw⟩ := hw
  refine w_getr (q := q2) (k := 0) (t := 5) (C := R_Wrt) (T := F_Wrt) (N := 20) hx hb hT hown hK hW fo.1 fo.2 (by decide) in_Wrt rfl rfl (by decide) rfl fr_Wrt_0 w_2_51 d_Wrt_putChunk_205 hq2 (fun aq2 bq2 => ?_)
  have fq2 : q2 < NN ∧ kcC q2 = 1 := ⟨aq2, bq2⟩
  refine w_geti (k := 1) (t := 1) (C := R_Snk) (T := F_Snk) (N := 7) hx hb hT hown hK hW fq2.1 fq2.2 (by decide) in_Snk rfl rfl (by decide) rfl fr_Snk_1 w_1_46 d_Wrt_putChunk_208 ?_
  refine lv_iload hx hb d_Wrt_putChunk_211 (lv_at hl 5 rfl) ?_
  refine lv_isub hx hb d_Wrt_putChunk_213 ?_
  refine lv_i2l hx hb d_Wrt_putChunk_214 rfl ?_
  obtain ⟨k3, n4, k5, n6, ek3, en4, hw⟩ := hw
  have hF := hW.free hS hA
  refine va_callv (va_runV (C := R_Snk) (As := [.long (((fI x q2 1) - l5) : Int32).toInt64]) (rest := []) ⟨hx, hb, hml, hown, hT⟩ (k_Snk_putVarint l dC dI cI cB cJ cZ ad NN E tM tC kK kV hNN H.size (stC o 1) (((fI x q2 1) - l5) : Int32).toInt64 k3 n4 x (st_ty hNN fo.1 fo.2 rfl) hw) ⟨callB_of 1 hT (gw_in w_5_143) rfl rfl rfl (hT _ w_1_2) (hT _ w_5_140) (by decide +kernel) ⟨Nat.le_trans (by decide) hRf, Nat.le_trans (by decide) hRl⟩, hT _ w_5_141, hT _ w_5_142⟩ ⟨PV.blind, va_recv hK hW.1 (ci := 1) (q0 := (stC o 1)) rfl (pic_obj (st_ty hNN fo.1 fo.2 rfl).1 (st_ty hNN fo.1 fo.2 rfl).2 (by decide)), PV.at _ hW hK hN hE hS hF⟩ rfl rfl hl.1 rfl (lv_room (Nat.le_of_ble_eq_true rfl)) d_Wrt_putChunk_215 ⟨show cells + k3 ≤ R.cells by omega, show slots + n4 ≤ R.slots by omega⟩) hS (fun q _ h => hF q h) hF (fun  x7 t H locs ht hvm hw hB hz1 hk1 hS => ?_)
  obtain ⟨x7, ad, NN⟩ := x7
  obtain ⟨hB, hle, hg⟩ := hB
  try dsimp only at hw hB hle hg
  have hW := Wd.back hB ht hF
  rw [← hg o fo.1] at hl
  have fo : o < NN ∧ kcC o = 5 := ⟨Nat.lt_of_lt_of_le fo.1 hle, fo.2⟩
  have fq2 : q2 < NN ∧ kcC q2 = 1 := ⟨Nat.lt_of_lt_of_le fq2.1 hle, fq2.2⟩
  have hag : NN0 ≤ NN ∧ ∀ o : Nat, o < NN0 → ad o = ad0 o := ⟨Nat.le_trans hag.1 hle, fun o h => (hg o (Nat.lt_of_lt_of_le h hag.1)).trans (hag.2 o h)⟩
  have hNN : 152 ≤ NN := Nat.le_trans hNN hle
  clear hg hle
  obtain ⟨cells, ec⟩ : ∃ z, z = cells + k3 := ⟨_, rfl⟩
  obtain ⟨slots, es⟩ : ∃ z, z = slots + n4 := ⟨_, rfl⟩
  rw [← ec, ← es]
  have hRc : cells + k5 ≤ R.cells := by omega
  have hRs : slots + n6 ≤ R.slots := by omega
  clear ec es hB ht hF hz1 hk1 hvm ek3 en4
  refine lv_aload_n hx hb d_Wrt_putChunk_218 rfl (lv_at hl 0 rfl) ?_
  refine w_getf (q := (stC o 1)) (k := 1) (t := 5) (C := R_Wrt) (T := F_Wrt) (N := 20) hx hb hT hown hK hW fo.1 fo.2 (by decide) in_Wrt rfl rfl (by decide) rfl fr_Wrt_1 w_2_52 d_Wrt_putChunk_219 rfl ?_
  refine lv_iload hx hb d_Wrt_putChunk_222 (lv_at hl 6 rfl) ?_
  refine lv_i2l hx hb d_Wrt_putChunk_224 rfl ?_
  obtain ⟨k8, n9, k10, n11, ek8, en9, hw⟩ := hw
  have hF := hW.free hS hA
  refine va_callv (va_runV (C := R_Snk) (As := [.long (l6 : Int32).toInt64]) (rest := []) ⟨hx, hb, hml, hown, hT⟩ (k_Snk_putVarint l dC dI cI cB cJ cZ ad NN E tM tC kK kV hNN H.size (stC o 1) (l6 : Int32).toInt64 k8 n9 x7 (st_ty hNN fo.1 fo.2 rfl) hw) ⟨callB_of 1 hT (gw_in w_5_143) rfl rfl rfl (hT _ w_1_2) (hT _ w_5_140) (by decide +kernel) ⟨Nat.le_trans (by decide) hRf, Nat.le_trans (by decide) hRl⟩, hT _ w_5_141, hT _ w_5_142⟩ ⟨PV.blind, va_recv hK hW.1 (ci := 1) (q0 := (stC o 1)) rfl (pic_obj (st_ty hNN fo.1 fo.2 rfl).1 (st_ty hNN fo.1 fo.2 rfl).2 (by decide)), PV.at _ hW hK hN hE hS hF⟩ rfl rfl hl.1 rfl (lv_room (Nat.le_of_ble_eq_true rfl)) d_Wrt_putChunk_225 ⟨show cells + k8 ≤ R.cells by omega, show slots + n9 ≤ R.slots by omega⟩) hS (fun q _ h => hF q h) hF (fun  x12 t H locs ht hvm hw hB hz1 hk1 hS => ?_)
  obtain ⟨x12, ad, NN⟩ := x12
  obtain ⟨hB, hle, hg⟩ := hB
  try dsimp only at hw hB hle hg
  have hW := Wd.back hB ht hF
  rw [← hg o fo.1] at hl
  have fo : o < NN ∧ kcC o = 5 := ⟨Nat.lt_of_lt_of_le fo.1 hle, fo.2⟩
  have fq2 : q2 < NN ∧ kcC q2 = 1 := ⟨Nat.lt_of_lt_of_le fq2.1 hle, fq2.2⟩
  have hag : NN0 ≤ NN ∧ ∀ o : Nat, o < NN0 → ad o = ad0 o := ⟨Nat.le_trans hag.1 hle, fun o h => (hg o (Nat.lt_of_lt_of_le h hag.1)).trans (hag.2 o h)⟩
  have hNN : 152 ≤ NN := Nat.le_trans hNN hle
  clear hg hle
  obtain ⟨cells, ec⟩ : ∃ z, z = cells + k8 := ⟨_, rfl⟩
  obtain ⟨slots, es⟩ : ∃ z, z = slots + n9 := ⟨_, rfl⟩
  rw [← ec, ← es]
  have hRc : cells + k10 ≤ R.cells := by omega
  have hRs : slots + n11 ≤ R.slots := by omega
  clear ec es hB ht hF hz1 hk1 hvm ek8 en9
  refine lv_aload_n hx hb d_Wrt_putChunk_228 rfl (lv_at hl 0 rfl) ?_
  refine w_getf (q := (stC o 1)) (k := 1) (t := 5) (C := R_Wrt) (T := F_Wrt) (N := 20) hx hb hT hown hK hW fo.1 fo.2 (by decide) in_Wrt rfl rfl (by decide) rfl fr_Wrt_1 w_2_52 d_Wrt_putChunk_229 rfl ?_
  refine lv_iload hx hb d_Wrt_putChunk_232 (lv_at hl 7 rfl) ?_
  refine lv_i2l hx hb d_Wrt_putChunk_234 rfl ?_
  obtain ⟨k13, n14, k15, n16, ek13, en14, hw⟩ := hw
  have hF := hW.free hS hA
  refine va_callv (va_runV (C := R_Snk) (As := [.long (l7 : Int32).toInt64]) (rest := []) ⟨hx, hb, hml, hown, hT⟩ (k_Snk_putVarint l dC dI cI cB cJ cZ ad NN E tM tC kK kV hNN H.size (stC o 1) (l7 : Int32).toInt64 k13 n14 x12 (st_ty hNN fo.1 fo.2 rfl) hw) ⟨callB_of 1 hT (gw_in w_5_143) rfl rfl rfl (hT _ w_1_2) (hT _ w_5_140) (by decide +kernel) ⟨Nat.le_trans (by decide) hRf, Nat.le_trans (by decide) hRl⟩, hT _ w_5_141, hT _ w_5_142⟩ ⟨PV.blind, va_recv hK hW.1 (ci := 1) (q0 := (stC o 1)) rfl (pic_obj (st_ty hNN fo.1 fo.2 rfl).1 (st_ty hNN fo.1 fo.2 rfl).2 (by decide)), PV.at _ hW hK hN hE hS hF⟩ rfl rfl hl.1 rfl (lv_room (Nat.le_of_ble_eq_true rfl)) d_Wrt_putChunk_235 ⟨show cells + k13 ≤ R.cells by omega, show slots + n14 ≤ R.slots by omega⟩) hS (fun q _ h => hF q h) hF (fun  x17 t H locs ht hvm hw hB hz1 hk1 hS => ?_)
  obtain ⟨x17, ad, NN⟩ := x17
  obtain ⟨hB, hle, hg⟩ := hB
  try dsimp only at hw hB hle hg
  have hW := Wd.back hB ht hF
  rw [← hg o fo.1] at hl
  have fo : o < NN ∧ kcC o = 5 := ⟨Nat.lt_of_lt_of_le fo.1 hle, fo.2⟩
  have fq2 : q2 < NN ∧ kcC q2 = 1 := ⟨Nat.lt_of_lt_of_le fq2.1 hle, fq2.2⟩
  have hag : NN0 ≤ NN ∧ ∀ o : Nat, o < NN0 → ad o = ad0 o := ⟨Nat.le_trans hag.1 hle, fun o h => (hg o (Nat.lt_of_lt_of_le h hag.1)).trans (hag.2 o h)⟩
  have hNN : 152 ≤ NN := Nat.le_trans hNN hle
  clear hg hle
  obtain ⟨cells, ec⟩ : ∃ z, z = cells + k13 := ⟨_, rfl⟩
  obtain ⟨slots, es⟩ : ∃ z, z = slots + n14 := ⟨_, rfl⟩
  rw [← ec, ← es]
  have hRc : cells + k15 ≤ R.cells := by omega
  have hRs : slots + n16 ≤ R.slots := by omega
  clear ec es hB ht hF hz1 hk1 hvm ek13 en14
  refine lv_aload_n hx hb d_Wrt_putChunk_238 rfl (lv_at hl 0 rfl) ?_
  refine w_getf (q := (stC o 1)) (k := 1) (t := 5) (C := R_Wrt) (T := F_Wrt) (N := 20) hx hb hT hown hK hW fo.1 fo.2 (by decide) in_Wrt rfl rfl (by decide) rfl fr_Wrt_1 w_2_52 d_Wrt_putChunk_239 rfl ?_
  refine lv_iload hx hb d_Wrt_putChunk_242 (lv_at hl 7 rfl) ?_
  refine lv_iload hx hb d_Wrt_putChunk_244 (lv_at hl 8 rfl) ?_
  refine lv_isub hx hb d_Wrt_putChunk_246 ?_
  refine lv_i2l hx hb d_Wrt_putChunk_247 rfl ?_
  obtain ⟨k18, n19, k20, n21, ek18, en19, hw⟩ := hw
  have hF := hW.free hS hA
  refine va_callv (va_runV (C := R_Snk) (As := [.long ((l7 - l8) : Int32).toInt64]) (rest := []) ⟨hx, hb, hml, hown, hT⟩ (k_Snk_putVarint l dC dI cI cB cJ cZ ad NN E tM tC kK kV hNN H.size (stC o 1) ((l7 - l8) : Int32).toInt64 k18 n19 x17 (st_ty hNN fo.1 fo.2 rfl) hw) ⟨callB_of 1 hT (gw_in w_5_143) rfl rfl rfl (hT _ w_1_2) (hT _ w_5_140) (by decide +kernel) ⟨Nat.le_trans (by decide) hRf, Nat.le_trans (by decide) hRl⟩, hT _ w_5_141, hT _ w_5_142⟩ ⟨PV.blind, va_recv hK hW.1 (ci := 1) (q0 := (stC o 1)) rfl (pic_obj (st_ty hNN fo.1 fo.2 rfl).1 (st_ty hNN fo.1 fo.2 rfl).2 (by decide)), PV.at _ hW hK hN hE hS hF⟩ rfl rfl hl.1 rfl (lv_room (Nat.le_of_ble_eq_true rfl)) d_Wrt_putChunk_248 ⟨show cells + k18 ≤ R.cells by omega, show slots + n19 ≤ R.slots by omega⟩) hS (fun q _ h => hF q h) hF (fun  x22 t H locs ht hvm hw hB hz1 hk1 hS => ?_)
  obtain ⟨x22, ad, NN⟩ := x22
  obtain ⟨hB, hle, hg⟩ := hB
  try dsimp only at hw hB hle hg
  have hW := Wd.back hB ht hF
  rw [← hg o fo.1] at hl
  have fo : o < NN ∧ kcC o = 5 := ⟨Nat.lt_of_lt_of_le fo.1 hle, fo.2⟩
  have fq2 : q2 < NN ∧ kcC q2 = 1 := ⟨Nat.lt_of_lt_of_le fq2.1 hle, fq2.2⟩
  have hag : NN0 ≤ NN ∧ ∀ o : Nat, o < NN0 → ad o = ad0 o := ⟨Nat.le_trans hag.1 hle, fun o h => (hg o (Nat.lt_of_lt_of_le h hag.1)).trans (hag.2 o h)⟩
  have hNN : 152 ≤ NN := Nat.le_trans hNN hle
  clear hg hle
  obtain ⟨cells, ec⟩ : ∃ z, z = cells + k18 := ⟨_, rfl⟩
  obtain ⟨slots, es⟩ : ∃ z, z = slots + n19 := ⟨_, rfl⟩
  rw [← ec, ← es]
  have hRc : cells + k20 ≤ R.cells := by omega
  have hRs : slots + n21 ≤ R.slots := by omega
  clear ec es hB ht hF hz1 hk1 hvm ek18 en19
  refine lv_iload hx hb d_Wrt_putChunk_251 (lv_at hl 8 rfl) ?_
  refine lv_if_le (tgt := 292) hx hb d_Wrt_putChunk_253 (by decide) (fun c23 => ?_) (fun c23 => ?_)
  · have hw := hw.1 c23
    exact t_Wrt_putChunk_292 hx hb hml hown hT hK hN hA hRf hRl hE hret  ad NN cells slots o l1 l2 l3 l4 l5 l6 l7 l8 l9 l11 l13 l14 k20 n21 x22 H locs ls hNN hag hRc hRs fo hw hW hS (lv_sub hl [0, 1, 2, 3, 4, 5, 6, 7, 8, 9, 10, 11, 12] rfl)
  · have hw := hw.2 c23
    refine lv_aload_n hx hb d_Wrt_putChunk_256 rfl (lv_at hl 0 rfl) ?_
    refine w_getf (q := (stC o 1)) (k := 1) (t := 5) (C := R_Wrt) (T := F_Wrt) (N := 20) hx hb hT hown hK hW fo.1 fo.2 (by decide) in_Wrt rfl rfl (by decide) rfl fr_Wrt_1 w_2_52 d_Wrt_putChunk_257 rfl ?_
    refine lv_iload hx hb d_Wrt_putChunk_260 (lv_at hl 4 rfl) ?_
    refine lv_aload_n hx hb d_Wrt_putChunk_262 rfl (lv_at hl 0 rfl) ?_
    obtain ⟨q24, hq24, hw⟩ := hw
    refine w_getr (q := q24) (k := 6) (t := 5) (C := R_Wrt) (T := F_Wrt) (N := 20) hx hb hT hown hK hW fo.1 fo.2 (by decide) in_Wrt rfl rfl (by decide) rfl fr_Wrt_6 w_2_57 d_Wrt_putChunk_263 hq24 (fun aq24 bq24 => ?_)
    have fq24 : q24 < NN ∧ kcC q24 = 4 := ⟨aq24, bq24⟩
    refine w_getf (q := (stC q24 12)) (k := 12) (t := 4) (C := R_Rec) (T := F_Rec) (N := 15) hx hb hT hown hK hW fq24.1 fq24.2 (by decide) in_Rec rfl rfl (by decide) rfl fr_Rec_12 w_2_7 d_Wrt_putChunk_266 rfl ?_
    refine lv_lload hx hb d_Wrt_putChunk_269 (lv_at hl 9 rfl) ?_
    obtain ⟨k25, n26, k27, n28, ek25, en26, hw⟩ := hw
    have hF := hW.free hS hA
    refine va_callv (va_runV (C := R_Snk) (As := [.int l4, .ref (ad (stC q24 12)), .long l9]) (rest := []) ⟨hx, hb, hml, hown, hT⟩ (k_Snk_putTold l dC dI cI cB cJ cZ ad NN E tM tC kK kV hNN H.size (stC o 1) l4 (stC q24 12) l9 k25 n26 x22 (st_ty hNN fo.1 fo.2 rfl) (st_ty hNN fq24.1 fq24.2 rfl) hw) ⟨callB_of 3 hT (gw_in w_6_39) rfl rfl rfl (hT _ w_1_2) (hT _ w_6_36) (by decide +kernel) ⟨Nat.le_trans (by decide) hRf, Nat.le_trans (by decide) hRl⟩, hT _ w_6_37, hT _ w_6_38⟩ ⟨PV.blind, va_recv hK hW.1 (ci := 1) (q0 := (stC o 1)) rfl (pic_obj (st_ty hNN fo.1 fo.2 rfl).1 (st_ty hNN fo.1 fo.2 rfl).2 (by decide)), PV.at _ hW hK hN hE hS hF⟩ rfl rfl hl.1 rfl (lv_room (Nat.le_of_ble_eq_true rfl)) d_Wrt_putChunk_271 ⟨show cells + k25 ≤ R.cells by omega, show slots + n26 ≤ R.slots by omega⟩) hS (fun q _ h => hF q h) hF (fun  x29 t H locs ht hvm hw hB hz1 hk1 hS => ?_)
    obtain ⟨x29, ad, NN⟩ := x29
    obtain ⟨hB, hle, hg⟩ := hB
    try dsimp only at hw hB hle hg
    have hW := Wd.back hB ht hF
    rw [← hg o fo.1] at hl
    have fo : o < NN ∧ kcC o = 5 := ⟨Nat.lt_of_lt_of_le fo.1 hle, fo.2⟩
    have fq2 : q2 < NN ∧ kcC q2 = 1 := ⟨Nat.lt_of_lt_of_le fq2.1 hle, fq2.2⟩
    have fq24 : q24 < NN ∧ kcC q24 = 4 := ⟨Nat.lt_of_lt_of_le fq24.1 hle, fq24.2⟩
    have hag : NN0 ≤ NN ∧ ∀ o : Nat, o < NN0 → ad o = ad0 o := ⟨Nat.le_trans hag.1 hle, fun o h => (hg o (Nat.lt_of_lt_of_le h hag.1)).trans (hag.2 o h)⟩
    have hNN : 152 ≤ NN := Nat.le_trans hNN hle
    clear hg hle
    obtain ⟨cells, ec⟩ : ∃ z, z = cells + k25 := ⟨_, rfl⟩
    obtain ⟨slots, es⟩ : ∃ z, z = slots + n26 := ⟨_, rfl⟩
    rw [← ec, ← es]
    have hRc : cells + k27 ≤ R.cells := by omega
    have hRs : slots + n28 ≤ R.slots := by omega
    clear ec es hB ht hF hz1 hk1 hvm ek25 en26
    refine lv_aload_n hx hb d_Wrt_putChunk_274 rfl (lv_at hl 0 rfl) ?_
    refine w_getf (q := (stC o 1)) (k := 1) (t := 5) (C := R_Wrt) (T := F_Wrt) (N := 20) hx hb hT hown hK hW fo.1 fo.2 (by decide) in_Wrt rfl rfl (by decide) rfl fr_Wrt_1 w_2_52 d_Wrt_putChunk_275 rfl ?_
    refine lv_iload hx hb d_Wrt_putChunk_278 (lv_at hl 4 rfl) ?_
    refine lv_aload_n hx hb d_Wrt_putChunk_280 rfl (lv_at hl 0 rfl) ?_
    obtain ⟨q30, hq30, hw⟩ := hw
    refine w_getr (q := q30) (k := 6) (t := 5) (C := R_Wrt) (T := F_Wrt) (N := 20) hx hb hT hown hK hW fo.1 fo.2 (by decide) in_Wrt rfl rfl (by decide) rfl fr_Wrt_6 w_2_57 d_Wrt_putChunk_281 hq30 (fun aq30 bq30 => ?_)
    have fq30 : q30 < NN ∧ kcC q30 = 4 := ⟨aq30, bq30⟩
    refine w_getf (q := (stC q30 12)) (k := 12) (t := 4) (C := R_Rec) (T := F_Rec) (N := 15) hx hb hT hown hK hW fq30.1 fq30.2 (by decide) in_Rec rfl rfl (by decide) rfl fr_Rec_12 w_2_7 d_Wrt_putChunk_284 rfl ?_
    refine lv_lload hx hb d_Wrt_putChunk_287 (lv_at hl 10 rfl) ?_
    obtain ⟨k31, n32, k33, n34, ek31, en32, hw⟩ := hw
    have hF := hW.free hS hA
    refine va_callv (va_runV (C := R_Snk) (As := [.int l4, .ref (ad (stC q30 12)), .long l11]) (rest := []) ⟨hx, hb, hml, hown, hT⟩ (k_Snk_putTold l dC dI cI cB cJ cZ ad NN E tM tC kK kV hNN H.size (stC o 1) l4 (stC q30 12) l11 k31 n32 x29 (st_ty hNN fo.1 fo.2 rfl) (st_ty hNN fq30.1 fq30.2 rfl) hw) ⟨callB_of 3 hT (gw_in w_6_39) rfl rfl rfl (hT _ w_1_2) (hT _ w_6_36) (by decide +kernel) ⟨Nat.le_trans (by decide) hRf, Nat.le_trans (by decide) hRl⟩, hT _ w_6_37, hT _ w_6_38⟩ ⟨PV.blind, va_recv hK hW.1 (ci := 1) (q0 := (stC o 1)) rfl (pic_obj (st_ty hNN fo.1 fo.2 rfl).1 (st_ty hNN fo.1 fo.2 rfl).2 (by decide)), PV.at _ hW hK hN hE hS hF⟩ rfl rfl hl.1 rfl (lv_room (Nat.le_of_ble_eq_true rfl)) d_Wrt_putChunk_289 ⟨show cells + k31 ≤ R.cells by omega, show slots + n32 ≤ R.slots by omega⟩) hS (fun q _ h => hF q h) hF (fun  x35 t H locs ht hvm hw hB hz1 hk1 hS => ?_)
    obtain ⟨x35, ad, NN⟩ := x35
    obtain ⟨hB, hle, hg⟩ := hB
    try dsimp only at hw hB hle hg
    have hW := Wd.back hB ht hF
    rw [← hg o fo.1] at hl
    have fo : o < NN ∧ kcC o = 5 := ⟨Nat.lt_of_lt_of_le fo.1 hle, fo.2⟩
    have fq2 : q2 < NN ∧ kcC q2 = 1 := ⟨Nat.lt_of_lt_of_le fq2.1 hle, fq2.2⟩
    have fq24 : q24 < NN ∧ kcC q24 = 4 := ⟨Nat.lt_of_lt_of_le fq24.1 hle, fq24.2⟩
    have fq30 : q30 < NN ∧ kcC q30 = 4 := ⟨Nat.lt_of_lt_of_le fq30.1 hle, fq30.2⟩
    have hag : NN0 ≤ NN ∧ ∀ o : Nat, o < NN0 → ad o = ad0 o := ⟨Nat.le_trans hag.1 hle, fun o h => (hg o (Nat.lt_of_lt_of_le h hag.1)).trans (hag.2 o h)⟩
    have hNN : 152 ≤ NN := Nat.le_trans hNN hle
    clear hg hle
    obtain ⟨cells, ec⟩ : ∃ z, z = cells + k31 := ⟨_, rfl⟩
    obtain ⟨slots, es⟩ : ∃ z, z = slots + n32 := ⟨_, rfl⟩
    rw [← ec, ← es]
    have hRc : cells + k33 ≤ R.cells := by omega
    have hRs : slots + n34 ≤ R.slots := by omega
    clear ec es hB ht hF hz1 hk1 hvm ek31 en32
    exact t_Wrt_putChunk_292 hx hb hml hown hT hK hN hA hRf hRl hE hret  ad NN cells slots o l1 l2 l3 l4 l5 l6 l7 l8 l9 l11 l13 l14 k33 n34 x35 H locs ls hNN hag hRc hRs fo hw hW hS (lv_sub hl [0, 1, 2, 3, 4, 5, 6, 7, 8, 9, 10, 11, 12] rfl)
set_option maxRecDepth 100000 in
def j_Wrt_putChunk_176 (post : Int32 → St → Prop) (rec49 : Nat → Int32 → Int32 → Int32 → Int32 → Int32 → Int32 → Int32 → Int32 → Int64 → Int64 → Int32 → Int32 → Nat → Nat → St → Prop) (o : Nat) (l1 : Int32) (l2 : Int32) (l3 : Int32) (l4 : Int32) (l5 : Int32) (l6 : Int32) (l7 : Int32) (l8 : Int32) (l9 : Int64) (l11 : Int64) (l13 : Int32) (l14 : Int32) (l15 : Int32) (kb : Nat) (nb : Nat) (x : St) : Prop := (∀ v36 : Int32, v36 = (l7 + (fI x o 11)) → (∀ v37 : Int32, v37 = (l8 + (fI x o 12)) → rec49 o l1 l2 l3 l4 l5 l6 v36 v37 l9 l11 l13 (l14 + 1) kb nb x))
set_option maxHeartbeats 4000000 in
set_option maxRecDepth 100000 in
theorem t_Wrt_putChunk_176 {p : Program} {l : Launch} {e : Env} {R : Room} {s : State} {m : MethodId} {args : Array Value} {below : List Frame} {meth : Method} {c : Code} {Q : State → Prop} {dC : Nat → ClassId} {dI : Nat → Nat → Nat} {cI cB cJ cZ : ClassId} {A : Nat → Prop} {E : Heap} {tM tC : Nat} {kK kV : Nat → Nat} {ad0 : Nat → Nat} {NN0 : Nat} {post : Int32 → St → Prop} {rec49 : Nat → Int32 → Int32 → Int32 → Int32 → Int32 → Int32 → Int32 → Int32 → Int64 → Int64 → Int32 → Int32 → Nat → Nat → St → Prop} (hx : p.tables.exec = Jvm.exec) (hb : c.code = b_Wrt_putChunk) (hml : c.maxLocals = 16) (hown : s.vm.findClass R_Wrt = some m.cls) (hT : ∀ w ∈ TG, w.before args s = true) (hK : va_K (dC, dI) CL (TY cI cB cJ cZ) s) (hN : NW s) (hA : ∀ q : Nat, s.heap.size ≤ q → A q) (hRf : 8 ≤ R.frames) (hRl : 350 ≤ R.locals) (hE : CE E tM tC kK kV A s) (hret : ∀ (r : Int32) (ad : Nat → Nat) (NN cells slots : Nat) (x : St) (H : Heap) (locs : List Loc) (pc : Nat) (ls : Array Slot), decode b_Wrt_putChunk pc = .ok (.ireturn, 1) → narrow .boolean (.int r) = .int r → (NN0 ≤ NN ∧ ∀ o : Nat, o < NN0 → ad o = ad0 o) → cells ≤ R.cells → slots ≤ R.slots → post r x → Wd dC dI cI cB cJ cZ ad stC kcC NN A x H → va_S A s.heap H locs → W p l e R s m args below meth c H locs cells slots Q (F0 m pc ls [.int r])) (hrec49 : ∀ (ad : Nat → Nat) (NN cells slots : Nat) (o : Nat) (l1 : Int32) (l2 : Int32) (l3 : Int32) (l4 : Int32) (l5 : Int32) (l6 : Int32) (l7 : Int32) (l8 : Int32) (l9 : Int64) (l11 : Int64) (l13 : Int32) (l14 : Int32) (kb : Nat) (nb : Nat) (x : St) (H : Heap) (locs : List Loc) (ls : Array Slot), (152 ≤ NN) → (NN0 ≤ NN ∧ ∀ o : Nat, o < NN0 → ad o = ad0 o) → (cells + kb ≤ R.cells) → (slots + nb ≤ R.slots) → (o < NN ∧ kcC o = 5) → rec49 o l1 l2 l3 l4 l5 l6 l7 l8 l9 l11 l13 l14 kb nb x → Wd dC dI cI cB cJ cZ ad stC kcC NN A x H → va_S A s.heap H locs → lv_has ls 16 [(0, .ref (ad o)), (1, .int l1), (2, .int l2), (3, .int l3), (4, .int l4), (5, .int l5), (6, .int l6), (7, .int l7), (8, .int l8), (9, .long l9), (11, .long l11), (13, .int l13), (14, .int l14)] → W p l e R s m args below meth c H locs cells slots Q (F0 m 49 ls [])) : ∀ (ad : Nat → Nat) (NN cells slots : Nat) (o : Nat) (l1 : Int32) (l2 : Int32) (l3 : Int32) (l4 : Int32) (l5 : Int32) (l6 : Int32) (l7 : Int32) (l8 : Int32) (l9 : Int64) (l11 : Int64) (l13 : Int32) (l14 : Int32) (l15 : Int32) (kb : Nat) (nb : Nat) (x : St) (H : Heap) (locs : List Loc) (ls : Array Slot), (152 ≤ NN) → (NN0 ≤ NN ∧ ∀ o : Nat, o < NN0 → ad o = ad0 o) → (cells + kb ≤ R.cells) → (slots + nb ≤ R.slots) → (o < NN ∧ kcC o = 5) → j_Wrt_putChunk_176 post rec49 o l1 l2 l3 l4 l5 l6 l7 l8 l9 l11 l13 l14 l15 kb nb x → Wd dC dI cI cB cJ cZ ad stC kcC NN A x H → va_S A s.heap H locs → lv_has ls 16 [(0, .ref (ad o)), (1, .int l1), (2, .int l2), (3, .int l3), (4, .int l4), (5, .int l5), (6, .int l6), (7, .int l7), (8, .int l8), (9, .long l9), (11, .long l11), (13, .int l13), (14, .int l14), (15, .int l15)] → W p l e R s m args below meth c H locs cells slots Q (F0 m 176 ls []) := by
  intro ad NN cells slots o l1 l2 l3 l4 l5 l6 l7 l8 l9 l11 l13 l14 l15 kb nb x H locs ls hNN hag hRc hRs fo hw hW hS hl
  unfold j_Wrt_putChunk_176 at hw
  refine lv_iload hx hb d_Wrt_putChunk_176 (lv_at hl 7 rfl) ?_
  refine lv_aload_n hx hb d_Wrt_putChunk_178 rfl (lv_at hl 0 rfl) ?_
  refine w_geti (k := 11) (t := 5) (C := R_Wrt) (T := F_Wrt) (N := 20) hx hb hT hown hK hW fo.1 fo.2 (by decide) in_Wrt rfl rfl (by decide) rfl fr_Wrt_11 w_2_62 d_Wrt_putChunk_179 ?_
  refine lv_iadd hx hb d_Wrt_putChunk_182 ?_
  refine lv_topi (fun v36 ev36 => ?_)
  have hw := hw v36 ev36
  refine lv_istore (lv' := [(7, .int v36), (0, .ref (ad o)), (1, .int l1), (2, .int l2), (3, .int l3), (4, .int l4), (5, .int l5), (6, .int l6), (8, .int l8), (9, .long l9), (11, .long l11), (13, .int l13), (14, .int l14), (15, .int l15)]) hx hb d_Wrt_putChunk_183 hl (by decide) rfl (fun ls hl => ?_)
  refine lv_iload hx hb d_Wrt_putChunk_185 (lv_at hl 8 rfl) ?_
  refine lv_aload_n hx hb d_Wrt_putChunk_187 rfl (lv_at hl 1 rfl) ?_
  refine w_geti (k := 12) (t := 5) (C := R_Wrt) (T := F_Wrt) (N := 20) hx hb hT hown hK hW fo.1 fo.2 (by decide) in_Wrt rfl rfl (by decide) rfl fr_Wrt_12 w_2_63 d_Wrt_putChunk_188 ?_
  refine lv_iadd hx hb d_Wrt_putChunk_191 ?_
  refine lv_topi (fun v37 ev37 => ?_)
  have hw := hw v37 ev37
  refine lv_istore (lv' := [(8, .int v37), (7, .int v36), (0, .ref (ad o)), (1, .int l1), (2, .int l2), (3, .int l3), (4, .int l4), (5, .int l5), (6, .int l6), (9, .long l9), (11, .long l11), (13, .int l13), (14, .int l14), (15, .int l15)]) hx hb d_Wrt_putChunk_192 hl (by decide) rfl (fun ls hl => ?_)
  refine lv_iinc (v := (l14 + 1)) (lv' := [(14, .int (l14 + 1)), (8, .int v37), (7, .int v36), (0, .ref (ad o)), (1, .int l1), (2, .int l2), (3, .int l3), (4, .int l4), (5, .int l5), (6, .int l6), (9, .long l9), (11, .long l11), (13, .int l13), (15, .int l15)]) hx hb d_Wrt_putChunk_194 hl (k := 12) rfl rfl (by decide) rfl (fun ls hl => ?_)
  refine lv_goto (tgt := 49) hx hb d_Wrt_putChunk_197 (by decide) ?_
  exact hrec49 ad NN cells slots o l1 l2 l3 l4 l5 l6 v36 v37 l9 l11 l13 (l14 + 1) kb nb x H locs ls hNN hag hRc hRs fo hw hW hS (lv_sub hl [3, 4, 5, 6, 7, 8, 9, 2, 1, 10, 11, 12, 0] rfl)
set_option maxRecDepth 100000 in
def j_Wrt_putChunk_170 (post : Int32 → St → Prop) (rec49 : Nat → Int32 → Int32 → Int32 → Int32 → Int32 → Int32 → Int32 → Int32 → Int64 → Int64 → Int32 → Int32 → Nat → Nat → St → Prop) (o : Nat) (l1 : Int32) (l2 : Int32) (l3 : Int32) (l4 : Int32) (l5 : Int32) (l6 : Int32) (l7 : Int32) (l8 : Int32) (l9 : Int64) (l11 : Int64) (l13 : Int32) (l14 : Int32) (l15 : Int32) (kb : Nat) (nb : Nat) (x : St) : Prop := (∀ v38 : Int64, v38 = (fJ x o 14) → j_Wrt_putChunk_176 post rec49 o l1 l2 l3 l4 l5 l6 l7 l8 l9 v38 l13 l14 l15 kb nb x)
set_option maxHeartbeats 4000000 in
set_option maxRecDepth 100000 in
theorem t_Wrt_putChunk_170 {p : Program} {l : Launch} {e : Env} {R : Room} {s : State} {m : MethodId} {args : Array Value} {below : List Frame} {meth : Method} {c : Code} {Q : State → Prop} {dC : Nat → ClassId} {dI : Nat → Nat → Nat} {cI cB cJ cZ : ClassId} {A : Nat → Prop} {E : Heap} {tM tC : Nat} {kK kV : Nat → Nat} {ad0 : Nat → Nat} {NN0 : Nat} {post : Int32 → St → Prop} {rec49 : Nat → Int32 → Int32 → Int32 → Int32 → Int32 → Int32 → Int32 → Int32 → Int64 → Int64 → Int32 → Int32 → Nat → Nat → St → Prop} (hx : p.tables.exec = Jvm.exec) (hb : c.code = b_Wrt_putChunk) (hml : c.maxLocals = 16) (hown : s.vm.findClass R_Wrt = some m.cls) (hT : ∀ w ∈ TG, w.before args s = true) (hK : va_K (dC, dI) CL (TY cI cB cJ cZ) s) (hN : NW s) (hA : ∀ q : Nat, s.heap.size ≤ q → A q) (hRf : 8 ≤ R.frames) (hRl : 350 ≤ R.locals) (hE : CE E tM tC kK kV A s) (hret : ∀ (r : Int32) (ad : Nat → Nat) (NN cells slots : Nat) (x : St) (H : Heap) (locs : List Loc) (pc : Nat) (ls : Array Slot), decode b_Wrt_putChunk pc = .ok (.ireturn, 1) → narrow .boolean (.int r) = .int r → (NN0 ≤ NN ∧ ∀ o : Nat, o < NN0 → ad o = ad0 o) → cells ≤ R.cells → slots ≤ R.slots → post r x → Wd dC dI cI cB cJ cZ ad stC kcC NN A x H → va_S A s.heap H locs → W p l e R s m args below meth c H locs cells slots Q (F0 m pc ls [.int r])) (hrec49 : ∀ (ad : Nat → Nat) (NN cells slots : Nat) (o : Nat) (l1 : Int32) (l2 : Int32) (l3 : Int32) (l4 : Int32) (l5 : Int32) (l6 : Int32) (l7 : Int32) (l8 : Int32) (l9 : Int64) (l11 : Int64) (l13 : Int32) (l14 : Int32) (kb : Nat) (nb : Nat) (x : St) (H : Heap) (locs : List Loc) (ls : Array Slot), (152 ≤ NN) → (NN0 ≤ NN ∧ ∀ o : Nat, o < NN0 → ad o = ad0 o) → (cells + kb ≤ R.cells) → (slots + nb ≤ R.slots) → (o < NN ∧ kcC o = 5) → rec49 o l1 l2 l3 l4 l5 l6 l7 l8 l9 l11 l13 l14 kb nb x → Wd dC dI cI cB cJ cZ ad stC kcC NN A x H → va_S A s.heap H locs → lv_has ls 16 [(0, .ref (ad o)), (1, .int l1), (2, .int l2), (3, .int l3), (4, .int l4), (5, .int l5), (6, .int l6), (7, .int l7), (8, .int l8), (9, .long l9), (11, .long l11), (13, .int l13), (14, .int l14)] → W p l e R s m args below meth c H locs cells slots Q (F0 m 49 ls [])) : ∀ (ad : Nat → Nat) (NN cells slots : Nat) (o : Nat) (l1 : Int32) (l2 : Int32) (l3 : Int32) (l4 : Int32) (l5 : Int32) (l6 : Int32) (l7 : Int32) (l8 : Int32) (l9 : Int64) (l11 : Int64) (l13 : Int32) (l14 : Int32) (l15 : Int32) (kb : Nat) (nb : Nat) (x : St) (H : Heap) (locs : List Loc) (ls : Array Slot), (152 ≤ NN) → (NN0 ≤ NN ∧ ∀ o : Nat, o < NN0 → ad o = ad0 o) → (cells + kb ≤ R.cells) → (slots + nb ≤ R.slots) → (o < NN ∧ kcC o = 5) → j_Wrt_putChunk_170 post rec49 o l1 l2 l3 l4 l5 l6 l7 l8 l9 l11 l13 l14 l15 kb nb x → Wd dC dI cI cB cJ cZ ad stC kcC NN A x H → va_S A s.heap H locs → lv_has ls 16 [(0, .ref (ad o)), (1, .int l1), (2, .int l2), (3, .int l3), (4, .int l4), (5, .int l5), (6, .int l6), (7, .int l7), (8, .int l8), (9, .long l9), (11, .long l11), (13, .int l13), (14, .int l14), (15, .int l15)] → W p l e R s m args below meth c H locs cells slots Q (F0 m 170 ls []) := by
  intro ad NN cells slots o l1 l2 l3 l4 l5 l6 l7 l8 l9 l11 l13 l14 l15 kb nb x H locs ls hNN hag hRc hRs fo hw hW hS hl
  unfold j_Wrt_putChunk_170 at hw
  refine lv_aload_n hx hb d_Wrt_putChunk_170 rfl (lv_at hl 0 rfl) ?_
  refine w_getj (k := 14) (t := 5) (C := R_Wrt) (T := F_Wrt) (N := 20) hx hb hT hown hK hW fo.1 fo.2 (by decide) in_Wrt rfl rfl (by decide) rfl fr_Wrt_14 w_2_65 d_Wrt_putChunk_171 ?_
  refine lv_topl (fun v38 ev38 => ?_)
  have hw := hw v38 ev38
  refine lv_lstore (lv' := [(11, .long v38), (0, .ref (ad o)), (1, .int l1), (2, .int l2), (3, .int l3), (4, .int l4), (5, .int l5), (6, .int l6), (7, .int l7), (8, .int l8), (9, .long l9), (13, .int l13), (14, .int l14), (15, .int l15)]) hx hb d_Wrt_putChunk_174 hl (by decide) rfl (fun ls hl => ?_)
  exact t_Wrt_putChunk_176 hx hb hml hown hT hK hN hA hRf hRl hE hret hrec49 ad NN cells slots o l1 l2 l3 l4 l5 l6 l7 l8 l9 v38 l13 l14 l15 kb nb x H locs ls hNN hag hRc hRs fo hw hW hS (lv_sub hl [1, 2, 3, 4, 5, 6, 7, 8, 9, 10, 0, 11, 12, 13] rfl)
set_option maxRecDepth 100000 in
def j_Wrt_putChunk_143 (post : Int32 → St → Prop) (rec49 : Nat → Int32 → Int32 → Int32 → Int32 → Int32 → Int32 → Int32 → Int32 → Int64 → Int64 → Int32 → Int32 → Nat → Nat → St → Prop) (o : Nat) (l1 : Int32) (l2 : Int32) (l3 : Int32) (l4 : Int32) (l5 : Int32) (l6 : Int32) (l7 : Int32) (l8 : Int32) (l9 : Int64) (l11 : Int64) (l13 : Int32) (l14 : Int32) (l15 : Int32) (kb : Nat) (nb : Nat) (x : St) : Prop := (((fI x o 12) ≤ 0 → j_Wrt_putChunk_176 post rec49 o l1 l2 l3 l4 l5 l6 l7 l8 l9 l11 l13 l14 l15 kb nb x) ∧ (¬ (fI x o 12) ≤ 0 → ((l8 = 0 → j_Wrt_putChunk_170 post rec49 o l1 l2 l3 l4 l5 l6 l7 l8 l9 l11 l13 l14 l15 kb nb x) ∧ (¬ l8 = 0 → wp_Wrt_compare (fun (r42 : Int32) (x41 : St) => ((r42 ≤ 0 → j_Wrt_putChunk_176 post rec49 o l1 l2 l3 l4 l5 l6 l7 l8 l9 l11 l13 l14 l15 kb nb x41) ∧ (¬ r42 ≤ 0 → j_Wrt_putChunk_170 post rec49 o l1 l2 l3 l4 l5 l6 l7 l8 l9 l11 l13 l14 l15 kb nb x41))) o l4 (fJ x o 14) l11 x))))
set_option maxHeartbeats 4000000 in
set_option maxRecDepth 100000 in
theorem t_Wrt_putChunk_143 {p : Program} {l : Launch} {e : Env} {R : Room} {s : State} {m : MethodId} {args : Array Value} {below : List Frame} {meth : Method} {c : Code} {Q : State → Prop} {dC : Nat → ClassId} {dI : Nat → Nat → Nat} {cI cB cJ cZ : ClassId} {A : Nat → Prop} {E : Heap} {tM tC : Nat} {kK kV : Nat → Nat} {ad0 : Nat → Nat} {NN0 : Nat} {post : Int32 → St → Prop} {rec49 : Nat → Int32 → Int32 → Int32 → Int32 → Int32 → Int32 → Int32 → Int32 → Int64 → Int64 → Int32 → Int32 → Nat → Nat → St → Prop} (hx : p.tables.exec = Jvm.exec) (hb : c.code = b_Wrt_putChunk) (hml : c.maxLocals = 16) (hown : s.vm.findClass R_Wrt = some m.cls) (hT : ∀ w ∈ TG, w.before args s = true) (hK : va_K (dC, dI) CL (TY cI cB cJ cZ) s) (hN : NW s) (hA : ∀ q : Nat, s.heap.size ≤ q → A q) (hRf : 8 ≤ R.frames) (hRl : 350 ≤ R.locals) (hE : CE E tM tC kK kV A s) (hret : ∀ (r : Int32) (ad : Nat → Nat) (NN cells slots : Nat) (x : St) (H : Heap) (locs : List Loc) (pc : Nat) (ls : Array Slot), decode b_Wrt_putChunk pc = .ok (.ireturn, 1) → narrow .boolean (.int r) = .int r → (NN0 ≤ NN ∧ ∀ o : Nat, o < NN0 → ad o = ad0 o) → cells ≤ R.cells → slots ≤ R.slots → post r x → Wd dC dI cI cB cJ cZ ad stC kcC NN A x H → va_S A s.heap H locs → W p l e R s m args below meth c H locs cells slots Q (F0 m pc ls [.int r])) (hrec49 : ∀ (ad : Nat → Nat) (NN cells slots : Nat) (o : Nat) (l1 : Int32) (l2 : Int32) (l3 : Int32) (l4 : Int32) (l5 : Int32) (l6 : Int32) (l7 : Int32) (l8 : Int32) (l9 : Int64) (l11 : Int64) (l13 : Int32) (l14 : Int32) (kb : Nat) (nb : Nat) (x : St) (H : Heap) (locs : List Loc) (ls : Array Slot), (152 ≤ NN) → (NN0 ≤ NN ∧ ∀ o : Nat, o < NN0 → ad o = ad0 o) → (cells + kb ≤ R.cells) → (slots + nb ≤ R.slots) → (o < NN ∧ kcC o = 5) → rec49 o l1 l2 l3 l4 l5 l6 l7 l8 l9 l11 l13 l14 kb nb x → Wd dC dI cI cB cJ cZ ad stC kcC NN A x H → va_S A s.heap H locs → lv_has ls 16 [(0, .ref (ad o)), (1, .int l1), (2, .int l2), (3, .int l3), (4, .int l4), (5, .int l5), (6, .int l6), (7, .int l7), (8, .int l8), (9, .long l9), (11, .long l11), (13, .int l13), (14, .int l14)] → W p l e R s m args below meth c H locs cells slots Q (F0 m 49 ls [])) : ∀ (ad : Nat → Nat) (NN cells slots : Nat) (o : Nat) (l1 : Int32) (l2 : Int32) (l3 : Int32) (l4 : Int32) (l5 : Int32) (l6 : Int32) (l7 : Int32) (l8 : Int32) (l9 : Int64) (l11 : Int64) (l13 : Int32) (l14 : Int32) (l15 : Int32) (kb : Nat) (nb : Nat) (x : St) (H : Heap) (locs : List Loc) (ls : Array Slot), (152 ≤ NN) → (NN0 ≤ NN ∧ ∀ o : Nat, o < NN0 → ad o = ad0 o) → (cells + kb ≤ R.cells) → (slots + nb ≤ R.slots) → (o < NN ∧ kcC o = 5) → j_Wrt_putChunk_143 post rec49 o l1 l2 l3 l4 l5 l6 l7 l8 l9 l11 l13 l14 l15 kb nb x → Wd dC dI cI cB cJ cZ ad stC kcC NN A x H → va_S A s.heap H locs → lv_has ls 16 [(0, .ref (ad o)), (1, .int l1), (2, .int l2), (3, .int l3), (4, .int l4), (5, .int l5), (6, .int l6), (7, .int l7), (8, .int l8), (9, .long l9), (11, .long l11), (13, .int l13), (14, .int l14), (15, .int l15)] → W p l e R s m args below meth c H locs cells slots Q (F0 m 143 ls []) := by
  intro ad NN cells slots o l1 l2 l3 l4 l5 l6 l7 l8 l9 l11 l13 l14 l15 kb nb x H locs ls hNN hag hRc hRs fo hw hW hS hl
  unfold j_Wrt_putChunk_143 at hw
  refine lv_aload_n hx hb d_Wrt_putChunk_143 rfl (lv_at hl 0 rfl) ?_
  refine w_geti (k := 12) (t := 5) (C := R_Wrt) (T := F_Wrt) (N := 20) hx hb hT hown hK hW fo.1 fo.2 (by decide) in_Wrt rfl rfl (by decide) rfl fr_Wrt_12 w_2_63 d_Wrt_putChunk_144 ?_
  refine lv_if_le (tgt := 176) hx hb d_Wrt_putChunk_147 (by decide) (fun c39 => ?_) (fun c39 => ?_)
  · have hw := hw.1 c39
    exact t_Wrt_putChunk_176 hx hb hml hown hT hK hN hA hRf hRl hE hret hrec49 ad NN cells slots o l1 l2 l3 l4 l5 l6 l7 l8 l9 l11 l13 l14 l15 kb nb x H locs ls hNN hag hRc hRs fo hw hW hS (lv_sub hl [0, 1, 2, 3, 4, 5, 6, 7, 8, 9, 10, 11, 12, 13] rfl)
  · have hw := hw.2 c39
    refine lv_iload hx hb d_Wrt_putChunk_150 (lv_at hl 8 rfl) ?_
    refine lv_if_eq (tgt := 170) hx hb d_Wrt_putChunk_152 (by decide) (fun c40 => ?_) (fun c40 => ?_)
    · have hw := hw.1 c40
      exact t_Wrt_putChunk_170 hx hb hml hown hT hK hN hA hRf hRl hE hret hrec49 ad NN cells slots o l1 l2 l3 l4 l5 l6 l7 l8 l9 l11 l13 l14 l15 kb nb x H locs ls hNN hag hRc hRs fo hw hW hS (lv_sub hl [0, 1, 2, 3, 4, 5, 6, 7, 8, 9, 10, 11, 12, 13] rfl)
    · have hw := hw.2 c40
      refine lv_aload_n hx hb d_Wrt_putChunk_155 rfl (lv_at hl 0 rfl) ?_
      refine lv_iload hx hb d_Wrt_putChunk_156 (lv_at hl 4 rfl) ?_
      refine lv_aload_n hx hb d_Wrt_putChunk_158 rfl (lv_at hl 0 rfl) ?_
      refine w_getj (k := 14) (t := 5) (C := R_Wrt) (T := F_Wrt) (N := 20) hx hb hT hown hK hW fo.1 fo.2 (by decide) in_Wrt rfl rfl (by decide) rfl fr_Wrt_14 w_2_65 d_Wrt_putChunk_159 ?_
      refine lv_lload hx hb d_Wrt_putChunk_162 (lv_at hl 10 rfl) ?_
      have hF := hW.free hS hA
      refine va_calli (va_runV (C := R_Wrt) (As := [.int l4, .long (fJ x o 14), .long l11]) (rest := []) ⟨hx, hb, hml, hown, hT⟩ (k_Wrt_compare l dC dI cI cB cJ cZ ad NN E tM tC kK kV hNN H.size o l4 (fJ x o 14) l11 x fo hw) ⟨callB_of 3 hT (gw_in w_6_35) rfl rfl rfl (hT _ w_1_8) (hT _ w_6_32) (by decide +kernel) ⟨Nat.le_trans (by decide) hRf, Nat.le_trans (by decide) hRl⟩, hT _ w_6_34, hT _ ws_32⟩ ⟨PV.blind, va_recv hK hW.1 (ci := 5) (q0 := o) rfl (pic_obj fo.1 fo.2 (by decide)), PV.at _ hW hK hN hE hS hF⟩ rfl rfl hl.1 rfl (lv_room (Nat.le_of_ble_eq_true rfl)) d_Wrt_putChunk_164 ⟨(Nat.le_trans (Nat.le_add_right _ _) hRc), (Nat.le_trans (Nat.le_add_right _ _) hRs)⟩) hS (fun q _ h => hF q h) hF (fun r42 x41 t H locs ht hvm hw hB hz1 hk1 hS => ?_)
      have hW := Wd.back hB ht hF
      clear hB ht hF hz1 hk1 hvm
      refine lv_if_le (tgt := 176) hx hb d_Wrt_putChunk_167 (by decide) (fun c43 => ?_) (fun c43 => ?_)
      · have hw := hw.1 c43
        exact t_Wrt_putChunk_176 hx hb hml hown hT hK hN hA hRf hRl hE hret hrec49 ad NN cells slots o l1 l2 l3 l4 l5 l6 l7 l8 l9 l11 l13 l14 l15 kb nb x41 H locs ls hNN hag hRc hRs fo hw hW hS (lv_sub hl [0, 1, 2, 3, 4, 5, 6, 7, 8, 9, 10, 11, 12, 13] rfl)
      · have hw := hw.2 c43
        exact t_Wrt_putChunk_170 hx hb hml hown hT hK hN hA hRf hRl hE hret hrec49 ad NN cells slots o l1 l2 l3 l4 l5 l6 l7 l8 l9 l11 l13 l14 l15 kb nb x41 H locs ls hNN hag hRc hRs fo hw hW hS (lv_sub hl [0, 1, 2, 3, 4, 5, 6, 7, 8, 9, 10, 11, 12, 13] rfl)
set_option maxRecDepth 100000 in
def j_Wrt_putChunk_137 (post : Int32 → St → Prop) (rec49 : Nat → Int32 → Int32 → Int32 → Int32 → Int32 → Int32 → Int32 → Int32 → Int64 → Int64 → Int32 → Int32 → Nat → Nat → St → Prop) (o : Nat) (l1 : Int32) (l2 : Int32) (l3 : Int32) (l4 : Int32) (l5 : Int32) (l6 : Int32) (l7 : Int32) (l8 : Int32) (l9 : Int64) (l11 : Int64) (l13 : Int32) (l14 : Int32) (l15 : Int32) (kb : Nat) (nb : Nat) (x : St) : Prop := (∀ v44 : Int64, v44 = (fJ x o 13) → j_Wrt_putChunk_143 post rec49 o l1 l2 l3 l4 l5 l6 l7 l8 v44 l11 l13 l14 l15 kb nb x)
set_option maxHeartbeats 4000000 in
set_option maxRecDepth 100000 in
theorem t_Wrt_putChunk_137 {p : Program} {l : Launch} {e : Env} {R : Room} {s : State} {m : MethodId} {args : Array Value} {below : List Frame} {meth : Method} {c : Code} {Q : State → Prop} {dC : Nat → ClassId} {dI : Nat → Nat → Nat} {cI cB cJ cZ : ClassId} {A : Nat → Prop} {E : Heap} {tM tC : Nat} {kK kV : Nat → Nat} {ad0 : Nat → Nat} {NN0 : Nat} {post : Int32 → St → Prop} {rec49 : Nat → Int32 → Int32 → Int32 → Int32 → Int32 → Int32 → Int32 → Int32 → Int64 → Int64 → Int32 → Int32 → Nat → Nat → St → Prop} (hx : p.tables.exec = Jvm.exec) (hb : c.code = b_Wrt_putChunk) (hml : c.maxLocals = 16) (hown : s.vm.findClass R_Wrt = some m.cls) (hT : ∀ w ∈ TG, w.before args s = true) (hK : va_K (dC, dI) CL (TY cI cB cJ cZ) s) (hN : NW s) (hA : ∀ q : Nat, s.heap.size ≤ q → A q) (hRf : 8 ≤ R.frames) (hRl : 350 ≤ R.locals) (hE : CE E tM tC kK kV A s) (hret : ∀ (r : Int32) (ad : Nat → Nat) (NN cells slots : Nat) (x : St) (H : Heap) (locs : List Loc) (pc : Nat) (ls : Array Slot), decode b_Wrt_putChunk pc = .ok (.ireturn, 1) → narrow .boolean (.int r) = .int r → (NN0 ≤ NN ∧ ∀ o : Nat, o < NN0 → ad o = ad0 o) → cells ≤ R.cells → slots ≤ R.slots → post r x → Wd dC dI cI cB cJ cZ ad stC kcC NN A x H → va_S A s.heap H locs → W p l e R s m args below meth c H locs cells slots Q (F0 m pc ls [.int r])) (hrec49 : ∀ (ad : Nat → Nat) (NN cells slots : Nat) (o : Nat) (l1 : Int32) (l2 : Int32) (l3 : Int32) (l4 : Int32) (l5 : Int32) (l6 : Int32) (l7 : Int32) (l8 : Int32) (l9 : Int64) (l11 : Int64) (l13 : Int32) (l14 : Int32) (kb : Nat) (nb : Nat) (x : St) (H : Heap) (locs : List Loc) (ls : Array Slot), (152 ≤ NN) → (NN0 ≤ NN ∧ ∀ o : Nat, o < NN0 → ad o = ad0 o) → (cells + kb ≤ R.cells) → (slots + nb ≤ R.slots) → (o < NN ∧ kcC o = 5) → rec49 o l1 l2 l3 l4 l5 l6 l7 l8 l9 l11 l13 l14 kb nb x → Wd dC dI cI cB cJ cZ ad stC kcC NN A x H → va_S A s.heap H locs → lv_has ls 16 [(0, .ref (ad o)), (1, .int l1), (2, .int l2), (3, .int l3), (4, .int l4), (5, .int l5), (6, .int l6), (7, .int l7), (8, .int l8), (9, .long l9), (11, .long l11), (13, .int l13), (14, .int l14)] → W p l e R s m args below meth c H locs cells slots Q (F0 m 49 ls [])) : ∀ (ad : Nat → Nat) (NN cells slots : Nat) (o : Nat) (l1 : Int32) (l2 : Int32) (l3 : Int32) (l4 : Int32) (l5 : Int32) (l6 : Int32) (l7 : Int32) (l8 : Int32) (l9 : Int64) (l11 : Int64) (l13 : Int32) (l14 : Int32) (l15 : Int32) (kb : Nat) (nb : Nat) (x : St) (H : Heap) (locs : List Loc) (ls : Array Slot), (152 ≤ NN) → (NN0 ≤ NN ∧ ∀ o : Nat, o < NN0 → ad o = ad0 o) → (cells + kb ≤ R.cells) → (slots + nb ≤ R.slots) → (o < NN ∧ kcC o = 5) → j_Wrt_putChunk_137 post rec49 o l1 l2 l3 l4 l5 l6 l7 l8 l9 l11 l13 l14 l15 kb nb x → Wd dC dI cI cB cJ cZ ad stC kcC NN A x H → va_S A s.heap H locs → lv_has ls 16 [(0, .ref (ad o)), (1, .int l1), (2, .int l2), (3, .int l3), (4, .int l4), (5, .int l5), (6, .int l6), (7, .int l7), (8, .int l8), (9, .long l9), (11, .long l11), (13, .int l13), (14, .int l14), (15, .int l15)] → W p l e R s m args below meth c H locs cells slots Q (F0 m 137 ls []) := by
  intro ad NN cells slots o l1 l2 l3 l4 l5 l6 l7 l8 l9 l11 l13 l14 l15 kb nb x H locs ls hNN hag hRc hRs fo hw hW hS hl
  unfold j_Wrt_putChunk_137 at hw
  refine lv_aload_n hx hb d_Wrt_putChunk_137 rfl (lv_at hl 0 rfl) ?_
  refine w_getj (k := 13) (t := 5) (C := R_Wrt) (T := F_Wrt) (N := 20) hx hb hT hown hK hW fo.1 fo.2 (by decide) in_Wrt rfl rfl (by decide) rfl fr_Wrt_13 w_2_64 d_Wrt_putChunk_138 ?_
  refine lv_topl (fun v44 ev44 => ?_)
  have hw := hw v44 ev44
  refine lv_lstore (lv' := [(9, .long v44), (0, .ref (ad o)), (1, .int l1), (2, .int l2), (3, .int l3), (4, .int l4), (5, .int l5), (6, .int l6), (7, .int l7), (8, .int l8), (11, .long l11), (13, .int l13), (14, .int l14), (15, .int l15)]) hx hb d_Wrt_putChunk_141 hl (by decide) rfl (fun ls hl => ?_)
  exact t_Wrt_putChunk_143 hx hb hml hown hT hK hN hA hRf hRl hE hret hrec49 ad NN cells slots o l1 l2 l3 l4 l5 l6 l7 l8 v44 l11 l13 l14 l15 kb nb x H locs ls hNN hag hRc hRs fo hw hW hS (lv_sub hl [1, 2, 3, 4, 5, 6, 7, 8, 9, 0, 10, 11, 12, 13] rfl)
set_option maxRecDepth 100000 in
def j_Wrt_putChunk_49 (post : Int32 → St → Prop) (rec49 : Nat → Int32 → Int32 → Int32 → Int32 → Int32 → Int32 → Int32 → Int32 → Int64 → Int64 → Int32 → Int32 → Nat → Nat → St → Prop) (o : Nat) (l1 : Int32) (l2 : Int32) (l3 : Int32) (l4 : Int32) (l5 : Int32) (l6 : Int32) (l7 : Int32) (l8 : Int32) (l9 : Int64) (l11 : Int64) (l13 : Int32) (l14 : Int32) (kb : Nat) (nb : Nat) (x : St) : Prop := ((l2 ≤ l14 → j_Wrt_putChunk_200 post o l1 l2 l3 l4 l5 l6 l7 l8 l9 l11 l13 l14 kb nb x) ∧ (¬ l2 ≤ l14 → ((l13 ≤ 0 → j_Wrt_putChunk_200 post o l1 l2 l3 l4 l5 l6 l7 l8 l9 l11 l13 l14 kb nb x) ∧ (¬ l13 ≤ 0 → wp_Wrt_fillPage (fun (r48 : Int32) (x47 : St) => ((¬ r48 = 0 → (∀ v50 : Int32, v50 = (l13 - r48) → (∃ k51 n52 k53 n54 : Nat, k51 + k53 = kb ∧ n52 + n54 = nb ∧ wp_Wrt_chooseCoding (fun (r56 : Int32) (x55 : St) => (∃ k57 n58 k59 n60 : Nat, k57 + k59 = k53 ∧ n58 + n60 = n54 ∧ wp_Wrt_putPage (fun (x61 : St) => (∃ q62 : Nat, fR x61 o 0 = some q62 ∧ (((fI x61 q62 2) = 0 → (((fI x61 o 12) ≤ 0 → j_Wrt_putChunk_143 post rec49 o l1 l2 l3 l4 l5 (l6 + 1) l7 l8 l9 l11 v50 l14 r48 k59 n60 x61) ∧ (¬ (fI x61 o 12) ≤ 0 → ((l8 = 0 → j_Wrt_putChunk_137 post rec49 o l1 l2 l3 l4 l5 (l6 + 1) l7 l8 l9 l11 v50 l14 r48 k59 n60 x61) ∧ (¬ l8 = 0 → wp_Wrt_compare (fun (r67 : Int32) (x66 : St) => ((0 ≤ r67 → j_Wrt_putChunk_143 post rec49 o l1 l2 l3 l4 l5 (l6 + 1) l7 l8 l9 l11 v50 l14 r48 k59 n60 x66) ∧ (¬ 0 ≤ r67 → j_Wrt_putChunk_137 post rec49 o l1 l2 l3 l4 l5 (l6 + 1) l7 l8 l9 l11 v50 l14 r48 k59 n60 x66))) o l4 (fJ x61 o 13) l9 x61))))) ∧ (¬ (fI x61 q62 2) = 0 → post 0 x61)))) o l1 r56 k57 n58 x55)) o l4 k51 n52 x47))) ∧ (r48 = 0 → post 0 x47))) o l1 l13 l3 x))))
set_option maxHeartbeats 4000000 in
set_option maxRecDepth 100000 in
theorem t_Wrt_putChunk_49 {p : Program} {l : Launch} {e : Env} {R : Room} {s : State} {m : MethodId} {args : Array Value} {below : List Frame} {meth : Method} {c : Code} {Q : State → Prop} {dC : Nat → ClassId} {dI : Nat → Nat → Nat} {cI cB cJ cZ : ClassId} {A : Nat → Prop} {E : Heap} {tM tC : Nat} {kK kV : Nat → Nat} {ad0 : Nat → Nat} {NN0 : Nat} {post : Int32 → St → Prop} {rec49 : Nat → Int32 → Int32 → Int32 → Int32 → Int32 → Int32 → Int32 → Int32 → Int64 → Int64 → Int32 → Int32 → Nat → Nat → St → Prop} (hx : p.tables.exec = Jvm.exec) (hb : c.code = b_Wrt_putChunk) (hml : c.maxLocals = 16) (hown : s.vm.findClass R_Wrt = some m.cls) (hT : ∀ w ∈ TG, w.before args s = true) (hK : va_K (dC, dI) CL (TY cI cB cJ cZ) s) (hN : NW s) (hA : ∀ q : Nat, s.heap.size ≤ q → A q) (hRf : 8 ≤ R.frames) (hRl : 350 ≤ R.locals) (hE : CE E tM tC kK kV A s) (hret : ∀ (r : Int32) (ad : Nat → Nat) (NN cells slots : Nat) (x : St) (H : Heap) (locs : List Loc) (pc : Nat) (ls : Array Slot), decode b_Wrt_putChunk pc = .ok (.ireturn, 1) → narrow .boolean (.int r) = .int r → (NN0 ≤ NN ∧ ∀ o : Nat, o < NN0 → ad o = ad0 o) → cells ≤ R.cells → slots ≤ R.slots → post r x → Wd dC dI cI cB cJ cZ ad stC kcC NN A x H → va_S A s.heap H locs → W p l e R s m args below meth c H locs cells slots Q (F0 m pc ls [.int r])) (hrec49 : ∀ (ad : Nat → Nat) (NN cells slots : Nat) (o : Nat) (l1 : Int32) (l2 : Int32) (l3 : Int32) (l4 : Int32) (l5 : Int32) (l6 : Int32) (l7 : Int32) (l8 : Int32) (l9 : Int64) (l11 : Int64) (l13 : Int32) (l14 : Int32) (kb : Nat) (nb : Nat) (x : St) (H : Heap) (locs : List Loc) (ls : Array Slot), (152 ≤ NN) → (NN0 ≤ NN ∧ ∀ o : Nat, o < NN0 → ad o = ad0 o) → (cells + kb ≤ R.cells) → (slots + nb ≤ R.slots) → (o < NN ∧ kcC o = 5) → rec49 o l1 l2 l3 l4 l5 l6 l7 l8 l9 l11 l13 l14 kb nb x → Wd dC dI cI cB cJ cZ ad stC kcC NN A x H → va_S A s.heap H locs → lv_has ls 16 [(0, .ref (ad o)), (1, .int l1), (2, .int l2), (3, .int l3), (4, .int l4), (5, .int l5), (6, .int l6), (7, .int l7), (8, .int l8), (9, .long l9), (11, .long l11), (13, .int l13), (14, .int l14)] → W p l e R s m args below meth c H locs cells slots Q (F0 m 49 ls [])) : ∀ (ad : Nat → Nat) (NN cells slots : Nat) (o : Nat) (l1 : Int32) (l2 : Int32) (l3 : Int32) (l4 : Int32) (l5 : Int32) (l6 : Int32) (l7 : Int32) (l8 : Int32) (l9 : Int64) (l11 : Int64) (l13 : Int32) (l14 : Int32) (kb : Nat) (nb : Nat) (x : St) (H : Heap) (locs : List Loc) (ls : Array Slot), (152 ≤ NN) → (NN0 ≤ NN ∧ ∀ o : Nat, o < NN0 → ad o = ad0 o) → (cells + kb ≤ R.cells) → (slots + nb ≤ R.slots) → (o < NN ∧ kcC o = 5) → j_Wrt_putChunk_49 post rec49 o l1 l2 l3 l4 l5 l6 l7 l8 l9 l11 l13 l14 kb nb x → Wd dC dI cI cB cJ cZ ad stC kcC NN A x H → va_S A s.heap H locs → lv_has ls 16 [(0, .ref (ad o)), (1, .int l1), (2, .int l2), (3, .int l3), (4, .int l4), (5, .int l5), (6, .int l6), (7, .int l7), (8, .int l8), (9, .long l9), (11, .long l11), (13, .int l13), (14, .int l14)] → W p l e R s m args below meth c H locs cells slots Q (F0 m 49 ls []) := by
  intro ad NN cells slots o l1 l2 l3 l4 l5 l6 l7 l8 l9 l11 l13 l14 kb nb x H locs ls hNN hag hRc hRs fo hw hW hS hl
  unfold j_Wrt_putChunk_49 at hw
  refine lv_iload hx hb d_Wrt_putChunk_49 (lv_at hl 12 rfl) ?_
  refine lv_iload_n hx hb d_Wrt_putChunk_51 rfl (lv_at hl 2 rfl) ?_
  refine lv_icmp_ge (tgt := 200) hx hb d_Wrt_putChunk_52 (by decide) (fun c45 => ?_) (fun c45 => ?_)
  · have hw := hw.1 c45
    exact t_Wrt_putChunk_200 hx hb hml hown hT hK hN hA hRf hRl hE hret  ad NN cells slots o l1 l2 l3 l4 l5 l6 l7 l8 l9 l11 l13 l14 kb nb x H locs ls hNN hag hRc hRs fo hw hW hS (lv_sub hl [0, 1, 2, 3, 4, 5, 6, 7, 8, 9, 10, 11, 12] rfl)
  · have hw := hw.2 c45
    refine lv_iload hx hb d_Wrt_putChunk_55 (lv_at hl 11 rfl) ?_
    refine lv_if_le (tgt := 200) hx hb d_Wrt_putChunk_57 (by decide) (fun c46 => ?_) (fun c46 => ?_)
    · have hw := hw.1 c46
      exact t_Wrt_putChunk_200 hx hb hml hown hT hK hN hA hRf hRl hE hret  ad NN cells slots o l1 l2 l3 l4 l5 l6 l7 l8 l9 l11 l13 l14 kb nb x H locs ls hNN hag hRc hRs fo hw hW hS (lv_sub hl [0, 1, 2, 3, 4, 5, 6, 7, 8, 9, 10, 11, 12] rfl)
    · have hw := hw.2 c46
      refine lv_aload_n hx hb d_Wrt_putChunk_60 rfl (lv_at hl 0 rfl) ?_
      refine lv_iload_n hx hb d_Wrt_putChunk_61 rfl (lv_at hl 1 rfl) ?_
      refine lv_iload hx hb d_Wrt_putChunk_62 (lv_at hl 11 rfl) ?_
      refine lv_iload_n hx hb d_Wrt_putChunk_64 rfl (lv_at hl 3 rfl) ?_
      have hF := hW.free hS hA
      refine va_calli (va_runV (C := R_Wrt) (As := [.int l1, .int l13, .int l3]) (rest := []) ⟨hx, hb, hml, hown, hT⟩ (k_Wrt_fillPage l dC dI cI cB cJ cZ ad NN E tM tC kK kV hNN H.size o l1 l13 l3 x fo hw) ⟨callB_of 3 hT (gw_in w_5_158) rfl rfl rfl (hT _ w_1_8) (hT _ w_5_155) (by decide +kernel) ⟨Nat.le_trans (by decide) hRf, Nat.le_trans (by decide) hRl⟩, hT _ w_5_157, hT _ ws_18⟩ ⟨PV.blind, va_recv hK hW.1 (ci := 5) (q0 := o) rfl (pic_obj fo.1 fo.2 (by decide)), PV.at _ hW hK hN hE hS hF⟩ rfl rfl hl.1 rfl (lv_room (Nat.le_of_ble_eq_true rfl)) d_Wrt_putChunk_65 ⟨(Nat.le_trans (Nat.le_add_right _ _) hRc), (Nat.le_trans (Nat.le_add_right _ _) hRs)⟩) hS (fun q _ h => hF q h) hF (fun r48 x47 t H locs ht hvm hw hB hz1 hk1 hS => ?_)
      have hW := Wd.back hB ht hF
      clear hB ht hF hz1 hk1 hvm
      refine lv_istore (lv' := [(15, .int r48), (0, .ref (ad o)), (1, .int l1), (2, .int l2), (3, .int l3), (4, .int l4), (5, .int l5), (6, .int l6), (7, .int l7), (8, .int l8), (9, .long l9), (11, .long l11), (13, .int l13), (14, .int l14)]) hx hb d_Wrt_putChunk_68 hl (by decide) rfl (fun ls hl => ?_)
      refine lv_iload hx hb d_Wrt_putChunk_70 (lv_at hl 0 rfl) ?_
      refine lv_if_ne (tgt := 77) hx hb d_Wrt_putChunk_72 (by decide) (fun c49 => ?_) (fun c49 => ?_)
      · have hw := hw.1 c49
        refine lv_iload hx hb d_Wrt_putChunk_77 (lv_at hl 12 rfl) ?_
        refine lv_iload hx hb d_Wrt_putChunk_79 (lv_at hl 0 rfl) ?_
        refine lv_isub hx hb d_Wrt_putChunk_81 ?_
        refine lv_topi (fun v50 ev50 => ?_)
        have hw := hw v50 ev50
        refine lv_istore (lv' := [(13, .int v50), (15, .int r48), (0, .ref (ad o)), (1, .int l1), (2, .int l2), (3, .int l3), (4, .int l4), (5, .int l5), (6, .int l6), (7, .int l7), (8, .int l8), (9, .long l9), (11, .long l11), (14, .int l14)]) hx hb d_Wrt_putChunk_82 hl (by decide) rfl (fun ls hl => ?_)
        refine lv_iinc (v := (l6 + 1)) (lv' := [(6, .int (l6 + 1)), (13, .int v50), (15, .int r48), (0, .ref (ad o)), (1, .int l1), (2, .int l2), (3, .int l3), (4, .int l4), (5, .int l5), (7, .int l7), (8, .int l8), (9, .long l9), (11, .long l11), (14, .int l14)]) hx hb d_Wrt_putChunk_84 hl (k := 8) rfl rfl (by decide) rfl (fun ls hl => ?_)
        refine lv_aload_n hx hb d_Wrt_putChunk_87 rfl (lv_at hl 3 rfl) ?_
        refine lv_iload_n hx hb d_Wrt_putChunk_88 rfl (lv_at hl 4 rfl) ?_
        refine lv_aload_n hx hb d_Wrt_putChunk_89 rfl (lv_at hl 3 rfl) ?_
        refine lv_iload hx hb d_Wrt_putChunk_90 (lv_at hl 7 rfl) ?_
        obtain ⟨k51, n52, k53, n54, ek51, en52, hw⟩ := hw
        have hF := hW.free hS hA
        refine va_calli (va_runV (C := R_Wrt) (As := [.int l4]) (rest := [.int l1, .ref (ad o)]) ⟨hx, hb, hml, hown, hT⟩ (k_Wrt_chooseCoding l dC dI cI cB cJ cZ ad NN E tM tC kK kV hNN H.size o l4 k51 n52 x47 fo hw) ⟨callB_of 1 hT (gw_in w_5_170) rfl rfl rfl (hT _ w_1_8) (hT _ w_5_167) (by decide +kernel) ⟨Nat.le_trans (by decide) hRf, Nat.le_trans (by decide) hRl⟩, hT _ w_5_169, hT _ ws_20⟩ ⟨PV.blind, va_recv hK hW.1 (ci := 5) (q0 := o) rfl (pic_obj fo.1 fo.2 (by decide)), PV.at _ hW hK hN hE hS hF⟩ rfl rfl hl.1 rfl (lv_room (Nat.le_of_ble_eq_true rfl)) d_Wrt_putChunk_92 ⟨show cells + k51 ≤ R.cells by omega, show slots + n52 ≤ R.slots by omega⟩) hS (fun q _ h => hF q h) hF (fun r56 x55 t H locs ht hvm hw hB hz1 hk1 hS => ?_)
        obtain ⟨x55, ad, NN⟩ := x55
        obtain ⟨hB, hle, hg⟩ := hB
        try dsimp only at hw hB hle hg
        have hW := Wd.back hB ht hF
        rw [← hg o fo.1] at hl
        rw [← hg o fo.1]
        have fo : o < NN ∧ kcC o = 5 := ⟨Nat.lt_of_lt_of_le fo.1 hle, fo.2⟩
        have hag : NN0 ≤ NN ∧ ∀ o : Nat, o < NN0 → ad o = ad0 o := ⟨Nat.le_trans hag.1 hle, fun o h => (hg o (Nat.lt_of_lt_of_le h hag.1)).trans (hag.2 o h)⟩
        have hNN : 152 ≤ NN := Nat.le_trans hNN hle
        clear hg hle
        obtain ⟨cells, ec⟩ : ∃ z, z = cells + k51 := ⟨_, rfl⟩
        obtain ⟨slots, es⟩ : ∃ z, z = slots + n52 := ⟨_, rfl⟩
        rw [← ec, ← es]
        have hRc : cells + k53 ≤ R.cells := by omega
        have hRs : slots + n54 ≤ R.slots := by omega
        clear ec es hB ht hF hz1 hk1 hvm ek51 en52
        obtain ⟨k57, n58, k59, n60, ek57, en58, hw⟩ := hw
        have hF := hW.free hS hA
        refine va_callv (va_runV (C := R_Wrt) (As := [.int l1, .int r56]) (rest := []) ⟨hx, hb, hml, hown, hT⟩ (k_Wrt_putPage l dC dI cI cB cJ cZ ad NN E tM tC kK kV hNN H.size o l1 r56 k57 n58 x55 fo hw) ⟨callB_of 2 hT (gw_in w_6_23) rfl rfl rfl (hT _ w_1_8) (hT _ w_6_20) (by decide +kernel) ⟨Nat.le_trans (by decide) hRf, Nat.le_trans (by decide) hRl⟩, hT _ w_6_22, hT _ ws_29⟩ ⟨PV.blind, va_recv hK hW.1 (ci := 5) (q0 := o) rfl (pic_obj fo.1 fo.2 (by decide)), PV.at _ hW hK hN hE hS hF⟩ rfl rfl hl.1 rfl (lv_room (Nat.le_of_ble_eq_true rfl)) d_Wrt_putChunk_95 ⟨show cells + k57 ≤ R.cells by omega, show slots + n58 ≤ R.slots by omega⟩) hS (fun q _ h => hF q h) hF (fun  x61 t H locs ht hvm hw hB hz1 hk1 hS => ?_)
        obtain ⟨x61, ad, NN⟩ := x61
        obtain ⟨hB, hle, hg⟩ := hB
        try dsimp only at hw hB hle hg
        have hW := Wd.back hB ht hF
        rw [← hg o fo.1] at hl
        have fo : o < NN ∧ kcC o = 5 := ⟨Nat.lt_of_lt_of_le fo.1 hle, fo.2⟩
        have hag : NN0 ≤ NN ∧ ∀ o : Nat, o < NN0 → ad o = ad0 o := ⟨Nat.le_trans hag.1 hle, fun o h => (hg o (Nat.lt_of_lt_of_le h hag.1)).trans (hag.2 o h)⟩
        have hNN : 152 ≤ NN := Nat.le_trans hNN hle
        clear hg hle
        obtain ⟨cells, ec⟩ : ∃ z, z = cells + k57 := ⟨_, rfl⟩
        obtain ⟨slots, es⟩ : ∃ z, z = slots + n58 := ⟨_, rfl⟩
        rw [← ec, ← es]
        have hRc : cells + k59 ≤ R.cells := by omega
        have hRs : slots + n60 ≤ R.slots := by omega
        clear ec es hB ht hF hz1 hk1 hvm ek57 en58
        refine lv_aload_n hx hb d_Wrt_putChunk_98 rfl (lv_at hl 3 rfl) ?_
        obtain ⟨q62, hq62, hw⟩ := hw
        refine w_getr (q := q62) (k := 0) (t := 5) (C := R_Wrt) (T := F_Wrt) (N := 20) hx hb hT hown hK hW fo.1 fo.2 (by decide) in_Wrt rfl rfl (by decide) rfl fr_Wrt_0 w_2_51 d_Wrt_putChunk_99 hq62 (fun aq62 bq62 => ?_)
        have fq62 : q62 < NN ∧ kcC q62 = 1 := ⟨aq62, bq62⟩
        refine w_geti (k := 2) (t := 1) (C := R_Snk) (T := F_Snk) (N := 7) hx hb hT hown hK hW fq62.1 fq62.2 (by decide) in_Snk rfl rfl (by decide) rfl fr_Snk_2 w_1_49 d_Wrt_putChunk_102 ?_
        refine lv_if_eq (tgt := 110) hx hb d_Wrt_putChunk_105 (by decide) (fun c63 => ?_) (fun c63 => ?_)
        · have hw := hw.1 c63
          refine lv_aload_n hx hb d_Wrt_putChunk_110 rfl (lv_at hl 3 rfl) ?_
          refine w_geti (k := 12) (t := 5) (C := R_Wrt) (T := F_Wrt) (N := 20) hx hb hT hown hK hW fo.1 fo.2 (by decide) in_Wrt rfl rfl (by decide) rfl fr_Wrt_12 w_2_63 d_Wrt_putChunk_111 ?_
          refine lv_if_le (tgt := 143) hx hb d_Wrt_putChunk_114 (by decide) (fun c64 => ?_) (fun c64 => ?_)
          · have hw := hw.1 c64
            exact t_Wrt_putChunk_143 hx hb hml hown hT hK hN hA hRf hRl hE hret hrec49 ad NN cells slots o l1 l2 l3 l4 l5 (l6 + 1) l7 l8 l9 l11 v50 l14 r48 k59 n60 x61 H locs ls hNN hag hRc hRs fo hw hW hS (lv_sub hl [3, 4, 5, 6, 7, 8, 0, 9, 10, 11, 12, 1, 13, 2] rfl)
          · have hw := hw.2 c64
            refine lv_iload hx hb d_Wrt_putChunk_117 (lv_at hl 10 rfl) ?_
            refine lv_if_eq (tgt := 137) hx hb d_Wrt_putChunk_119 (by decide) (fun c65 => ?_) (fun c65 => ?_)
            · have hw := hw.1 c65
              exact t_Wrt_putChunk_137 hx hb hml hown hT hK hN hA hRf hRl hE hret hrec49 ad NN cells slots o l1 l2 l3 l4 l5 (l6 + 1) l7 l8 l9 l11 v50 l14 r48 k59 n60 x61 H locs ls hNN hag hRc hRs fo hw hW hS (lv_sub hl [3, 4, 5, 6, 7, 8, 0, 9, 10, 11, 12, 1, 13, 2] rfl)
            · have hw := hw.2 c65
              refine lv_aload_n hx hb d_Wrt_putChunk_122 rfl (lv_at hl 3 rfl) ?_
              refine lv_iload hx hb d_Wrt_putChunk_123 (lv_at hl 7 rfl) ?_
              refine lv_aload_n hx hb d_Wrt_putChunk_125 rfl (lv_at hl 3 rfl) ?_
              refine w_getj (k := 13) (t := 5) (C := R_Wrt) (T := F_Wrt) (N := 20) hx hb hT hown hK hW fo.1 fo.2 (by decide) in_Wrt rfl rfl (by decide) rfl fr_Wrt_13 w_2_64 d_Wrt_putChunk_126 ?_
              refine lv_lload hx hb d_Wrt_putChunk_129 (lv_at hl 11 rfl) ?_
              have hF := hW.free hS hA
              refine va_calli (va_runV (C := R_Wrt) (As := [.int l4, .long (fJ x61 o 13), .long l9]) (rest := []) ⟨hx, hb, hml, hown, hT⟩ (k_Wrt_compare l dC dI cI cB cJ cZ ad NN E tM tC kK kV hNN H.size o l4 (fJ x61 o 13) l9 x61 fo hw) ⟨callB_of 3 hT (gw_in w_6_35) rfl rfl rfl (hT _ w_1_8) (hT _ w_6_32) (by decide +kernel) ⟨Nat.le_trans (by decide) hRf, Nat.le_trans (by decide) hRl⟩, hT _ w_6_34, hT _ ws_32⟩ ⟨PV.blind, va_recv hK hW.1 (ci := 5) (q0 := o) rfl (pic_obj fo.1 fo.2 (by decide)), PV.at _ hW hK hN hE hS hF⟩ rfl rfl hl.1 rfl (lv_room (Nat.le_of_ble_eq_true rfl)) d_Wrt_putChunk_131 ⟨(Nat.le_trans (Nat.le_add_right _ _) hRc), (Nat.le_trans (Nat.le_add_right _ _) hRs)⟩) hS (fun q _ h => hF q h) hF (fun r67 x66 t H locs ht hvm hw hB hz1 hk1 hS => ?_)
              have hW := Wd.back hB ht hF
              clear hB ht hF hz1 hk1 hvm
              refine lv_if_ge (tgt := 143) hx hb d_Wrt_putChunk_134 (by decide) (fun c68 => ?_) (fun c68 => ?_)
              · have hw := hw.1 c68
                exact t_Wrt_putChunk_143 hx hb hml hown hT hK hN hA hRf hRl hE hret hrec49 ad NN cells slots o l1 l2 l3 l4 l5 (l6 + 1) l7 l8 l9 l11 v50 l14 r48 k59 n60 x66 H locs ls hNN hag hRc hRs fo hw hW hS (lv_sub hl [3, 4, 5, 6, 7, 8, 0, 9, 10, 11, 12, 1, 13, 2] rfl)
              · have hw := hw.2 c68
                exact t_Wrt_putChunk_137 hx hb hml hown hT hK hN hA hRf hRl hE hret hrec49 ad NN cells slots o l1 l2 l3 l4 l5 (l6 + 1) l7 l8 l9 l11 v50 l14 r48 k59 n60 x66 H locs ls hNN hag hRc hRs fo hw hW hS (lv_sub hl [3, 4, 5, 6, 7, 8, 0, 9, 10, 11, 12, 1, 13, 2] rfl)
        · have hw := hw.2 c63
          refine lv_iconst (v := 0) hx hb d_Wrt_putChunk_108 (by decide) ?_
          exact hret 0 ad NN cells slots x61 H locs 109 ls d_Wrt_putChunk_109 rfl hag (Nat.le_trans (Nat.le_add_right _ _) hRc) (Nat.le_trans (Nat.le_add_right _ _) hRs) hw hW hS
      · have hw := hw.2 c49
        refine lv_iconst (v := 0) hx hb d_Wrt_putChunk_75 (by decide) ?_
        exact hret 0 ad NN cells slots x47 H locs 76 ls d_Wrt_putChunk_76 rfl hag (Nat.le_trans (Nat.le_add_right _ _) hRc) (Nat.le_trans (Nat.le_add_right _ _) hRs) hw hW hS
def wl_Wrt_putChunk_49 (post : Int32 → St → Prop) : Nat → Nat → Int32 → Int32 → Int32 → Int32 → Int32 → Int32 → Int32 → Int32 → Int64 → Int64 → Int32 → Int32 → Nat → Nat → St → Prop
  | 0 => fun _ _ _ _ _ _ _ _ _ _ _ _ _ _ _ _ => False
  | n + 1 => j_Wrt_putChunk_49 post (wl_Wrt_putChunk_49 post n)
set_option maxHeartbeats 4000000 in
set_option maxRecDepth 100000 in
theorem tl_Wrt_putChunk_49 {p : Program} {l : Launch} {e : Env} {R : Room} {s : State} {m : MethodId} {args : Array Value} {below : List Frame} {meth : Method} {c : Code} {Q : State → Prop} {dC : Nat → ClassId} {dI : Nat → Nat → Nat} {cI cB cJ cZ : ClassId} {A : Nat → Prop} {E : Heap} {tM tC : Nat} {kK kV : Nat → Nat} {ad0 : Nat → Nat} {NN0 : Nat} {post : Int32 → St → Prop} (hx : p.tables.exec = Jvm.exec) (hb : c.code = b_Wrt_putChunk) (hml : c.maxLocals = 16) (hown : s.vm.findClass R_Wrt = some m.cls) (hT : ∀ w ∈ TG, w.before args s = true) (hK : va_K (dC, dI) CL (TY cI cB cJ cZ) s) (hN : NW s) (hA : ∀ q : Nat, s.heap.size ≤ q → A q) (hRf : 8 ≤ R.frames) (hRl : 350 ≤ R.locals) (hE : CE E tM tC kK kV A s) (hret : ∀ (r : Int32) (ad : Nat → Nat) (NN cells slots : Nat) (x : St) (H : Heap) (locs : List Loc) (pc : Nat) (ls : Array Slot), decode b_Wrt_putChunk pc = .ok (.ireturn, 1) → narrow .boolean (.int r) = .int r → (NN0 ≤ NN ∧ ∀ o : Nat, o < NN0 → ad o = ad0 o) → cells ≤ R.cells → slots ≤ R.slots → post r x → Wd dC dI cI cB cJ cZ ad stC kcC NN A x H → va_S A s.heap H locs → W p l e R s m args below meth c H locs cells slots Q (F0 m pc ls [.int r]))  : ∀ n : Nat, ∀ (ad : Nat → Nat) (NN cells slots : Nat) (o : Nat) (l1 : Int32) (l2 : Int32) (l3 : Int32) (l4 : Int32) (l5 : Int32) (l6 : Int32) (l7 : Int32) (l8 : Int32) (l9 : Int64) (l11 : Int64) (l13 : Int32) (l14 : Int32) (kb : Nat) (nb : Nat) (x : St) (H : Heap) (locs : List Loc) (ls : Array Slot), (152 ≤ NN) → (NN0 ≤ NN ∧ ∀ o : Nat, o < NN0 → ad o = ad0 o) → (cells + kb ≤ R.cells) → (slots + nb ≤ R.slots) → (o < NN ∧ kcC o = 5) → wl_Wrt_putChunk_49 post n o l1 l2 l3 l4 l5 l6 l7 l8 l9 l11 l13 l14 kb nb x → Wd dC dI cI cB cJ cZ ad stC kcC NN A x H → va_S A s.heap H locs → lv_has ls 16 [(0, .ref (ad o)), (1, .int l1), (2, .int l2), (3, .int l3), (4, .int l4), (5, .int l5), (6, .int l6), (7, .int l7), (8, .int l8), (9, .long l9), (11, .long l11), (13, .int l13), (14, .int l14)] → W p l e R s m args below meth c H locs cells slots Q (F0 m 49 ls []) := by
  intro n
  induction n with
  | zero => intro ad NN cells slots o l1 l2 l3 l4 l5 l6 l7 l8 l9 l11 l13 l14 kb nb x H locs ls hNN hag hRc hRs fo hw; exact hw.elim
  | succ n ih => intro ad NN cells slots o l1 l2 l3 l4 l5 l6 l7 l8 l9 l11 l13 l14 kb nb x H locs ls hNN hag hRc hRs fo hw hW hS hl; exact t_Wrt_putChunk_49 hx hb hml hown hT hK hN hA hRf hRl hE hret  ih ad NN cells slots o l1 l2 l3 l4 l5 l6 l7 l8 l9 l11 l13 l14 kb nb x H locs ls hNN hag hRc hRs fo hw hW hS hl
set_option maxRecDepth 100000 in
def wp_Wrt_putChunk (post : Int32 → St → Prop) (o : Nat) (l1 : Int32) (l2 : Int32) (l3 : Int32) (kb : Nat) (nb : Nat) (x : St) : Prop := (∃ q69 : Nat, fR x o 5 = some q69 ∧ (∃ q70 : Nat, fR x o 5 = some q70 ∧ (vp_in l1 (fN x (stC q70 10)) ∧ (vp_in (rA x (stC q70 10) l1) (fN x (stC q69 3)) ∧ (∀ v71 : Int32, v71 = (rA x (stC q69 3) (rA x (stC q70 10) l1)) → (∃ q72 : Nat, fR x o 0 = some q72 ∧ (∀ v73 : Int32, v73 = (fI x q72 1) → ∃ n : Nat, wl_Wrt_putChunk_49 post n o l1 l2 l3 v71 v73 0 0 0 0 0 l2 0 kb nb x)))))))
set_option maxHeartbeats 4000000 in
set_option maxRecDepth 100000 in
theorem t_Wrt_putChunk_e {p : Program} {l : Launch} {e : Env} {R : Room} {s : State} {m : MethodId} {args : Array Value} {below : List Frame} {meth : Method} {c : Code} {Q : State → Prop} {dC : Nat → ClassId} {dI : Nat → Nat → Nat} {cI cB cJ cZ : ClassId} {A : Nat → Prop} {E : Heap} {tM tC : Nat} {kK kV : Nat → Nat} {ad0 : Nat → Nat} {NN0 : Nat} {post : Int32 → St → Prop} (hx : p.tables.exec = Jvm.exec) (hb : c.code = b_Wrt_putChunk) (hml : c.maxLocals = 16) (hown : s.vm.findClass R_Wrt = some m.cls) (hT : ∀ w ∈ TG, w.before args s = true) (hK : va_K (dC, dI) CL (TY cI cB cJ cZ) s) (hN : NW s) (hA : ∀ q : Nat, s.heap.size ≤ q → A q) (hRf : 8 ≤ R.frames) (hRl : 350 ≤ R.locals) (hE : CE E tM tC kK kV A s) (hret : ∀ (r : Int32) (ad : Nat → Nat) (NN cells slots : Nat) (x : St) (H : Heap) (locs : List Loc) (pc : Nat) (ls : Array Slot), decode b_Wrt_putChunk pc = .ok (.ireturn, 1) → narrow .boolean (.int r) = .int r → (NN0 ≤ NN ∧ ∀ o : Nat, o < NN0 → ad o = ad0 o) → cells ≤ R.cells → slots ≤ R.slots → post r x → Wd dC dI cI cB cJ cZ ad stC kcC NN A x H → va_S A s.heap H locs → W p l e R s m args below meth c H locs cells slots Q (F0 m pc ls [.int r])) : ∀ (ad : Nat → Nat) (NN cells slots : Nat) (o : Nat) (l1 : Int32) (l2 : Int32) (l3 : Int32) (kb : Nat) (nb : Nat) (x : St) (H : Heap) (locs : List Loc) (ls : Array Slot), (152 ≤ NN) → (NN0 ≤ NN ∧ ∀ o : Nat, o < NN0 → ad o = ad0 o) → (cells + kb ≤ R.cells) → (slots + nb ≤ R.slots) → (o < NN ∧ kcC o = 5) → wp_Wrt_putChunk post o l1 l2 l3 kb nb x → Wd dC dI cI cB cJ cZ ad stC kcC NN A x H → va_S A s.heap H locs → lv_has ls 16 [(0, .ref (ad o)), (1, .int l1), (2, .int l2), (3, .int l3)] → W p l e R s m args below meth c H locs cells slots Q (F0 m 0 ls []) := by
  intro ad NN cells slots o l1 l2 l3 kb nb x H locs ls hNN hag hRc hRs fo hw hW hS hl
  unfold wp_Wrt_putChunk at hw
  refine lv_aload_n hx hb d_Wrt_putChunk_0 rfl (lv_at hl 0 rfl) ?_
  obtain ⟨q69, hq69, hw⟩ := hw
  refine w_getr (q := q69) (k := 5) (t := 5) (C := R_Wrt) (T := F_Wrt) (N := 20) hx hb hT hown hK hW fo.1 fo.2 (by decide) in_Wrt rfl rfl (by decide) rfl fr_Wrt_5 w_2_56 d_Wrt_putChunk_1 hq69 (fun aq69 bq69 => ?_)
  have fq69 : q69 < NN ∧ kcC q69 = 3 := ⟨aq69, bq69⟩
  refine w_getf (q := (stC q69 3)) (k := 3) (t := 3) (C := R_Sch) (T := F_Sch) (N := 13) hx hb hT hown hK hW fq69.1 fq69.2 (by decide) in_Sch rfl rfl (by decide) rfl fr_Sch_3 w_1_146 d_Wrt_putChunk_4 rfl ?_
  refine lv_aload_n hx hb d_Wrt_putChunk_7 rfl (lv_at hl 0 rfl) ?_
  obtain ⟨q70, hq70, hw⟩ := hw
  refine w_getr (q := q70) (k := 5) (t := 5) (C := R_Wrt) (T := F_Wrt) (N := 20) hx hb hT hown hK hW fo.1 fo.2 (by decide) in_Wrt rfl rfl (by decide) rfl fr_Wrt_5 w_2_56 d_Wrt_putChunk_8 hq70 (fun aq70 bq70 => ?_)
  have fq70 : q70 < NN ∧ kcC q70 = 3 := ⟨aq70, bq70⟩
  refine w_getf (q := (stC q70 10)) (k := 10) (t := 3) (C := R_Sch) (T := F_Sch) (N := 13) hx hb hT hown hK hW fq70.1 fq70.2 (by decide) in_Sch rfl rfl (by decide) rfl fr_Sch_10 w_1_182 d_Wrt_putChunk_11 rfl ?_
  refine lv_iload_n hx hb d_Wrt_putChunk_14 rfl (lv_at hl 1 rfl) ?_
  obtain ⟨hi, hw⟩ := hw
  refine w_iald (o := (stC q70 10)) hx hb hK hW (st_ty hNN fq70.1 fq70.2 rfl).1 (st_ty hNN fq70.1 fq70.2 rfl).2 hi d_Wrt_putChunk_15 ?_
  obtain ⟨hi, hw⟩ := hw
  refine w_iald (o := (stC q69 3)) hx hb hK hW (st_ty hNN fq69.1 fq69.2 rfl).1 (st_ty hNN fq69.1 fq69.2 rfl).2 hi d_Wrt_putChunk_16 ?_
  refine lv_topi (fun v71 ev71 => ?_)
  have hw := hw v71 ev71
  refine lv_istore (lv' := [(4, .int v71), (0, .ref (ad o)), (1, .int l1), (2, .int l2), (3, .int l3)]) hx hb d_Wrt_putChunk_17 hl (by decide) rfl (fun ls hl => ?_)
  refine lv_aload_n hx hb d_Wrt_putChunk_19 rfl (lv_at hl 1 rfl) ?_
  obtain ⟨q72, hq72, hw⟩ := hw
  refine w_getr (q := q72) (k := 0) (t := 5) (C := R_Wrt) (T := F_Wrt) (N := 20) hx hb hT hown hK hW fo.1 fo.2 (by decide) in_Wrt rfl rfl (by decide) rfl fr_Wrt_0 w_2_51 d_Wrt_putChunk_20 hq72 (fun aq72 bq72 => ?_)
  have fq72 : q72 < NN ∧ kcC q72 = 1 := ⟨aq72, bq72⟩
  refine w_geti (k := 1) (t := 1) (C := R_Snk) (T := F_Snk) (N := 7) hx hb hT hown hK hW fq72.1 fq72.2 (by decide) in_Snk rfl rfl (by decide) rfl fr_Snk_1 w_1_46 d_Wrt_putChunk_23 ?_
  refine lv_topi (fun v73 ev73 => ?_)
  have hw := hw v73 ev73
  refine lv_istore (lv' := [(5, .int v73), (4, .int v71), (0, .ref (ad o)), (1, .int l1), (2, .int l2), (3, .int l3)]) hx hb d_Wrt_putChunk_26 hl (by decide) rfl (fun ls hl => ?_)
  refine lv_iconst (v := 0) hx hb d_Wrt_putChunk_28 (by decide) ?_
  refine lv_istore (lv' := [(6, .int 0), (5, .int v73), (4, .int v71), (0, .ref (ad o)), (1, .int l1), (2, .int l2), (3, .int l3)]) hx hb d_Wrt_putChunk_29 hl (by decide) rfl (fun ls hl => ?_)
  refine lv_iconst (v := 0) hx hb d_Wrt_putChunk_31 (by decide) ?_
  refine lv_istore (lv' := [(7, .int 0), (6, .int 0), (5, .int v73), (4, .int v71), (0, .ref (ad o)), (1, .int l1), (2, .int l2), (3, .int l3)]) hx hb d_Wrt_putChunk_32 hl (by decide) rfl (fun ls hl => ?_)
  refine lv_iconst (v := 0) hx hb d_Wrt_putChunk_34 (by decide) ?_
  refine lv_istore (lv' := [(8, .int 0), (7, .int 0), (6, .int 0), (5, .int v73), (4, .int v71), (0, .ref (ad o)), (1, .int l1), (2, .int l2), (3, .int l3)]) hx hb d_Wrt_putChunk_35 hl (by decide) rfl (fun ls hl => ?_)
  refine lv_lconst (v := 0) hx hb d_Wrt_putChunk_37 (by decide) ?_
  refine lv_lstore (lv' := [(9, .long 0), (8, .int 0), (7, .int 0), (6, .int 0), (5, .int v73), (4, .int v71), (0, .ref (ad o)), (1, .int l1), (2, .int l2), (3, .int l3)]) hx hb d_Wrt_putChunk_38 hl (by decide) rfl (fun ls hl => ?_)
  refine lv_lconst (v := 0) hx hb d_Wrt_putChunk_40 (by decide) ?_
  refine lv_lstore (lv' := [(11, .long 0), (9, .long 0), (8, .int 0), (7, .int 0), (6, .int 0), (5, .int v73), (4, .int v71), (0, .ref (ad o)), (1, .int l1), (2, .int l2), (3, .int l3)]) hx hb d_Wrt_putChunk_41 hl (by decide) rfl (fun ls hl => ?_)
  refine lv_iload_n hx hb d_Wrt_putChunk_43 rfl (lv_at hl 9 rfl) ?_
  refine lv_istore (lv' := [(13, .int l2), (11, .long 0), (9, .long 0), (8, .int 0), (7, .int 0), (6, .int 0), (5, .int v73), (4, .int v71), (0, .ref (ad o)), (1, .int l1), (2, .int l2), (3, .int l3)]) hx hb d_Wrt_putChunk_44 hl (by decide) rfl (fun ls hl => ?_)
  refine lv_iconst (v := 0) hx hb d_Wrt_putChunk_46 (by decide) ?_
  refine lv_istore (lv' := [(14, .int 0), (13, .int l2), (11, .long 0), (9, .long 0), (8, .int 0), (7, .int 0), (6, .int 0), (5, .int v73), (4, .int v71), (0, .ref (ad o)), (1, .int l1), (2, .int l2), (3, .int l3)]) hx hb d_Wrt_putChunk_47 hl (by decide) rfl (fun ls hl => ?_)
  obtain ⟨n, hw⟩ := hw
  exact tl_Wrt_putChunk_49 hx hb hml hown hT hK hN hA hRf hRl hE hret  n ad NN cells slots o l1 l2 l3 v71 v73 0 0 0 0 0 l2 0 kb nb x H locs ls hNN hag hRc hRs fo hw hW hS (lv_sub hl [9, 10, 11, 12, 8, 7, 6, 5, 4, 3, 2, 1, 0] rfl)
set_option maxHeartbeats 4000000 in
set_option maxRecDepth 100000 in
theorem k_Wrt_putChunk (l : Launch) (dC : Nat → ClassId) (dI : Nat → Nat → Nat) (cI cB cJ cZ : ClassId) (ad : Nat → Nat) (NN : Nat) (E : Heap) (tM tC : Nat) (kK kV : Nat → Nat) (hNN : 152 ≤ NN) (sz : Nat) (o : Nat) (l1 : Int32) (l2 : Int32) (l3 : Int32) (kb : Nat) (nb : Nat) (x : St) (fo : o < NN ∧ kcC o = 5) {post : Int32 → St → Prop} (hw : wp_Wrt_putChunk post o l1 l2 l3 kb nb x) : Met l y_Wrt_putChunk (wsOf y_Wrt_putChunk b_Wrt_putChunk 16 (some (.boolean))) ({ frames := 8, cells := kb, slots := nb, locals := 350 }) (va_Pc [.ref (ad o), .int l1, .int l2, .int l3] (PV dC dI cI cB cJ cZ ad stC kcC NN E tM tC kK kV sz x)) (va_Qi (fun (r : Int32) (u : St × (Nat → Nat) × Nat) => post r u.1) (fun u t => Wd dC dI cI cB cJ cZ u.2.1 stC kcC u.2.2 (va_A (pic ad stC kcC NN cI cB cJ cZ x) sz) u.1 t.heap ∧ NN ≤ u.2.2 ∧ ∀ o : Nat, o < NN → u.2.1 o = ad o) (va_A (pic ad stC kcC NN cI cB cJ cZ x) sz)) kb nb (va_A (pic ad stC kcC NN cI cB cJ cZ x) sz) := by
  refine Met.ofW (cc := b_Wrt_putChunk) (maxL := 16) (ret := some (.boolean)) (by decide) rfl ?_
  intro p e s m args below meth c s₁ B hml hv
  obtain ⟨rfl, ⟨hsz, hW0, hK, hN⟩, hE⟩ := hv
  have hx := B.exec
  have hb := B.bytes
  have hr := B.returns
  have hts := atoms_spec B.pre
  have hT : ∀ w ∈ TG, w.before _ s = true := fun w h => hts w (List.mem_cons_of_mem _ h)
  have hown : s.vm.findClass R_Wrt = some m.cls := findClass_of_methodNamed B.named
  have hlocks := B.notSynchronized
  subst hsz
  have hW : Wd dC dI cI cB cJ cZ ad stC kcC NN (va_A (pic ad stC kcC NN cI cB cJ cZ x) s.heap.size) x s.heap := ⟨hW0.1, hW0.2.1.self (sz := s.heap.size), hW0.2.2⟩
  generalize hAe : va_A (pic ad stC kcC NN cI cB cJ cZ x) s.heap.size = A at hW hE ⊢
  have hA : ∀ q : Nat, s.heap.size ≤ q → A q := fun q h => by rw [← hAe]; exact Or.inr h
  have hS : va_S A s.heap s.heap [] := va_S.rf
  have hl := lv_entry ([.ref (ad o), .int l1, .int l2, .int l3]) (n := 16) (Nat.le_of_ble_eq_true rfl)
  rw [lg_entry_eq]
  generalize (lg_sl ([.ref (ad o), .int l1, .int l2, .int l3]) ++ List.replicate (16 - (lg_sl ([.ref (ad o), .int l1, .int l2, .int l3])).length) Slot.unset).toArray = ls at hl ⊢
  have hl : lv_has ls 16 [(0, .ref (ad o)), (1, .int l1), (2, .int l2), (3, .int l3)] := hl
  exact t_Wrt_putChunk_e hx hb hml hown hT hK hN hA (Nat.le_refl 8) (Nat.le_refl 350) hE (fun r ad1 NN1 cells slots x1 H locs pc ls hd hz hag hc hs hp hW hS => W.widen (k := kb) (n := nb) hc hs (W.zret (v := r) (ty := .boolean) hx hb hr hz (fun t ht hM => ⟨⟨r, (x1, ad1, NN1), rfl, hp, Wd.back hW ht.symm (fun _ z => z), hag.1, hag.2⟩, hS.F ht⟩) hS.2.2 hd hlocks))  ad NN 0 0 o l1 l2 l3 kb nb x _ _ ls hNN ⟨Nat.le_refl _, fun _ _ => rfl⟩ (Nat.le_of_eq (Nat.zero_add kb)) (Nat.le_of_eq (Nat.zero_add nb)) fo hw hW hS hl
end
