theorem fr_Qry_13 : F_Qry 13 = (R_Qry, "literals", "I", false) := rfl
theorem fr_Qry_15 : F_Qry 15 = (R_Qry, "textEnd", "I", false) := rfl
theorem fr_Qry_8 : F_Qry 8 = (R_Qry, "steps", "I", false) := rfl
theorem w_1_103 : (Jvm.Cond.fieldLink "StripedVault$Query" (262 : Nat) "StripedVault$Scan" "number" "J") ∈ TG := tw_1 103 (by decide +kernel) (by decide +kernel)
theorem w_1_106 : (Jvm.Cond.fieldLink "StripedVault$Query" (248 : Nat) "StripedVault$Scan" "textSize" "I") ∈ TG := tw_1 106 (by decide +kernel) (by decide +kernel)
theorem w_3_102 : (Jvm.Cond.fieldLink "StripedVault$Query" (72 : Nat) "StripedVault$Query" "textEnd" "I") ∈ TG := tw_3 102 (by decide +kernel) (by decide +kernel)
theorem w_3_89 : (Jvm.Cond.fieldLink "StripedVault$Query" (66 : Nat) "StripedVault$Query" "steps" "I") ∈ TG := tw_3 89 (by decide +kernel) (by decide +kernel)
theorem w_3_99 : (Jvm.Cond.fieldLink "StripedVault$Query" (69 : Nat) "StripedVault$Query" "literals" "I") ∈ TG := tw_3 99 (by decide +kernel) (by decide +kernel)
theorem w_7_150 : (Jvm.Cond.methodLink "StripedVault$Query" (126 : Nat) ({ cls := "StripedVault$Query", name := "readItem", desc := "()V" } : Jvm.MethodName)) ∈ TG := tw_7 150 (by decide +kernel) (by decide +kernel)
theorem w_7_152 : (Jvm.Cond.instanceMethod ({ cls := "StripedVault$Query", name := "readItem", desc := "()V" } : Jvm.MethodName)) ∈ TG := tw_7 152 (by decide +kernel) (by decide +kernel)
theorem w_7_153 : (Jvm.Cond.code ({ cls := "StripedVault$Query", name := "readItem", desc := "()V" } : Jvm.MethodName) prog_5_method_6_code (3 : Nat) (Option.none : Option Jvm.ClassFile.FieldType)) ∈ TG := tw_7 153 (by decide +kernel) (by decide +kernel)
theorem w_7_199 : (Jvm.Cond.methodLink "StripedVault$Query" (129 : Nat) ({ cls := "StripedVault$Scan", name := "takeSign", desc := "(C)Z" } : Jvm.MethodName)) ∈ TG := tw_7 199 (by decide +kernel) (by decide +kernel)
theorem w_7_216 : (Jvm.Cond.methodLink "StripedVault$Query" (232 : Nat) ({ cls := "StripedVault$Query", name := "readLiteral", desc := "(I)V" } : Jvm.MethodName)) ∈ TG := tw_7 216 (by decide +kernel) (by decide +kernel)
theorem w_7_218 : (Jvm.Cond.instanceMethod ({ cls := "StripedVault$Query", name := "readLiteral", desc := "(I)V" } : Jvm.MethodName)) ∈ TG := tw_7 218 (by decide +kernel) (by decide +kernel)
theorem w_7_219 : (Jvm.Cond.code ({ cls := "StripedVault$Query", name := "readLiteral", desc := "(I)V" } : Jvm.MethodName) prog_5_method_21_code (7 : Nat) (Option.none : Option Jvm.ClassFile.FieldType)) ∈ TG := tw_7 219 (by decide +kernel) (by decide +kernel)
theorem w_7_220 : (Jvm.Cond.methodLink "StripedVault$Query" (244 : Nat) ({ cls := "StripedVault$Scan", name := "readQuoted", desc := "([BI)V" } : Jvm.MethodName)) ∈ TG := tw_7 220 (by decide +kernel) (by decide +kernel)
theorem w_7_222 : (Jvm.Cond.methodLink "StripedVault$Query" (255 : Nat) ({ cls := "StripedVault$Scan", name := "atNumber", desc := "()Z" } : Jvm.MethodName)) ∈ TG := tw_7 222 (by decide +kernel) (by decide +kernel)
theorem w_7_223 : (Jvm.Cond.methodLink "StripedVault$Query" (258 : Nat) ({ cls := "StripedVault$Scan", name := "readNumber", desc := "(Z)V" } : Jvm.MethodName)) ∈ TG := tw_7 223 (by decide +kernel) (by decide +kernel)
theorem wn_7_221 : (Jvm.Cond.methodLinkNest "StripedVault$Query" (251 : Nat) ({ cls := "StripedVault", name := "reference", desc := "(II)J" } : Jvm.MethodName) "StripedVault") ∈ lw_tbl := tb_7 _ (List.mem_of_getElem? (i := 221) (by decide +kernel))
theorem ws_69 : Cond.selects R_Qry y_Qry_readItem y_Qry_readItem ∈ TG := tw_s 69 (by decide +kernel) (by decide +kernel)
theorem ws_78 : Cond.selects R_Qry y_Qry_readLiteral y_Qry_readLiteral ∈ TG := tw_s 78 (by decide +kernel) (by decide +kernel)
theorem d_Qry_readItems_109 : decode b_Qry_readItems 109 = .ok (.istore_n 1, 1) := by decide +kernel
theorem d_Qry_readItems_110 : decode b_Qry_readItems 110 = .ok (.iinc 2 1, 3) := by decide +kernel
theorem d_Qry_readItems_113 : decode b_Qry_readItems 113 = .ok (.goto (-103), 3) := by decide +kernel
theorem d_Qry_readItems_108 : decode b_Qry_readItems 108 = .ok (.iconst 0, 1) := by decide +kernel
theorem d_Qry_readItems_10 : decode b_Qry_readItems 10 = .ok (.iload_n 2, 1) := by decide +kernel
theorem d_Qry_readItems_11 : decode b_Qry_readItems 11 = .ok (.bipush 16, 2) := by decide +kernel
theorem d_Qry_readItems_13 : decode b_Qry_readItems 13 = .ok (.if_icmp .gt 103, 3) := by decide +kernel
theorem d_Qry_readItems_116 : decode b_Qry_readItems 116 = .ok (.return_, 1) := by decide +kernel
theorem d_Qry_readItems_16 : decode b_Qry_readItems 16 = .ok (.iload_n 1, 1) := by decide +kernel
theorem d_Qry_readItems_17 : decode b_Qry_readItems 17 = .ok (.ifCond .eq 99, 3) := by decide +kernel
theorem d_Qry_readItems_20 : decode b_Qry_readItems 20 = .ok (.aload_n 0, 1) := by decide +kernel
theorem d_Qry_readItems_21 : decode b_Qry_readItems 21 = .ok (.getfield 44, 3) := by decide +kernel
theorem d_Qry_readItems_24 : decode b_Qry_readItems 24 = .ok (.invokevirtual 106, 3) := by decide +kernel
theorem d_Qry_readItems_27 : decode b_Qry_readItems 27 = .ok (.pop, 1) := by decide +kernel
theorem d_Qry_readItems_28 : decode b_Qry_readItems 28 = .ok (.aload_n 0, 1) := by decide +kernel
theorem d_Qry_readItems_29 : decode b_Qry_readItems 29 = .ok (.getfield 56, 3) := by decide +kernel
theorem d_Qry_readItems_32 : decode b_Qry_readItems 32 = .ok (.bipush 16, 2) := by decide +kernel
theorem d_Qry_readItems_34 : decode b_Qry_readItems 34 = .ok (.if_icmp .lt 18, 3) := by decide +kernel
theorem d_Qry_readItems_52 : decode b_Qry_readItems 52 = .ok (.aload_n 0, 1) := by decide +kernel
theorem d_Qry_readItems_53 : decode b_Qry_readItems 53 = .ok (.getfield 18, 3) := by decide +kernel
theorem d_Qry_readItems_56 : decode b_Qry_readItems 56 = .ok (.aload_n 0, 1) := by decide +kernel
theorem d_Qry_readItems_57 : decode b_Qry_readItems 57 = .ok (.getfield 56, 3) := by decide +kernel
theorem d_Qry_readItems_60 : decode b_Qry_readItems 60 = .ok (.aload_n 0, 1) := by decide +kernel
theorem d_Qry_readItems_61 : decode b_Qry_readItems 61 = .ok (.getfield 44, 3) := by decide +kernel
theorem d_Qry_readItems_64 : decode b_Qry_readItems 64 = .ok (.getfield 110, 3) := by decide +kernel
theorem d_Qry_readItems_67 : decode b_Qry_readItems 67 = .ok (.iastore, 1) := by decide +kernel
theorem d_Qry_readItems_68 : decode b_Qry_readItems 68 = .ok (.aload_n 0, 1) := by decide +kernel
theorem d_Qry_readItems_69 : decode b_Qry_readItems 69 = .ok (.invokevirtual 126, 3) := by decide +kernel
theorem d_Qry_readItems_72 : decode b_Qry_readItems 72 = .ok (.aload_n 0, 1) := by decide +kernel
theorem d_Qry_readItems_73 : decode b_Qry_readItems 73 = .ok (.dup, 1) := by decide +kernel
theorem d_Qry_readItems_74 : decode b_Qry_readItems 74 = .ok (.getfield 56, 3) := by decide +kernel
theorem d_Qry_readItems_77 : decode b_Qry_readItems 77 = .ok (.iconst 1, 1) := by decide +kernel
theorem d_Qry_readItems_78 : decode b_Qry_readItems 78 = .ok (.iadd, 1) := by decide +kernel
theorem d_Qry_readItems_79 : decode b_Qry_readItems 79 = .ok (.putfield 56, 3) := by decide +kernel
theorem d_Qry_readItems_82 : decode b_Qry_readItems 82 = .ok (.aload_n 0, 1) := by decide +kernel
theorem d_Qry_readItems_83 : decode b_Qry_readItems 83 = .ok (.getfield 44, 3) := by decide +kernel
theorem d_Qry_readItems_86 : decode b_Qry_readItems 86 = .ok (.invokevirtual 86, 3) := by decide +kernel
theorem d_Qry_readItems_89 : decode b_Qry_readItems 89 = .ok (.ifCond .eq 19, 3) := by decide +kernel
theorem d_Qry_readItems_92 : decode b_Qry_readItems 92 = .ok (.aload_n 0, 1) := by decide +kernel
theorem d_Qry_readItems_93 : decode b_Qry_readItems 93 = .ok (.getfield 44, 3) := by decide +kernel
theorem d_Qry_readItems_96 : decode b_Qry_readItems 96 = .ok (.bipush 44, 2) := by decide +kernel
theorem d_Qry_readItems_98 : decode b_Qry_readItems 98 = .ok (.invokevirtual 129, 3) := by decide +kernel
theorem d_Qry_readItems_101 : decode b_Qry_readItems 101 = .ok (.ifCond .eq 7, 3) := by decide +kernel
theorem d_Qry_readItems_104 : decode b_Qry_readItems 104 = .ok (.iconst 1, 1) := by decide +kernel
theorem d_Qry_readItems_105 : decode b_Qry_readItems 105 = .ok (.goto 4, 3) := by decide +kernel
theorem d_Qry_readItems_37 : decode b_Qry_readItems 37 = .ok (.aload_n 0, 1) := by decide +kernel
theorem d_Qry_readItems_38 : decode b_Qry_readItems 38 = .ok (.getfield 44, 3) := by decide +kernel
theorem d_Qry_readItems_41 : decode b_Qry_readItems 41 = .ok (.aload_n 0, 1) := by decide +kernel
theorem d_Qry_readItems_42 : decode b_Qry_readItems 42 = .ok (.getfield 44, 3) := by decide +kernel
theorem d_Qry_readItems_45 : decode b_Qry_readItems 45 = .ok (.getfield 110, 3) := by decide +kernel
theorem d_Qry_readItems_48 : decode b_Qry_readItems 48 = .ok (.invokevirtual 113, 3) := by decide +kernel
theorem d_Qry_readItems_51 : decode b_Qry_readItems 51 = .ok (.return_, 1) := by decide +kernel
theorem d_Qry_readItems_0 : decode b_Qry_readItems 0 = .ok (.aload_n 0, 1) := by decide +kernel
theorem d_Qry_readItems_1 : decode b_Qry_readItems 1 = .ok (.getfield 44, 3) := by decide +kernel
theorem d_Qry_readItems_4 : decode b_Qry_readItems 4 = .ok (.invokevirtual 86, 3) := by decide +kernel
theorem d_Qry_readItems_7 : decode b_Qry_readItems 7 = .ok (.istore_n 1, 1) := by decide +kernel
theorem d_Qry_readItems_8 : decode b_Qry_readItems 8 = .ok (.iconst 0, 1) := by decide +kernel
theorem d_Qry_readItems_9 : decode b_Qry_readItems 9 = .ok (.istore_n 2, 1) := by decide +kernel
theorem d_Qry_addStep_0 : decode b_Qry_addStep 0 = .ok (.aload_n 0, 1) := by decide +kernel
theorem d_Qry_addStep_1 : decode b_Qry_addStep 1 = .ok (.getfield 44, 3) := by decide +kernel
theorem d_Qry_addStep_4 : decode b_Qry_addStep 4 = .ok (.invokevirtual 86, 3) := by decide +kernel
theorem d_Qry_addStep_7 : decode b_Qry_addStep 7 = .ok (.ifCond .ne 4, 3) := by decide +kernel
theorem d_Qry_addStep_11 : decode b_Qry_addStep 11 = .ok (.aload_n 0, 1) := by decide +kernel
theorem d_Qry_addStep_12 : decode b_Qry_addStep 12 = .ok (.getfield 66, 3) := by decide +kernel
theorem d_Qry_addStep_15 : decode b_Qry_addStep 15 = .ok (.bipush 64, 2) := by decide +kernel
theorem d_Qry_addStep_17 : decode b_Qry_addStep 17 = .ok (.if_icmp .lt 12, 3) := by decide +kernel
theorem d_Qry_addStep_29 : decode b_Qry_addStep 29 = .ok (.aload_n 0, 1) := by decide +kernel
theorem d_Qry_addStep_30 : decode b_Qry_addStep 30 = .ok (.getfield 24, 3) := by decide +kernel
theorem d_Qry_addStep_33 : decode b_Qry_addStep 33 = .ok (.aload_n 0, 1) := by decide +kernel
theorem d_Qry_addStep_34 : decode b_Qry_addStep 34 = .ok (.getfield 66, 3) := by decide +kernel
theorem d_Qry_addStep_37 : decode b_Qry_addStep 37 = .ok (.iload_n 1, 1) := by decide +kernel
theorem d_Qry_addStep_38 : decode b_Qry_addStep 38 = .ok (.iastore, 1) := by decide +kernel
theorem d_Qry_addStep_39 : decode b_Qry_addStep 39 = .ok (.aload_n 0, 1) := by decide +kernel
theorem d_Qry_addStep_40 : decode b_Qry_addStep 40 = .ok (.getfield 27, 3) := by decide +kernel
theorem d_Qry_addStep_43 : decode b_Qry_addStep 43 = .ok (.aload_n 0, 1) := by decide +kernel
theorem d_Qry_addStep_44 : decode b_Qry_addStep 44 = .ok (.getfield 66, 3) := by decide +kernel
theorem d_Qry_addStep_47 : decode b_Qry_addStep 47 = .ok (.iload_n 3, 1) := by decide +kernel
theorem d_Qry_addStep_48 : decode b_Qry_addStep 48 = .ok (.iastore, 1) := by decide +kernel
theorem d_Qry_addStep_49 : decode b_Qry_addStep 49 = .ok (.aload_n 0, 1) := by decide +kernel
theorem d_Qry_addStep_50 : decode b_Qry_addStep 50 = .ok (.getfield 30, 3) := by decide +kernel
theorem d_Qry_addStep_53 : decode b_Qry_addStep 53 = .ok (.aload_n 0, 1) := by decide +kernel
theorem d_Qry_addStep_54 : decode b_Qry_addStep 54 = .ok (.getfield 66, 3) := by decide +kernel
theorem d_Qry_addStep_57 : decode b_Qry_addStep 57 = .ok (.iload 4, 2) := by decide +kernel
theorem d_Qry_addStep_59 : decode b_Qry_addStep 59 = .ok (.iastore, 1) := by decide +kernel
theorem d_Qry_addStep_60 : decode b_Qry_addStep 60 = .ok (.aload_n 0, 1) := by decide +kernel
theorem d_Qry_addStep_61 : decode b_Qry_addStep 61 = .ok (.getfield 33, 3) := by decide +kernel
theorem d_Qry_addStep_64 : decode b_Qry_addStep 64 = .ok (.aload_n 0, 1) := by decide +kernel
theorem d_Qry_addStep_65 : decode b_Qry_addStep 65 = .ok (.getfield 66, 3) := by decide +kernel
theorem d_Qry_addStep_68 : decode b_Qry_addStep 68 = .ok (.iload 5, 2) := by decide +kernel
theorem d_Qry_addStep_70 : decode b_Qry_addStep 70 = .ok (.iastore, 1) := by decide +kernel
theorem d_Qry_addStep_71 : decode b_Qry_addStep 71 = .ok (.aload_n 0, 1) := by decide +kernel
theorem d_Qry_addStep_72 : decode b_Qry_addStep 72 = .ok (.dup, 1) := by decide +kernel
theorem d_Qry_addStep_73 : decode b_Qry_addStep 73 = .ok (.getfield 66, 3) := by decide +kernel
theorem d_Qry_addStep_76 : decode b_Qry_addStep 76 = .ok (.iconst 1, 1) := by decide +kernel
theorem d_Qry_addStep_77 : decode b_Qry_addStep 77 = .ok (.iadd, 1) := by decide +kernel
theorem d_Qry_addStep_78 : decode b_Qry_addStep 78 = .ok (.putfield 66, 3) := by decide +kernel
theorem d_Qry_addStep_81 : decode b_Qry_addStep 81 = .ok (.return_, 1) := by decide +kernel
theorem d_Qry_addStep_20 : decode b_Qry_addStep 20 = .ok (.aload_n 0, 1) := by decide +kernel
theorem d_Qry_addStep_21 : decode b_Qry_addStep 21 = .ok (.getfield 44, 3) := by decide +kernel
theorem d_Qry_addStep_24 : decode b_Qry_addStep 24 = .ok (.iload_n 2, 1) := by decide +kernel
theorem d_Qry_addStep_25 : decode b_Qry_addStep 25 = .ok (.invokevirtual 113, 3) := by decide +kernel
theorem d_Qry_addStep_28 : decode b_Qry_addStep 28 = .ok (.return_, 1) := by decide +kernel
theorem d_Qry_addStep_10 : decode b_Qry_addStep 10 = .ok (.return_, 1) := by decide +kernel
theorem d_Qry_readLiteral_202 : decode b_Qry_readLiteral 202 = .ok (.aload_n 0, 1) := by decide +kernel
theorem d_Qry_readLiteral_203 : decode b_Qry_readLiteral 203 = .ok (.getfield 44, 3) := by decide +kernel
theorem d_Qry_readLiteral_206 : decode b_Qry_readLiteral 206 = .ok (.invokevirtual 86, 3) := by decide +kernel
theorem d_Qry_readLiteral_209 : decode b_Qry_readLiteral 209 = .ok (.ifCond .eq 24, 3) := by decide +kernel
theorem d_Qry_readLiteral_233 : decode b_Qry_readLiteral 233 = .ok (.return_, 1) := by decide +kernel
theorem d_Qry_readLiteral_212 : decode b_Qry_readLiteral 212 = .ok (.aload_n 0, 1) := by decide +kernel
theorem d_Qry_readLiteral_213 : decode b_Qry_readLiteral 213 = .ok (.getfield 36, 3) := by decide +kernel
theorem d_Qry_readLiteral_216 : decode b_Qry_readLiteral 216 = .ok (.aload_n 0, 1) := by decide +kernel
theorem d_Qry_readLiteral_217 : decode b_Qry_readLiteral 217 = .ok (.getfield 69, 3) := by decide +kernel
theorem d_Qry_readLiteral_220 : decode b_Qry_readLiteral 220 = .ok (.lload 5, 2) := by decide +kernel
theorem d_Qry_readLiteral_222 : decode b_Qry_readLiteral 222 = .ok (.lastore, 1) := by decide +kernel
theorem d_Qry_readLiteral_223 : decode b_Qry_readLiteral 223 = .ok (.aload_n 0, 1) := by decide +kernel
theorem d_Qry_readLiteral_224 : decode b_Qry_readLiteral 224 = .ok (.dup, 1) := by decide +kernel
theorem d_Qry_readLiteral_225 : decode b_Qry_readLiteral 225 = .ok (.getfield 69, 3) := by decide +kernel
theorem d_Qry_readLiteral_228 : decode b_Qry_readLiteral 228 = .ok (.iconst 1, 1) := by decide +kernel
theorem d_Qry_readLiteral_229 : decode b_Qry_readLiteral 229 = .ok (.iadd, 1) := by decide +kernel
theorem d_Qry_readLiteral_230 : decode b_Qry_readLiteral 230 = .ok (.putfield 69, 3) := by decide +kernel
theorem d_Qry_readLiteral_194 : decode b_Qry_readLiteral 194 = .ok (.aload_n 0, 1) := by decide +kernel
theorem d_Qry_readLiteral_195 : decode b_Qry_readLiteral 195 = .ok (.getfield 44, 3) := by decide +kernel
theorem d_Qry_readLiteral_198 : decode b_Qry_readLiteral 198 = .ok (.iload_n 3, 1) := by decide +kernel
theorem d_Qry_readLiteral_199 : decode b_Qry_readLiteral 199 = .ok (.invokevirtual 113, 3) := by decide +kernel
theorem d_Qry_readLiteral_180 : decode b_Qry_readLiteral 180 = .ok (.iload 4, 2) := by decide +kernel
theorem d_Qry_readLiteral_182 : decode b_Qry_readLiteral 182 = .ok (.ifCond .eq 12, 3) := by decide +kernel
theorem d_Qry_readLiteral_185 : decode b_Qry_readLiteral 185 = .ok (.aload_n 0, 1) := by decide +kernel
theorem d_Qry_readLiteral_186 : decode b_Qry_readLiteral 186 = .ok (.getfield 69, 3) := by decide +kernel
theorem d_Qry_readLiteral_189 : decode b_Qry_readLiteral 189 = .ok (.bipush 64, 2) := by decide +kernel
theorem d_Qry_readLiteral_191 : decode b_Qry_readLiteral 191 = .ok (.if_icmp .lt 11, 3) := by decide +kernel
theorem d_Qry_readLiteral_178 : decode b_Qry_readLiteral 178 = .ok (.istore 4, 2) := by decide +kernel
theorem d_Qry_readLiteral_169 : decode b_Qry_readLiteral 169 = .ok (.iload_n 1, 1) := by decide +kernel
theorem d_Qry_readLiteral_170 : decode b_Qry_readLiteral 170 = .ok (.ifCond .ne 7, 3) := by decide +kernel
theorem d_Qry_readLiteral_177 : decode b_Qry_readLiteral 177 = .ok (.iconst 0, 1) := by decide +kernel
theorem d_Qry_readLiteral_173 : decode b_Qry_readLiteral 173 = .ok (.iconst 1, 1) := by decide +kernel
theorem d_Qry_readLiteral_174 : decode b_Qry_readLiteral 174 = .ok (.goto 4, 3) := by decide +kernel
theorem d_Qry_readLiteral_140 : decode b_Qry_readLiteral 140 = .ok (.lstore 5, 2) := by decide +kernel
theorem d_Qry_readLiteral_142 : decode b_Qry_readLiteral 142 = .ok (.lload 5, 2) := by decide +kernel
theorem d_Qry_readLiteral_144 : decode b_Qry_readLiteral 144 = .ok (.lconst 0, 1) := by decide +kernel
theorem d_Qry_readLiteral_145 : decode b_Qry_readLiteral 145 = .ok (.lcmp, 1) := by decide +kernel
theorem d_Qry_readLiteral_146 : decode b_Qry_readLiteral 146 = .ok (.ifCond .ne 23, 3) := by decide +kernel
theorem d_Qry_readLiteral_149 : decode b_Qry_readLiteral 149 = .ok (.aload_n 0, 1) := by decide +kernel
theorem d_Qry_readLiteral_150 : decode b_Qry_readLiteral 150 = .ok (.getfield 44, 3) := by decide +kernel
theorem d_Qry_readLiteral_153 : decode b_Qry_readLiteral 153 = .ok (.ldc 210, 2) := by decide +kernel
theorem d_Qry_readLiteral_155 : decode b_Qry_readLiteral 155 = .ok (.invokevirtual 92, 3) := by decide +kernel
theorem d_Qry_readLiteral_158 : decode b_Qry_readLiteral 158 = .ok (.ifCond .ne 11, 3) := by decide +kernel
theorem d_Qry_readLiteral_161 : decode b_Qry_readLiteral 161 = .ok (.aload_n 0, 1) := by decide +kernel
theorem d_Qry_readLiteral_162 : decode b_Qry_readLiteral 162 = .ok (.getfield 44, 3) := by decide +kernel
theorem d_Qry_readLiteral_165 : decode b_Qry_readLiteral 165 = .ok (.iload_n 3, 1) := by decide +kernel
theorem d_Qry_readLiteral_166 : decode b_Qry_readLiteral 166 = .ok (.invokevirtual 113, 3) := by decide +kernel
theorem d_Qry_readLiteral_82 : decode b_Qry_readLiteral 82 = .ok (.istore 4, 2) := by decide +kernel
theorem d_Qry_readLiteral_84 : decode b_Qry_readLiteral 84 = .ok (.goto 96, 3) := by decide +kernel
theorem d_Qry_readLiteral_0 : decode b_Qry_readLiteral 0 = .ok (.aload_n 0, 1) := by decide +kernel
theorem d_Qry_readLiteral_1 : decode b_Qry_readLiteral 1 = .ok (.getfield 44, 3) := by decide +kernel
theorem d_Qry_readLiteral_4 : decode b_Qry_readLiteral 4 = .ok (.invokevirtual 106, 3) := by decide +kernel
theorem d_Qry_readLiteral_7 : decode b_Qry_readLiteral 7 = .ok (.istore_n 2, 1) := by decide +kernel
theorem d_Qry_readLiteral_8 : decode b_Qry_readLiteral 8 = .ok (.aload_n 0, 1) := by decide +kernel
theorem d_Qry_readLiteral_9 : decode b_Qry_readLiteral 9 = .ok (.getfield 44, 3) := by decide +kernel
theorem d_Qry_readLiteral_12 : decode b_Qry_readLiteral 12 = .ok (.getfield 110, 3) := by decide +kernel
theorem d_Qry_readLiteral_15 : decode b_Qry_readLiteral 15 = .ok (.istore_n 3, 1) := by decide +kernel
theorem d_Qry_readLiteral_16 : decode b_Qry_readLiteral 16 = .ok (.lconst 0, 1) := by decide +kernel
theorem d_Qry_readLiteral_17 : decode b_Qry_readLiteral 17 = .ok (.lstore 5, 2) := by decide +kernel
theorem d_Qry_readLiteral_19 : decode b_Qry_readLiteral 19 = .ok (.iload_n 2, 1) := by decide +kernel
theorem d_Qry_readLiteral_20 : decode b_Qry_readLiteral 20 = .ok (.bipush 39, 2) := by decide +kernel
theorem d_Qry_readLiteral_22 : decode b_Qry_readLiteral 22 = .ok (.if_icmp .ne 65, 3) := by decide +kernel
theorem d_Qry_readLiteral_87 : decode b_Qry_readLiteral 87 = .ok (.aload_n 0, 1) := by decide +kernel
theorem d_Qry_readLiteral_88 : decode b_Qry_readLiteral 88 = .ok (.getfield 44, 3) := by decide +kernel
theorem d_Qry_readLiteral_91 : decode b_Qry_readLiteral 91 = .ok (.invokevirtual 255, 3) := by decide +kernel
theorem d_Qry_readLiteral_94 : decode b_Qry_readLiteral 94 = .ok (.ifCond .eq 29, 3) := by decide +kernel
theorem d_Qry_readLiteral_123 : decode b_Qry_readLiteral 123 = .ok (.aload_n 0, 1) := by decide +kernel
theorem d_Qry_readLiteral_124 : decode b_Qry_readLiteral 124 = .ok (.getfield 44, 3) := by decide +kernel
theorem d_Qry_readLiteral_127 : decode b_Qry_readLiteral 127 = .ok (.ldc 208, 2) := by decide +kernel
theorem d_Qry_readLiteral_129 : decode b_Qry_readLiteral 129 = .ok (.invokevirtual 92, 3) := by decide +kernel
theorem d_Qry_readLiteral_132 : decode b_Qry_readLiteral 132 = .ok (.ifCond .eq 7, 3) := by decide +kernel
theorem d_Qry_readLiteral_139 : decode b_Qry_readLiteral 139 = .ok (.lconst 0, 1) := by decide +kernel
theorem d_Qry_readLiteral_135 : decode b_Qry_readLiteral 135 = .ok (.lconst 1, 1) := by decide +kernel
theorem d_Qry_readLiteral_136 : decode b_Qry_readLiteral 136 = .ok (.goto 4, 3) := by decide +kernel
theorem d_Qry_readLiteral_97 : decode b_Qry_readLiteral 97 = .ok (.aload_n 0, 1) := by decide +kernel
theorem d_Qry_readLiteral_98 : decode b_Qry_readLiteral 98 = .ok (.getfield 44, 3) := by decide +kernel
theorem d_Qry_readLiteral_101 : decode b_Qry_readLiteral 101 = .ok (.iconst 1, 1) := by decide +kernel
theorem d_Qry_readLiteral_102 : decode b_Qry_readLiteral 102 = .ok (.invokevirtual 258, 3) := by decide +kernel
theorem d_Qry_readLiteral_105 : decode b_Qry_readLiteral 105 = .ok (.aload_n 0, 1) := by decide +kernel
theorem d_Qry_readLiteral_106 : decode b_Qry_readLiteral 106 = .ok (.getfield 44, 3) := by decide +kernel
theorem d_Qry_readLiteral_109 : decode b_Qry_readLiteral 109 = .ok (.getfield 262, 3) := by decide +kernel
theorem d_Qry_readLiteral_112 : decode b_Qry_readLiteral 112 = .ok (.lstore 5, 2) := by decide +kernel
theorem d_Qry_readLiteral_114 : decode b_Qry_readLiteral 114 = .ok (.iload_n 1, 1) := by decide +kernel
theorem d_Qry_readLiteral_115 : decode b_Qry_readLiteral 115 = .ok (.invokestatic 151, 3) := by decide +kernel
theorem d_Qry_readLiteral_118 : decode b_Qry_readLiteral 118 = .ok (.istore 4, 2) := by decide +kernel
theorem d_Qry_readLiteral_120 : decode b_Qry_readLiteral 120 = .ok (.goto 60, 3) := by decide +kernel
theorem d_Qry_readLiteral_25 : decode b_Qry_readLiteral 25 = .ok (.aload_n 0, 1) := by decide +kernel
theorem d_Qry_readLiteral_26 : decode b_Qry_readLiteral 26 = .ok (.getfield 44, 3) := by decide +kernel
theorem d_Qry_readLiteral_29 : decode b_Qry_readLiteral 29 = .ok (.aload_n 0, 1) := by decide +kernel
theorem d_Qry_readLiteral_30 : decode b_Qry_readLiteral 30 = .ok (.getfield 40, 3) := by decide +kernel
theorem d_Qry_readLiteral_33 : decode b_Qry_readLiteral 33 = .ok (.aload_n 0, 1) := by decide +kernel
theorem d_Qry_readLiteral_34 : decode b_Qry_readLiteral 34 = .ok (.getfield 72, 3) := by decide +kernel
theorem d_Qry_readLiteral_37 : decode b_Qry_readLiteral 37 = .ok (.invokevirtual 244, 3) := by decide +kernel
theorem d_Qry_readLiteral_40 : decode b_Qry_readLiteral 40 = .ok (.aload_n 0, 1) := by decide +kernel
theorem d_Qry_readLiteral_41 : decode b_Qry_readLiteral 41 = .ok (.getfield 72, 3) := by decide +kernel
theorem d_Qry_readLiteral_44 : decode b_Qry_readLiteral 44 = .ok (.aload_n 0, 1) := by decide +kernel
theorem d_Qry_readLiteral_45 : decode b_Qry_readLiteral 45 = .ok (.getfield 44, 3) := by decide +kernel
theorem d_Qry_readLiteral_48 : decode b_Qry_readLiteral 48 = .ok (.getfield 248, 3) := by decide +kernel
theorem d_Qry_readLiteral_51 : decode b_Qry_readLiteral 51 = .ok (.invokestatic 251, 3) := by decide +kernel
theorem d_Qry_readLiteral_54 : decode b_Qry_readLiteral 54 = .ok (.lstore 5, 2) := by decide +kernel
theorem d_Qry_readLiteral_56 : decode b_Qry_readLiteral 56 = .ok (.aload_n 0, 1) := by decide +kernel
theorem d_Qry_readLiteral_57 : decode b_Qry_readLiteral 57 = .ok (.dup, 1) := by decide +kernel
theorem d_Qry_readLiteral_58 : decode b_Qry_readLiteral 58 = .ok (.getfield 72, 3) := by decide +kernel
theorem d_Qry_readLiteral_61 : decode b_Qry_readLiteral 61 = .ok (.aload_n 0, 1) := by decide +kernel
theorem d_Qry_readLiteral_62 : decode b_Qry_readLiteral 62 = .ok (.getfield 44, 3) := by decide +kernel
theorem d_Qry_readLiteral_65 : decode b_Qry_readLiteral 65 = .ok (.getfield 248, 3) := by decide +kernel
theorem d_Qry_readLiteral_68 : decode b_Qry_readLiteral 68 = .ok (.iadd, 1) := by decide +kernel
theorem d_Qry_readLiteral_69 : decode b_Qry_readLiteral 69 = .ok (.putfield 72, 3) := by decide +kernel
theorem d_Qry_readLiteral_72 : decode b_Qry_readLiteral 72 = .ok (.iload_n 1, 1) := by decide +kernel
theorem d_Qry_readLiteral_73 : decode b_Qry_readLiteral 73 = .ok (.iconst 3, 1) := by decide +kernel
theorem d_Qry_readLiteral_74 : decode b_Qry_readLiteral 74 = .ok (.if_icmp .ne 7, 3) := by decide +kernel
theorem d_Qry_readLiteral_81 : decode b_Qry_readLiteral 81 = .ok (.iconst 0, 1) := by decide +kernel
theorem d_Qry_readLiteral_77 : decode b_Qry_readLiteral 77 = .ok (.iconst 1, 1) := by decide +kernel
theorem d_Qry_readLiteral_78 : decode b_Qry_readLiteral 78 = .ok (.goto 4, 3) := by decide +kernel
theorem d_Qry_readList_73 : decode b_Qry_readList 73 = .ok (.aload_n 0, 1) := by decide +kernel
theorem d_Qry_readList_74 : decode b_Qry_readList 74 = .ok (.getfield 44, 3) := by decide +kernel
theorem d_Qry_readList_77 : decode b_Qry_readList 77 = .ok (.bipush 41, 2) := by decide +kernel
theorem d_Qry_readList_79 : decode b_Qry_readList 79 = .ok (.invokevirtual 139, 3) := by decide +kernel
theorem d_Qry_readList_82 : decode b_Qry_readList 82 = .ok (.return_, 1) := by decide +kernel
theorem d_Qry_readList_66 : decode b_Qry_readList 66 = .ok (.istore_n 2, 1) := by decide +kernel
theorem d_Qry_readList_67 : decode b_Qry_readList 67 = .ok (.iinc 3 1, 3) := by decide +kernel
theorem d_Qry_readList_70 : decode b_Qry_readList 70 = .ok (.goto (-51), 3) := by decide +kernel
theorem d_Qry_readList_65 : decode b_Qry_readList 65 = .ok (.iconst 0, 1) := by decide +kernel
theorem d_Qry_readList_19 : decode b_Qry_readList 19 = .ok (.iload_n 3, 1) := by decide +kernel
theorem d_Qry_readList_20 : decode b_Qry_readList 20 = .ok (.aload_n 0, 1) := by decide +kernel
theorem d_Qry_readList_21 : decode b_Qry_readList 21 = .ok (.getfield 44, 3) := by decide +kernel
theorem d_Qry_readList_24 : decode b_Qry_readList 24 = .ok (.getfield 165, 3) := by decide +kernel
theorem d_Qry_readList_27 : decode b_Qry_readList 27 = .ok (.if_icmp .gt 46, 3) := by decide +kernel
theorem d_Qry_readList_30 : decode b_Qry_readList 30 = .ok (.iload_n 2, 1) := by decide +kernel
theorem d_Qry_readList_31 : decode b_Qry_readList 31 = .ok (.ifCond .eq 42, 3) := by decide +kernel
theorem d_Qry_readList_34 : decode b_Qry_readList 34 = .ok (.aload_n 0, 1) := by decide +kernel
theorem d_Qry_readList_35 : decode b_Qry_readList 35 = .ok (.iload_n 1, 1) := by decide +kernel
theorem d_Qry_readList_36 : decode b_Qry_readList 36 = .ok (.invokevirtual 232, 3) := by decide +kernel
theorem d_Qry_readList_39 : decode b_Qry_readList 39 = .ok (.aload_n 0, 1) := by decide +kernel
theorem d_Qry_readList_40 : decode b_Qry_readList 40 = .ok (.getfield 44, 3) := by decide +kernel
theorem d_Qry_readList_43 : decode b_Qry_readList 43 = .ok (.invokevirtual 86, 3) := by decide +kernel
theorem d_Qry_readList_46 : decode b_Qry_readList 46 = .ok (.ifCond .eq 19, 3) := by decide +kernel
theorem d_Qry_readList_49 : decode b_Qry_readList 49 = .ok (.aload_n 0, 1) := by decide +kernel
theorem d_Qry_readList_50 : decode b_Qry_readList 50 = .ok (.getfield 44, 3) := by decide +kernel
theorem d_Qry_readList_53 : decode b_Qry_readList 53 = .ok (.bipush 44, 2) := by decide +kernel
theorem d_Qry_readList_55 : decode b_Qry_readList 55 = .ok (.invokevirtual 129, 3) := by decide +kernel
theorem d_Qry_readList_58 : decode b_Qry_readList 58 = .ok (.ifCond .eq 7, 3) := by decide +kernel
theorem d_Qry_readList_61 : decode b_Qry_readList 61 = .ok (.iconst 1, 1) := by decide +kernel
theorem d_Qry_readList_62 : decode b_Qry_readList 62 = .ok (.goto 4, 3) := by decide +kernel
theorem d_Qry_readList_0 : decode b_Qry_readList 0 = .ok (.aload_n 0, 1) := by decide +kernel
theorem d_Qry_readList_1 : decode b_Qry_readList 1 = .ok (.getfield 44, 3) := by decide +kernel
theorem d_Qry_readList_4 : decode b_Qry_readList 4 = .ok (.bipush 40, 2) := by decide +kernel
theorem d_Qry_readList_6 : decode b_Qry_readList 6 = .ok (.invokevirtual 139, 3) := by decide +kernel
theorem d_Qry_readList_9 : decode b_Qry_readList 9 = .ok (.aload_n 0, 1) := by decide +kernel
theorem d_Qry_readList_10 : decode b_Qry_readList 10 = .ok (.getfield 44, 3) := by decide +kernel
theorem d_Qry_readList_13 : decode b_Qry_readList 13 = .ok (.invokevirtual 86, 3) := by decide +kernel
theorem d_Qry_readList_16 : decode b_Qry_readList 16 = .ok (.istore_n 2, 1) := by decide +kernel
theorem d_Qry_readList_17 : decode b_Qry_readList 17 = .ok (.iconst 0, 1) := by decide +kernel
theorem d_Qry_readList_18 : decode b_Qry_readList 18 = .ok (.istore_n 3, 1) := by decide +kernel
section
variable (l : Launch) (dC : Nat → ClassId) (dI : Nat → Nat → Nat) (cI cB cJ cZ : ClassId)
set_option maxRecDepth 100000 in
set_option maxHeartbeats 4000000 in
set_option maxRecDepth 100000 in
theorem t_Qry_readItems_109 {p : Program} {l : Launch} {e : Env} {R : Room} {s : State} {m : MethodId} {args : Array Value} {below : List Frame} {meth : Method} {c : Code} {cells slots : Nat} {Q : State → Prop} {dC : Nat → ClassId} {dI : Nat → Nat → Nat} {cI cB cJ cZ : ClassId} {A : Nat → Prop} {ad : Nat → Nat} {NN : Nat} {E : Heap} {tM tC : Nat} {kK kV : Nat → Nat} {post : St → Prop} {rec10 : Nat → Int32 → Int32 → St → Prop} (hx : p.tables.exec = Jvm.exec) (hb : c.code = b_Qry_readItems) (hml : c.maxLocals = 3) (hown : s.vm.findClass R_Qry = some m.cls) (hT : ∀ w ∈ TG, w.before args s = true) (hK : va_K (dC, dI) CL (TY cI cB cJ cZ) s) (hN : NW s) (hA : ∀ q : Nat, s.heap.size ≤ q → A q) (hRc : cells ≤ R.cells) (hRs : slots ≤ R.slots) (hRf : 9 ≤ R.frames) (hRl : 309 ≤ R.locals) (hNN : 152 ≤ NN) (hE : CE E tM tC kK kV A s) (hret : ∀ (x : St) (H : Heap) (locs : List Loc) (pc : Nat) (ls : Array Slot), decode b_Qry_readItems pc = .ok (.return_, 1) → post x → Wd dC dI cI cB cJ cZ ad stC kcC NN A x H → va_S A s.heap H locs → W p l e R s m args below meth c H locs cells slots Q (F0 m pc ls [])) (hrec10 : ∀ (o : Nat) (l1 : Int32) (l2 : Int32) (x : St) (H : Heap) (locs : List Loc) (ls : Array Slot), (o < NN ∧ kcC o = 9) → rec10 o l1 l2 x → Wd dC dI cI cB cJ cZ ad stC kcC NN A x H → va_S A s.heap H locs → lv_has ls 3 [(0, .ref (ad o)), (1, .int l1), (2, .int l2)] → W p l e R s m args below meth c H locs cells slots Q (F0 m 10 ls [])) : ∀ (o : Nat) (l1 : Int32) (l2 : Int32) (s0 : Int32) (x : St) (H : Heap) (locs : List Loc) (ls : Array Slot), (o < NN ∧ kcC o = 9) → j_Qry_readItems_109 post rec10 o l1 l2 s0 x → Wd dC dI cI cB cJ cZ ad stC kcC NN A x H → va_S A s.heap H locs → lv_has ls 3 [(0, .ref (ad o)), (1, .int l1), (2, .int l2)] → W p l e R s m args below meth c H locs cells slots Q (F0 m 109 ls [.int s0]) := by
  intro o l1 l2 s0 x H locs ls fo hw hW hS hl
  unfold j_Qry_readItems_109 at hw
  refine lv_istore_n (lv' := [(1, .int s0), (0, .ref (ad o)), (2, .int l2)]) hx hb d_Qry_readItems_109 rfl hl (by decide) rfl (fun ls hl => ?_)
  refine lv_iinc (v := (l2 + 1)) (lv' := [(2, .int (l2 + 1)), (1, .int s0), (0, .ref (ad o))]) hx hb d_Qry_readItems_110 hl (k := 2) rfl rfl (by decide) rfl (fun ls hl => ?_)
  refine lv_goto (tgt := 10) hx hb d_Qry_readItems_113 (by decide) ?_
  exact hrec10 o s0 (l2 + 1) x H locs ls fo hw hW hS (lv_sub hl [2, 1, 0] rfl)
set_option maxRecDepth 100000 in
set_option maxHeartbeats 4000000 in
set_option maxRecDepth 100000 in
theorem t_Qry_readItems_108 {p : Program} {l : Launch} {e : Env} {R : Room} {s : State} {m : MethodId} {args : Array Value} {below : List Frame} {meth : Method} {c : Code} {cells slots : Nat} {Q : State → Prop} {dC : Nat → ClassId} {dI : Nat → Nat → Nat} {cI cB cJ cZ : ClassId} {A : Nat → Prop} {ad : Nat → Nat} {NN : Nat} {E : Heap} {tM tC : Nat} {kK kV : Nat → Nat} {post : St → Prop} {rec10 : Nat → Int32 → Int32 → St → Prop} (hx : p.tables.exec = Jvm.exec) (hb : c.code = b_Qry_readItems) (hml : c.maxLocals = 3) (hown : s.vm.findClass R_Qry = some m.cls) (hT : ∀ w ∈ TG, w.before args s = true) (hK : va_K (dC, dI) CL (TY cI cB cJ cZ) s) (hN : NW s) (hA : ∀ q : Nat, s.heap.size ≤ q → A q) (hRc : cells ≤ R.cells) (hRs : slots ≤ R.slots) (hRf : 9 ≤ R.frames) (hRl : 309 ≤ R.locals) (hNN : 152 ≤ NN) (hE : CE E tM tC kK kV A s) (hret : ∀ (x : St) (H : Heap) (locs : List Loc) (pc : Nat) (ls : Array Slot), decode b_Qry_readItems pc = .ok (.return_, 1) → post x → Wd dC dI cI cB cJ cZ ad stC kcC NN A x H → va_S A s.heap H locs → W p l e R s m args below meth c H locs cells slots Q (F0 m pc ls [])) (hrec10 : ∀ (o : Nat) (l1 : Int32) (l2 : Int32) (x : St) (H : Heap) (locs : List Loc) (ls : Array Slot), (o < NN ∧ kcC o = 9) → rec10 o l1 l2 x → Wd dC dI cI cB cJ cZ ad stC kcC NN A x H → va_S A s.heap H locs → lv_has ls 3 [(0, .ref (ad o)), (1, .int l1), (2, .int l2)] → W p l e R s m args below meth c H locs cells slots Q (F0 m 10 ls [])) : ∀ (o : Nat) (l1 : Int32) (l2 : Int32) (x : St) (H : Heap) (locs : List Loc) (ls : Array Slot), (o < NN ∧ kcC o = 9) → j_Qry_readItems_108 post rec10 o l1 l2 x → Wd dC dI cI cB cJ cZ ad stC kcC NN A x H → va_S A s.heap H locs → lv_has ls 3 [(0, .ref (ad o)), (1, .int l1), (2, .int l2)] → W p l e R s m args below meth c H locs cells slots Q (F0 m 108 ls []) := by
  intro o l1 l2 x H locs ls fo hw hW hS hl
  unfold j_Qry_readItems_108 at hw
  refine lv_iconst (v := 0) hx hb d_Qry_readItems_108 (by decide) ?_
  exact t_Qry_readItems_109 hx hb hml hown hT hK hN hA hRc hRs hRf hRl hNN hE hret hrec10 o l1 l2 0 x H locs ls fo hw hW hS (lv_sub hl [0, 1, 2] rfl)
set_option maxRecDepth 100000 in
set_option maxHeartbeats 4000000 in
set_option maxRecDepth 100000 in
theorem t_Qry_readItems_10 {p : Program} {l : Launch} {e : Env} {R : Room} {s : State} {m : MethodId} {args : Array Value} {below : List Frame} {meth : Method} {c : Code} {cells slots : Nat} {Q : State → Prop} {dC : Nat → ClassId} {dI : Nat → Nat → Nat} {cI cB cJ cZ : ClassId} {A : Nat → Prop} {ad : Nat → Nat} {NN : Nat} {E : Heap} {tM tC : Nat} {kK kV : Nat → Nat} {post : St → Prop} {rec10 : Nat → Int32 → Int32 → St → Prop} (hx : p.tables.exec = Jvm.exec) (hb : c.code = b_Qry_readItems) (hml : c.maxLocals = 3) (hown : s.vm.findClass R_Qry = some m.cls) (hT : ∀ w ∈ TG, w.before args s = true) (hK : va_K (dC, dI) CL (TY cI cB cJ cZ) s) (hN : NW s) (hA : ∀ q : Nat, s.heap.size ≤ q → A q) (hRc : cells ≤ R.cells) (hRs : slots ≤ R.slots) (hRf : 9 ≤ R.frames) (hRl : 309 ≤ R.locals) (hNN : 152 ≤ NN) (hE : CE E tM tC kK kV A s) (hret : ∀ (x : St) (H : Heap) (locs : List Loc) (pc : Nat) (ls : Array Slot), decode b_Qry_readItems pc = .ok (.return_, 1) → post x → Wd dC dI cI cB cJ cZ ad stC kcC NN A x H → va_S A s.heap H locs → W p l e R s m args below meth c H locs cells slots Q (F0 m pc ls [])) (hrec10 : ∀ (o : Nat) (l1 : Int32) (l2 : Int32) (x : St) (H : Heap) (locs : List Loc) (ls : Array Slot), (o < NN ∧ kcC o = 9) → rec10 o l1 l2 x → Wd dC dI cI cB cJ cZ ad stC kcC NN A x H → va_S A s.heap H locs → lv_has ls 3 [(0, .ref (ad o)), (1, .int l1), (2, .int l2)] → W p l e R s m args below meth c H locs cells slots Q (F0 m 10 ls [])) : ∀ (o : Nat) (l1 : Int32) (l2 : Int32) (x : St) (H : Heap) (locs : List Loc) (ls : Array Slot), (o < NN ∧ kcC o = 9) → j_Qry_readItems_10 post rec10 o l1 l2 x → Wd dC dI cI cB cJ cZ ad stC kcC NN A x H → va_S A s.heap H locs → lv_has ls 3 [(0, .ref (ad o)), (1, .int l1), (2, .int l2)] → W p l e R s m args below meth c H locs cells slots Q (F0 m 10 ls []) := by
  intro o l1 l2 x H locs ls fo hw hW hS hl
  unfold j_Qry_readItems_10 at hw
  refine lv_iload_n hx hb d_Qry_readItems_10 rfl (lv_at hl 2 rfl) ?_
  refine lv_bipush (v := 16) hx hb d_Qry_readItems_11 (by decide) ?_
  refine lv_icmp_gt (tgt := 116) hx hb d_Qry_readItems_13 (by decide) (fun c1 => ?_) (fun c1 => ?_)
  · have hw := hw.1 c1
    exact hret x H locs 116 ls d_Qry_readItems_116 hw hW hS
  · have hw := hw.2 c1
    refine lv_iload_n hx hb d_Qry_readItems_16 rfl (lv_at hl 1 rfl) ?_
    refine lv_if_eq (tgt := 116) hx hb d_Qry_readItems_17 (by decide) (fun c2 => ?_) (fun c2 => ?_)
    · have hw := hw.1 c2
      exact hret x H locs 116 ls d_Qry_readItems_116 hw hW hS
    · have hw := hw.2 c2
      refine lv_aload_n hx hb d_Qry_readItems_20 rfl (lv_at hl 0 rfl) ?_
      obtain ⟨q3, hq3, hw⟩ := hw
      refine w_getr (q := q3) (k := 17) (t := 9) (C := R_Qry) (T := F_Qry) (N := 20) hx hb hT hown hK hW fo.1 fo.2 (by decide) in_Qry rfl rfl (by decide) rfl fr_Qry_17 w_3_105 d_Qry_readItems_21 hq3 (fun aq3 bq3 => ?_)
      have fq3 : q3 < NN ∧ kcC q3 = 2 := ⟨aq3, bq3⟩
      have hF := hW.free hS hA
      refine va_calli (va_runV (C := R_Scn) (As := []) (rest := []) ⟨hx, hb, hml, hown, hT⟩ (k_Scn_next l dC dI cI cB cJ cZ ad NN E tM tC kK kV hNN H.size q3 x fq3 hw) ⟨callB_of 0 hT (gwt_in w_4_110) rfl rfl rfl (hT _ w_1_4) (hT _ w_7_148) (by decide +kernel) ⟨Nat.le_trans (Nat.le_of_ble_eq_true rfl) hRf, Nat.le_trans (Nat.le_of_ble_eq_true rfl) hRl⟩, hT _ w_4_108, hT _ w_4_109⟩ ⟨PVc.blind, va_recv hK hW.1 (ci := 2) (q0 := q3) rfl (pic_obj fq3.1 fq3.2 (by decide)), PVc.at _ hW hK hN hE hS hF⟩ rfl rfl hl.1 rfl (lv_room (Nat.le_of_ble_eq_true rfl)) d_Qry_readItems_24 ⟨hRc, hRs⟩) hS (fun q _ h => hF q h) hF (fun r5 x4 t H locs ht hvm hw hB hz1 hk1 hS => ?_)
      have hW := Wd.back hB ht hF
      clear hB ht hF hz1 hk1 hvm
      refine lv_pop hx hb d_Qry_readItems_27 rfl ?_
      refine lv_aload_n hx hb d_Qry_readItems_28 rfl (lv_at hl 0 rfl) ?_
      refine w_geti (k := 1) (t := 9) (C := R_Qry) (T := F_Qry) (N := 20) hx hb hT hown hK hW fo.1 fo.2 (by decide) in_Qry rfl rfl (by decide) rfl fr_Qry_1 w_3_76 d_Qry_readItems_29 ?_
      refine lv_bipush (v := 16) hx hb d_Qry_readItems_32 (by decide) ?_
      refine lv_icmp_lt (tgt := 52) hx hb d_Qry_readItems_34 (by decide) (fun c6 => ?_) (fun c6 => ?_)
      · have hw := hw.1 c6
        refine lv_aload_n hx hb d_Qry_readItems_52 rfl (lv_at hl 0 rfl) ?_
        refine w_getf (q := (stC o 4)) (k := 4) (t := 9) (C := R_Qry) (T := F_Qry) (N := 20) hx hb hT hown hK hW fo.1 fo.2 (by decide) in_Qry rfl rfl (by decide) rfl fr_Qry_4 w_3_82 d_Qry_readItems_53 rfl ?_
        refine lv_aload_n hx hb d_Qry_readItems_56 rfl (lv_at hl 0 rfl) ?_
        refine w_geti (k := 1) (t := 9) (C := R_Qry) (T := F_Qry) (N := 20) hx hb hT hown hK hW fo.1 fo.2 (by decide) in_Qry rfl rfl (by decide) rfl fr_Qry_1 w_3_76 d_Qry_readItems_57 ?_
        refine lv_aload_n hx hb d_Qry_readItems_60 rfl (lv_at hl 0 rfl) ?_
        obtain ⟨q7, hq7, hw⟩ := hw
        refine w_getr (q := q7) (k := 17) (t := 9) (C := R_Qry) (T := F_Qry) (N := 20) hx hb hT hown hK hW fo.1 fo.2 (by decide) in_Qry rfl rfl (by decide) rfl fr_Qry_17 w_3_105 d_Qry_readItems_61 hq7 (fun aq7 bq7 => ?_)
        have fq7 : q7 < NN ∧ kcC q7 = 2 := ⟨aq7, bq7⟩
        refine w_geti (k := 2) (t := 2) (C := R_Scn) (T := F_Scn) (N := 8) hx hb hT hown hK hW fq7.1 fq7.2 (by decide) in_Scn rfl rfl (by decide) rfl fr_Scn_2 w_1_86 d_Qry_readItems_64 ?_
        obtain ⟨hi, hw⟩ := hw
        refine w_iast (o := (stC o 4)) hx hb hK hW hS (st_ty hNN fo.1 fo.2 rfl).1 (st_ty hNN fo.1 fo.2 rfl).2 hi d_Qry_readItems_67 (fun H locs hW hS => ?_)
        obtain ⟨x8, ex8⟩ : ∃ y : St, y = setA x4 (stC o 4) (fI x4 o 1) (fI x4 q7 2) := ⟨_, rfl⟩
        rw [← ex8] at hW
        have hw := hw x8 ex8
        refine lv_aload_n hx hb d_Qry_readItems_68 rfl (lv_at hl 0 rfl) ?_
        have hF := hW.free hS hA
        refine va_callv (va_runV (C := R_Qry) (As := []) (rest := []) ⟨hx, hb, hml, hown, hT⟩ (k_Qry_readItem l dC dI cI cB cJ cZ ad NN E tM tC kK kV hNN H.size o x8 fo hw) ⟨callB_of 0 hT (gwt_in w_7_153) rfl rfl rfl (hT _ w_1_12) (hT _ w_7_150) (by decide +kernel) ⟨Nat.le_trans (Nat.le_of_ble_eq_true rfl) hRf, Nat.le_trans (Nat.le_of_ble_eq_true rfl) hRl⟩, hT _ w_7_152, hT _ ws_69⟩ ⟨PVc.blind, va_recv hK hW.1 (ci := 9) (q0 := o) rfl (pic_obj fo.1 fo.2 (by decide)), PVc.at _ hW hK hN hE hS hF⟩ rfl rfl hl.1 rfl (lv_room (Nat.le_of_ble_eq_true rfl)) d_Qry_readItems_69 ⟨hRc, hRs⟩) hS (fun q _ h => hF q h) hF (fun  x9 t H locs ht hvm hw hB hz1 hk1 hS => ?_)
        have hW := Wd.back hB ht hF
        clear hB ht hF hz1 hk1 hvm
        refine lv_aload_n hx hb d_Qry_readItems_72 rfl (lv_at hl 0 rfl) ?_
        refine lv_dup hx hb d_Qry_readItems_73 rfl ?_
        refine w_geti (k := 1) (t := 9) (C := R_Qry) (T := F_Qry) (N := 20) hx hb hT hown hK hW fo.1 fo.2 (by decide) in_Qry rfl rfl (by decide) rfl fr_Qry_1 w_3_76 d_Qry_readItems_74 ?_
        refine lv_iconst (v := 1) hx hb d_Qry_readItems_77 (by decide) ?_
        refine lv_iadd hx hb d_Qry_readItems_78 ?_
        refine w_puti (ty := .int) (k := 1) (t := 9) (C := R_Qry) (T := F_Qry) (N := 20) hx hb hT hown hK hW hS fo.1 fo.2 (by decide) in_Qry t_Qry t_Qry_ok n_Qry rfl rfl (by decide) rfl fr_Qry_1 w_3_76 (by decide +kernel) rfl rfl d_Qry_readItems_79 (fun H locs hW hS => ?_)
        obtain ⟨x10, ex10⟩ : ∃ y : St, y = setI x9 o 1 ((fI x9 o 1) + 1) := ⟨_, rfl⟩
        rw [← ex10] at hW
        have hw := hw x10 ex10
        refine lv_aload_n hx hb d_Qry_readItems_82 rfl (lv_at hl 0 rfl) ?_
        obtain ⟨q11, hq11, hw⟩ := hw
        refine w_getr (q := q11) (k := 17) (t := 9) (C := R_Qry) (T := F_Qry) (N := 20) hx hb hT hown hK hW fo.1 fo.2 (by decide) in_Qry rfl rfl (by decide) rfl fr_Qry_17 w_3_105 d_Qry_readItems_83 hq11 (fun aq11 bq11 => ?_)
        have fq11 : q11 < NN ∧ kcC q11 = 2 := ⟨aq11, bq11⟩
        have hF := hW.free hS hA
        refine va_calli (va_runV (C := R_Scn) (As := []) (rest := []) ⟨hx, hb, hml, hown, hT⟩ (k_Scn_good l dC dI cI cB cJ cZ ad NN E tM tC kK kV hNN H.size q11 x10 fq11 hw) ⟨callB_of 0 hT (gwt_in w_4_106) rfl rfl rfl (hT _ w_1_4) (hT _ w_7_147) (by decide +kernel) ⟨Nat.le_trans (Nat.le_of_ble_eq_true rfl) hRf, Nat.le_trans (Nat.le_of_ble_eq_true rfl) hRl⟩, hT _ w_4_104, hT _ w_4_105⟩ ⟨PVc.blind, va_recv hK hW.1 (ci := 2) (q0 := q11) rfl (pic_obj fq11.1 fq11.2 (by decide)), PVc.at _ hW hK hN hE hS hF⟩ rfl rfl hl.1 rfl (lv_room (Nat.le_of_ble_eq_true rfl)) d_Qry_readItems_86 ⟨hRc, hRs⟩) hS (fun q _ h => hF q h) hF (fun r13 x12 t H locs ht hvm hw hB hz1 hk1 hS => ?_)
        have hW := Wd.back hB ht hF
        clear hB ht hF hz1 hk1 hvm
        refine lv_if_eq (tgt := 108) hx hb d_Qry_readItems_89 (by decide) (fun c14 => ?_) (fun c14 => ?_)
        · have hw := hw.1 c14
          exact t_Qry_readItems_108 hx hb hml hown hT hK hN hA hRc hRs hRf hRl hNN hE hret hrec10 o l1 l2 x12 H locs ls fo hw hW hS (lv_sub hl [0, 1, 2] rfl)
        · have hw := hw.2 c14
          refine lv_aload_n hx hb d_Qry_readItems_92 rfl (lv_at hl 0 rfl) ?_
          obtain ⟨q15, hq15, hw⟩ := hw
          refine w_getr (q := q15) (k := 17) (t := 9) (C := R_Qry) (T := F_Qry) (N := 20) hx hb hT hown hK hW fo.1 fo.2 (by decide) in_Qry rfl rfl (by decide) rfl fr_Qry_17 w_3_105 d_Qry_readItems_93 hq15 (fun aq15 bq15 => ?_)
          have fq15 : q15 < NN ∧ kcC q15 = 2 := ⟨aq15, bq15⟩
          refine lv_bipush (v := 44) hx hb d_Qry_readItems_96 (by decide) ?_
          have hF := hW.free hS hA
          refine va_calli (va_runV (C := R_Scn) (As := [.int 44]) (rest := []) ⟨hx, hb, hml, hown, hT⟩ (k_Scn_takeSign l dC dI cI cB cJ cZ ad NN E tM tC kK kV hNN H.size q15 44 x12 fq15 hw) ⟨callB_of 1 hT (gwt_in w_4_123) rfl rfl rfl (hT _ w_1_4) (hT _ w_7_199) (by decide +kernel) ⟨Nat.le_trans (Nat.le_of_ble_eq_true rfl) hRf, Nat.le_trans (Nat.le_of_ble_eq_true rfl) hRl⟩, hT _ w_4_121, hT _ w_4_122⟩ ⟨PVc.blind, va_recv hK hW.1 (ci := 2) (q0 := q15) rfl (pic_obj fq15.1 fq15.2 (by decide)), PVc.at _ hW hK hN hE hS hF⟩ rfl rfl hl.1 rfl (lv_room (Nat.le_of_ble_eq_true rfl)) d_Qry_readItems_98 ⟨hRc, hRs⟩) hS (fun q _ h => hF q h) hF (fun r17 x16 t H locs ht hvm hw hB hz1 hk1 hS => ?_)
          have hW := Wd.back hB ht hF
          clear hB ht hF hz1 hk1 hvm
          refine lv_if_eq (tgt := 108) hx hb d_Qry_readItems_101 (by decide) (fun c18 => ?_) (fun c18 => ?_)
          · have hw := hw.1 c18
            exact t_Qry_readItems_108 hx hb hml hown hT hK hN hA hRc hRs hRf hRl hNN hE hret hrec10 o l1 l2 x16 H locs ls fo hw hW hS (lv_sub hl [0, 1, 2] rfl)
          · have hw := hw.2 c18
            refine lv_iconst (v := 1) hx hb d_Qry_readItems_104 (by decide) ?_
            refine lv_goto (tgt := 109) hx hb d_Qry_readItems_105 (by decide) ?_
            exact t_Qry_readItems_109 hx hb hml hown hT hK hN hA hRc hRs hRf hRl hNN hE hret hrec10 o l1 l2 1 x16 H locs ls fo hw hW hS (lv_sub hl [0, 1, 2] rfl)
      · have hw := hw.2 c6
        refine lv_aload_n hx hb d_Qry_readItems_37 rfl (lv_at hl 0 rfl) ?_
        obtain ⟨q19, hq19, hw⟩ := hw
        refine w_getr (q := q19) (k := 17) (t := 9) (C := R_Qry) (T := F_Qry) (N := 20) hx hb hT hown hK hW fo.1 fo.2 (by decide) in_Qry rfl rfl (by decide) rfl fr_Qry_17 w_3_105 d_Qry_readItems_38 hq19 (fun aq19 bq19 => ?_)
        have fq19 : q19 < NN ∧ kcC q19 = 2 := ⟨aq19, bq19⟩
        refine lv_aload_n hx hb d_Qry_readItems_41 rfl (lv_at hl 0 rfl) ?_
        obtain ⟨q20, hq20, hw⟩ := hw
        refine w_getr (q := q20) (k := 17) (t := 9) (C := R_Qry) (T := F_Qry) (N := 20) hx hb hT hown hK hW fo.1 fo.2 (by decide) in_Qry rfl rfl (by decide) rfl fr_Qry_17 w_3_105 d_Qry_readItems_42 hq20 (fun aq20 bq20 => ?_)
        have fq20 : q20 < NN ∧ kcC q20 = 2 := ⟨aq20, bq20⟩
        refine w_geti (k := 2) (t := 2) (C := R_Scn) (T := F_Scn) (N := 8) hx hb hT hown hK hW fq20.1 fq20.2 (by decide) in_Scn rfl rfl (by decide) rfl fr_Scn_2 w_1_86 d_Qry_readItems_45 ?_
        have hF := hW.free hS hA
        refine va_callv (va_runV (C := R_Scn) (As := [.int (fI x4 q20 2)]) (rest := []) ⟨hx, hb, hml, hown, hT⟩ (k_Scn_refuse l dC dI cI cB cJ cZ ad NN E tM tC kK kV hNN H.size q19 (fI x4 q20 2) x4 fq19 hw) ⟨callB_of 1 hT (gwt_in w_4_128) rfl rfl rfl (hT _ w_1_4) (hT _ w_7_149) (by decide +kernel) ⟨Nat.le_trans (Nat.le_of_ble_eq_true rfl) hRf, Nat.le_trans (Nat.le_of_ble_eq_true rfl) hRl⟩, hT _ w_4_126, hT _ w_4_127⟩ ⟨PVc.blind, va_recv hK hW.1 (ci := 2) (q0 := q19) rfl (pic_obj fq19.1 fq19.2 (by decide)), PVc.at _ hW hK hN hE hS hF⟩ rfl rfl hl.1 rfl (lv_room (Nat.le_of_ble_eq_true rfl)) d_Qry_readItems_48 ⟨hRc, hRs⟩) hS (fun q _ h => hF q h) hF (fun  x21 t H locs ht hvm hw hB hz1 hk1 hS => ?_)
        have hW := Wd.back hB ht hF
        clear hB ht hF hz1 hk1 hvm
        exact hret x21 H locs 51 ls d_Qry_readItems_51 hw hW hS
set_option maxHeartbeats 4000000 in
set_option maxRecDepth 100000 in
theorem tl_Qry_readItems_10 {p : Program} {l : Launch} {e : Env} {R : Room} {s : State} {m : MethodId} {args : Array Value} {below : List Frame} {meth : Method} {c : Code} {cells slots : Nat} {Q : State → Prop} {dC : Nat → ClassId} {dI : Nat → Nat → Nat} {cI cB cJ cZ : ClassId} {A : Nat → Prop} {ad : Nat → Nat} {NN : Nat} {E : Heap} {tM tC : Nat} {kK kV : Nat → Nat} {post : St → Prop} (hx : p.tables.exec = Jvm.exec) (hb : c.code = b_Qry_readItems) (hml : c.maxLocals = 3) (hown : s.vm.findClass R_Qry = some m.cls) (hT : ∀ w ∈ TG, w.before args s = true) (hK : va_K (dC, dI) CL (TY cI cB cJ cZ) s) (hN : NW s) (hA : ∀ q : Nat, s.heap.size ≤ q → A q) (hRc : cells ≤ R.cells) (hRs : slots ≤ R.slots) (hRf : 9 ≤ R.frames) (hRl : 309 ≤ R.locals) (hNN : 152 ≤ NN) (hE : CE E tM tC kK kV A s) (hret : ∀ (x : St) (H : Heap) (locs : List Loc) (pc : Nat) (ls : Array Slot), decode b_Qry_readItems pc = .ok (.return_, 1) → post x → Wd dC dI cI cB cJ cZ ad stC kcC NN A x H → va_S A s.heap H locs → W p l e R s m args below meth c H locs cells slots Q (F0 m pc ls []))  : ∀ n : Nat, ∀ (o : Nat) (l1 : Int32) (l2 : Int32) (x : St) (H : Heap) (locs : List Loc) (ls : Array Slot), (o < NN ∧ kcC o = 9) → wl_Qry_readItems_10 post n o l1 l2 x → Wd dC dI cI cB cJ cZ ad stC kcC NN A x H → va_S A s.heap H locs → lv_has ls 3 [(0, .ref (ad o)), (1, .int l1), (2, .int l2)] → W p l e R s m args below meth c H locs cells slots Q (F0 m 10 ls []) := by
  intro n
  induction n with
  | zero => intro o l1 l2 x H locs ls fo hw; exact hw.elim
  | succ n ih => intro o l1 l2 x H locs ls fo hw hW hS hl; exact t_Qry_readItems_10 hx hb hml hown hT hK hN hA hRc hRs hRf hRl hNN hE hret  ih o l1 l2 x H locs ls fo hw hW hS hl
set_option maxRecDepth 100000 in
set_option maxHeartbeats 4000000 in
set_option maxRecDepth 100000 in
theorem t_Qry_readItems_e {p : Program} {l : Launch} {e : Env} {R : Room} {s : State} {m : MethodId} {args : Array Value} {below : List Frame} {meth : Method} {c : Code} {cells slots : Nat} {Q : State → Prop} {dC : Nat → ClassId} {dI : Nat → Nat → Nat} {cI cB cJ cZ : ClassId} {A : Nat → Prop} {ad : Nat → Nat} {NN : Nat} {E : Heap} {tM tC : Nat} {kK kV : Nat → Nat} {post : St → Prop} (hx : p.tables.exec = Jvm.exec) (hb : c.code = b_Qry_readItems) (hml : c.maxLocals = 3) (hown : s.vm.findClass R_Qry = some m.cls) (hT : ∀ w ∈ TG, w.before args s = true) (hK : va_K (dC, dI) CL (TY cI cB cJ cZ) s) (hN : NW s) (hA : ∀ q : Nat, s.heap.size ≤ q → A q) (hRc : cells ≤ R.cells) (hRs : slots ≤ R.slots) (hRf : 9 ≤ R.frames) (hRl : 309 ≤ R.locals) (hNN : 152 ≤ NN) (hE : CE E tM tC kK kV A s) (hret : ∀ (x : St) (H : Heap) (locs : List Loc) (pc : Nat) (ls : Array Slot), decode b_Qry_readItems pc = .ok (.return_, 1) → post x → Wd dC dI cI cB cJ cZ ad stC kcC NN A x H → va_S A s.heap H locs → W p l e R s m args below meth c H locs cells slots Q (F0 m pc ls [])) : ∀ (o : Nat) (x : St) (H : Heap) (locs : List Loc) (ls : Array Slot), (o < NN ∧ kcC o = 9) → wp_Qry_readItems post o x → Wd dC dI cI cB cJ cZ ad stC kcC NN A x H → va_S A s.heap H locs → lv_has ls 3 [(0, .ref (ad o))] → W p l e R s m args below meth c H locs cells slots Q (F0 m 0 ls []) := by
  intro o x H locs ls fo hw hW hS hl
  unfold wp_Qry_readItems at hw
  refine lv_aload_n hx hb d_Qry_readItems_0 rfl (lv_at hl 0 rfl) ?_
  obtain ⟨q22, hq22, hw⟩ := hw
  refine w_getr (q := q22) (k := 17) (t := 9) (C := R_Qry) (T := F_Qry) (N := 20) hx hb hT hown hK hW fo.1 fo.2 (by decide) in_Qry rfl rfl (by decide) rfl fr_Qry_17 w_3_105 d_Qry_readItems_1 hq22 (fun aq22 bq22 => ?_)
  have fq22 : q22 < NN ∧ kcC q22 = 2 := ⟨aq22, bq22⟩
  have hF := hW.free hS hA
  refine va_calli (va_runV (C := R_Scn) (As := []) (rest := []) ⟨hx, hb, hml, hown, hT⟩ (k_Scn_good l dC dI cI cB cJ cZ ad NN E tM tC kK kV hNN H.size q22 x fq22 hw) ⟨callB_of 0 hT (gwt_in w_4_106) rfl rfl rfl (hT _ w_1_4) (hT _ w_7_147) (by decide +kernel) ⟨Nat.le_trans (Nat.le_of_ble_eq_true rfl) hRf, Nat.le_trans (Nat.le_of_ble_eq_true rfl) hRl⟩, hT _ w_4_104, hT _ w_4_105⟩ ⟨PVc.blind, va_recv hK hW.1 (ci := 2) (q0 := q22) rfl (pic_obj fq22.1 fq22.2 (by decide)), PVc.at _ hW hK hN hE hS hF⟩ rfl rfl hl.1 rfl (lv_room (Nat.le_of_ble_eq_true rfl)) d_Qry_readItems_4 ⟨hRc, hRs⟩) hS (fun q _ h => hF q h) hF (fun r24 x23 t H locs ht hvm hw hB hz1 hk1 hS => ?_)
  have hW := Wd.back hB ht hF
  clear hB ht hF hz1 hk1 hvm
  refine lv_istore_n (lv' := [(1, .int r24), (0, .ref (ad o))]) hx hb d_Qry_readItems_7 rfl hl (by decide) rfl (fun ls hl => ?_)
  refine lv_iconst (v := 0) hx hb d_Qry_readItems_8 (by decide) ?_
  refine lv_istore_n (lv' := [(2, .int 0), (1, .int r24), (0, .ref (ad o))]) hx hb d_Qry_readItems_9 rfl hl (by decide) rfl (fun ls hl => ?_)
  obtain ⟨n, hw⟩ := hw
  exact tl_Qry_readItems_10 hx hb hml hown hT hK hN hA hRc hRs hRf hRl hNN hE hret  n o r24 0 x23 H locs ls fo hw hW hS (lv_sub hl [2, 1, 0] rfl)
set_option maxHeartbeats 4000000 in
set_option maxRecDepth 100000 in
theorem k_Qry_readItems (l : Launch) (dC : Nat → ClassId) (dI : Nat → Nat → Nat) (cI cB cJ cZ : ClassId) (ad : Nat → Nat) (NN : Nat) (E : Heap) (tM tC : Nat) (kK kV : Nat → Nat) (hNN : 152 ≤ NN) (sz : Nat) (o : Nat) (x : St) (fo : o < NN ∧ kcC o = 9) {post : St → Prop} (hw : wp_Qry_readItems post o x) : Met l y_Qry_readItems (wsOf y_Qry_readItems b_Qry_readItems 3 (none)) ({ frames := 9, cells := 0, slots := 0, locals := 309 }) (va_Pc [.ref (ad o)] (PVc dC dI cI cB cJ cZ ad stC kcC NN E tM tC kK kV sz x)) (va_Qv (fun (y : St) => post y) (fun y t => Wd dC dI cI cB cJ cZ ad stC kcC NN (va_A (pic ad stC kcC NN cI cB cJ cZ x) sz) y t.heap) (va_A (pic ad stC kcC NN cI cB cJ cZ x) sz)) 0 0 (va_A (pic ad stC kcC NN cI cB cJ cZ x) sz) := by
  refine Met.ofW (cc := b_Qry_readItems) (maxL := 3) (ret := none) (by decide) rfl ?_
  intro p e s m args below meth c s₁ B hml hv
  obtain ⟨rfl, ⟨hsz, hW0, hK, hN⟩, hE⟩ := hv
  have hx := B.exec
  have hb := B.bytes
  have hr := B.returns
  have hts := atoms_spec B.pre
  have hT : ∀ w ∈ TG, w.before _ s = true := fun w h => hts w (List.mem_cons_of_mem _ h)
  have hown : s.vm.findClass R_Qry = some m.cls := findClass_of_methodNamed B.named
  have hlocks := B.notSynchronized
  subst hsz
  have hW : Wd dC dI cI cB cJ cZ ad stC kcC NN (va_A (pic ad stC kcC NN cI cB cJ cZ x) s.heap.size) x s.heap := ⟨hW0.1, hW0.2.1.self (sz := s.heap.size), hW0.2.2⟩
  generalize hAe : va_A (pic ad stC kcC NN cI cB cJ cZ x) s.heap.size = A at hW hE ⊢
  have hA : ∀ q : Nat, s.heap.size ≤ q → A q := fun q h => by rw [← hAe]; exact Or.inr h
  have hS : va_S A s.heap s.heap [] := va_S.rf
  have hl := lv_entry ([.ref (ad o)]) (n := 3) (Nat.le_of_ble_eq_true rfl)
  rw [lg_entry_eq]
  generalize (lg_sl ([.ref (ad o)]) ++ List.replicate (3 - (lg_sl ([.ref (ad o)])).length) Slot.unset).toArray = ls at hl ⊢
  have hl : lv_has ls 3 [(0, .ref (ad o))] := hl
  exact t_Qry_readItems_e hx hb hml hown hT hK hN hA (Nat.le_refl 0) (Nat.le_refl 0) (Nat.le_refl 9) (Nat.le_refl 309) hNN hE (fun x H locs pc ls hd hp hW hS => W.vret hx hb hr (fun t ht hM => ⟨⟨x, rfl, hp, Wd.back hW ht.symm (fun _ z => z)⟩, hS.F ht⟩) hS.2.2 hd hlocks)  o x _ _ ls fo hw hW hS hl
set_option maxRecDepth 100000 in
set_option maxHeartbeats 4000000 in
set_option maxRecDepth 100000 in
theorem t_Qry_addStep_e {p : Program} {l : Launch} {e : Env} {R : Room} {s : State} {m : MethodId} {args : Array Value} {below : List Frame} {meth : Method} {c : Code} {cells slots : Nat} {Q : State → Prop} {dC : Nat → ClassId} {dI : Nat → Nat → Nat} {cI cB cJ cZ : ClassId} {A : Nat → Prop} {ad : Nat → Nat} {NN : Nat} {E : Heap} {tM tC : Nat} {kK kV : Nat → Nat} {post : St → Prop} (hx : p.tables.exec = Jvm.exec) (hb : c.code = b_Qry_addStep) (hml : c.maxLocals = 6) (hown : s.vm.findClass R_Qry = some m.cls) (hT : ∀ w ∈ TG, w.before args s = true) (hK : va_K (dC, dI) CL (TY cI cB cJ cZ) s) (hN : NW s) (hA : ∀ q : Nat, s.heap.size ≤ q → A q) (hRc : cells ≤ R.cells) (hRs : slots ≤ R.slots) (hRf : 1 ≤ R.frames) (hRl : 21 ≤ R.locals) (hNN : 152 ≤ NN) (hE : CE E tM tC kK kV A s) (hret : ∀ (x : St) (H : Heap) (locs : List Loc) (pc : Nat) (ls : Array Slot), decode b_Qry_addStep pc = .ok (.return_, 1) → post x → Wd dC dI cI cB cJ cZ ad stC kcC NN A x H → va_S A s.heap H locs → W p l e R s m args below meth c H locs cells slots Q (F0 m pc ls [])) : ∀ (o : Nat) (l1 : Int32) (l2 : Int32) (l3 : Int32) (l4 : Int32) (l5 : Int32) (x : St) (H : Heap) (locs : List Loc) (ls : Array Slot), (o < NN ∧ kcC o = 9) → wp_Qry_addStep post o l1 l2 l3 l4 l5 x → Wd dC dI cI cB cJ cZ ad stC kcC NN A x H → va_S A s.heap H locs → lv_has ls 6 [(0, .ref (ad o)), (1, .int l1), (2, .int l2), (3, .int l3), (4, .int l4), (5, .int l5)] → W p l e R s m args below meth c H locs cells slots Q (F0 m 0 ls []) := by
  intro o l1 l2 l3 l4 l5 x H locs ls fo hw hW hS hl
  unfold wp_Qry_addStep at hw
  refine lv_aload_n hx hb d_Qry_addStep_0 rfl (lv_at hl 0 rfl) ?_
  obtain ⟨q1, hq1, hw⟩ := hw
  refine w_getr (q := q1) (k := 17) (t := 9) (C := R_Qry) (T := F_Qry) (N := 20) hx hb hT hown hK hW fo.1 fo.2 (by decide) in_Qry rfl rfl (by decide) rfl fr_Qry_17 w_3_105 d_Qry_addStep_1 hq1 (fun aq1 bq1 => ?_)
  have fq1 : q1 < NN ∧ kcC q1 = 2 := ⟨aq1, bq1⟩
  have hF := hW.free hS hA
  refine va_calli (va_runV (C := R_Scn) (As := []) (rest := []) ⟨hx, hb, hml, hown, hT⟩ (k_Scn_good l dC dI cI cB cJ cZ ad NN E tM tC kK kV hNN H.size q1 x fq1 hw) ⟨callB_of 0 hT (gwt_in w_4_106) rfl rfl rfl (hT _ w_1_4) (hT _ w_7_147) (by decide +kernel) ⟨Nat.le_trans (Nat.le_of_ble_eq_true rfl) hRf, Nat.le_trans (Nat.le_of_ble_eq_true rfl) hRl⟩, hT _ w_4_104, hT _ w_4_105⟩ ⟨PVc.blind, va_recv hK hW.1 (ci := 2) (q0 := q1) rfl (pic_obj fq1.1 fq1.2 (by decide)), PVc.at _ hW hK hN hE hS hF⟩ rfl rfl hl.1 rfl (lv_room (Nat.le_of_ble_eq_true rfl)) d_Qry_addStep_4 ⟨hRc, hRs⟩) hS (fun q _ h => hF q h) hF (fun r3 x2 t H locs ht hvm hw hB hz1 hk1 hS => ?_)
  have hW := Wd.back hB ht hF
  clear hB ht hF hz1 hk1 hvm
  refine lv_if_ne (tgt := 11) hx hb d_Qry_addStep_7 (by decide) (fun c4 => ?_) (fun c4 => ?_)
  · have hw := hw.1 c4
    refine lv_aload_n hx hb d_Qry_addStep_11 rfl (lv_at hl 0 rfl) ?_
    refine w_geti (k := 8) (t := 9) (C := R_Qry) (T := F_Qry) (N := 20) hx hb hT hown hK hW fo.1 fo.2 (by decide) in_Qry rfl rfl (by decide) rfl fr_Qry_8 w_3_89 d_Qry_addStep_12 ?_
    refine lv_bipush (v := 64) hx hb d_Qry_addStep_15 (by decide) ?_
    refine lv_icmp_lt (tgt := 29) hx hb d_Qry_addStep_17 (by decide) (fun c5 => ?_) (fun c5 => ?_)
    · have hw := hw.1 c5
      refine lv_aload_n hx hb d_Qry_addStep_29 rfl (lv_at hl 0 rfl) ?_
      refine w_getf (q := (stC o 9)) (k := 9) (t := 9) (C := R_Qry) (T := F_Qry) (N := 20) hx hb hT hown hK hW fo.1 fo.2 (by decide) in_Qry rfl rfl (by decide) rfl fr_Qry_9 w_3_91 d_Qry_addStep_30 rfl ?_
      refine lv_aload_n hx hb d_Qry_addStep_33 rfl (lv_at hl 0 rfl) ?_
      refine w_geti (k := 8) (t := 9) (C := R_Qry) (T := F_Qry) (N := 20) hx hb hT hown hK hW fo.1 fo.2 (by decide) in_Qry rfl rfl (by decide) rfl fr_Qry_8 w_3_89 d_Qry_addStep_34 ?_
      refine lv_iload_n hx hb d_Qry_addStep_37 rfl (lv_at hl 1 rfl) ?_
      obtain ⟨hi, hw⟩ := hw
      refine w_iast (o := (stC o 9)) hx hb hK hW hS (st_ty hNN fo.1 fo.2 rfl).1 (st_ty hNN fo.1 fo.2 rfl).2 hi d_Qry_addStep_38 (fun H locs hW hS => ?_)
      obtain ⟨x6, ex6⟩ : ∃ y : St, y = setA x2 (stC o 9) (fI x2 o 8) l1 := ⟨_, rfl⟩
      rw [← ex6] at hW
      have hw := hw x6 ex6
      refine lv_aload_n hx hb d_Qry_addStep_39 rfl (lv_at hl 0 rfl) ?_
      refine w_getf (q := (stC o 10)) (k := 10) (t := 9) (C := R_Qry) (T := F_Qry) (N := 20) hx hb hT hown hK hW fo.1 fo.2 (by decide) in_Qry rfl rfl (by decide) rfl fr_Qry_10 w_3_93 d_Qry_addStep_40 rfl ?_
      refine lv_aload_n hx hb d_Qry_addStep_43 rfl (lv_at hl 0 rfl) ?_
      refine w_geti (k := 8) (t := 9) (C := R_Qry) (T := F_Qry) (N := 20) hx hb hT hown hK hW fo.1 fo.2 (by decide) in_Qry rfl rfl (by decide) rfl fr_Qry_8 w_3_89 d_Qry_addStep_44 ?_
      refine lv_iload_n hx hb d_Qry_addStep_47 rfl (lv_at hl 3 rfl) ?_
      obtain ⟨hi, hw⟩ := hw
      refine w_iast (o := (stC o 10)) hx hb hK hW hS (st_ty hNN fo.1 fo.2 rfl).1 (st_ty hNN fo.1 fo.2 rfl).2 hi d_Qry_addStep_48 (fun H locs hW hS => ?_)
      obtain ⟨x7, ex7⟩ : ∃ y : St, y = setA x6 (stC o 10) (fI x6 o 8) l3 := ⟨_, rfl⟩
      rw [← ex7] at hW
      have hw := hw x7 ex7
      refine lv_aload_n hx hb d_Qry_addStep_49 rfl (lv_at hl 0 rfl) ?_
      refine w_getf (q := (stC o 11)) (k := 11) (t := 9) (C := R_Qry) (T := F_Qry) (N := 20) hx hb hT hown hK hW fo.1 fo.2 (by decide) in_Qry rfl rfl (by decide) rfl fr_Qry_11 w_3_95 d_Qry_addStep_50 rfl ?_
      refine lv_aload_n hx hb d_Qry_addStep_53 rfl (lv_at hl 0 rfl) ?_
      refine w_geti (k := 8) (t := 9) (C := R_Qry) (T := F_Qry) (N := 20) hx hb hT hown hK hW fo.1 fo.2 (by decide) in_Qry rfl rfl (by decide) rfl fr_Qry_8 w_3_89 d_Qry_addStep_54 ?_
      refine lv_iload hx hb d_Qry_addStep_57 (lv_at hl 4 rfl) ?_
      obtain ⟨hi, hw⟩ := hw
      refine w_iast (o := (stC o 11)) hx hb hK hW hS (st_ty hNN fo.1 fo.2 rfl).1 (st_ty hNN fo.1 fo.2 rfl).2 hi d_Qry_addStep_59 (fun H locs hW hS => ?_)
      obtain ⟨x8, ex8⟩ : ∃ y : St, y = setA x7 (stC o 11) (fI x7 o 8) l4 := ⟨_, rfl⟩
      rw [← ex8] at hW
      have hw := hw x8 ex8
      refine lv_aload_n hx hb d_Qry_addStep_60 rfl (lv_at hl 0 rfl) ?_
      refine w_getf (q := (stC o 12)) (k := 12) (t := 9) (C := R_Qry) (T := F_Qry) (N := 20) hx hb hT hown hK hW fo.1 fo.2 (by decide) in_Qry rfl rfl (by decide) rfl fr_Qry_12 w_3_97 d_Qry_addStep_61 rfl ?_
      refine lv_aload_n hx hb d_Qry_addStep_64 rfl (lv_at hl 0 rfl) ?_
      refine w_geti (k := 8) (t := 9) (C := R_Qry) (T := F_Qry) (N := 20) hx hb hT hown hK hW fo.1 fo.2 (by decide) in_Qry rfl rfl (by decide) rfl fr_Qry_8 w_3_89 d_Qry_addStep_65 ?_
      refine lv_iload hx hb d_Qry_addStep_68 (lv_at hl 5 rfl) ?_
      obtain ⟨hi, hw⟩ := hw
      refine w_iast (o := (stC o 12)) hx hb hK hW hS (st_ty hNN fo.1 fo.2 rfl).1 (st_ty hNN fo.1 fo.2 rfl).2 hi d_Qry_addStep_70 (fun H locs hW hS => ?_)
      obtain ⟨x9, ex9⟩ : ∃ y : St, y = setA x8 (stC o 12) (fI x8 o 8) l5 := ⟨_, rfl⟩
      rw [← ex9] at hW
      have hw := hw x9 ex9
      refine lv_aload_n hx hb d_Qry_addStep_71 rfl (lv_at hl 0 rfl) ?_
      refine lv_dup hx hb d_Qry_addStep_72 rfl ?_
      refine w_geti (k := 8) (t := 9) (C := R_Qry) (T := F_Qry) (N := 20) hx hb hT hown hK hW fo.1 fo.2 (by decide) in_Qry rfl rfl (by decide) rfl fr_Qry_8 w_3_89 d_Qry_addStep_73 ?_
      refine lv_iconst (v := 1) hx hb d_Qry_addStep_76 (by decide) ?_
      refine lv_iadd hx hb d_Qry_addStep_77 ?_
      refine w_puti (ty := .int) (k := 8) (t := 9) (C := R_Qry) (T := F_Qry) (N := 20) hx hb hT hown hK hW hS fo.1 fo.2 (by decide) in_Qry t_Qry t_Qry_ok n_Qry rfl rfl (by decide) rfl fr_Qry_8 w_3_89 (by decide +kernel) rfl rfl d_Qry_addStep_78 (fun H locs hW hS => ?_)
      obtain ⟨x10, ex10⟩ : ∃ y : St, y = setI x9 o 8 ((fI x9 o 8) + 1) := ⟨_, rfl⟩
      rw [← ex10] at hW
      have hw := hw x10 ex10
      exact hret x10 H locs 81 ls d_Qry_addStep_81 hw hW hS
    · have hw := hw.2 c5
      refine lv_aload_n hx hb d_Qry_addStep_20 rfl (lv_at hl 0 rfl) ?_
      obtain ⟨q11, hq11, hw⟩ := hw
      refine w_getr (q := q11) (k := 17) (t := 9) (C := R_Qry) (T := F_Qry) (N := 20) hx hb hT hown hK hW fo.1 fo.2 (by decide) in_Qry rfl rfl (by decide) rfl fr_Qry_17 w_3_105 d_Qry_addStep_21 hq11 (fun aq11 bq11 => ?_)
      have fq11 : q11 < NN ∧ kcC q11 = 2 := ⟨aq11, bq11⟩
      refine lv_iload_n hx hb d_Qry_addStep_24 rfl (lv_at hl 2 rfl) ?_
      have hF := hW.free hS hA
      refine va_callv (va_runV (C := R_Scn) (As := [.int l2]) (rest := []) ⟨hx, hb, hml, hown, hT⟩ (k_Scn_refuse l dC dI cI cB cJ cZ ad NN E tM tC kK kV hNN H.size q11 l2 x2 fq11 hw) ⟨callB_of 1 hT (gwt_in w_4_128) rfl rfl rfl (hT _ w_1_4) (hT _ w_7_149) (by decide +kernel) ⟨Nat.le_trans (Nat.le_of_ble_eq_true rfl) hRf, Nat.le_trans (Nat.le_of_ble_eq_true rfl) hRl⟩, hT _ w_4_126, hT _ w_4_127⟩ ⟨PVc.blind, va_recv hK hW.1 (ci := 2) (q0 := q11) rfl (pic_obj fq11.1 fq11.2 (by decide)), PVc.at _ hW hK hN hE hS hF⟩ rfl rfl hl.1 rfl (lv_room (Nat.le_of_ble_eq_true rfl)) d_Qry_addStep_25 ⟨hRc, hRs⟩) hS (fun q _ h => hF q h) hF (fun  x12 t H locs ht hvm hw hB hz1 hk1 hS => ?_)
      have hW := Wd.back hB ht hF
      clear hB ht hF hz1 hk1 hvm
      exact hret x12 H locs 28 ls d_Qry_addStep_28 hw hW hS
  · have hw := hw.2 c4
    exact hret x2 H locs 10 ls d_Qry_addStep_10 hw hW hS
set_option maxHeartbeats 4000000 in
set_option maxRecDepth 100000 in
theorem k_Qry_addStep (l : Launch) (dC : Nat → ClassId) (dI : Nat → Nat → Nat) (cI cB cJ cZ : ClassId) (ad : Nat → Nat) (NN : Nat) (E : Heap) (tM tC : Nat) (kK kV : Nat → Nat) (hNN : 152 ≤ NN) (sz : Nat) (o : Nat) (l1 : Int32) (l2 : Int32) (l3 : Int32) (l4 : Int32) (l5 : Int32) (x : St) (fo : o < NN ∧ kcC o = 9) {post : St → Prop} (hw : wp_Qry_addStep post o l1 l2 l3 l4 l5 x) : Met l y_Qry_addStep (wsOf y_Qry_addStep b_Qry_addStep 6 (none)) ({ frames := 1, cells := 0, slots := 0, locals := 21 }) (va_Pc [.ref (ad o), .int l1, .int l2, .int l3, .int l4, .int l5] (PVc dC dI cI cB cJ cZ ad stC kcC NN E tM tC kK kV sz x)) (va_Qv (fun (y : St) => post y) (fun y t => Wd dC dI cI cB cJ cZ ad stC kcC NN (va_A (pic ad stC kcC NN cI cB cJ cZ x) sz) y t.heap) (va_A (pic ad stC kcC NN cI cB cJ cZ x) sz)) 0 0 (va_A (pic ad stC kcC NN cI cB cJ cZ x) sz) := by
  refine Met.ofW (cc := b_Qry_addStep) (maxL := 6) (ret := none) (by decide) rfl ?_
  intro p e s m args below meth c s₁ B hml hv
  obtain ⟨rfl, ⟨hsz, hW0, hK, hN⟩, hE⟩ := hv
  have hx := B.exec
  have hb := B.bytes
  have hr := B.returns
  have hts := atoms_spec B.pre
  have hT : ∀ w ∈ TG, w.before _ s = true := fun w h => hts w (List.mem_cons_of_mem _ h)
  have hown : s.vm.findClass R_Qry = some m.cls := findClass_of_methodNamed B.named
  have hlocks := B.notSynchronized
  subst hsz
  have hW : Wd dC dI cI cB cJ cZ ad stC kcC NN (va_A (pic ad stC kcC NN cI cB cJ cZ x) s.heap.size) x s.heap := ⟨hW0.1, hW0.2.1.self (sz := s.heap.size), hW0.2.2⟩
  generalize hAe : va_A (pic ad stC kcC NN cI cB cJ cZ x) s.heap.size = A at hW hE ⊢
  have hA : ∀ q : Nat, s.heap.size ≤ q → A q := fun q h => by rw [← hAe]; exact Or.inr h
  have hS : va_S A s.heap s.heap [] := va_S.rf
  have hl := lv_entry ([.ref (ad o), .int l1, .int l2, .int l3, .int l4, .int l5]) (n := 6) (Nat.le_of_ble_eq_true rfl)
  rw [lg_entry_eq]
  generalize (lg_sl ([.ref (ad o), .int l1, .int l2, .int l3, .int l4, .int l5]) ++ List.replicate (6 - (lg_sl ([.ref (ad o), .int l1, .int l2, .int l3, .int l4, .int l5])).length) Slot.unset).toArray = ls at hl ⊢
  have hl : lv_has ls 6 [(0, .ref (ad o)), (1, .int l1), (2, .int l2), (3, .int l3), (4, .int l4), (5, .int l5)] := hl
  exact t_Qry_addStep_e hx hb hml hown hT hK hN hA (Nat.le_refl 0) (Nat.le_refl 0) (Nat.le_refl 1) (Nat.le_refl 21) hNN hE (fun x H locs pc ls hd hp hW hS => W.vret hx hb hr (fun t ht hM => ⟨⟨x, rfl, hp, Wd.back hW ht.symm (fun _ z => z)⟩, hS.F ht⟩) hS.2.2 hd hlocks)  o l1 l2 l3 l4 l5 x _ _ ls fo hw hW hS hl
set_option maxRecDepth 100000 in
set_option maxHeartbeats 4000000 in
set_option maxRecDepth 100000 in
theorem t_Qry_readLiteral_202 {p : Program} {l : Launch} {e : Env} {R : Room} {s : State} {m : MethodId} {args : Array Value} {below : List Frame} {meth : Method} {c : Code} {cells slots : Nat} {Q : State → Prop} {dC : Nat → ClassId} {dI : Nat → Nat → Nat} {cI cB cJ cZ : ClassId} {A : Nat → Prop} {ad : Nat → Nat} {NN : Nat} {E : Heap} {tM tC : Nat} {kK kV : Nat → Nat} {post : St → Prop} (hx : p.tables.exec = Jvm.exec) (hb : c.code = b_Qry_readLiteral) (hml : c.maxLocals = 7) (hown : s.vm.findClass R_Qry = some m.cls) (hT : ∀ w ∈ TG, w.before args s = true) (hK : va_K (dC, dI) CL (TY cI cB cJ cZ) s) (hN : NW s) (hA : ∀ q : Nat, s.heap.size ≤ q → A q) (hRc : cells ≤ R.cells) (hRs : slots ≤ R.slots) (hRf : 6 ≤ R.frames) (hRl : 243 ≤ R.locals) (hNN : 152 ≤ NN) (hE : CE E tM tC kK kV A s) (hret : ∀ (x : St) (H : Heap) (locs : List Loc) (pc : Nat) (ls : Array Slot), decode b_Qry_readLiteral pc = .ok (.return_, 1) → post x → Wd dC dI cI cB cJ cZ ad stC kcC NN A x H → va_S A s.heap H locs → W p l e R s m args below meth c H locs cells slots Q (F0 m pc ls []))  : ∀ (o : Nat) (l1 : Int32) (l2 : Int32) (l3 : Int32) (l4 : Int32) (l5 : Int64) (x : St) (H : Heap) (locs : List Loc) (ls : Array Slot), (o < NN ∧ kcC o = 9) → j_Qry_readLiteral_202 post o l1 l2 l3 l4 l5 x → Wd dC dI cI cB cJ cZ ad stC kcC NN A x H → va_S A s.heap H locs → lv_has ls 7 [(0, .ref (ad o)), (1, .int l1), (2, .int l2), (3, .int l3), (4, .int l4), (5, .long l5)] → W p l e R s m args below meth c H locs cells slots Q (F0 m 202 ls []) := by
  intro o l1 l2 l3 l4 l5 x H locs ls fo hw hW hS hl
  unfold j_Qry_readLiteral_202 at hw
  refine lv_aload_n hx hb d_Qry_readLiteral_202 rfl (lv_at hl 0 rfl) ?_
  obtain ⟨q1, hq1, hw⟩ := hw
  refine w_getr (q := q1) (k := 17) (t := 9) (C := R_Qry) (T := F_Qry) (N := 20) hx hb hT hown hK hW fo.1 fo.2 (by decide) in_Qry rfl rfl (by decide) rfl fr_Qry_17 w_3_105 d_Qry_readLiteral_203 hq1 (fun aq1 bq1 => ?_)
  have fq1 : q1 < NN ∧ kcC q1 = 2 := ⟨aq1, bq1⟩
  have hF := hW.free hS hA
  refine va_calli (va_runV (C := R_Scn) (As := []) (rest := []) ⟨hx, hb, hml, hown, hT⟩ (k_Scn_good l dC dI cI cB cJ cZ ad NN E tM tC kK kV hNN H.size q1 x fq1 hw) ⟨callB_of 0 hT (gwt_in w_4_106) rfl rfl rfl (hT _ w_1_4) (hT _ w_7_147) (by decide +kernel) ⟨Nat.le_trans (Nat.le_of_ble_eq_true rfl) hRf, Nat.le_trans (Nat.le_of_ble_eq_true rfl) hRl⟩, hT _ w_4_104, hT _ w_4_105⟩ ⟨PVc.blind, va_recv hK hW.1 (ci := 2) (q0 := q1) rfl (pic_obj fq1.1 fq1.2 (by decide)), PVc.at _ hW hK hN hE hS hF⟩ rfl rfl hl.1 rfl (lv_room (Nat.le_of_ble_eq_true rfl)) d_Qry_readLiteral_206 ⟨hRc, hRs⟩) hS (fun q _ h => hF q h) hF (fun r3 x2 t H locs ht hvm hw hB hz1 hk1 hS => ?_)
  have hW := Wd.back hB ht hF
  clear hB ht hF hz1 hk1 hvm
  refine lv_if_eq (tgt := 233) hx hb d_Qry_readLiteral_209 (by decide) (fun c4 => ?_) (fun c4 => ?_)
  · have hw := hw.1 c4
    exact hret x2 H locs 233 ls d_Qry_readLiteral_233 hw hW hS
  · have hw := hw.2 c4
    refine lv_aload_n hx hb d_Qry_readLiteral_212 rfl (lv_at hl 0 rfl) ?_
    refine w_getf (q := (stC o 14)) (k := 14) (t := 9) (C := R_Qry) (T := F_Qry) (N := 20) hx hb hT hown hK hW fo.1 fo.2 (by decide) in_Qry rfl rfl (by decide) rfl fr_Qry_14 w_3_100 d_Qry_readLiteral_213 rfl ?_
    refine lv_aload_n hx hb d_Qry_readLiteral_216 rfl (lv_at hl 0 rfl) ?_
    refine w_geti (k := 13) (t := 9) (C := R_Qry) (T := F_Qry) (N := 20) hx hb hT hown hK hW fo.1 fo.2 (by decide) in_Qry rfl rfl (by decide) rfl fr_Qry_13 w_3_99 d_Qry_readLiteral_217 ?_
    refine lv_lload hx hb d_Qry_readLiteral_220 (lv_at hl 5 rfl) ?_
    obtain ⟨hi, hw⟩ := hw
    refine w_last (o := (stC o 14)) hx hb hK hW hS (st_ty hNN fo.1 fo.2 rfl).1 (st_ty hNN fo.1 fo.2 rfl).2 hi d_Qry_readLiteral_222 (fun H locs hW hS => ?_)
    obtain ⟨x5, ex5⟩ : ∃ y : St, y = setL x2 (stC o 14) (fI x2 o 13) l5 := ⟨_, rfl⟩
    rw [← ex5] at hW
    have hw := hw x5 ex5
    refine lv_aload_n hx hb d_Qry_readLiteral_223 rfl (lv_at hl 0 rfl) ?_
    refine lv_dup hx hb d_Qry_readLiteral_224 rfl ?_
    refine w_geti (k := 13) (t := 9) (C := R_Qry) (T := F_Qry) (N := 20) hx hb hT hown hK hW fo.1 fo.2 (by decide) in_Qry rfl rfl (by decide) rfl fr_Qry_13 w_3_99 d_Qry_readLiteral_225 ?_
    refine lv_iconst (v := 1) hx hb d_Qry_readLiteral_228 (by decide) ?_
    refine lv_iadd hx hb d_Qry_readLiteral_229 ?_
    refine w_puti (ty := .int) (k := 13) (t := 9) (C := R_Qry) (T := F_Qry) (N := 20) hx hb hT hown hK hW hS fo.1 fo.2 (by decide) in_Qry t_Qry t_Qry_ok n_Qry rfl rfl (by decide) rfl fr_Qry_13 w_3_99 (by decide +kernel) rfl rfl d_Qry_readLiteral_230 (fun H locs hW hS => ?_)
    obtain ⟨x6, ex6⟩ : ∃ y : St, y = setI x5 o 13 ((fI x5 o 13) + 1) := ⟨_, rfl⟩
    rw [← ex6] at hW
    have hw := hw x6 ex6
    exact hret x6 H locs 233 ls d_Qry_readLiteral_233 hw hW hS
set_option maxRecDepth 100000 in
set_option maxHeartbeats 4000000 in
set_option maxRecDepth 100000 in
theorem t_Qry_readLiteral_194 {p : Program} {l : Launch} {e : Env} {R : Room} {s : State} {m : MethodId} {args : Array Value} {below : List Frame} {meth : Method} {c : Code} {cells slots : Nat} {Q : State → Prop} {dC : Nat → ClassId} {dI : Nat → Nat → Nat} {cI cB cJ cZ : ClassId} {A : Nat → Prop} {ad : Nat → Nat} {NN : Nat} {E : Heap} {tM tC : Nat} {kK kV : Nat → Nat} {post : St → Prop} (hx : p.tables.exec = Jvm.exec) (hb : c.code = b_Qry_readLiteral) (hml : c.maxLocals = 7) (hown : s.vm.findClass R_Qry = some m.cls) (hT : ∀ w ∈ TG, w.before args s = true) (hK : va_K (dC, dI) CL (TY cI cB cJ cZ) s) (hN : NW s) (hA : ∀ q : Nat, s.heap.size ≤ q → A q) (hRc : cells ≤ R.cells) (hRs : slots ≤ R.slots) (hRf : 6 ≤ R.frames) (hRl : 243 ≤ R.locals) (hNN : 152 ≤ NN) (hE : CE E tM tC kK kV A s) (hret : ∀ (x : St) (H : Heap) (locs : List Loc) (pc : Nat) (ls : Array Slot), decode b_Qry_readLiteral pc = .ok (.return_, 1) → post x → Wd dC dI cI cB cJ cZ ad stC kcC NN A x H → va_S A s.heap H locs → W p l e R s m args below meth c H locs cells slots Q (F0 m pc ls []))  : ∀ (o : Nat) (l1 : Int32) (l2 : Int32) (l3 : Int32) (l4 : Int32) (l5 : Int64) (x : St) (H : Heap) (locs : List Loc) (ls : Array Slot), (o < NN ∧ kcC o = 9) → j_Qry_readLiteral_194 post o l1 l2 l3 l4 l5 x → Wd dC dI cI cB cJ cZ ad stC kcC NN A x H → va_S A s.heap H locs → lv_has ls 7 [(0, .ref (ad o)), (1, .int l1), (2, .int l2), (3, .int l3), (4, .int l4), (5, .long l5)] → W p l e R s m args below meth c H locs cells slots Q (F0 m 194 ls []) := by
  intro o l1 l2 l3 l4 l5 x H locs ls fo hw hW hS hl
  unfold j_Qry_readLiteral_194 at hw
  refine lv_aload_n hx hb d_Qry_readLiteral_194 rfl (lv_at hl 0 rfl) ?_
  obtain ⟨q7, hq7, hw⟩ := hw
  refine w_getr (q := q7) (k := 17) (t := 9) (C := R_Qry) (T := F_Qry) (N := 20) hx hb hT hown hK hW fo.1 fo.2 (by decide) in_Qry rfl rfl (by decide) rfl fr_Qry_17 w_3_105 d_Qry_readLiteral_195 hq7 (fun aq7 bq7 => ?_)
  have fq7 : q7 < NN ∧ kcC q7 = 2 := ⟨aq7, bq7⟩
  refine lv_iload_n hx hb d_Qry_readLiteral_198 rfl (lv_at hl 3 rfl) ?_
  have hF := hW.free hS hA
  refine va_callv (va_runV (C := R_Scn) (As := [.int l3]) (rest := []) ⟨hx, hb, hml, hown, hT⟩ (k_Scn_refuse l dC dI cI cB cJ cZ ad NN E tM tC kK kV hNN H.size q7 l3 x fq7 hw) ⟨callB_of 1 hT (gwt_in w_4_128) rfl rfl rfl (hT _ w_1_4) (hT _ w_7_149) (by decide +kernel) ⟨Nat.le_trans (Nat.le_of_ble_eq_true rfl) hRf, Nat.le_trans (Nat.le_of_ble_eq_true rfl) hRl⟩, hT _ w_4_126, hT _ w_4_127⟩ ⟨PVc.blind, va_recv hK hW.1 (ci := 2) (q0 := q7) rfl (pic_obj fq7.1 fq7.2 (by decide)), PVc.at _ hW hK hN hE hS hF⟩ rfl rfl hl.1 rfl (lv_room (Nat.le_of_ble_eq_true rfl)) d_Qry_readLiteral_199 ⟨hRc, hRs⟩) hS (fun q _ h => hF q h) hF (fun  x8 t H locs ht hvm hw hB hz1 hk1 hS => ?_)
  have hW := Wd.back hB ht hF
  clear hB ht hF hz1 hk1 hvm
  exact t_Qry_readLiteral_202 hx hb hml hown hT hK hN hA hRc hRs hRf hRl hNN hE hret  o l1 l2 l3 l4 l5 x8 H locs ls fo hw hW hS (lv_sub hl [0, 1, 2, 3, 4, 5] rfl)
set_option maxRecDepth 100000 in
set_option maxHeartbeats 4000000 in
set_option maxRecDepth 100000 in
theorem t_Qry_readLiteral_180 {p : Program} {l : Launch} {e : Env} {R : Room} {s : State} {m : MethodId} {args : Array Value} {below : List Frame} {meth : Method} {c : Code} {cells slots : Nat} {Q : State → Prop} {dC : Nat → ClassId} {dI : Nat → Nat → Nat} {cI cB cJ cZ : ClassId} {A : Nat → Prop} {ad : Nat → Nat} {NN : Nat} {E : Heap} {tM tC : Nat} {kK kV : Nat → Nat} {post : St → Prop} (hx : p.tables.exec = Jvm.exec) (hb : c.code = b_Qry_readLiteral) (hml : c.maxLocals = 7) (hown : s.vm.findClass R_Qry = some m.cls) (hT : ∀ w ∈ TG, w.before args s = true) (hK : va_K (dC, dI) CL (TY cI cB cJ cZ) s) (hN : NW s) (hA : ∀ q : Nat, s.heap.size ≤ q → A q) (hRc : cells ≤ R.cells) (hRs : slots ≤ R.slots) (hRf : 6 ≤ R.frames) (hRl : 243 ≤ R.locals) (hNN : 152 ≤ NN) (hE : CE E tM tC kK kV A s) (hret : ∀ (x : St) (H : Heap) (locs : List Loc) (pc : Nat) (ls : Array Slot), decode b_Qry_readLiteral pc = .ok (.return_, 1) → post x → Wd dC dI cI cB cJ cZ ad stC kcC NN A x H → va_S A s.heap H locs → W p l e R s m args below meth c H locs cells slots Q (F0 m pc ls []))  : ∀ (o : Nat) (l1 : Int32) (l2 : Int32) (l3 : Int32) (l4 : Int32) (l5 : Int64) (x : St) (H : Heap) (locs : List Loc) (ls : Array Slot), (o < NN ∧ kcC o = 9) → j_Qry_readLiteral_180 post o l1 l2 l3 l4 l5 x → Wd dC dI cI cB cJ cZ ad stC kcC NN A x H → va_S A s.heap H locs → lv_has ls 7 [(0, .ref (ad o)), (1, .int l1), (2, .int l2), (3, .int l3), (4, .int l4), (5, .long l5)] → W p l e R s m args below meth c H locs cells slots Q (F0 m 180 ls []) := by
  intro o l1 l2 l3 l4 l5 x H locs ls fo hw hW hS hl
  unfold j_Qry_readLiteral_180 at hw
  refine lv_iload hx hb d_Qry_readLiteral_180 (lv_at hl 4 rfl) ?_
  refine lv_if_eq (tgt := 194) hx hb d_Qry_readLiteral_182 (by decide) (fun c9 => ?_) (fun c9 => ?_)
  · have hw := hw.1 c9
    exact t_Qry_readLiteral_194 hx hb hml hown hT hK hN hA hRc hRs hRf hRl hNN hE hret  o l1 l2 l3 l4 l5 x H locs ls fo hw hW hS (lv_sub hl [0, 1, 2, 3, 4, 5] rfl)
  · have hw := hw.2 c9
    refine lv_aload_n hx hb d_Qry_readLiteral_185 rfl (lv_at hl 0 rfl) ?_
    refine w_geti (k := 13) (t := 9) (C := R_Qry) (T := F_Qry) (N := 20) hx hb hT hown hK hW fo.1 fo.2 (by decide) in_Qry rfl rfl (by decide) rfl fr_Qry_13 w_3_99 d_Qry_readLiteral_186 ?_
    refine lv_bipush (v := 64) hx hb d_Qry_readLiteral_189 (by decide) ?_
    refine lv_icmp_lt (tgt := 202) hx hb d_Qry_readLiteral_191 (by decide) (fun c10 => ?_) (fun c10 => ?_)
    · have hw := hw.1 c10
      exact t_Qry_readLiteral_202 hx hb hml hown hT hK hN hA hRc hRs hRf hRl hNN hE hret  o l1 l2 l3 l4 l5 x H locs ls fo hw hW hS (lv_sub hl [0, 1, 2, 3, 4, 5] rfl)
    · have hw := hw.2 c10
      exact t_Qry_readLiteral_194 hx hb hml hown hT hK hN hA hRc hRs hRf hRl hNN hE hret  o l1 l2 l3 l4 l5 x H locs ls fo hw hW hS (lv_sub hl [0, 1, 2, 3, 4, 5] rfl)
set_option maxRecDepth 100000 in
set_option maxHeartbeats 4000000 in
set_option maxRecDepth 100000 in
theorem t_Qry_readLiteral_178 {p : Program} {l : Launch} {e : Env} {R : Room} {s : State} {m : MethodId} {args : Array Value} {below : List Frame} {meth : Method} {c : Code} {cells slots : Nat} {Q : State → Prop} {dC : Nat → ClassId} {dI : Nat → Nat → Nat} {cI cB cJ cZ : ClassId} {A : Nat → Prop} {ad : Nat → Nat} {NN : Nat} {E : Heap} {tM tC : Nat} {kK kV : Nat → Nat} {post : St → Prop} (hx : p.tables.exec = Jvm.exec) (hb : c.code = b_Qry_readLiteral) (hml : c.maxLocals = 7) (hown : s.vm.findClass R_Qry = some m.cls) (hT : ∀ w ∈ TG, w.before args s = true) (hK : va_K (dC, dI) CL (TY cI cB cJ cZ) s) (hN : NW s) (hA : ∀ q : Nat, s.heap.size ≤ q → A q) (hRc : cells ≤ R.cells) (hRs : slots ≤ R.slots) (hRf : 6 ≤ R.frames) (hRl : 243 ≤ R.locals) (hNN : 152 ≤ NN) (hE : CE E tM tC kK kV A s) (hret : ∀ (x : St) (H : Heap) (locs : List Loc) (pc : Nat) (ls : Array Slot), decode b_Qry_readLiteral pc = .ok (.return_, 1) → post x → Wd dC dI cI cB cJ cZ ad stC kcC NN A x H → va_S A s.heap H locs → W p l e R s m args below meth c H locs cells slots Q (F0 m pc ls []))  : ∀ (o : Nat) (l1 : Int32) (l2 : Int32) (l3 : Int32) (l5 : Int64) (s0 : Int32) (x : St) (H : Heap) (locs : List Loc) (ls : Array Slot), (o < NN ∧ kcC o = 9) → j_Qry_readLiteral_178 post o l1 l2 l3 l5 s0 x → Wd dC dI cI cB cJ cZ ad stC kcC NN A x H → va_S A s.heap H locs → lv_has ls 7 [(0, .ref (ad o)), (1, .int l1), (2, .int l2), (3, .int l3), (5, .long l5)] → W p l e R s m args below meth c H locs cells slots Q (F0 m 178 ls [.int s0]) := by
  intro o l1 l2 l3 l5 s0 x H locs ls fo hw hW hS hl
  unfold j_Qry_readLiteral_178 at hw
  refine lv_istore (lv' := [(4, .int s0), (0, .ref (ad o)), (1, .int l1), (2, .int l2), (3, .int l3), (5, .long l5)]) hx hb d_Qry_readLiteral_178 hl (by decide) rfl (fun ls hl => ?_)
  exact t_Qry_readLiteral_180 hx hb hml hown hT hK hN hA hRc hRs hRf hRl hNN hE hret  o l1 l2 l3 s0 l5 x H locs ls fo hw hW hS (lv_sub hl [1, 2, 3, 4, 0, 5] rfl)
set_option maxRecDepth 100000 in
set_option maxHeartbeats 4000000 in
set_option maxRecDepth 100000 in
theorem t_Qry_readLiteral_169 {p : Program} {l : Launch} {e : Env} {R : Room} {s : State} {m : MethodId} {args : Array Value} {below : List Frame} {meth : Method} {c : Code} {cells slots : Nat} {Q : State → Prop} {dC : Nat → ClassId} {dI : Nat → Nat → Nat} {cI cB cJ cZ : ClassId} {A : Nat → Prop} {ad : Nat → Nat} {NN : Nat} {E : Heap} {tM tC : Nat} {kK kV : Nat → Nat} {post : St → Prop} (hx : p.tables.exec = Jvm.exec) (hb : c.code = b_Qry_readLiteral) (hml : c.maxLocals = 7) (hown : s.vm.findClass R_Qry = some m.cls) (hT : ∀ w ∈ TG, w.before args s = true) (hK : va_K (dC, dI) CL (TY cI cB cJ cZ) s) (hN : NW s) (hA : ∀ q : Nat, s.heap.size ≤ q → A q) (hRc : cells ≤ R.cells) (hRs : slots ≤ R.slots) (hRf : 6 ≤ R.frames) (hRl : 243 ≤ R.locals) (hNN : 152 ≤ NN) (hE : CE E tM tC kK kV A s) (hret : ∀ (x : St) (H : Heap) (locs : List Loc) (pc : Nat) (ls : Array Slot), decode b_Qry_readLiteral pc = .ok (.return_, 1) → post x → Wd dC dI cI cB cJ cZ ad stC kcC NN A x H → va_S A s.heap H locs → W p l e R s m args below meth c H locs cells slots Q (F0 m pc ls []))  : ∀ (o : Nat) (l1 : Int32) (l2 : Int32) (l3 : Int32) (l5 : Int64) (x : St) (H : Heap) (locs : List Loc) (ls : Array Slot), (o < NN ∧ kcC o = 9) → j_Qry_readLiteral_169 post o l1 l2 l3 l5 x → Wd dC dI cI cB cJ cZ ad stC kcC NN A x H → va_S A s.heap H locs → lv_has ls 7 [(0, .ref (ad o)), (1, .int l1), (2, .int l2), (3, .int l3), (5, .long l5)] → W p l e R s m args below meth c H locs cells slots Q (F0 m 169 ls []) := by
  intro o l1 l2 l3 l5 x H locs ls fo hw hW hS hl
  unfold j_Qry_readLiteral_169 at hw
  refine lv_iload_n hx hb d_Qry_readLiteral_169 rfl (lv_at hl 1 rfl) ?_
  refine lv_if_ne (tgt := 177) hx hb d_Qry_readLiteral_170 (by decide) (fun c11 => ?_) (fun c11 => ?_)
  · have hw := hw.1 c11
    refine lv_iconst (v := 0) hx hb d_Qry_readLiteral_177 (by decide) ?_
    exact t_Qry_readLiteral_178 hx hb hml hown hT hK hN hA hRc hRs hRf hRl hNN hE hret  o l1 l2 l3 l5 0 x H locs ls fo hw hW hS (lv_sub hl [0, 1, 2, 3, 4] rfl)
  · have hw := hw.2 c11
    refine lv_iconst (v := 1) hx hb d_Qry_readLiteral_173 (by decide) ?_
    refine lv_goto (tgt := 178) hx hb d_Qry_readLiteral_174 (by decide) ?_
    exact t_Qry_readLiteral_178 hx hb hml hown hT hK hN hA hRc hRs hRf hRl hNN hE hret  o l1 l2 l3 l5 1 x H locs ls fo hw hW hS (lv_sub hl [0, 1, 2, 3, 4] rfl)
set_option maxRecDepth 100000 in
set_option maxHeartbeats 4000000 in
set_option maxRecDepth 100000 in
theorem t_Qry_readLiteral_140 {p : Program} {l : Launch} {e : Env} {R : Room} {s : State} {m : MethodId} {args : Array Value} {below : List Frame} {meth : Method} {c : Code} {cells slots : Nat} {Q : State → Prop} {dC : Nat → ClassId} {dI : Nat → Nat → Nat} {cI cB cJ cZ : ClassId} {A : Nat → Prop} {ad : Nat → Nat} {NN : Nat} {E : Heap} {tM tC : Nat} {kK kV : Nat → Nat} {post : St → Prop} (hx : p.tables.exec = Jvm.exec) (hb : c.code = b_Qry_readLiteral) (hml : c.maxLocals = 7) (hown : s.vm.findClass R_Qry = some m.cls) (hT : ∀ w ∈ TG, w.before args s = true) (hK : va_K (dC, dI) CL (TY cI cB cJ cZ) s) (hN : NW s) (hA : ∀ q : Nat, s.heap.size ≤ q → A q) (hRc : cells ≤ R.cells) (hRs : slots ≤ R.slots) (hRf : 6 ≤ R.frames) (hRl : 243 ≤ R.locals) (hNN : 152 ≤ NN) (hE : CE E tM tC kK kV A s) (hret : ∀ (x : St) (H : Heap) (locs : List Loc) (pc : Nat) (ls : Array Slot), decode b_Qry_readLiteral pc = .ok (.return_, 1) → post x → Wd dC dI cI cB cJ cZ ad stC kcC NN A x H → va_S A s.heap H locs → W p l e R s m args below meth c H locs cells slots Q (F0 m pc ls []))  : ∀ (o : Nat) (l1 : Int32) (l2 : Int32) (l3 : Int32) (l5 : Int64) (s0 : Int64) (x : St) (H : Heap) (locs : List Loc) (ls : Array Slot), (o < NN ∧ kcC o = 9) → j_Qry_readLiteral_140 post o l1 l2 l3 l5 s0 x → Wd dC dI cI cB cJ cZ ad stC kcC NN A x H → va_S A s.heap H locs → lv_has ls 7 [(0, .ref (ad o)), (1, .int l1), (2, .int l2), (3, .int l3), (5, .long l5)] → W p l e R s m args below meth c H locs cells slots Q (F0 m 140 ls [.long s0]) := by
  intro o l1 l2 l3 l5 s0 x H locs ls fo hw hW hS hl
  unfold j_Qry_readLiteral_140 at hw
  refine lv_lstore (lv' := [(5, .long s0), (0, .ref (ad o)), (1, .int l1), (2, .int l2), (3, .int l3)]) hx hb d_Qry_readLiteral_140 hl (by decide) rfl (fun ls hl => ?_)
  refine lv_lload hx hb d_Qry_readLiteral_142 (lv_at hl 0 rfl) ?_
  refine lv_lconst (v := 0) hx hb d_Qry_readLiteral_144 (by decide) ?_
  refine W.lcmp hx hb d_Qry_readLiteral_145 ?_
  refine lv_if_ne (tgt := 169) hx hb d_Qry_readLiteral_146 (by decide) (fun c12 => ?_) (fun c12 => ?_)
  · have hw := hw.1 c12
    exact t_Qry_readLiteral_169 hx hb hml hown hT hK hN hA hRc hRs hRf hRl hNN hE hret  o l1 l2 l3 s0 x H locs ls fo hw hW hS (lv_sub hl [1, 2, 3, 4, 0] rfl)
  · have hw := hw.2 c12
    refine lv_aload_n hx hb d_Qry_readLiteral_149 rfl (lv_at hl 1 rfl) ?_
    obtain ⟨q13, hq13, hw⟩ := hw
    refine w_getr (q := q13) (k := 17) (t := 9) (C := R_Qry) (T := F_Qry) (N := 20) hx hb hT hown hK hW fo.1 fo.2 (by decide) in_Qry rfl rfl (by decide) rfl fr_Qry_17 w_3_105 d_Qry_readLiteral_150 hq13 (fun aq13 bq13 => ?_)
    have fq13 : q13 < NN ∧ kcC q13 = 2 := ⟨aq13, bq13⟩
    refine va_ldcS hx hb hown (hE.str 28 (by decide)) d_Qry_readLiteral_153 ?_
    have hF := hW.free hS hA
    refine va_calli (va_runV (C := R_Scn) (As := [.ref (kK 9)]) (rest := []) ⟨hx, hb, hml, hown, hT⟩ (k_Scn_takeWord l dC dI cI cB cJ cZ ad NN E tM tC kK kV hNN H.size q13 9 x fq13 (by decide) hw) ⟨callB_of 1 hT (gwt_in w_4_141) rfl rfl rfl (hT _ w_1_4) (hT _ w_7_159) (by decide +kernel) ⟨Nat.le_trans (Nat.le_of_ble_eq_true rfl) hRf, Nat.le_trans (Nat.le_of_ble_eq_true rfl) hRl⟩, hT _ w_4_139, hT _ w_4_140⟩ ⟨PVc.blind, va_recv hK hW.1 (ci := 2) (q0 := q13) rfl (pic_obj fq13.1 fq13.2 (by decide)), PVc.at _ hW hK hN hE hS hF⟩ rfl rfl hl.1 rfl (lv_room (Nat.le_of_ble_eq_true rfl)) d_Qry_readLiteral_155 ⟨hRc, hRs⟩) hS (fun q _ h => hF q h) hF (fun r15 x14 t H locs ht hvm hw hB hz1 hk1 hS => ?_)
    have hW := Wd.back hB ht hF
    clear hB ht hF hz1 hk1 hvm
    refine lv_if_ne (tgt := 169) hx hb d_Qry_readLiteral_158 (by decide) (fun c16 => ?_) (fun c16 => ?_)
    · have hw := hw.1 c16
      exact t_Qry_readLiteral_169 hx hb hml hown hT hK hN hA hRc hRs hRf hRl hNN hE hret  o l1 l2 l3 s0 x14 H locs ls fo hw hW hS (lv_sub hl [1, 2, 3, 4, 0] rfl)
    · have hw := hw.2 c16
      refine lv_aload_n hx hb d_Qry_readLiteral_161 rfl (lv_at hl 1 rfl) ?_
      obtain ⟨q17, hq17, hw⟩ := hw
      refine w_getr (q := q17) (k := 17) (t := 9) (C := R_Qry) (T := F_Qry) (N := 20) hx hb hT hown hK hW fo.1 fo.2 (by decide) in_Qry rfl rfl (by decide) rfl fr_Qry_17 w_3_105 d_Qry_readLiteral_162 hq17 (fun aq17 bq17 => ?_)
      have fq17 : q17 < NN ∧ kcC q17 = 2 := ⟨aq17, bq17⟩
      refine lv_iload_n hx hb d_Qry_readLiteral_165 rfl (lv_at hl 4 rfl) ?_
      have hF := hW.free hS hA
      refine va_callv (va_runV (C := R_Scn) (As := [.int l3]) (rest := []) ⟨hx, hb, hml, hown, hT⟩ (k_Scn_refuse l dC dI cI cB cJ cZ ad NN E tM tC kK kV hNN H.size q17 l3 x14 fq17 hw) ⟨callB_of 1 hT (gwt_in w_4_128) rfl rfl rfl (hT _ w_1_4) (hT _ w_7_149) (by decide +kernel) ⟨Nat.le_trans (Nat.le_of_ble_eq_true rfl) hRf, Nat.le_trans (Nat.le_of_ble_eq_true rfl) hRl⟩, hT _ w_4_126, hT _ w_4_127⟩ ⟨PVc.blind, va_recv hK hW.1 (ci := 2) (q0 := q17) rfl (pic_obj fq17.1 fq17.2 (by decide)), PVc.at _ hW hK hN hE hS hF⟩ rfl rfl hl.1 rfl (lv_room (Nat.le_of_ble_eq_true rfl)) d_Qry_readLiteral_166 ⟨hRc, hRs⟩) hS (fun q _ h => hF q h) hF (fun  x18 t H locs ht hvm hw hB hz1 hk1 hS => ?_)
      have hW := Wd.back hB ht hF
      clear hB ht hF hz1 hk1 hvm
      exact t_Qry_readLiteral_169 hx hb hml hown hT hK hN hA hRc hRs hRf hRl hNN hE hret  o l1 l2 l3 s0 x18 H locs ls fo hw hW hS (lv_sub hl [1, 2, 3, 4, 0] rfl)
set_option maxRecDepth 100000 in
set_option maxHeartbeats 4000000 in
set_option maxRecDepth 100000 in
theorem t_Qry_readLiteral_82 {p : Program} {l : Launch} {e : Env} {R : Room} {s : State} {m : MethodId} {args : Array Value} {below : List Frame} {meth : Method} {c : Code} {cells slots : Nat} {Q : State → Prop} {dC : Nat → ClassId} {dI : Nat → Nat → Nat} {cI cB cJ cZ : ClassId} {A : Nat → Prop} {ad : Nat → Nat} {NN : Nat} {E : Heap} {tM tC : Nat} {kK kV : Nat → Nat} {post : St → Prop} (hx : p.tables.exec = Jvm.exec) (hb : c.code = b_Qry_readLiteral) (hml : c.maxLocals = 7) (hown : s.vm.findClass R_Qry = some m.cls) (hT : ∀ w ∈ TG, w.before args s = true) (hK : va_K (dC, dI) CL (TY cI cB cJ cZ) s) (hN : NW s) (hA : ∀ q : Nat, s.heap.size ≤ q → A q) (hRc : cells ≤ R.cells) (hRs : slots ≤ R.slots) (hRf : 6 ≤ R.frames) (hRl : 243 ≤ R.locals) (hNN : 152 ≤ NN) (hE : CE E tM tC kK kV A s) (hret : ∀ (x : St) (H : Heap) (locs : List Loc) (pc : Nat) (ls : Array Slot), decode b_Qry_readLiteral pc = .ok (.return_, 1) → post x → Wd dC dI cI cB cJ cZ ad stC kcC NN A x H → va_S A s.heap H locs → W p l e R s m args below meth c H locs cells slots Q (F0 m pc ls []))  : ∀ (o : Nat) (l1 : Int32) (l2 : Int32) (l3 : Int32) (l5 : Int64) (s0 : Int32) (x : St) (H : Heap) (locs : List Loc) (ls : Array Slot), (o < NN ∧ kcC o = 9) → j_Qry_readLiteral_82 post o l1 l2 l3 l5 s0 x → Wd dC dI cI cB cJ cZ ad stC kcC NN A x H → va_S A s.heap H locs → lv_has ls 7 [(0, .ref (ad o)), (1, .int l1), (2, .int l2), (3, .int l3), (5, .long l5)] → W p l e R s m args below meth c H locs cells slots Q (F0 m 82 ls [.int s0]) := by
  intro o l1 l2 l3 l5 s0 x H locs ls fo hw hW hS hl
  unfold j_Qry_readLiteral_82 at hw
  refine lv_istore (lv' := [(4, .int s0), (0, .ref (ad o)), (1, .int l1), (2, .int l2), (3, .int l3), (5, .long l5)]) hx hb d_Qry_readLiteral_82 hl (by decide) rfl (fun ls hl => ?_)
  refine lv_goto (tgt := 180) hx hb d_Qry_readLiteral_84 (by decide) ?_
  exact t_Qry_readLiteral_180 hx hb hml hown hT hK hN hA hRc hRs hRf hRl hNN hE hret  o l1 l2 l3 s0 l5 x H locs ls fo hw hW hS (lv_sub hl [1, 2, 3, 4, 0, 5] rfl)
set_option maxRecDepth 100000 in
set_option maxHeartbeats 4000000 in
set_option maxRecDepth 100000 in
theorem t_Qry_readLiteral_e {p : Program} {l : Launch} {e : Env} {R : Room} {s : State} {m : MethodId} {args : Array Value} {below : List Frame} {meth : Method} {c : Code} {cells slots : Nat} {Q : State → Prop} {dC : Nat → ClassId} {dI : Nat → Nat → Nat} {cI cB cJ cZ : ClassId} {A : Nat → Prop} {ad : Nat → Nat} {NN : Nat} {E : Heap} {tM tC : Nat} {kK kV : Nat → Nat} {post : St → Prop} (hx : p.tables.exec = Jvm.exec) (hb : c.code = b_Qry_readLiteral) (hml : c.maxLocals = 7) (hown : s.vm.findClass R_Qry = some m.cls) (hT : ∀ w ∈ TG, w.before args s = true) (hK : va_K (dC, dI) CL (TY cI cB cJ cZ) s) (hN : NW s) (hA : ∀ q : Nat, s.heap.size ≤ q → A q) (hRc : cells ≤ R.cells) (hRs : slots ≤ R.slots) (hRf : 6 ≤ R.frames) (hRl : 243 ≤ R.locals) (hNN : 152 ≤ NN) (hE : CE E tM tC kK kV A s) (hret : ∀ (x : St) (H : Heap) (locs : List Loc) (pc : Nat) (ls : Array Slot), decode b_Qry_readLiteral pc = .ok (.return_, 1) → post x → Wd dC dI cI cB cJ cZ ad stC kcC NN A x H → va_S A s.heap H locs → W p l e R s m args below meth c H locs cells slots Q (F0 m pc ls [])) : ∀ (o : Nat) (l1 : Int32) (x : St) (H : Heap) (locs : List Loc) (ls : Array Slot), (o < NN ∧ kcC o = 9) → wp_Qry_readLiteral post o l1 x → Wd dC dI cI cB cJ cZ ad stC kcC NN A x H → va_S A s.heap H locs → lv_has ls 7 [(0, .ref (ad o)), (1, .int l1)] → W p l e R s m args below meth c H locs cells slots Q (F0 m 0 ls []) := by
  intro o l1 x H locs ls fo hw hW hS hl
  unfold wp_Qry_readLiteral at hw
  refine lv_aload_n hx hb d_Qry_readLiteral_0 rfl (lv_at hl 0 rfl) ?_
  obtain ⟨q19, hq19, hw⟩ := hw
  refine w_getr (q := q19) (k := 17) (t := 9) (C := R_Qry) (T := F_Qry) (N := 20) hx hb hT hown hK hW fo.1 fo.2 (by decide) in_Qry rfl rfl (by decide) rfl fr_Qry_17 w_3_105 d_Qry_readLiteral_1 hq19 (fun aq19 bq19 => ?_)
  have fq19 : q19 < NN ∧ kcC q19 = 2 := ⟨aq19, bq19⟩
  have hF := hW.free hS hA
  refine va_calli (va_runV (C := R_Scn) (As := []) (rest := []) ⟨hx, hb, hml, hown, hT⟩ (k_Scn_next l dC dI cI cB cJ cZ ad NN E tM tC kK kV hNN H.size q19 x fq19 hw) ⟨callB_of 0 hT (gwt_in w_4_110) rfl rfl rfl (hT _ w_1_4) (hT _ w_7_148) (by decide +kernel) ⟨Nat.le_trans (Nat.le_of_ble_eq_true rfl) hRf, Nat.le_trans (Nat.le_of_ble_eq_true rfl) hRl⟩, hT _ w_4_108, hT _ w_4_109⟩ ⟨PVc.blind, va_recv hK hW.1 (ci := 2) (q0 := q19) rfl (pic_obj fq19.1 fq19.2 (by decide)), PVc.at _ hW hK hN hE hS hF⟩ rfl rfl hl.1 rfl (lv_room (Nat.le_of_ble_eq_true rfl)) d_Qry_readLiteral_4 ⟨hRc, hRs⟩) hS (fun q _ h => hF q h) hF (fun r21 x20 t H locs ht hvm hw hB hz1 hk1 hS => ?_)
  have hW := Wd.back hB ht hF
  clear hB ht hF hz1 hk1 hvm
  refine lv_istore_n (lv' := [(2, .int r21), (0, .ref (ad o)), (1, .int l1)]) hx hb d_Qry_readLiteral_7 rfl hl (by decide) rfl (fun ls hl => ?_)
  refine lv_aload_n hx hb d_Qry_readLiteral_8 rfl (lv_at hl 1 rfl) ?_
  obtain ⟨q22, hq22, hw⟩ := hw
  refine w_getr (q := q22) (k := 17) (t := 9) (C := R_Qry) (T := F_Qry) (N := 20) hx hb hT hown hK hW fo.1 fo.2 (by decide) in_Qry rfl rfl (by decide) rfl fr_Qry_17 w_3_105 d_Qry_readLiteral_9 hq22 (fun aq22 bq22 => ?_)
  have fq22 : q22 < NN ∧ kcC q22 = 2 := ⟨aq22, bq22⟩
  refine w_geti (k := 2) (t := 2) (C := R_Scn) (T := F_Scn) (N := 8) hx hb hT hown hK hW fq22.1 fq22.2 (by decide) in_Scn rfl rfl (by decide) rfl fr_Scn_2 w_1_86 d_Qry_readLiteral_12 ?_
  refine lv_topi (fun v23 ev23 => ?_)
  have hw := hw v23 ev23
  refine lv_istore_n (lv' := [(3, .int v23), (2, .int r21), (0, .ref (ad o)), (1, .int l1)]) hx hb d_Qry_readLiteral_15 rfl hl (by decide) rfl (fun ls hl => ?_)
  refine lv_lconst (v := 0) hx hb d_Qry_readLiteral_16 (by decide) ?_
  refine lv_lstore (lv' := [(5, .long 0), (3, .int v23), (2, .int r21), (0, .ref (ad o)), (1, .int l1)]) hx hb d_Qry_readLiteral_17 hl (by decide) rfl (fun ls hl => ?_)
  refine lv_iload_n hx hb d_Qry_readLiteral_19 rfl (lv_at hl 2 rfl) ?_
  refine lv_bipush (v := 39) hx hb d_Qry_readLiteral_20 (by decide) ?_
  refine lv_icmp_ne (tgt := 87) hx hb d_Qry_readLiteral_22 (by decide) (fun c24 => ?_) (fun c24 => ?_)
  · have hw := hw.1 c24
    refine lv_aload_n hx hb d_Qry_readLiteral_87 rfl (lv_at hl 3 rfl) ?_
    obtain ⟨q25, hq25, hw⟩ := hw
    refine w_getr (q := q25) (k := 17) (t := 9) (C := R_Qry) (T := F_Qry) (N := 20) hx hb hT hown hK hW fo.1 fo.2 (by decide) in_Qry rfl rfl (by decide) rfl fr_Qry_17 w_3_105 d_Qry_readLiteral_88 hq25 (fun aq25 bq25 => ?_)
    have fq25 : q25 < NN ∧ kcC q25 = 2 := ⟨aq25, bq25⟩
    have hF := hW.free hS hA
    refine va_calli (va_runV (C := R_Scn) (As := []) (rest := []) ⟨hx, hb, hml, hown, hT⟩ (k_Scn_atNumber l dC dI cI cB cJ cZ ad NN E tM tC kK kV hNN H.size q25 x20 fq25 hw) ⟨callB_of 0 hT (gwt_in w_5_91) rfl rfl rfl (hT _ w_1_4) (hT _ w_7_222) (by decide +kernel) ⟨Nat.le_trans (Nat.le_of_ble_eq_true rfl) hRf, Nat.le_trans (Nat.le_of_ble_eq_true rfl) hRl⟩, hT _ w_5_89, hT _ w_5_90⟩ ⟨PVc.blind, va_recv hK hW.1 (ci := 2) (q0 := q25) rfl (pic_obj fq25.1 fq25.2 (by decide)), PVc.at _ hW hK hN hE hS hF⟩ rfl rfl hl.1 rfl (lv_room (Nat.le_of_ble_eq_true rfl)) d_Qry_readLiteral_91 ⟨hRc, hRs⟩) hS (fun q _ h => hF q h) hF (fun r27 x26 t H locs ht hvm hw hB hz1 hk1 hS => ?_)
    have hW := Wd.back hB ht hF
    clear hB ht hF hz1 hk1 hvm
    refine lv_if_eq (tgt := 123) hx hb d_Qry_readLiteral_94 (by decide) (fun c28 => ?_) (fun c28 => ?_)
    · have hw := hw.1 c28
      refine lv_aload_n hx hb d_Qry_readLiteral_123 rfl (lv_at hl 3 rfl) ?_
      obtain ⟨q29, hq29, hw⟩ := hw
      refine w_getr (q := q29) (k := 17) (t := 9) (C := R_Qry) (T := F_Qry) (N := 20) hx hb hT hown hK hW fo.1 fo.2 (by decide) in_Qry rfl rfl (by decide) rfl fr_Qry_17 w_3_105 d_Qry_readLiteral_124 hq29 (fun aq29 bq29 => ?_)
      have fq29 : q29 < NN ∧ kcC q29 = 2 := ⟨aq29, bq29⟩
      refine va_ldcS hx hb hown (hE.str 27 (by decide)) d_Qry_readLiteral_127 ?_
      have hF := hW.free hS hA
      refine va_calli (va_runV (C := R_Scn) (As := [.ref (kK 8)]) (rest := []) ⟨hx, hb, hml, hown, hT⟩ (k_Scn_takeWord l dC dI cI cB cJ cZ ad NN E tM tC kK kV hNN H.size q29 8 x26 fq29 (by decide) hw) ⟨callB_of 1 hT (gwt_in w_4_141) rfl rfl rfl (hT _ w_1_4) (hT _ w_7_159) (by decide +kernel) ⟨Nat.le_trans (Nat.le_of_ble_eq_true rfl) hRf, Nat.le_trans (Nat.le_of_ble_eq_true rfl) hRl⟩, hT _ w_4_139, hT _ w_4_140⟩ ⟨PVc.blind, va_recv hK hW.1 (ci := 2) (q0 := q29) rfl (pic_obj fq29.1 fq29.2 (by decide)), PVc.at _ hW hK hN hE hS hF⟩ rfl rfl hl.1 rfl (lv_room (Nat.le_of_ble_eq_true rfl)) d_Qry_readLiteral_129 ⟨hRc, hRs⟩) hS (fun q _ h => hF q h) hF (fun r31 x30 t H locs ht hvm hw hB hz1 hk1 hS => ?_)
      have hW := Wd.back hB ht hF
      clear hB ht hF hz1 hk1 hvm
      refine lv_if_eq (tgt := 139) hx hb d_Qry_readLiteral_132 (by decide) (fun c32 => ?_) (fun c32 => ?_)
      · have hw := hw.1 c32
        refine lv_lconst (v := 0) hx hb d_Qry_readLiteral_139 (by decide) ?_
        exact t_Qry_readLiteral_140 hx hb hml hown hT hK hN hA hRc hRs hRf hRl hNN hE hret  o l1 r21 v23 0 0 x30 H locs ls fo hw hW hS (lv_sub hl [3, 4, 2, 1, 0] rfl)
      · have hw := hw.2 c32
        refine lv_lconst (v := 1) hx hb d_Qry_readLiteral_135 (by decide) ?_
        refine lv_goto (tgt := 140) hx hb d_Qry_readLiteral_136 (by decide) ?_
        exact t_Qry_readLiteral_140 hx hb hml hown hT hK hN hA hRc hRs hRf hRl hNN hE hret  o l1 r21 v23 0 1 x30 H locs ls fo hw hW hS (lv_sub hl [3, 4, 2, 1, 0] rfl)
    · have hw := hw.2 c28
      refine lv_aload_n hx hb d_Qry_readLiteral_97 rfl (lv_at hl 3 rfl) ?_
      obtain ⟨q33, hq33, hw⟩ := hw
      refine w_getr (q := q33) (k := 17) (t := 9) (C := R_Qry) (T := F_Qry) (N := 20) hx hb hT hown hK hW fo.1 fo.2 (by decide) in_Qry rfl rfl (by decide) rfl fr_Qry_17 w_3_105 d_Qry_readLiteral_98 hq33 (fun aq33 bq33 => ?_)
      have fq33 : q33 < NN ∧ kcC q33 = 2 := ⟨aq33, bq33⟩
      refine lv_iconst (v := 1) hx hb d_Qry_readLiteral_101 (by decide) ?_
      have hF := hW.free hS hA
      refine va_callv (va_runV (C := R_Scn) (As := [.int 1]) (rest := []) ⟨hx, hb, hml, hown, hT⟩ (k_Scn_readNumber l dC dI cI cB cJ cZ ad NN E tM tC kK kV hNN H.size q33 1 x26 fq33 hw) ⟨callB_of 1 hT (gwt_in w_5_98) rfl rfl rfl (hT _ w_1_4) (hT _ w_7_223) (by decide +kernel) ⟨Nat.le_trans (Nat.le_of_ble_eq_true rfl) hRf, Nat.le_trans (Nat.le_of_ble_eq_true rfl) hRl⟩, hT _ w_5_96, hT _ w_5_97⟩ ⟨PVc.blind, va_recv hK hW.1 (ci := 2) (q0 := q33) rfl (pic_obj fq33.1 fq33.2 (by decide)), PVc.at _ hW hK hN hE hS hF⟩ rfl rfl hl.1 rfl (lv_room (Nat.le_of_ble_eq_true rfl)) d_Qry_readLiteral_102 ⟨hRc, hRs⟩) hS (fun q _ h => hF q h) hF (fun  x34 t H locs ht hvm hw hB hz1 hk1 hS => ?_)
      have hW := Wd.back hB ht hF
      clear hB ht hF hz1 hk1 hvm
      refine lv_aload_n hx hb d_Qry_readLiteral_105 rfl (lv_at hl 3 rfl) ?_
      obtain ⟨q35, hq35, hw⟩ := hw
      refine w_getr (q := q35) (k := 17) (t := 9) (C := R_Qry) (T := F_Qry) (N := 20) hx hb hT hown hK hW fo.1 fo.2 (by decide) in_Qry rfl rfl (by decide) rfl fr_Qry_17 w_3_105 d_Qry_readLiteral_106 hq35 (fun aq35 bq35 => ?_)
      have fq35 : q35 < NN ∧ kcC q35 = 2 := ⟨aq35, bq35⟩
      refine w_getj (k := 6) (t := 2) (C := R_Scn) (T := F_Scn) (N := 8) hx hb hT hown hK hW fq35.1 fq35.2 (by decide) in_Scn rfl rfl (by decide) rfl fr_Scn_6 w_1_103 d_Qry_readLiteral_109 ?_
      refine lv_topl (fun v36 ev36 => ?_)
      have hw := hw v36 ev36
      refine lv_lstore (lv' := [(5, .long v36), (3, .int v23), (2, .int r21), (0, .ref (ad o)), (1, .int l1)]) hx hb d_Qry_readLiteral_112 hl (by decide) rfl (fun ls hl => ?_)
      refine lv_iload_n hx hb d_Qry_readLiteral_114 rfl (lv_at hl 4 rfl) ?_
      have hF := hW.free hS hA
      refine va_calli (va_runS (As := [.int l1]) (rest := []) ⟨hx, hb, hml, hown, hT⟩ (k_Qry_isNumber l dC dI cI cB cJ cZ ad NN E tM tC kK kV hNN H.size l1 x34  hw) ⟨callB_of 1 hT (gwt_in w_7_198) rfl rfl rfl (hT _ w_1_12) (hT _ w_7_196) (by decide +kernel) ⟨Nat.le_trans (Nat.le_of_ble_eq_true rfl) hRf, Nat.le_trans (Nat.le_of_ble_eq_true rfl) hRl⟩, hT _ w_7_197⟩ ⟨PVc.blind, PVc.at _ hW hK hN hE hS hF⟩ rfl rfl hl.1 rfl (lv_room (Nat.le_of_ble_eq_true rfl)) d_Qry_readLiteral_115 ⟨hRc, hRs⟩) hS (fun q _ h => hF q h) hF (fun r38 x37 t H locs ht hvm hw hB hz1 hk1 hS => ?_)
      have hW := Wd.back hB ht hF
      clear hB ht hF hz1 hk1 hvm
      refine lv_istore (lv' := [(4, .int r38), (5, .long v36), (3, .int v23), (2, .int r21), (0, .ref (ad o)), (1, .int l1)]) hx hb d_Qry_readLiteral_118 hl (by decide) rfl (fun ls hl => ?_)
      refine lv_goto (tgt := 180) hx hb d_Qry_readLiteral_120 (by decide) ?_
      exact t_Qry_readLiteral_180 hx hb hml hown hT hK hN hA hRc hRs hRf hRl hNN hE hret  o l1 r21 v23 r38 v36 x37 H locs ls fo hw hW hS (lv_sub hl [4, 5, 3, 2, 0, 1] rfl)
  · have hw := hw.2 c24
    refine lv_aload_n hx hb d_Qry_readLiteral_25 rfl (lv_at hl 3 rfl) ?_
    obtain ⟨q39, hq39, hw⟩ := hw
    refine w_getr (q := q39) (k := 17) (t := 9) (C := R_Qry) (T := F_Qry) (N := 20) hx hb hT hown hK hW fo.1 fo.2 (by decide) in_Qry rfl rfl (by decide) rfl fr_Qry_17 w_3_105 d_Qry_readLiteral_26 hq39 (fun aq39 bq39 => ?_)
    have fq39 : q39 < NN ∧ kcC q39 = 2 := ⟨aq39, bq39⟩
    refine lv_aload_n hx hb d_Qry_readLiteral_29 rfl (lv_at hl 3 rfl) ?_
    refine w_getf (q := (stC o 16)) (k := 16) (t := 9) (C := R_Qry) (T := F_Qry) (N := 20) hx hb hT hown hK hW fo.1 fo.2 (by decide) in_Qry rfl rfl (by decide) rfl fr_Qry_16 w_3_103 d_Qry_readLiteral_30 rfl ?_
    refine lv_aload_n hx hb d_Qry_readLiteral_33 rfl (lv_at hl 3 rfl) ?_
    refine w_geti (k := 15) (t := 9) (C := R_Qry) (T := F_Qry) (N := 20) hx hb hT hown hK hW fo.1 fo.2 (by decide) in_Qry rfl rfl (by decide) rfl fr_Qry_15 w_3_102 d_Qry_readLiteral_34 ?_
    have hF := hW.free hS hA
    refine va_callv (va_runV (C := R_Scn) (As := [.ref (ad (stC o 16)), .int (fI x20 o 15)]) (rest := []) ⟨hx, hb, hml, hown, hT⟩ (k_Scn_readQuoted l dC dI cI cB cJ cZ ad NN E tM tC kK kV hNN H.size q39 (stC o 16) (fI x20 o 15) x20 fq39 (st_ty hNN fo.1 fo.2 rfl) hw) ⟨callB_of 2 hT (gwt_in w_5_71) rfl rfl rfl (hT _ w_1_4) (hT _ w_7_220) (by decide +kernel) ⟨Nat.le_trans (Nat.le_of_ble_eq_true rfl) hRf, Nat.le_trans (Nat.le_of_ble_eq_true rfl) hRl⟩, hT _ w_5_69, hT _ w_5_70⟩ ⟨PVc.blind, va_recv hK hW.1 (ci := 2) (q0 := q39) rfl (pic_obj fq39.1 fq39.2 (by decide)), PVc.at _ hW hK hN hE hS hF⟩ rfl rfl hl.1 rfl (lv_room (Nat.le_of_ble_eq_true rfl)) d_Qry_readLiteral_37 ⟨hRc, hRs⟩) hS (fun q _ h => hF q h) hF (fun  x40 t H locs ht hvm hw hB hz1 hk1 hS => ?_)
    have hW := Wd.back hB ht hF
    clear hB ht hF hz1 hk1 hvm
    refine lv_aload_n hx hb d_Qry_readLiteral_40 rfl (lv_at hl 3 rfl) ?_
    refine w_geti (k := 15) (t := 9) (C := R_Qry) (T := F_Qry) (N := 20) hx hb hT hown hK hW fo.1 fo.2 (by decide) in_Qry rfl rfl (by decide) rfl fr_Qry_15 w_3_102 d_Qry_readLiteral_41 ?_
    refine lv_aload_n hx hb d_Qry_readLiteral_44 rfl (lv_at hl 3 rfl) ?_
    obtain ⟨q41, hq41, hw⟩ := hw
    refine w_getr (q := q41) (k := 17) (t := 9) (C := R_Qry) (T := F_Qry) (N := 20) hx hb hT hown hK hW fo.1 fo.2 (by decide) in_Qry rfl rfl (by decide) rfl fr_Qry_17 w_3_105 d_Qry_readLiteral_45 hq41 (fun aq41 bq41 => ?_)
    have fq41 : q41 < NN ∧ kcC q41 = 2 := ⟨aq41, bq41⟩
    refine w_geti (k := 7) (t := 2) (C := R_Scn) (T := F_Scn) (N := 8) hx hb hT hown hK hW fq41.1 fq41.2 (by decide) in_Scn rfl rfl (by decide) rfl fr_Scn_7 w_1_106 d_Qry_readLiteral_48 ?_
    have hF := hW.free hS hA
    refine va_calll (va_runSN (As := [.int (fI x40 o 15), .int (fI x40 q41 7)]) (rest := []) ⟨hx, hb, hml, hown, hT⟩ (k_V_reference l dC dI cI cB cJ cZ ad NN E tM tC kK kV hNN H.size (fI x40 o 15) (fI x40 q41 7) x40  hw) ⟨va_cnB 2 hT (gwt_in w_5_86) rfl rfl rfl (hN _ wn_7_221 rfl) (hT _ w_1_1) (by decide +kernel) ⟨Nat.le_trans (Nat.le_of_ble_eq_true rfl) hRf, Nat.le_trans (Nat.le_of_ble_eq_true rfl) hRl⟩, hT _ w_5_85, trivial⟩ ⟨PVc.blind, PVc.at _ hW hK hN hE hS hF⟩ rfl rfl hl.1 rfl (lv_room (Nat.le_of_ble_eq_true rfl)) d_Qry_readLiteral_51 ⟨hRc, hRs⟩) hS (fun q _ h => hF q h) hF (fun r43 x42 t H locs ht hvm hw hB hz1 hk1 hS => ?_)
    have hW := Wd.back hB ht hF
    clear hB ht hF hz1 hk1 hvm
    refine lv_lstore (lv' := [(5, .long r43), (3, .int v23), (2, .int r21), (0, .ref (ad o)), (1, .int l1)]) hx hb d_Qry_readLiteral_54 hl (by decide) rfl (fun ls hl => ?_)
    refine lv_aload_n hx hb d_Qry_readLiteral_56 rfl (lv_at hl 3 rfl) ?_
    refine lv_dup hx hb d_Qry_readLiteral_57 rfl ?_
    refine w_geti (k := 15) (t := 9) (C := R_Qry) (T := F_Qry) (N := 20) hx hb hT hown hK hW fo.1 fo.2 (by decide) in_Qry rfl rfl (by decide) rfl fr_Qry_15 w_3_102 d_Qry_readLiteral_58 ?_
    refine lv_aload_n hx hb d_Qry_readLiteral_61 rfl (lv_at hl 3 rfl) ?_
    obtain ⟨q44, hq44, hw⟩ := hw
    refine w_getr (q := q44) (k := 17) (t := 9) (C := R_Qry) (T := F_Qry) (N := 20) hx hb hT hown hK hW fo.1 fo.2 (by decide) in_Qry rfl rfl (by decide) rfl fr_Qry_17 w_3_105 d_Qry_readLiteral_62 hq44 (fun aq44 bq44 => ?_)
    have fq44 : q44 < NN ∧ kcC q44 = 2 := ⟨aq44, bq44⟩
    refine w_geti (k := 7) (t := 2) (C := R_Scn) (T := F_Scn) (N := 8) hx hb hT hown hK hW fq44.1 fq44.2 (by decide) in_Scn rfl rfl (by decide) rfl fr_Scn_7 w_1_106 d_Qry_readLiteral_65 ?_
    refine lv_iadd hx hb d_Qry_readLiteral_68 ?_
    refine w_puti (ty := .int) (k := 15) (t := 9) (C := R_Qry) (T := F_Qry) (N := 20) hx hb hT hown hK hW hS fo.1 fo.2 (by decide) in_Qry t_Qry t_Qry_ok n_Qry rfl rfl (by decide) rfl fr_Qry_15 w_3_102 (by decide +kernel) rfl rfl d_Qry_readLiteral_69 (fun H locs hW hS => ?_)
    obtain ⟨x45, ex45⟩ : ∃ y : St, y = setI x42 o 15 ((fI x42 o 15) + (fI x42 q44 7)) := ⟨_, rfl⟩
    rw [← ex45] at hW
    have hw := hw x45 ex45
    refine lv_iload_n hx hb d_Qry_readLiteral_72 rfl (lv_at hl 4 rfl) ?_
    refine lv_iconst (v := 3) hx hb d_Qry_readLiteral_73 (by decide) ?_
    refine lv_icmp_ne (tgt := 81) hx hb d_Qry_readLiteral_74 (by decide) (fun c46 => ?_) (fun c46 => ?_)
    · have hw := hw.1 c46
      refine lv_iconst (v := 0) hx hb d_Qry_readLiteral_81 (by decide) ?_
      exact t_Qry_readLiteral_82 hx hb hml hown hT hK hN hA hRc hRs hRf hRl hNN hE hret  o l1 r21 v23 r43 0 x45 H locs ls fo hw hW hS (lv_sub hl [3, 4, 2, 1, 0] rfl)
    · have hw := hw.2 c46
      refine lv_iconst (v := 1) hx hb d_Qry_readLiteral_77 (by decide) ?_
      refine lv_goto (tgt := 82) hx hb d_Qry_readLiteral_78 (by decide) ?_
      exact t_Qry_readLiteral_82 hx hb hml hown hT hK hN hA hRc hRs hRf hRl hNN hE hret  o l1 r21 v23 r43 1 x45 H locs ls fo hw hW hS (lv_sub hl [3, 4, 2, 1, 0] rfl)
set_option maxHeartbeats 4000000 in
set_option maxRecDepth 100000 in
theorem k_Qry_readLiteral (l : Launch) (dC : Nat → ClassId) (dI : Nat → Nat → Nat) (cI cB cJ cZ : ClassId) (ad : Nat → Nat) (NN : Nat) (E : Heap) (tM tC : Nat) (kK kV : Nat → Nat) (hNN : 152 ≤ NN) (sz : Nat) (o : Nat) (l1 : Int32) (x : St) (fo : o < NN ∧ kcC o = 9) {post : St → Prop} (hw : wp_Qry_readLiteral post o l1 x) : Met l y_Qry_readLiteral (wsOf y_Qry_readLiteral b_Qry_readLiteral 7 (none)) ({ frames := 6, cells := 0, slots := 0, locals := 243 }) (va_Pc [.ref (ad o), .int l1] (PVc dC dI cI cB cJ cZ ad stC kcC NN E tM tC kK kV sz x)) (va_Qv (fun (y : St) => post y) (fun y t => Wd dC dI cI cB cJ cZ ad stC kcC NN (va_A (pic ad stC kcC NN cI cB cJ cZ x) sz) y t.heap) (va_A (pic ad stC kcC NN cI cB cJ cZ x) sz)) 0 0 (va_A (pic ad stC kcC NN cI cB cJ cZ x) sz) := by
  refine Met.ofW (cc := b_Qry_readLiteral) (maxL := 7) (ret := none) (by decide) rfl ?_
  intro p e s m args below meth c s₁ B hml hv
  obtain ⟨rfl, ⟨hsz, hW0, hK, hN⟩, hE⟩ := hv
  have hx := B.exec
  have hb := B.bytes
  have hr := B.returns
  have hts := atoms_spec B.pre
  have hT : ∀ w ∈ TG, w.before _ s = true := fun w h => hts w (List.mem_cons_of_mem _ h)
  have hown : s.vm.findClass R_Qry = some m.cls := findClass_of_methodNamed B.named
  have hlocks := B.notSynchronized
  subst hsz
  have hW : Wd dC dI cI cB cJ cZ ad stC kcC NN (va_A (pic ad stC kcC NN cI cB cJ cZ x) s.heap.size) x s.heap := ⟨hW0.1, hW0.2.1.self (sz := s.heap.size), hW0.2.2⟩
  generalize hAe : va_A (pic ad stC kcC NN cI cB cJ cZ x) s.heap.size = A at hW hE ⊢
  have hA : ∀ q : Nat, s.heap.size ≤ q → A q := fun q h => by rw [← hAe]; exact Or.inr h
  have hS : va_S A s.heap s.heap [] := va_S.rf
  have hl := lv_entry ([.ref (ad o), .int l1]) (n := 7) (Nat.le_of_ble_eq_true rfl)
  rw [lg_entry_eq]
  generalize (lg_sl ([.ref (ad o), .int l1]) ++ List.replicate (7 - (lg_sl ([.ref (ad o), .int l1])).length) Slot.unset).toArray = ls at hl ⊢
  have hl : lv_has ls 7 [(0, .ref (ad o)), (1, .int l1)] := hl
  exact t_Qry_readLiteral_e hx hb hml hown hT hK hN hA (Nat.le_refl 0) (Nat.le_refl 0) (Nat.le_refl 6) (Nat.le_refl 243) hNN hE (fun x H locs pc ls hd hp hW hS => W.vret hx hb hr (fun t ht hM => ⟨⟨x, rfl, hp, Wd.back hW ht.symm (fun _ z => z)⟩, hS.F ht⟩) hS.2.2 hd hlocks)  o l1 x _ _ ls fo hw hW hS hl
set_option maxRecDepth 100000 in
set_option maxHeartbeats 4000000 in
set_option maxRecDepth 100000 in
theorem t_Qry_readList_73 {p : Program} {l : Launch} {e : Env} {R : Room} {s : State} {m : MethodId} {args : Array Value} {below : List Frame} {meth : Method} {c : Code} {cells slots : Nat} {Q : State → Prop} {dC : Nat → ClassId} {dI : Nat → Nat → Nat} {cI cB cJ cZ : ClassId} {A : Nat → Prop} {ad : Nat → Nat} {NN : Nat} {E : Heap} {tM tC : Nat} {kK kV : Nat → Nat} {post : St → Prop} (hx : p.tables.exec = Jvm.exec) (hb : c.code = b_Qry_readList) (hml : c.maxLocals = 4) (hown : s.vm.findClass R_Qry = some m.cls) (hT : ∀ w ∈ TG, w.before args s = true) (hK : va_K (dC, dI) CL (TY cI cB cJ cZ) s) (hN : NW s) (hA : ∀ q : Nat, s.heap.size ≤ q → A q) (hRc : cells ≤ R.cells) (hRs : slots ≤ R.slots) (hRf : 7 ≤ R.frames) (hRl : 269 ≤ R.locals) (hNN : 152 ≤ NN) (hE : CE E tM tC kK kV A s) (hret : ∀ (x : St) (H : Heap) (locs : List Loc) (pc : Nat) (ls : Array Slot), decode b_Qry_readList pc = .ok (.return_, 1) → post x → Wd dC dI cI cB cJ cZ ad stC kcC NN A x H → va_S A s.heap H locs → W p l e R s m args below meth c H locs cells slots Q (F0 m pc ls []))  : ∀ (o : Nat) (l1 : Int32) (l2 : Int32) (l3 : Int32) (x : St) (H : Heap) (locs : List Loc) (ls : Array Slot), (o < NN ∧ kcC o = 9) → j_Qry_readList_73 post o l1 l2 l3 x → Wd dC dI cI cB cJ cZ ad stC kcC NN A x H → va_S A s.heap H locs → lv_has ls 4 [(0, .ref (ad o)), (1, .int l1), (2, .int l2), (3, .int l3)] → W p l e R s m args below meth c H locs cells slots Q (F0 m 73 ls []) := by
  intro o l1 l2 l3 x H locs ls fo hw hW hS hl
  unfold j_Qry_readList_73 at hw
  refine lv_aload_n hx hb d_Qry_readList_73 rfl (lv_at hl 0 rfl) ?_
  obtain ⟨q1, hq1, hw⟩ := hw
  refine w_getr (q := q1) (k := 17) (t := 9) (C := R_Qry) (T := F_Qry) (N := 20) hx hb hT hown hK hW fo.1 fo.2 (by decide) in_Qry rfl rfl (by decide) rfl fr_Qry_17 w_3_105 d_Qry_readList_74 hq1 (fun aq1 bq1 => ?_)
  have fq1 : q1 < NN ∧ kcC q1 = 2 := ⟨aq1, bq1⟩
  refine lv_bipush (v := 41) hx hb d_Qry_readList_77 (by decide) ?_
  have hF := hW.free hS hA
  refine va_callv (va_runV (C := R_Scn) (As := [.int 41]) (rest := []) ⟨hx, hb, hml, hown, hT⟩ (k_Scn_needSign l dC dI cI cB cJ cZ ad NN E tM tC kK kV hNN H.size q1 41 x fq1 hw) ⟨callB_of 1 hT (gwt_in w_4_118) rfl rfl rfl (hT _ w_1_4) (hT _ w_7_187) (by decide +kernel) ⟨Nat.le_trans (Nat.le_of_ble_eq_true rfl) hRf, Nat.le_trans (Nat.le_of_ble_eq_true rfl) hRl⟩, hT _ w_4_116, hT _ w_4_117⟩ ⟨PVc.blind, va_recv hK hW.1 (ci := 2) (q0 := q1) rfl (pic_obj fq1.1 fq1.2 (by decide)), PVc.at _ hW hK hN hE hS hF⟩ rfl rfl hl.1 rfl (lv_room (Nat.le_of_ble_eq_true rfl)) d_Qry_readList_79 ⟨hRc, hRs⟩) hS (fun q _ h => hF q h) hF (fun  x2 t H locs ht hvm hw hB hz1 hk1 hS => ?_)
  have hW := Wd.back hB ht hF
  clear hB ht hF hz1 hk1 hvm
  exact hret x2 H locs 82 ls d_Qry_readList_82 hw hW hS
set_option maxRecDepth 100000 in
set_option maxHeartbeats 4000000 in
set_option maxRecDepth 100000 in
theorem t_Qry_readList_66 {p : Program} {l : Launch} {e : Env} {R : Room} {s : State} {m : MethodId} {args : Array Value} {below : List Frame} {meth : Method} {c : Code} {cells slots : Nat} {Q : State → Prop} {dC : Nat → ClassId} {dI : Nat → Nat → Nat} {cI cB cJ cZ : ClassId} {A : Nat → Prop} {ad : Nat → Nat} {NN : Nat} {E : Heap} {tM tC : Nat} {kK kV : Nat → Nat} {post : St → Prop} {rec19 : Nat → Int32 → Int32 → Int32 → St → Prop} (hx : p.tables.exec = Jvm.exec) (hb : c.code = b_Qry_readList) (hml : c.maxLocals = 4) (hown : s.vm.findClass R_Qry = some m.cls) (hT : ∀ w ∈ TG, w.before args s = true) (hK : va_K (dC, dI) CL (TY cI cB cJ cZ) s) (hN : NW s) (hA : ∀ q : Nat, s.heap.size ≤ q → A q) (hRc : cells ≤ R.cells) (hRs : slots ≤ R.slots) (hRf : 7 ≤ R.frames) (hRl : 269 ≤ R.locals) (hNN : 152 ≤ NN) (hE : CE E tM tC kK kV A s) (hret : ∀ (x : St) (H : Heap) (locs : List Loc) (pc : Nat) (ls : Array Slot), decode b_Qry_readList pc = .ok (.return_, 1) → post x → Wd dC dI cI cB cJ cZ ad stC kcC NN A x H → va_S A s.heap H locs → W p l e R s m args below meth c H locs cells slots Q (F0 m pc ls [])) (hrec19 : ∀ (o : Nat) (l1 : Int32) (l2 : Int32) (l3 : Int32) (x : St) (H : Heap) (locs : List Loc) (ls : Array Slot), (o < NN ∧ kcC o = 9) → rec19 o l1 l2 l3 x → Wd dC dI cI cB cJ cZ ad stC kcC NN A x H → va_S A s.heap H locs → lv_has ls 4 [(0, .ref (ad o)), (1, .int l1), (2, .int l2), (3, .int l3)] → W p l e R s m args below meth c H locs cells slots Q (F0 m 19 ls [])) : ∀ (o : Nat) (l1 : Int32) (l2 : Int32) (l3 : Int32) (s0 : Int32) (x : St) (H : Heap) (locs : List Loc) (ls : Array Slot), (o < NN ∧ kcC o = 9) → j_Qry_readList_66 post rec19 o l1 l2 l3 s0 x → Wd dC dI cI cB cJ cZ ad stC kcC NN A x H → va_S A s.heap H locs → lv_has ls 4 [(0, .ref (ad o)), (1, .int l1), (2, .int l2), (3, .int l3)] → W p l e R s m args below meth c H locs cells slots Q (F0 m 66 ls [.int s0]) := by
  intro o l1 l2 l3 s0 x H locs ls fo hw hW hS hl
  unfold j_Qry_readList_66 at hw
  refine lv_istore_n (lv' := [(2, .int s0), (0, .ref (ad o)), (1, .int l1), (3, .int l3)]) hx hb d_Qry_readList_66 rfl hl (by decide) rfl (fun ls hl => ?_)
  refine lv_iinc (v := (l3 + 1)) (lv' := [(3, .int (l3 + 1)), (2, .int s0), (0, .ref (ad o)), (1, .int l1)]) hx hb d_Qry_readList_67 hl (k := 3) rfl rfl (by decide) rfl (fun ls hl => ?_)
  refine lv_goto (tgt := 19) hx hb d_Qry_readList_70 (by decide) ?_
  exact hrec19 o l1 s0 (l3 + 1) x H locs ls fo hw hW hS (lv_sub hl [2, 3, 1, 0] rfl)
set_option maxRecDepth 100000 in
set_option maxHeartbeats 4000000 in
set_option maxRecDepth 100000 in
theorem t_Qry_readList_65 {p : Program} {l : Launch} {e : Env} {R : Room} {s : State} {m : MethodId} {args : Array Value} {below : List Frame} {meth : Method} {c : Code} {cells slots : Nat} {Q : State → Prop} {dC : Nat → ClassId} {dI : Nat → Nat → Nat} {cI cB cJ cZ : ClassId} {A : Nat → Prop} {ad : Nat → Nat} {NN : Nat} {E : Heap} {tM tC : Nat} {kK kV : Nat → Nat} {post : St → Prop} {rec19 : Nat → Int32 → Int32 → Int32 → St → Prop} (hx : p.tables.exec = Jvm.exec) (hb : c.code = b_Qry_readList) (hml : c.maxLocals = 4) (hown : s.vm.findClass R_Qry = some m.cls) (hT : ∀ w ∈ TG, w.before args s = true) (hK : va_K (dC, dI) CL (TY cI cB cJ cZ) s) (hN : NW s) (hA : ∀ q : Nat, s.heap.size ≤ q → A q) (hRc : cells ≤ R.cells) (hRs : slots ≤ R.slots) (hRf : 7 ≤ R.frames) (hRl : 269 ≤ R.locals) (hNN : 152 ≤ NN) (hE : CE E tM tC kK kV A s) (hret : ∀ (x : St) (H : Heap) (locs : List Loc) (pc : Nat) (ls : Array Slot), decode b_Qry_readList pc = .ok (.return_, 1) → post x → Wd dC dI cI cB cJ cZ ad stC kcC NN A x H → va_S A s.heap H locs → W p l e R s m args below meth c H locs cells slots Q (F0 m pc ls [])) (hrec19 : ∀ (o : Nat) (l1 : Int32) (l2 : Int32) (l3 : Int32) (x : St) (H : Heap) (locs : List Loc) (ls : Array Slot), (o < NN ∧ kcC o = 9) → rec19 o l1 l2 l3 x → Wd dC dI cI cB cJ cZ ad stC kcC NN A x H → va_S A s.heap H locs → lv_has ls 4 [(0, .ref (ad o)), (1, .int l1), (2, .int l2), (3, .int l3)] → W p l e R s m args below meth c H locs cells slots Q (F0 m 19 ls [])) : ∀ (o : Nat) (l1 : Int32) (l2 : Int32) (l3 : Int32) (x : St) (H : Heap) (locs : List Loc) (ls : Array Slot), (o < NN ∧ kcC o = 9) → j_Qry_readList_65 post rec19 o l1 l2 l3 x → Wd dC dI cI cB cJ cZ ad stC kcC NN A x H → va_S A s.heap H locs → lv_has ls 4 [(0, .ref (ad o)), (1, .int l1), (2, .int l2), (3, .int l3)] → W p l e R s m args below meth c H locs cells slots Q (F0 m 65 ls []) := by
  intro o l1 l2 l3 x H locs ls fo hw hW hS hl
  unfold j_Qry_readList_65 at hw
  refine lv_iconst (v := 0) hx hb d_Qry_readList_65 (by decide) ?_
  exact t_Qry_readList_66 hx hb hml hown hT hK hN hA hRc hRs hRf hRl hNN hE hret hrec19 o l1 l2 l3 0 x H locs ls fo hw hW hS (lv_sub hl [0, 1, 2, 3] rfl)
set_option maxRecDepth 100000 in
set_option maxHeartbeats 4000000 in
set_option maxRecDepth 100000 in
theorem t_Qry_readList_19 {p : Program} {l : Launch} {e : Env} {R : Room} {s : State} {m : MethodId} {args : Array Value} {below : List Frame} {meth : Method} {c : Code} {cells slots : Nat} {Q : State → Prop} {dC : Nat → ClassId} {dI : Nat → Nat → Nat} {cI cB cJ cZ : ClassId} {A : Nat → Prop} {ad : Nat → Nat} {NN : Nat} {E : Heap} {tM tC : Nat} {kK kV : Nat → Nat} {post : St → Prop} {rec19 : Nat → Int32 → Int32 → Int32 → St → Prop} (hx : p.tables.exec = Jvm.exec) (hb : c.code = b_Qry_readList) (hml : c.maxLocals = 4) (hown : s.vm.findClass R_Qry = some m.cls) (hT : ∀ w ∈ TG, w.before args s = true) (hK : va_K (dC, dI) CL (TY cI cB cJ cZ) s) (hN : NW s) (hA : ∀ q : Nat, s.heap.size ≤ q → A q) (hRc : cells ≤ R.cells) (hRs : slots ≤ R.slots) (hRf : 7 ≤ R.frames) (hRl : 269 ≤ R.locals) (hNN : 152 ≤ NN) (hE : CE E tM tC kK kV A s) (hret : ∀ (x : St) (H : Heap) (locs : List Loc) (pc : Nat) (ls : Array Slot), decode b_Qry_readList pc = .ok (.return_, 1) → post x → Wd dC dI cI cB cJ cZ ad stC kcC NN A x H → va_S A s.heap H locs → W p l e R s m args below meth c H locs cells slots Q (F0 m pc ls [])) (hrec19 : ∀ (o : Nat) (l1 : Int32) (l2 : Int32) (l3 : Int32) (x : St) (H : Heap) (locs : List Loc) (ls : Array Slot), (o < NN ∧ kcC o = 9) → rec19 o l1 l2 l3 x → Wd dC dI cI cB cJ cZ ad stC kcC NN A x H → va_S A s.heap H locs → lv_has ls 4 [(0, .ref (ad o)), (1, .int l1), (2, .int l2), (3, .int l3)] → W p l e R s m args below meth c H locs cells slots Q (F0 m 19 ls [])) : ∀ (o : Nat) (l1 : Int32) (l2 : Int32) (l3 : Int32) (x : St) (H : Heap) (locs : List Loc) (ls : Array Slot), (o < NN ∧ kcC o = 9) → j_Qry_readList_19 post rec19 o l1 l2 l3 x → Wd dC dI cI cB cJ cZ ad stC kcC NN A x H → va_S A s.heap H locs → lv_has ls 4 [(0, .ref (ad o)), (1, .int l1), (2, .int l2), (3, .int l3)] → W p l e R s m args below meth c H locs cells slots Q (F0 m 19 ls []) := by
  intro o l1 l2 l3 x H locs ls fo hw hW hS hl
  unfold j_Qry_readList_19 at hw
  refine lv_iload_n hx hb d_Qry_readList_19 rfl (lv_at hl 3 rfl) ?_
  refine lv_aload_n hx hb d_Qry_readList_20 rfl (lv_at hl 0 rfl) ?_
  obtain ⟨q3, hq3, hw⟩ := hw
  refine w_getr (q := q3) (k := 17) (t := 9) (C := R_Qry) (T := F_Qry) (N := 20) hx hb hT hown hK hW fo.1 fo.2 (by decide) in_Qry rfl rfl (by decide) rfl fr_Qry_17 w_3_105 d_Qry_readList_21 hq3 (fun aq3 bq3 => ?_)
  have fq3 : q3 < NN ∧ kcC q3 = 2 := ⟨aq3, bq3⟩
  refine w_geti (k := 1) (t := 2) (C := R_Scn) (T := F_Scn) (N := 8) hx hb hT hown hK hW fq3.1 fq3.2 (by decide) in_Scn rfl rfl (by decide) rfl fr_Scn_1 w_1_82 d_Qry_readList_24 ?_
  refine lv_icmp_gt (tgt := 73) hx hb d_Qry_readList_27 (by decide) (fun c4 => ?_) (fun c4 => ?_)
  · have hw := hw.1 c4
    exact t_Qry_readList_73 hx hb hml hown hT hK hN hA hRc hRs hRf hRl hNN hE hret  o l1 l2 l3 x H locs ls fo hw hW hS (lv_sub hl [0, 1, 2, 3] rfl)
  · have hw := hw.2 c4
    refine lv_iload_n hx hb d_Qry_readList_30 rfl (lv_at hl 2 rfl) ?_
    refine lv_if_eq (tgt := 73) hx hb d_Qry_readList_31 (by decide) (fun c5 => ?_) (fun c5 => ?_)
    · have hw := hw.1 c5
      exact t_Qry_readList_73 hx hb hml hown hT hK hN hA hRc hRs hRf hRl hNN hE hret  o l1 l2 l3 x H locs ls fo hw hW hS (lv_sub hl [0, 1, 2, 3] rfl)
    · have hw := hw.2 c5
      refine lv_aload_n hx hb d_Qry_readList_34 rfl (lv_at hl 0 rfl) ?_
      refine lv_iload_n hx hb d_Qry_readList_35 rfl (lv_at hl 1 rfl) ?_
      have hF := hW.free hS hA
      refine va_callv (va_runV (C := R_Qry) (As := [.int l1]) (rest := []) ⟨hx, hb, hml, hown, hT⟩ (k_Qry_readLiteral l dC dI cI cB cJ cZ ad NN E tM tC kK kV hNN H.size o l1 x fo hw) ⟨callB_of 1 hT (gwt_in w_7_219) rfl rfl rfl (hT _ w_1_12) (hT _ w_7_216) (by decide +kernel) ⟨Nat.le_trans (Nat.le_of_ble_eq_true rfl) hRf, Nat.le_trans (Nat.le_of_ble_eq_true rfl) hRl⟩, hT _ w_7_218, hT _ ws_78⟩ ⟨PVc.blind, va_recv hK hW.1 (ci := 9) (q0 := o) rfl (pic_obj fo.1 fo.2 (by decide)), PVc.at _ hW hK hN hE hS hF⟩ rfl rfl hl.1 rfl (lv_room (Nat.le_of_ble_eq_true rfl)) d_Qry_readList_36 ⟨hRc, hRs⟩) hS (fun q _ h => hF q h) hF (fun  x6 t H locs ht hvm hw hB hz1 hk1 hS => ?_)
      have hW := Wd.back hB ht hF
      clear hB ht hF hz1 hk1 hvm
      refine lv_aload_n hx hb d_Qry_readList_39 rfl (lv_at hl 0 rfl) ?_
      obtain ⟨q7, hq7, hw⟩ := hw
      refine w_getr (q := q7) (k := 17) (t := 9) (C := R_Qry) (T := F_Qry) (N := 20) hx hb hT hown hK hW fo.1 fo.2 (by decide) in_Qry rfl rfl (by decide) rfl fr_Qry_17 w_3_105 d_Qry_readList_40 hq7 (fun aq7 bq7 => ?_)
      have fq7 : q7 < NN ∧ kcC q7 = 2 := ⟨aq7, bq7⟩
      have hF := hW.free hS hA
      refine va_calli (va_runV (C := R_Scn) (As := []) (rest := []) ⟨hx, hb, hml, hown, hT⟩ (k_Scn_good l dC dI cI cB cJ cZ ad NN E tM tC kK kV hNN H.size q7 x6 fq7 hw) ⟨callB_of 0 hT (gwt_in w_4_106) rfl rfl rfl (hT _ w_1_4) (hT _ w_7_147) (by decide +kernel) ⟨Nat.le_trans (Nat.le_of_ble_eq_true rfl) hRf, Nat.le_trans (Nat.le_of_ble_eq_true rfl) hRl⟩, hT _ w_4_104, hT _ w_4_105⟩ ⟨PVc.blind, va_recv hK hW.1 (ci := 2) (q0 := q7) rfl (pic_obj fq7.1 fq7.2 (by decide)), PVc.at _ hW hK hN hE hS hF⟩ rfl rfl hl.1 rfl (lv_room (Nat.le_of_ble_eq_true rfl)) d_Qry_readList_43 ⟨hRc, hRs⟩) hS (fun q _ h => hF q h) hF (fun r9 x8 t H locs ht hvm hw hB hz1 hk1 hS => ?_)
      have hW := Wd.back hB ht hF
      clear hB ht hF hz1 hk1 hvm
      refine lv_if_eq (tgt := 65) hx hb d_Qry_readList_46 (by decide) (fun c10 => ?_) (fun c10 => ?_)
      · have hw := hw.1 c10
        exact t_Qry_readList_65 hx hb hml hown hT hK hN hA hRc hRs hRf hRl hNN hE hret hrec19 o l1 l2 l3 x8 H locs ls fo hw hW hS (lv_sub hl [0, 1, 2, 3] rfl)
      · have hw := hw.2 c10
        refine lv_aload_n hx hb d_Qry_readList_49 rfl (lv_at hl 0 rfl) ?_
        obtain ⟨q11, hq11, hw⟩ := hw
        refine w_getr (q := q11) (k := 17) (t := 9) (C := R_Qry) (T := F_Qry) (N := 20) hx hb hT hown hK hW fo.1 fo.2 (by decide) in_Qry rfl rfl (by decide) rfl fr_Qry_17 w_3_105 d_Qry_readList_50 hq11 (fun aq11 bq11 => ?_)
        have fq11 : q11 < NN ∧ kcC q11 = 2 := ⟨aq11, bq11⟩
        refine lv_bipush (v := 44) hx hb d_Qry_readList_53 (by decide) ?_
        have hF := hW.free hS hA
        refine va_calli (va_runV (C := R_Scn) (As := [.int 44]) (rest := []) ⟨hx, hb, hml, hown, hT⟩ (k_Scn_takeSign l dC dI cI cB cJ cZ ad NN E tM tC kK kV hNN H.size q11 44 x8 fq11 hw) ⟨callB_of 1 hT (gwt_in w_4_123) rfl rfl rfl (hT _ w_1_4) (hT _ w_7_199) (by decide +kernel) ⟨Nat.le_trans (Nat.le_of_ble_eq_true rfl) hRf, Nat.le_trans (Nat.le_of_ble_eq_true rfl) hRl⟩, hT _ w_4_121, hT _ w_4_122⟩ ⟨PVc.blind, va_recv hK hW.1 (ci := 2) (q0 := q11) rfl (pic_obj fq11.1 fq11.2 (by decide)), PVc.at _ hW hK hN hE hS hF⟩ rfl rfl hl.1 rfl (lv_room (Nat.le_of_ble_eq_true rfl)) d_Qry_readList_55 ⟨hRc, hRs⟩) hS (fun q _ h => hF q h) hF (fun r13 x12 t H locs ht hvm hw hB hz1 hk1 hS => ?_)
        have hW := Wd.back hB ht hF
        clear hB ht hF hz1 hk1 hvm
        refine lv_if_eq (tgt := 65) hx hb d_Qry_readList_58 (by decide) (fun c14 => ?_) (fun c14 => ?_)
        · have hw := hw.1 c14
          exact t_Qry_readList_65 hx hb hml hown hT hK hN hA hRc hRs hRf hRl hNN hE hret hrec19 o l1 l2 l3 x12 H locs ls fo hw hW hS (lv_sub hl [0, 1, 2, 3] rfl)
        · have hw := hw.2 c14
          refine lv_iconst (v := 1) hx hb d_Qry_readList_61 (by decide) ?_
          refine lv_goto (tgt := 66) hx hb d_Qry_readList_62 (by decide) ?_
          exact t_Qry_readList_66 hx hb hml hown hT hK hN hA hRc hRs hRf hRl hNN hE hret hrec19 o l1 l2 l3 1 x12 H locs ls fo hw hW hS (lv_sub hl [0, 1, 2, 3] rfl)
set_option maxHeartbeats 4000000 in
set_option maxRecDepth 100000 in
theorem tl_Qry_readList_19 {p : Program} {l : Launch} {e : Env} {R : Room} {s : State} {m : MethodId} {args : Array Value} {below : List Frame} {meth : Method} {c : Code} {cells slots : Nat} {Q : State → Prop} {dC : Nat → ClassId} {dI : Nat → Nat → Nat} {cI cB cJ cZ : ClassId} {A : Nat → Prop} {ad : Nat → Nat} {NN : Nat} {E : Heap} {tM tC : Nat} {kK kV : Nat → Nat} {post : St → Prop} (hx : p.tables.exec = Jvm.exec) (hb : c.code = b_Qry_readList) (hml : c.maxLocals = 4) (hown : s.vm.findClass R_Qry = some m.cls) (hT : ∀ w ∈ TG, w.before args s = true) (hK : va_K (dC, dI) CL (TY cI cB cJ cZ) s) (hN : NW s) (hA : ∀ q : Nat, s.heap.size ≤ q → A q) (hRc : cells ≤ R.cells) (hRs : slots ≤ R.slots) (hRf : 7 ≤ R.frames) (hRl : 269 ≤ R.locals) (hNN : 152 ≤ NN) (hE : CE E tM tC kK kV A s) (hret : ∀ (x : St) (H : Heap) (locs : List Loc) (pc : Nat) (ls : Array Slot), decode b_Qry_readList pc = .ok (.return_, 1) → post x → Wd dC dI cI cB cJ cZ ad stC kcC NN A x H → va_S A s.heap H locs → W p l e R s m args below meth c H locs cells slots Q (F0 m pc ls []))  : ∀ n : Nat, ∀ (o : Nat) (l1 : Int32) (l2 : Int32) (l3 : Int32) (x : St) (H : Heap) (locs : List Loc) (ls : Array Slot), (o < NN ∧ kcC o = 9) → wl_Qry_readList_19 post n o l1 l2 l3 x → Wd dC dI cI cB cJ cZ ad stC kcC NN A x H → va_S A s.heap H locs → lv_has ls 4 [(0, .ref (ad o)), (1, .int l1), (2, .int l2), (3, .int l3)] → W p l e R s m args below meth c H locs cells slots Q (F0 m 19 ls []) := by
  intro n
  induction n with
  | zero => intro o l1 l2 l3 x H locs ls fo hw; exact hw.elim
  | succ n ih => intro o l1 l2 l3 x H locs ls fo hw hW hS hl; exact t_Qry_readList_19 hx hb hml hown hT hK hN hA hRc hRs hRf hRl hNN hE hret  ih o l1 l2 l3 x H locs ls fo hw hW hS hl
set_option maxRecDepth 100000 in
set_option maxHeartbeats 4000000 in
set_option maxRecDepth 100000 in
theorem t_Qry_readList_e {p : Program} {l : Launch} {e : Env} {R : Room} {s : State} {m : MethodId} {args : Array Value} {below : List Frame} {meth : Method} {c : Code} {cells slots : Nat} {Q : State → Prop} {dC : Nat → ClassId} {dI : Nat → Nat → Nat} {cI cB cJ cZ : ClassId} {A : Nat → Prop} {ad : Nat → Nat} {NN : Nat} {E : Heap} {tM tC : Nat} {kK kV : Nat → Nat} {post : St → Prop} (hx : p.tables.exec = Jvm.exec) (hb : c.code = b_Qry_readList) (hml : c.maxLocals = 4) (hown : s.vm.findClass R_Qry = some m.cls) (hT : ∀ w ∈ TG, w.before args s = true) (hK : va_K (dC, dI) CL (TY cI cB cJ cZ) s) (hN : NW s) (hA : ∀ q : Nat, s.heap.size ≤ q → A q) (hRc : cells ≤ R.cells) (hRs : slots ≤ R.slots) (hRf : 7 ≤ R.frames) (hRl : 269 ≤ R.locals) (hNN : 152 ≤ NN) (hE : CE E tM tC kK kV A s) (hret : ∀ (x : St) (H : Heap) (locs : List Loc) (pc : Nat) (ls : Array Slot), decode b_Qry_readList pc = .ok (.return_, 1) → post x → Wd dC dI cI cB cJ cZ ad stC kcC NN A x H → va_S A s.heap H locs → W p l e R s m args below meth c H locs cells slots Q (F0 m pc ls [])) : ∀ (o : Nat) (l1 : Int32) (x : St) (H : Heap) (locs : List Loc) (ls : Array Slot), (o < NN ∧ kcC o = 9) → wp_Qry_readList post o l1 x → Wd dC dI cI cB cJ cZ ad stC kcC NN A x H → va_S A s.heap H locs → lv_has ls 4 [(0, .ref (ad o)), (1, .int l1)] → W p l e R s m args below meth c H locs cells slots Q (F0 m 0 ls []) := by
  intro o l1 x H locs ls fo hw hW hS hl
  unfold wp_Qry_readList at hw
  refine lv_aload_n hx hb d_Qry_readList_0 rfl (lv_at hl 0 rfl) ?_
  obtain ⟨q15, hq15, hw⟩ := hw
  refine w_getr (q := q15) (k := 17) (t := 9) (C := R_Qry) (T := F_Qry) (N := 20) hx hb hT hown hK hW fo.1 fo.2 (by decide) in_Qry rfl rfl (by decide) rfl fr_Qry_17 w_3_105 d_Qry_readList_1 hq15 (fun aq15 bq15 => ?_)
  have fq15 : q15 < NN ∧ kcC q15 = 2 := ⟨aq15, bq15⟩
  refine lv_bipush (v := 40) hx hb d_Qry_readList_4 (by decide) ?_
  have hF := hW.free hS hA
  refine va_callv (va_runV (C := R_Scn) (As := [.int 40]) (rest := []) ⟨hx, hb, hml, hown, hT⟩ (k_Scn_needSign l dC dI cI cB cJ cZ ad NN E tM tC kK kV hNN H.size q15 40 x fq15 hw) ⟨callB_of 1 hT (gwt_in w_4_118) rfl rfl rfl (hT _ w_1_4) (hT _ w_7_187) (by decide +kernel) ⟨Nat.le_trans (Nat.le_of_ble_eq_true rfl) hRf, Nat.le_trans (Nat.le_of_ble_eq_true rfl) hRl⟩, hT _ w_4_116, hT _ w_4_117⟩ ⟨PVc.blind, va_recv hK hW.1 (ci := 2) (q0 := q15) rfl (pic_obj fq15.1 fq15.2 (by decide)), PVc.at _ hW hK hN hE hS hF⟩ rfl rfl hl.1 rfl (lv_room (Nat.le_of_ble_eq_true rfl)) d_Qry_readList_6 ⟨hRc, hRs⟩) hS (fun q _ h => hF q h) hF (fun  x16 t H locs ht hvm hw hB hz1 hk1 hS => ?_)
  have hW := Wd.back hB ht hF
  clear hB ht hF hz1 hk1 hvm
  refine lv_aload_n hx hb d_Qry_readList_9 rfl (lv_at hl 0 rfl) ?_
  obtain ⟨q17, hq17, hw⟩ := hw
  refine w_getr (q := q17) (k := 17) (t := 9) (C := R_Qry) (T := F_Qry) (N := 20) hx hb hT hown hK hW fo.1 fo.2 (by decide) in_Qry rfl rfl (by decide) rfl fr_Qry_17 w_3_105 d_Qry_readList_10 hq17 (fun aq17 bq17 => ?_)
  have fq17 : q17 < NN ∧ kcC q17 = 2 := ⟨aq17, bq17⟩
  have hF := hW.free hS hA
  refine va_calli (va_runV (C := R_Scn) (As := []) (rest := []) ⟨hx, hb, hml, hown, hT⟩ (k_Scn_good l dC dI cI cB cJ cZ ad NN E tM tC kK kV hNN H.size q17 x16 fq17 hw) ⟨callB_of 0 hT (gwt_in w_4_106) rfl rfl rfl (hT _ w_1_4) (hT _ w_7_147) (by decide +kernel) ⟨Nat.le_trans (Nat.le_of_ble_eq_true rfl) hRf, Nat.le_trans (Nat.le_of_ble_eq_true rfl) hRl⟩, hT _ w_4_104, hT _ w_4_105⟩ ⟨PVc.blind, va_recv hK hW.1 (ci := 2) (q0 := q17) rfl (pic_obj fq17.1 fq17.2 (by decide)), PVc.at _ hW hK hN hE hS hF⟩ rfl rfl hl.1 rfl (lv_room (Nat.le_of_ble_eq_true rfl)) d_Qry_readList_13 ⟨hRc, hRs⟩) hS (fun q _ h => hF q h) hF (fun r19 x18 t H locs ht hvm hw hB hz1 hk1 hS => ?_)
  have hW := Wd.back hB ht hF
  clear hB ht hF hz1 hk1 hvm
  refine lv_istore_n (lv' := [(2, .int r19), (0, .ref (ad o)), (1, .int l1)]) hx hb d_Qry_readList_16 rfl hl (by decide) rfl (fun ls hl => ?_)
  refine lv_iconst (v := 0) hx hb d_Qry_readList_17 (by decide) ?_
  refine lv_istore_n (lv' := [(3, .int 0), (2, .int r19), (0, .ref (ad o)), (1, .int l1)]) hx hb d_Qry_readList_18 rfl hl (by decide) rfl (fun ls hl => ?_)
  obtain ⟨n, hw⟩ := hw
  exact tl_Qry_readList_19 hx hb hml hown hT hK hN hA hRc hRs hRf hRl hNN hE hret  n o l1 r19 0 x18 H locs ls fo hw hW hS (lv_sub hl [2, 3, 1, 0] rfl)
set_option maxHeartbeats 4000000 in
set_option maxRecDepth 100000 in
theorem k_Qry_readList (l : Launch) (dC : Nat → ClassId) (dI : Nat → Nat → Nat) (cI cB cJ cZ : ClassId) (ad : Nat → Nat) (NN : Nat) (E : Heap) (tM tC : Nat) (kK kV : Nat → Nat) (hNN : 152 ≤ NN) (sz : Nat) (o : Nat) (l1 : Int32) (x : St) (fo : o < NN ∧ kcC o = 9) {post : St → Prop} (hw : wp_Qry_readList post o l1 x) : Met l y_Qry_readList (wsOf y_Qry_readList b_Qry_readList 4 (none)) ({ frames := 7, cells := 0, slots := 0, locals := 269 }) (va_Pc [.ref (ad o), .int l1] (PVc dC dI cI cB cJ cZ ad stC kcC NN E tM tC kK kV sz x)) (va_Qv (fun (y : St) => post y) (fun y t => Wd dC dI cI cB cJ cZ ad stC kcC NN (va_A (pic ad stC kcC NN cI cB cJ cZ x) sz) y t.heap) (va_A (pic ad stC kcC NN cI cB cJ cZ x) sz)) 0 0 (va_A (pic ad stC kcC NN cI cB cJ cZ x) sz) := by
  refine Met.ofW (cc := b_Qry_readList) (maxL := 4) (ret := none) (by decide) rfl ?_
  intro p e s m args below meth c s₁ B hml hv
  obtain ⟨rfl, ⟨hsz, hW0, hK, hN⟩, hE⟩ := hv
  have hx := B.exec
  have hb := B.bytes
  have hr := B.returns
  have hts := atoms_spec B.pre
  have hT : ∀ w ∈ TG, w.before _ s = true := fun w h => hts w (List.mem_cons_of_mem _ h)
  have hown : s.vm.findClass R_Qry = some m.cls := findClass_of_methodNamed B.named
  have hlocks := B.notSynchronized
  subst hsz
  have hW : Wd dC dI cI cB cJ cZ ad stC kcC NN (va_A (pic ad stC kcC NN cI cB cJ cZ x) s.heap.size) x s.heap := ⟨hW0.1, hW0.2.1.self (sz := s.heap.size), hW0.2.2⟩
  generalize hAe : va_A (pic ad stC kcC NN cI cB cJ cZ x) s.heap.size = A at hW hE ⊢
  have hA : ∀ q : Nat, s.heap.size ≤ q → A q := fun q h => by rw [← hAe]; exact Or.inr h
  have hS : va_S A s.heap s.heap [] := va_S.rf
  have hl := lv_entry ([.ref (ad o), .int l1]) (n := 4) (Nat.le_of_ble_eq_true rfl)
  rw [lg_entry_eq]
  generalize (lg_sl ([.ref (ad o), .int l1]) ++ List.replicate (4 - (lg_sl ([.ref (ad o), .int l1])).length) Slot.unset).toArray = ls at hl ⊢
  have hl : lv_has ls 4 [(0, .ref (ad o)), (1, .int l1)] := hl
  exact t_Qry_readList_e hx hb hml hown hT hK hN hA (Nat.le_refl 0) (Nat.le_refl 0) (Nat.le_refl 7) (Nat.le_refl 269) hNN hE (fun x H locs pc ls hd hp hW hS => W.vret hx hb hr (fun t ht hM => ⟨⟨x, rfl, hp, Wd.back hW ht.symm (fun _ z => z)⟩, hS.F ht⟩) hS.2.2 hd hlocks)  o l1 x _ _ ls fo hw hW hS hl
end
