theorem w_1_177 : (Jvm.Cond.fieldLink "StripedVault$Query" (222 : Nat) "StripedVault$Schema" "column" "[I") ∈ TG := tw_1 177 (by decide +kernel) (by decide +kernel)
theorem w_7_142 : (Jvm.Cond.methodLink "StripedVault$Query" (77 : Nat) ({ cls := "StripedVault$Scan", name := "needWord", desc := "(Ljava/lang/String;)V" } : Jvm.MethodName)) ∈ TG := tw_7 142 (by decide +kernel) (by decide +kernel)
theorem w_7_200 : (Jvm.Cond.methodLink "StripedVault$Query" (96 : Nat) ({ cls := "StripedVault$Query", name := "readCondition", desc := "(I)V" } : Jvm.MethodName)) ∈ TG := tw_7 200 (by decide +kernel) (by decide +kernel)
theorem w_7_202 : (Jvm.Cond.instanceMethod ({ cls := "StripedVault$Query", name := "readCondition", desc := "(I)V" } : Jvm.MethodName)) ∈ TG := tw_7 202 (by decide +kernel) (by decide +kernel)
theorem w_7_203 : (Jvm.Cond.code ({ cls := "StripedVault$Query", name := "readCondition", desc := "(I)V" } : Jvm.MethodName) prog_5_method_13_code (6 : Nat) (Option.none : Option Jvm.ClassFile.FieldType)) ∈ TG := tw_7 203 (by decide +kernel) (by decide +kernel)
theorem w_7_204 : (Jvm.Cond.methodLink "StripedVault$Query" (215 : Nat) ({ cls := "StripedVault$Query", name := "readTest", desc := "(I)V" } : Jvm.MethodName)) ∈ TG := tw_7 204 (by decide +kernel) (by decide +kernel)
theorem w_7_206 : (Jvm.Cond.instanceMethod ({ cls := "StripedVault$Query", name := "readTest", desc := "(I)V" } : Jvm.MethodName)) ∈ TG := tw_7 206 (by decide +kernel) (by decide +kernel)
theorem w_7_207 : (Jvm.Cond.code ({ cls := "StripedVault$Query", name := "readTest", desc := "(I)V" } : Jvm.MethodName) prog_5_method_14_code (7 : Nat) (Option.none : Option Jvm.ClassFile.FieldType)) ∈ TG := tw_7 207 (by decide +kernel) (by decide +kernel)
theorem w_7_208 : (Jvm.Cond.methodLink "StripedVault$Query" (218 : Nat) ({ cls := "StripedVault$Query", name := "addStep", desc := "(IIIII)V" } : Jvm.MethodName)) ∈ TG := tw_7 208 (by decide +kernel) (by decide +kernel)
theorem w_7_210 : (Jvm.Cond.instanceMethod ({ cls := "StripedVault$Query", name := "addStep", desc := "(IIIII)V" } : Jvm.MethodName)) ∈ TG := tw_7 210 (by decide +kernel) (by decide +kernel)
theorem w_7_211 : (Jvm.Cond.code ({ cls := "StripedVault$Query", name := "addStep", desc := "(IIIII)V" } : Jvm.MethodName) prog_5_method_15_code (6 : Nat) (Option.none : Option Jvm.ClassFile.FieldType)) ∈ TG := tw_7 211 (by decide +kernel) (by decide +kernel)
theorem w_7_212 : (Jvm.Cond.methodLink "StripedVault$Query" (225 : Nat) ({ cls := "StripedVault$Query", name := "readList", desc := "(I)V" } : Jvm.MethodName)) ∈ TG := tw_7 212 (by decide +kernel) (by decide +kernel)
theorem w_7_214 : (Jvm.Cond.instanceMethod ({ cls := "StripedVault$Query", name := "readList", desc := "(I)V" } : Jvm.MethodName)) ∈ TG := tw_7 214 (by decide +kernel) (by decide +kernel)
theorem w_7_215 : (Jvm.Cond.code ({ cls := "StripedVault$Query", name := "readList", desc := "(I)V" } : Jvm.MethodName) prog_5_method_16_code (4 : Nat) (Option.none : Option Jvm.ClassFile.FieldType)) ∈ TG := tw_7 215 (by decide +kernel) (by decide +kernel)
theorem w_7_224 : (Jvm.Cond.methodLink "StripedVault$Query" (228 : Nat) ({ cls := "StripedVault$Query", name := "readComparison", desc := "(II)V" } : Jvm.MethodName)) ∈ TG := tw_7 224 (by decide +kernel) (by decide +kernel)
theorem w_7_226 : (Jvm.Cond.instanceMethod ({ cls := "StripedVault$Query", name := "readComparison", desc := "(II)V" } : Jvm.MethodName)) ∈ TG := tw_7 226 (by decide +kernel) (by decide +kernel)
theorem w_7_227 : (Jvm.Cond.code ({ cls := "StripedVault$Query", name := "readComparison", desc := "(II)V" } : Jvm.MethodName) prog_5_method_17_code (8 : Nat) (Option.none : Option Jvm.ClassFile.FieldType)) ∈ TG := tw_7 227 (by decide +kernel) (by decide +kernel)
theorem w_7_228 : (Jvm.Cond.methodLink "StripedVault$Query" (235 : Nat) ({ cls := "StripedVault$Query", name := "readOperator", desc := "()I" } : Jvm.MethodName)) ∈ TG := tw_7 228 (by decide +kernel) (by decide +kernel)
theorem w_7_230 : (Jvm.Cond.instanceMethod ({ cls := "StripedVault$Query", name := "readOperator", desc := "()I" } : Jvm.MethodName)) ∈ TG := tw_7 230 (by decide +kernel) (by decide +kernel)
theorem w_7_231 : (Jvm.Cond.code ({ cls := "StripedVault$Query", name := "readOperator", desc := "()I" } : Jvm.MethodName) prog_5_method_19_code (1 : Nat) (Option.some Jvm.ClassFile.FieldType.int)) ∈ TG := tw_7 231 (by decide +kernel) (by decide +kernel)
theorem w_7_232 : (Jvm.Cond.methodLink "StripedVault$Query" (241 : Nat) ({ cls := "StripedVault$Query", name := "takeBehind", desc := "(C)Z" } : Jvm.MethodName)) ∈ TG := tw_7 232 (by decide +kernel) (by decide +kernel)
theorem w_7_234 : (Jvm.Cond.instanceMethod ({ cls := "StripedVault$Query", name := "takeBehind", desc := "(C)Z" } : Jvm.MethodName)) ∈ TG := tw_7 234 (by decide +kernel) (by decide +kernel)
theorem w_7_235 : (Jvm.Cond.code ({ cls := "StripedVault$Query", name := "takeBehind", desc := "(C)Z" } : Jvm.MethodName) prog_5_method_20_code (2 : Nat) (Option.some Jvm.ClassFile.FieldType.boolean)) ∈ TG := tw_7 235 (by decide +kernel) (by decide +kernel)
theorem w_7_236 : (Jvm.Cond.methodLink "StripedVault$Query" (238 : Nat) ({ cls := "StripedVault$Query", name := "atTruth", desc := "()Z" } : Jvm.MethodName)) ∈ TG := tw_7 236 (by decide +kernel) (by decide +kernel)
theorem w_7_238 : (Jvm.Cond.instanceMethod ({ cls := "StripedVault$Query", name := "atTruth", desc := "()Z" } : Jvm.MethodName)) ∈ TG := tw_7 238 (by decide +kernel) (by decide +kernel)
theorem w_7_239 : (Jvm.Cond.code ({ cls := "StripedVault$Query", name := "atTruth", desc := "()Z" } : Jvm.MethodName) prog_5_method_18_code (3 : Nat) (Option.some Jvm.ClassFile.FieldType.boolean)) ∈ TG := tw_7 239 (by decide +kernel) (by decide +kernel)
theorem ws_74 : Cond.selects R_Qry y_Qry_readCondition y_Qry_readCondition ∈ TG := tw_s 74 (by decide +kernel) (by decide +kernel)
theorem ws_75 : Cond.selects R_Qry y_Qry_readTest y_Qry_readTest ∈ TG := tw_s 75 (by decide +kernel) (by decide +kernel)
theorem ws_76 : Cond.selects R_Qry y_Qry_addStep y_Qry_addStep ∈ TG := tw_s 76 (by decide +kernel) (by decide +kernel)
theorem ws_77 : Cond.selects R_Qry y_Qry_readList y_Qry_readList ∈ TG := tw_s 77 (by decide +kernel) (by decide +kernel)
theorem ws_79 : Cond.selects R_Qry y_Qry_readComparison y_Qry_readComparison ∈ TG := tw_s 79 (by decide +kernel) (by decide +kernel)
theorem ws_80 : Cond.selects R_Qry y_Qry_readOperator y_Qry_readOperator ∈ TG := tw_s 80 (by decide +kernel) (by decide +kernel)
theorem ws_81 : Cond.selects R_Qry y_Qry_takeBehind y_Qry_takeBehind ∈ TG := tw_s 81 (by decide +kernel) (by decide +kernel)
theorem ws_82 : Cond.selects R_Qry y_Qry_atTruth y_Qry_atTruth ∈ TG := tw_s 82 (by decide +kernel) (by decide +kernel)
theorem d_Qry_takeBehind_0 : decode b_Qry_takeBehind 0 = .ok (.aload_n 0, 1) := by decide +kernel
theorem d_Qry_takeBehind_1 : decode b_Qry_takeBehind 1 = .ok (.getfield 44, 3) := by decide +kernel
theorem d_Qry_takeBehind_4 : decode b_Qry_takeBehind 4 = .ok (.aload_n 0, 1) := by decide +kernel
theorem d_Qry_takeBehind_5 : decode b_Qry_takeBehind 5 = .ok (.getfield 44, 3) := by decide +kernel
theorem d_Qry_takeBehind_8 : decode b_Qry_takeBehind 8 = .ok (.getfield 110, 3) := by decide +kernel
theorem d_Qry_takeBehind_11 : decode b_Qry_takeBehind 11 = .ok (.invokevirtual 167, 3) := by decide +kernel
theorem d_Qry_takeBehind_14 : decode b_Qry_takeBehind 14 = .ok (.iload_n 1, 1) := by decide +kernel
theorem d_Qry_takeBehind_15 : decode b_Qry_takeBehind 15 = .ok (.if_icmp .eq 5, 3) := by decide +kernel
theorem d_Qry_takeBehind_20 : decode b_Qry_takeBehind 20 = .ok (.aload_n 0, 1) := by decide +kernel
theorem d_Qry_takeBehind_21 : decode b_Qry_takeBehind 21 = .ok (.getfield 44, 3) := by decide +kernel
theorem d_Qry_takeBehind_24 : decode b_Qry_takeBehind 24 = .ok (.dup, 1) := by decide +kernel
theorem d_Qry_takeBehind_25 : decode b_Qry_takeBehind 25 = .ok (.getfield 110, 3) := by decide +kernel
theorem d_Qry_takeBehind_28 : decode b_Qry_takeBehind 28 = .ok (.iconst 1, 1) := by decide +kernel
theorem d_Qry_takeBehind_29 : decode b_Qry_takeBehind 29 = .ok (.iadd, 1) := by decide +kernel
theorem d_Qry_takeBehind_30 : decode b_Qry_takeBehind 30 = .ok (.putfield 110, 3) := by decide +kernel
theorem d_Qry_takeBehind_33 : decode b_Qry_takeBehind 33 = .ok (.iconst 1, 1) := by decide +kernel
theorem d_Qry_takeBehind_34 : decode b_Qry_takeBehind 34 = .ok (.ireturn, 1) := by decide +kernel
theorem d_Qry_takeBehind_18 : decode b_Qry_takeBehind 18 = .ok (.iconst 0, 1) := by decide +kernel
theorem d_Qry_takeBehind_19 : decode b_Qry_takeBehind 19 = .ok (.ireturn, 1) := by decide +kernel
theorem d_Qry_readOperator_0 : decode b_Qry_readOperator 0 = .ok (.aload_n 0, 1) := by decide +kernel
theorem d_Qry_readOperator_1 : decode b_Qry_readOperator 1 = .ok (.getfield 44, 3) := by decide +kernel
theorem d_Qry_readOperator_4 : decode b_Qry_readOperator 4 = .ok (.bipush 61, 2) := by decide +kernel
theorem d_Qry_readOperator_6 : decode b_Qry_readOperator 6 = .ok (.invokevirtual 129, 3) := by decide +kernel
theorem d_Qry_readOperator_9 : decode b_Qry_readOperator 9 = .ok (.ifCond .eq 5, 3) := by decide +kernel
theorem d_Qry_readOperator_14 : decode b_Qry_readOperator 14 = .ok (.aload_n 0, 1) := by decide +kernel
theorem d_Qry_readOperator_15 : decode b_Qry_readOperator 15 = .ok (.getfield 44, 3) := by decide +kernel
theorem d_Qry_readOperator_18 : decode b_Qry_readOperator 18 = .ok (.bipush 60, 2) := by decide +kernel
theorem d_Qry_readOperator_20 : decode b_Qry_readOperator 20 = .ok (.invokevirtual 129, 3) := by decide +kernel
theorem d_Qry_readOperator_23 : decode b_Qry_readOperator 23 = .ok (.ifCond .eq 29, 3) := by decide +kernel
theorem d_Qry_readOperator_52 : decode b_Qry_readOperator 52 = .ok (.aload_n 0, 1) := by decide +kernel
theorem d_Qry_readOperator_53 : decode b_Qry_readOperator 53 = .ok (.getfield 44, 3) := by decide +kernel
theorem d_Qry_readOperator_56 : decode b_Qry_readOperator 56 = .ok (.bipush 62, 2) := by decide +kernel
theorem d_Qry_readOperator_58 : decode b_Qry_readOperator 58 = .ok (.invokevirtual 129, 3) := by decide +kernel
theorem d_Qry_readOperator_61 : decode b_Qry_readOperator 61 = .ok (.ifCond .eq 18, 3) := by decide +kernel
theorem d_Qry_readOperator_79 : decode b_Qry_readOperator 79 = .ok (.aload_n 0, 1) := by decide +kernel
theorem d_Qry_readOperator_80 : decode b_Qry_readOperator 80 = .ok (.getfield 44, 3) := by decide +kernel
theorem d_Qry_readOperator_83 : decode b_Qry_readOperator 83 = .ok (.aload_n 0, 1) := by decide +kernel
theorem d_Qry_readOperator_84 : decode b_Qry_readOperator 84 = .ok (.getfield 44, 3) := by decide +kernel
theorem d_Qry_readOperator_87 : decode b_Qry_readOperator 87 = .ok (.getfield 110, 3) := by decide +kernel
theorem d_Qry_readOperator_90 : decode b_Qry_readOperator 90 = .ok (.invokevirtual 113, 3) := by decide +kernel
theorem d_Qry_readOperator_93 : decode b_Qry_readOperator 93 = .ok (.iconst 0, 1) := by decide +kernel
theorem d_Qry_readOperator_94 : decode b_Qry_readOperator 94 = .ok (.ireturn, 1) := by decide +kernel
theorem d_Qry_readOperator_64 : decode b_Qry_readOperator 64 = .ok (.aload_n 0, 1) := by decide +kernel
theorem d_Qry_readOperator_65 : decode b_Qry_readOperator 65 = .ok (.bipush 61, 2) := by decide +kernel
theorem d_Qry_readOperator_67 : decode b_Qry_readOperator 67 = .ok (.invokevirtual 241, 3) := by decide +kernel
theorem d_Qry_readOperator_70 : decode b_Qry_readOperator 70 = .ok (.ifCond .eq 7, 3) := by decide +kernel
theorem d_Qry_readOperator_77 : decode b_Qry_readOperator 77 = .ok (.iconst 4, 1) := by decide +kernel
theorem d_Qry_readOperator_78 : decode b_Qry_readOperator 78 = .ok (.ireturn, 1) := by decide +kernel
theorem d_Qry_readOperator_73 : decode b_Qry_readOperator 73 = .ok (.iconst 3, 1) := by decide +kernel
theorem d_Qry_readOperator_74 : decode b_Qry_readOperator 74 = .ok (.goto 4, 3) := by decide +kernel
theorem d_Qry_readOperator_26 : decode b_Qry_readOperator 26 = .ok (.aload_n 0, 1) := by decide +kernel
theorem d_Qry_readOperator_27 : decode b_Qry_readOperator 27 = .ok (.bipush 62, 2) := by decide +kernel
theorem d_Qry_readOperator_29 : decode b_Qry_readOperator 29 = .ok (.invokevirtual 241, 3) := by decide +kernel
theorem d_Qry_readOperator_32 : decode b_Qry_readOperator 32 = .ok (.ifCond .eq 5, 3) := by decide +kernel
theorem d_Qry_readOperator_37 : decode b_Qry_readOperator 37 = .ok (.aload_n 0, 1) := by decide +kernel
theorem d_Qry_readOperator_38 : decode b_Qry_readOperator 38 = .ok (.bipush 61, 2) := by decide +kernel
theorem d_Qry_readOperator_40 : decode b_Qry_readOperator 40 = .ok (.invokevirtual 241, 3) := by decide +kernel
theorem d_Qry_readOperator_43 : decode b_Qry_readOperator 43 = .ok (.ifCond .eq 7, 3) := by decide +kernel
theorem d_Qry_readOperator_50 : decode b_Qry_readOperator 50 = .ok (.iconst 2, 1) := by decide +kernel
theorem d_Qry_readOperator_51 : decode b_Qry_readOperator 51 = .ok (.ireturn, 1) := by decide +kernel
theorem d_Qry_readOperator_46 : decode b_Qry_readOperator 46 = .ok (.iconst 5, 1) := by decide +kernel
theorem d_Qry_readOperator_47 : decode b_Qry_readOperator 47 = .ok (.goto 4, 3) := by decide +kernel
theorem d_Qry_readOperator_35 : decode b_Qry_readOperator 35 = .ok (.iconst 1, 1) := by decide +kernel
theorem d_Qry_readOperator_36 : decode b_Qry_readOperator 36 = .ok (.ireturn, 1) := by decide +kernel
theorem d_Qry_readOperator_12 : decode b_Qry_readOperator 12 = .ok (.iconst 0, 1) := by decide +kernel
theorem d_Qry_readOperator_13 : decode b_Qry_readOperator 13 = .ok (.ireturn, 1) := by decide +kernel
theorem d_Qry_atTruth_37 : decode b_Qry_atTruth 37 = .ok (.istore_n 2, 1) := by decide +kernel
theorem d_Qry_atTruth_38 : decode b_Qry_atTruth 38 = .ok (.aload_n 0, 1) := by decide +kernel
theorem d_Qry_atTruth_39 : decode b_Qry_atTruth 39 = .ok (.getfield 44, 3) := by decide +kernel
theorem d_Qry_atTruth_42 : decode b_Qry_atTruth 42 = .ok (.iload_n 1, 1) := by decide +kernel
theorem d_Qry_atTruth_43 : decode b_Qry_atTruth 43 = .ok (.putfield 110, 3) := by decide +kernel
theorem d_Qry_atTruth_46 : decode b_Qry_atTruth 46 = .ok (.iload_n 2, 1) := by decide +kernel
theorem d_Qry_atTruth_47 : decode b_Qry_atTruth 47 = .ok (.ireturn, 1) := by decide +kernel
theorem d_Qry_atTruth_32 : decode b_Qry_atTruth 32 = .ok (.iconst 1, 1) := by decide +kernel
theorem d_Qry_atTruth_33 : decode b_Qry_atTruth 33 = .ok (.goto 4, 3) := by decide +kernel
theorem d_Qry_atTruth_0 : decode b_Qry_atTruth 0 = .ok (.aload_n 0, 1) := by decide +kernel
theorem d_Qry_atTruth_1 : decode b_Qry_atTruth 1 = .ok (.getfield 44, 3) := by decide +kernel
theorem d_Qry_atTruth_4 : decode b_Qry_atTruth 4 = .ok (.getfield 110, 3) := by decide +kernel
theorem d_Qry_atTruth_7 : decode b_Qry_atTruth 7 = .ok (.istore_n 1, 1) := by decide +kernel
theorem d_Qry_atTruth_8 : decode b_Qry_atTruth 8 = .ok (.aload_n 0, 1) := by decide +kernel
theorem d_Qry_atTruth_9 : decode b_Qry_atTruth 9 = .ok (.getfield 44, 3) := by decide +kernel
theorem d_Qry_atTruth_12 : decode b_Qry_atTruth 12 = .ok (.ldc 208, 2) := by decide +kernel
theorem d_Qry_atTruth_14 : decode b_Qry_atTruth 14 = .ok (.invokevirtual 92, 3) := by decide +kernel
theorem d_Qry_atTruth_17 : decode b_Qry_atTruth 17 = .ok (.ifCond .ne 15, 3) := by decide +kernel
theorem d_Qry_atTruth_20 : decode b_Qry_atTruth 20 = .ok (.aload_n 0, 1) := by decide +kernel
theorem d_Qry_atTruth_21 : decode b_Qry_atTruth 21 = .ok (.getfield 44, 3) := by decide +kernel
theorem d_Qry_atTruth_24 : decode b_Qry_atTruth 24 = .ok (.ldc 210, 2) := by decide +kernel
theorem d_Qry_atTruth_26 : decode b_Qry_atTruth 26 = .ok (.invokevirtual 92, 3) := by decide +kernel
theorem d_Qry_atTruth_29 : decode b_Qry_atTruth 29 = .ok (.ifCond .eq 7, 3) := by decide +kernel
theorem d_Qry_atTruth_36 : decode b_Qry_atTruth 36 = .ok (.iconst 0, 1) := by decide +kernel
theorem d_Qry_readComparison_141 : decode b_Qry_readComparison 141 = .ok (.aload_n 0, 1) := by decide +kernel
theorem d_Qry_readComparison_142 : decode b_Qry_readComparison 142 = .ok (.iload 5, 2) := by decide +kernel
theorem d_Qry_readComparison_144 : decode b_Qry_readComparison 144 = .ok (.iload_n 2, 1) := by decide +kernel
theorem d_Qry_readComparison_145 : decode b_Qry_readComparison 145 = .ok (.iload 4, 2) := by decide +kernel
theorem d_Qry_readComparison_147 : decode b_Qry_readComparison 147 = .ok (.aload_n 0, 1) := by decide +kernel
theorem d_Qry_readComparison_148 : decode b_Qry_readComparison 148 = .ok (.getfield 48, 3) := by decide +kernel
theorem d_Qry_readComparison_151 : decode b_Qry_readComparison 151 = .ok (.getfield 222, 3) := by decide +kernel
theorem d_Qry_readComparison_154 : decode b_Qry_readComparison 154 = .ok (.iload 6, 2) := by decide +kernel
theorem d_Qry_readComparison_156 : decode b_Qry_readComparison 156 = .ok (.iaload, 1) := by decide +kernel
theorem d_Qry_readComparison_157 : decode b_Qry_readComparison 157 = .ok (.iconst 0, 1) := by decide +kernel
theorem d_Qry_readComparison_158 : decode b_Qry_readComparison 158 = .ok (.invokevirtual 218, 3) := by decide +kernel
theorem d_Qry_readComparison_161 : decode b_Qry_readComparison 161 = .ok (.return_, 1) := by decide +kernel
theorem d_Qry_readComparison_130 : decode b_Qry_readComparison 130 = .ok (.aload_n 0, 1) := by decide +kernel
theorem d_Qry_readComparison_131 : decode b_Qry_readComparison 131 = .ok (.getfield 44, 3) := by decide +kernel
theorem d_Qry_readComparison_134 : decode b_Qry_readComparison 134 = .ok (.aload_n 0, 1) := by decide +kernel
theorem d_Qry_readComparison_135 : decode b_Qry_readComparison 135 = .ok (.getfield 154, 3) := by decide +kernel
theorem d_Qry_readComparison_138 : decode b_Qry_readComparison 138 = .ok (.invokevirtual 113, 3) := by decide +kernel
theorem d_Qry_readComparison_58 : decode b_Qry_readComparison 58 = .ok (.aload_n 0, 1) := by decide +kernel
theorem d_Qry_readComparison_59 : decode b_Qry_readComparison 59 = .ok (.iload_n 3, 1) := by decide +kernel
theorem d_Qry_readComparison_60 : decode b_Qry_readComparison 60 = .ok (.invokevirtual 232, 3) := by decide +kernel
theorem d_Qry_readComparison_63 : decode b_Qry_readComparison 63 = .ok (.aload_n 0, 1) := by decide +kernel
theorem d_Qry_readComparison_64 : decode b_Qry_readComparison 64 = .ok (.iload 5, 2) := by decide +kernel
theorem d_Qry_readComparison_66 : decode b_Qry_readComparison 66 = .ok (.iload_n 2, 1) := by decide +kernel
theorem d_Qry_readComparison_67 : decode b_Qry_readComparison 67 = .ok (.iload 4, 2) := by decide +kernel
theorem d_Qry_readComparison_69 : decode b_Qry_readComparison 69 = .ok (.aload_n 0, 1) := by decide +kernel
theorem d_Qry_readComparison_70 : decode b_Qry_readComparison 70 = .ok (.getfield 69, 3) := by decide +kernel
theorem d_Qry_readComparison_73 : decode b_Qry_readComparison 73 = .ok (.iconst 1, 1) := by decide +kernel
theorem d_Qry_readComparison_74 : decode b_Qry_readComparison 74 = .ok (.isub, 1) := by decide +kernel
theorem d_Qry_readComparison_75 : decode b_Qry_readComparison 75 = .ok (.iconst 1, 1) := by decide +kernel
theorem d_Qry_readComparison_76 : decode b_Qry_readComparison 76 = .ok (.invokevirtual 218, 3) := by decide +kernel
theorem d_Qry_readComparison_79 : decode b_Qry_readComparison 79 = .ok (.return_, 1) := by decide +kernel
theorem d_Qry_readComparison_0 : decode b_Qry_readComparison 0 = .ok (.aload_n 0, 1) := by decide +kernel
theorem d_Qry_readComparison_1 : decode b_Qry_readComparison 1 = .ok (.getfield 48, 3) := by decide +kernel
theorem d_Qry_readComparison_4 : decode b_Qry_readComparison 4 = .ok (.getfield 146, 3) := by decide +kernel
theorem d_Qry_readComparison_7 : decode b_Qry_readComparison 7 = .ok (.iload_n 1, 1) := by decide +kernel
theorem d_Qry_readComparison_8 : decode b_Qry_readComparison 8 = .ok (.iaload, 1) := by decide +kernel
theorem d_Qry_readComparison_9 : decode b_Qry_readComparison 9 = .ok (.istore_n 3, 1) := by decide +kernel
theorem d_Qry_readComparison_10 : decode b_Qry_readComparison 10 = .ok (.aload_n 0, 1) := by decide +kernel
theorem d_Qry_readComparison_11 : decode b_Qry_readComparison 11 = .ok (.getfield 48, 3) := by decide +kernel
theorem d_Qry_readComparison_14 : decode b_Qry_readComparison 14 = .ok (.getfield 222, 3) := by decide +kernel
theorem d_Qry_readComparison_17 : decode b_Qry_readComparison 17 = .ok (.iload_n 1, 1) := by decide +kernel
theorem d_Qry_readComparison_18 : decode b_Qry_readComparison 18 = .ok (.iaload, 1) := by decide +kernel
theorem d_Qry_readComparison_19 : decode b_Qry_readComparison 19 = .ok (.istore 4, 2) := by decide +kernel
theorem d_Qry_readComparison_21 : decode b_Qry_readComparison 21 = .ok (.aload_n 0, 1) := by decide +kernel
theorem d_Qry_readComparison_22 : decode b_Qry_readComparison 22 = .ok (.invokevirtual 235, 3) := by decide +kernel
theorem d_Qry_readComparison_25 : decode b_Qry_readComparison 25 = .ok (.istore 5, 2) := by decide +kernel
theorem d_Qry_readComparison_27 : decode b_Qry_readComparison 27 = .ok (.aload_n 0, 1) := by decide +kernel
theorem d_Qry_readComparison_28 : decode b_Qry_readComparison 28 = .ok (.getfield 44, 3) := by decide +kernel
theorem d_Qry_readComparison_31 : decode b_Qry_readComparison 31 = .ok (.invokevirtual 86, 3) := by decide +kernel
theorem d_Qry_readComparison_34 : decode b_Qry_readComparison 34 = .ok (.ifCond .ne 4, 3) := by decide +kernel
theorem d_Qry_readComparison_38 : decode b_Qry_readComparison 38 = .ok (.aload_n 0, 1) := by decide +kernel
theorem d_Qry_readComparison_39 : decode b_Qry_readComparison 39 = .ok (.getfield 44, 3) := by decide +kernel
theorem d_Qry_readComparison_42 : decode b_Qry_readComparison 42 = .ok (.invokevirtual 106, 3) := by decide +kernel
theorem d_Qry_readComparison_45 : decode b_Qry_readComparison 45 = .ok (.invokestatic 171, 3) := by decide +kernel
theorem d_Qry_readComparison_48 : decode b_Qry_readComparison 48 = .ok (.ifCond .eq 10, 3) := by decide +kernel
theorem d_Qry_readComparison_51 : decode b_Qry_readComparison 51 = .ok (.aload_n 0, 1) := by decide +kernel
theorem d_Qry_readComparison_52 : decode b_Qry_readComparison 52 = .ok (.invokevirtual 238, 3) := by decide +kernel
theorem d_Qry_readComparison_55 : decode b_Qry_readComparison 55 = .ok (.ifCond .eq 25, 3) := by decide +kernel
theorem d_Qry_readComparison_80 : decode b_Qry_readComparison 80 = .ok (.aload_n 0, 1) := by decide +kernel
theorem d_Qry_readComparison_81 : decode b_Qry_readComparison 81 = .ok (.invokevirtual 143, 3) := by decide +kernel
theorem d_Qry_readComparison_84 : decode b_Qry_readComparison 84 = .ok (.istore 6, 2) := by decide +kernel
theorem d_Qry_readComparison_86 : decode b_Qry_readComparison 86 = .ok (.aload_n 0, 1) := by decide +kernel
theorem d_Qry_readComparison_87 : decode b_Qry_readComparison 87 = .ok (.getfield 44, 3) := by decide +kernel
theorem d_Qry_readComparison_90 : decode b_Qry_readComparison 90 = .ok (.invokevirtual 86, 3) := by decide +kernel
theorem d_Qry_readComparison_93 : decode b_Qry_readComparison 93 = .ok (.ifCond .ne 4, 3) := by decide +kernel
theorem d_Qry_readComparison_97 : decode b_Qry_readComparison 97 = .ok (.aload_n 0, 1) := by decide +kernel
theorem d_Qry_readComparison_98 : decode b_Qry_readComparison 98 = .ok (.getfield 48, 3) := by decide +kernel
theorem d_Qry_readComparison_101 : decode b_Qry_readComparison 101 = .ok (.getfield 146, 3) := by decide +kernel
theorem d_Qry_readComparison_104 : decode b_Qry_readComparison 104 = .ok (.iload 6, 2) := by decide +kernel
theorem d_Qry_readComparison_106 : decode b_Qry_readComparison 106 = .ok (.iaload, 1) := by decide +kernel
theorem d_Qry_readComparison_107 : decode b_Qry_readComparison 107 = .ok (.istore 7, 2) := by decide +kernel
theorem d_Qry_readComparison_109 : decode b_Qry_readComparison 109 = .ok (.iload_n 3, 1) := by decide +kernel
theorem d_Qry_readComparison_110 : decode b_Qry_readComparison 110 = .ok (.iload 7, 2) := by decide +kernel
theorem d_Qry_readComparison_112 : decode b_Qry_readComparison 112 = .ok (.if_icmp .eq 29, 3) := by decide +kernel
theorem d_Qry_readComparison_115 : decode b_Qry_readComparison 115 = .ok (.iload_n 3, 1) := by decide +kernel
theorem d_Qry_readComparison_116 : decode b_Qry_readComparison 116 = .ok (.invokestatic 151, 3) := by decide +kernel
theorem d_Qry_readComparison_119 : decode b_Qry_readComparison 119 = .ok (.ifCond .eq 11, 3) := by decide +kernel
theorem d_Qry_readComparison_122 : decode b_Qry_readComparison 122 = .ok (.iload 7, 2) := by decide +kernel
theorem d_Qry_readComparison_124 : decode b_Qry_readComparison 124 = .ok (.invokestatic 151, 3) := by decide +kernel
theorem d_Qry_readComparison_127 : decode b_Qry_readComparison 127 = .ok (.ifCond .ne 14, 3) := by decide +kernel
theorem d_Qry_readComparison_96 : decode b_Qry_readComparison 96 = .ok (.return_, 1) := by decide +kernel
theorem d_Qry_readComparison_37 : decode b_Qry_readComparison 37 = .ok (.return_, 1) := by decide +kernel
theorem d_Qry_readCondition_151 : decode b_Qry_readCondition 151 = .ok (.iinc 5 1, 3) := by decide +kernel
theorem d_Qry_readCondition_154 : decode b_Qry_readCondition 154 = .ok (.goto (-144), 3) := by decide +kernel
theorem d_Qry_readCondition_113 : decode b_Qry_readCondition 113 = .ok (.iload 4, 2) := by decide +kernel
theorem d_Qry_readCondition_115 : decode b_Qry_readCondition 115 = .ok (.ifCond .ne 36, 3) := by decide +kernel
theorem d_Qry_readCondition_118 : decode b_Qry_readCondition 118 = .ok (.aload_n 0, 1) := by decide +kernel
theorem d_Qry_readCondition_119 : decode b_Qry_readCondition 119 = .ok (.getfield 44, 3) := by decide +kernel
theorem d_Qry_readCondition_122 : decode b_Qry_readCondition 122 = .ok (.invokevirtual 86, 3) := by decide +kernel
theorem d_Qry_readCondition_125 : decode b_Qry_readCondition 125 = .ok (.ifCond .eq 26, 3) := by decide +kernel
theorem d_Qry_readCondition_128 : decode b_Qry_readCondition 128 = .ok (.aload_n 0, 1) := by decide +kernel
theorem d_Qry_readCondition_129 : decode b_Qry_readCondition 129 = .ok (.getfield 44, 3) := by decide +kernel
theorem d_Qry_readCondition_132 : decode b_Qry_readCondition 132 = .ok (.ldc 198, 2) := by decide +kernel
theorem d_Qry_readCondition_134 : decode b_Qry_readCondition 134 = .ok (.invokevirtual 92, 3) := by decide +kernel
theorem d_Qry_readCondition_137 : decode b_Qry_readCondition 137 = .ok (.ifCond .eq 14, 3) := by decide +kernel
theorem d_Qry_readCondition_140 : decode b_Qry_readCondition 140 = .ok (.aload_n 0, 1) := by decide +kernel
theorem d_Qry_readCondition_141 : decode b_Qry_readCondition 141 = .ok (.getfield 44, 3) := by decide +kernel
theorem d_Qry_readCondition_144 : decode b_Qry_readCondition 144 = .ok (.getfield 180, 3) := by decide +kernel
theorem d_Qry_readCondition_147 : decode b_Qry_readCondition 147 = .ok (.istore_n 2, 1) := by decide +kernel
theorem d_Qry_readCondition_148 : decode b_Qry_readCondition 148 = .ok (.iconst 1, 1) := by decide +kernel
theorem d_Qry_readCondition_149 : decode b_Qry_readCondition 149 = .ok (.istore 4, 2) := by decide +kernel
theorem d_Qry_readCondition_92 : decode b_Qry_readCondition 92 = .ok (.istore_n 3, 1) := by decide +kernel
theorem d_Qry_readCondition_93 : decode b_Qry_readCondition 93 = .ok (.iload 4, 2) := by decide +kernel
theorem d_Qry_readCondition_95 : decode b_Qry_readCondition 95 = .ok (.ifCond .ne 18, 3) := by decide +kernel
theorem d_Qry_readCondition_98 : decode b_Qry_readCondition 98 = .ok (.iload_n 2, 1) := by decide +kernel
theorem d_Qry_readCondition_99 : decode b_Qry_readCondition 99 = .ok (.iconst (-1), 1) := by decide +kernel
theorem d_Qry_readCondition_100 : decode b_Qry_readCondition 100 = .ok (.if_icmp .eq 13, 3) := by decide +kernel
theorem d_Qry_readCondition_103 : decode b_Qry_readCondition 103 = .ok (.aload_n 0, 1) := by decide +kernel
theorem d_Qry_readCondition_104 : decode b_Qry_readCondition 104 = .ok (.bipush 11, 2) := by decide +kernel
theorem d_Qry_readCondition_106 : decode b_Qry_readCondition 106 = .ok (.iload_n 2, 1) := by decide +kernel
theorem d_Qry_readCondition_107 : decode b_Qry_readCondition 107 = .ok (.iconst 0, 1) := by decide +kernel
theorem d_Qry_readCondition_108 : decode b_Qry_readCondition 108 = .ok (.iconst 0, 1) := by decide +kernel
theorem d_Qry_readCondition_109 : decode b_Qry_readCondition 109 = .ok (.iconst 0, 1) := by decide +kernel
theorem d_Qry_readCondition_110 : decode b_Qry_readCondition 110 = .ok (.invokevirtual 218, 3) := by decide +kernel
theorem d_Qry_readCondition_74 : decode b_Qry_readCondition 74 = .ok (.istore 4, 2) := by decide +kernel
theorem d_Qry_readCondition_76 : decode b_Qry_readCondition 76 = .ok (.iload 4, 2) := by decide +kernel
theorem d_Qry_readCondition_78 : decode b_Qry_readCondition 78 = .ok (.ifCond .eq 13, 3) := by decide +kernel
theorem d_Qry_readCondition_91 : decode b_Qry_readCondition 91 = .ok (.iconst (-1), 1) := by decide +kernel
theorem d_Qry_readCondition_81 : decode b_Qry_readCondition 81 = .ok (.aload_n 0, 1) := by decide +kernel
theorem d_Qry_readCondition_82 : decode b_Qry_readCondition 82 = .ok (.getfield 44, 3) := by decide +kernel
theorem d_Qry_readCondition_85 : decode b_Qry_readCondition 85 = .ok (.getfield 180, 3) := by decide +kernel
theorem d_Qry_readCondition_88 : decode b_Qry_readCondition 88 = .ok (.goto 4, 3) := by decide +kernel
theorem d_Qry_readCondition_73 : decode b_Qry_readCondition 73 = .ok (.iconst 0, 1) := by decide +kernel
theorem d_Qry_readCondition_47 : decode b_Qry_readCondition 47 = .ok (.aload_n 0, 1) := by decide +kernel
theorem d_Qry_readCondition_48 : decode b_Qry_readCondition 48 = .ok (.getfield 44, 3) := by decide +kernel
theorem d_Qry_readCondition_51 : decode b_Qry_readCondition 51 = .ok (.invokevirtual 86, 3) := by decide +kernel
theorem d_Qry_readCondition_54 : decode b_Qry_readCondition 54 = .ok (.ifCond .eq 19, 3) := by decide +kernel
theorem d_Qry_readCondition_57 : decode b_Qry_readCondition 57 = .ok (.aload_n 0, 1) := by decide +kernel
theorem d_Qry_readCondition_58 : decode b_Qry_readCondition 58 = .ok (.getfield 44, 3) := by decide +kernel
theorem d_Qry_readCondition_61 : decode b_Qry_readCondition 61 = .ok (.ldc 196, 2) := by decide +kernel
theorem d_Qry_readCondition_63 : decode b_Qry_readCondition 63 = .ok (.invokevirtual 92, 3) := by decide +kernel
theorem d_Qry_readCondition_66 : decode b_Qry_readCondition 66 = .ok (.ifCond .eq 7, 3) := by decide +kernel
theorem d_Qry_readCondition_69 : decode b_Qry_readCondition 69 = .ok (.iconst 1, 1) := by decide +kernel
theorem d_Qry_readCondition_70 : decode b_Qry_readCondition 70 = .ok (.goto 4, 3) := by decide +kernel
theorem d_Qry_readCondition_10 : decode b_Qry_readCondition 10 = .ok (.iload 5, 2) := by decide +kernel
theorem d_Qry_readCondition_12 : decode b_Qry_readCondition 12 = .ok (.aload_n 0, 1) := by decide +kernel
theorem d_Qry_readCondition_13 : decode b_Qry_readCondition 13 = .ok (.getfield 44, 3) := by decide +kernel
theorem d_Qry_readCondition_16 : decode b_Qry_readCondition 16 = .ok (.getfield 165, 3) := by decide +kernel
theorem d_Qry_readCondition_19 : decode b_Qry_readCondition 19 = .ok (.if_icmp .gt 138, 3) := by decide +kernel
theorem d_Qry_readCondition_157 : decode b_Qry_readCondition 157 = .ok (.return_, 1) := by decide +kernel
theorem d_Qry_readCondition_22 : decode b_Qry_readCondition 22 = .ok (.iload 4, 2) := by decide +kernel
theorem d_Qry_readCondition_24 : decode b_Qry_readCondition 24 = .ok (.ifCond .eq 133, 3) := by decide +kernel
theorem d_Qry_readCondition_27 : decode b_Qry_readCondition 27 = .ok (.aload_n 0, 1) := by decide +kernel
theorem d_Qry_readCondition_28 : decode b_Qry_readCondition 28 = .ok (.iload_n 1, 1) := by decide +kernel
theorem d_Qry_readCondition_29 : decode b_Qry_readCondition 29 = .ok (.invokevirtual 215, 3) := by decide +kernel
theorem d_Qry_readCondition_32 : decode b_Qry_readCondition 32 = .ok (.iload_n 3, 1) := by decide +kernel
theorem d_Qry_readCondition_33 : decode b_Qry_readCondition 33 = .ok (.iconst (-1), 1) := by decide +kernel
theorem d_Qry_readCondition_34 : decode b_Qry_readCondition 34 = .ok (.if_icmp .eq 13, 3) := by decide +kernel
theorem d_Qry_readCondition_37 : decode b_Qry_readCondition 37 = .ok (.aload_n 0, 1) := by decide +kernel
theorem d_Qry_readCondition_38 : decode b_Qry_readCondition 38 = .ok (.bipush 10, 2) := by decide +kernel
theorem d_Qry_readCondition_40 : decode b_Qry_readCondition 40 = .ok (.iload_n 3, 1) := by decide +kernel
theorem d_Qry_readCondition_41 : decode b_Qry_readCondition 41 = .ok (.iconst 0, 1) := by decide +kernel
theorem d_Qry_readCondition_42 : decode b_Qry_readCondition 42 = .ok (.iconst 0, 1) := by decide +kernel
theorem d_Qry_readCondition_43 : decode b_Qry_readCondition 43 = .ok (.iconst 0, 1) := by decide +kernel
theorem d_Qry_readCondition_44 : decode b_Qry_readCondition 44 = .ok (.invokevirtual 218, 3) := by decide +kernel
theorem d_Qry_readCondition_0 : decode b_Qry_readCondition 0 = .ok (.iconst (-1), 1) := by decide +kernel
theorem d_Qry_readCondition_1 : decode b_Qry_readCondition 1 = .ok (.istore_n 2, 1) := by decide +kernel
theorem d_Qry_readCondition_2 : decode b_Qry_readCondition 2 = .ok (.iconst (-1), 1) := by decide +kernel
theorem d_Qry_readCondition_3 : decode b_Qry_readCondition 3 = .ok (.istore_n 3, 1) := by decide +kernel
theorem d_Qry_readCondition_4 : decode b_Qry_readCondition 4 = .ok (.iconst 1, 1) := by decide +kernel
theorem d_Qry_readCondition_5 : decode b_Qry_readCondition 5 = .ok (.istore 4, 2) := by decide +kernel
theorem d_Qry_readCondition_7 : decode b_Qry_readCondition 7 = .ok (.iconst 0, 1) := by decide +kernel
theorem d_Qry_readCondition_8 : decode b_Qry_readCondition 8 = .ok (.istore 5, 2) := by decide +kernel
theorem d_Qry_readTest_160 : decode b_Qry_readTest 160 = .ok (.istore 6, 2) := by decide +kernel
theorem d_Qry_readTest_162 : decode b_Qry_readTest 162 = .ok (.aload_n 0, 1) := by decide +kernel
theorem d_Qry_readTest_163 : decode b_Qry_readTest 163 = .ok (.getfield 44, 3) := by decide +kernel
theorem d_Qry_readTest_166 : decode b_Qry_readTest 166 = .ok (.ldc 204, 2) := by decide +kernel
theorem d_Qry_readTest_168 : decode b_Qry_readTest 168 = .ok (.invokevirtual 77, 3) := by decide +kernel
theorem d_Qry_readTest_171 : decode b_Qry_readTest 171 = .ok (.aload_n 0, 1) := by decide +kernel
theorem d_Qry_readTest_172 : decode b_Qry_readTest 172 = .ok (.iload 6, 2) := by decide +kernel
theorem d_Qry_readTest_174 : decode b_Qry_readTest 174 = .ok (.iload_n 2, 1) := by decide +kernel
theorem d_Qry_readTest_175 : decode b_Qry_readTest 175 = .ok (.iload 5, 2) := by decide +kernel
theorem d_Qry_readTest_177 : decode b_Qry_readTest 177 = .ok (.iconst 0, 1) := by decide +kernel
theorem d_Qry_readTest_178 : decode b_Qry_readTest 178 = .ok (.iconst 0, 1) := by decide +kernel
theorem d_Qry_readTest_179 : decode b_Qry_readTest 179 = .ok (.invokevirtual 218, 3) := by decide +kernel
theorem d_Qry_readTest_182 : decode b_Qry_readTest 182 = .ok (.goto 63, 3) := by decide +kernel
theorem d_Qry_readTest_245 : decode b_Qry_readTest 245 = .ok (.return_, 1) := by decide +kernel
theorem d_Qry_readTest_42 : decode b_Qry_readTest 42 = .ok (.iload_n 1, 1) := by decide +kernel
theorem d_Qry_readTest_43 : decode b_Qry_readTest 43 = .ok (.bipush 32, 2) := by decide +kernel
theorem d_Qry_readTest_45 : decode b_Qry_readTest 45 = .ok (.if_icmp .lt 14, 3) := by decide +kernel
theorem d_Qry_readTest_59 : decode b_Qry_readTest 59 = .ok (.iload_n 3, 1) := by decide +kernel
theorem d_Qry_readTest_60 : decode b_Qry_readTest 60 = .ok (.ifCond .eq 23, 3) := by decide +kernel
theorem d_Qry_readTest_83 : decode b_Qry_readTest 83 = .ok (.aload_n 0, 1) := by decide +kernel
theorem d_Qry_readTest_84 : decode b_Qry_readTest 84 = .ok (.iload_n 1, 1) := by decide +kernel
theorem d_Qry_readTest_85 : decode b_Qry_readTest 85 = .ok (.iconst 1, 1) := by decide +kernel
theorem d_Qry_readTest_86 : decode b_Qry_readTest 86 = .ok (.iadd, 1) := by decide +kernel
theorem d_Qry_readTest_87 : decode b_Qry_readTest 87 = .ok (.invokevirtual 96, 3) := by decide +kernel
theorem d_Qry_readTest_90 : decode b_Qry_readTest 90 = .ok (.aload_n 0, 1) := by decide +kernel
theorem d_Qry_readTest_91 : decode b_Qry_readTest 91 = .ok (.getfield 44, 3) := by decide +kernel
theorem d_Qry_readTest_94 : decode b_Qry_readTest 94 = .ok (.bipush 41, 2) := by decide +kernel
theorem d_Qry_readTest_96 : decode b_Qry_readTest 96 = .ok (.invokevirtual 139, 3) := by decide +kernel
theorem d_Qry_readTest_99 : decode b_Qry_readTest 99 = .ok (.return_, 1) := by decide +kernel
theorem d_Qry_readTest_63 : decode b_Qry_readTest 63 = .ok (.aload_n 0, 1) := by decide +kernel
theorem d_Qry_readTest_64 : decode b_Qry_readTest 64 = .ok (.iload_n 1, 1) := by decide +kernel
theorem d_Qry_readTest_65 : decode b_Qry_readTest 65 = .ok (.iconst 1, 1) := by decide +kernel
theorem d_Qry_readTest_66 : decode b_Qry_readTest 66 = .ok (.iadd, 1) := by decide +kernel
theorem d_Qry_readTest_67 : decode b_Qry_readTest 67 = .ok (.invokevirtual 215, 3) := by decide +kernel
theorem d_Qry_readTest_70 : decode b_Qry_readTest 70 = .ok (.aload_n 0, 1) := by decide +kernel
theorem d_Qry_readTest_71 : decode b_Qry_readTest 71 = .ok (.bipush 9, 2) := by decide +kernel
theorem d_Qry_readTest_73 : decode b_Qry_readTest 73 = .ok (.iload_n 2, 1) := by decide +kernel
theorem d_Qry_readTest_74 : decode b_Qry_readTest 74 = .ok (.iconst 0, 1) := by decide +kernel
theorem d_Qry_readTest_75 : decode b_Qry_readTest 75 = .ok (.iconst 0, 1) := by decide +kernel
theorem d_Qry_readTest_76 : decode b_Qry_readTest 76 = .ok (.iconst 0, 1) := by decide +kernel
theorem d_Qry_readTest_77 : decode b_Qry_readTest 77 = .ok (.invokevirtual 218, 3) := by decide +kernel
theorem d_Qry_readTest_80 : decode b_Qry_readTest 80 = .ok (.goto 19, 3) := by decide +kernel
theorem d_Qry_readTest_48 : decode b_Qry_readTest 48 = .ok (.aload_n 0, 1) := by decide +kernel
theorem d_Qry_readTest_49 : decode b_Qry_readTest 49 = .ok (.getfield 44, 3) := by decide +kernel
theorem d_Qry_readTest_52 : decode b_Qry_readTest 52 = .ok (.iload_n 2, 1) := by decide +kernel
theorem d_Qry_readTest_53 : decode b_Qry_readTest 53 = .ok (.invokevirtual 113, 3) := by decide +kernel
theorem d_Qry_readTest_56 : decode b_Qry_readTest 56 = .ok (.goto 43, 3) := by decide +kernel
theorem d_Qry_readTest_0 : decode b_Qry_readTest 0 = .ok (.aload_n 0, 1) := by decide +kernel
theorem d_Qry_readTest_1 : decode b_Qry_readTest 1 = .ok (.getfield 44, 3) := by decide +kernel
theorem d_Qry_readTest_4 : decode b_Qry_readTest 4 = .ok (.invokevirtual 106, 3) := by decide +kernel
theorem d_Qry_readTest_7 : decode b_Qry_readTest 7 = .ok (.pop, 1) := by decide +kernel
theorem d_Qry_readTest_8 : decode b_Qry_readTest 8 = .ok (.aload_n 0, 1) := by decide +kernel
theorem d_Qry_readTest_9 : decode b_Qry_readTest 9 = .ok (.getfield 44, 3) := by decide +kernel
theorem d_Qry_readTest_12 : decode b_Qry_readTest 12 = .ok (.getfield 110, 3) := by decide +kernel
theorem d_Qry_readTest_15 : decode b_Qry_readTest 15 = .ok (.istore_n 2, 1) := by decide +kernel
theorem d_Qry_readTest_16 : decode b_Qry_readTest 16 = .ok (.aload_n 0, 1) := by decide +kernel
theorem d_Qry_readTest_17 : decode b_Qry_readTest 17 = .ok (.getfield 44, 3) := by decide +kernel
theorem d_Qry_readTest_20 : decode b_Qry_readTest 20 = .ok (.ldc 200, 2) := by decide +kernel
theorem d_Qry_readTest_22 : decode b_Qry_readTest 22 = .ok (.invokevirtual 92, 3) := by decide +kernel
theorem d_Qry_readTest_25 : decode b_Qry_readTest 25 = .ok (.istore_n 3, 1) := by decide +kernel
theorem d_Qry_readTest_26 : decode b_Qry_readTest 26 = .ok (.iload_n 3, 1) := by decide +kernel
theorem d_Qry_readTest_27 : decode b_Qry_readTest 27 = .ok (.ifCond .ne 15, 3) := by decide +kernel
theorem d_Qry_readTest_30 : decode b_Qry_readTest 30 = .ok (.aload_n 0, 1) := by decide +kernel
theorem d_Qry_readTest_31 : decode b_Qry_readTest 31 = .ok (.getfield 44, 3) := by decide +kernel
theorem d_Qry_readTest_34 : decode b_Qry_readTest 34 = .ok (.bipush 40, 2) := by decide +kernel
theorem d_Qry_readTest_36 : decode b_Qry_readTest 36 = .ok (.invokevirtual 129, 3) := by decide +kernel
theorem d_Qry_readTest_39 : decode b_Qry_readTest 39 = .ok (.ifCond .eq 61, 3) := by decide +kernel
theorem d_Qry_readTest_100 : decode b_Qry_readTest 100 = .ok (.aload_n 0, 1) := by decide +kernel
theorem d_Qry_readTest_101 : decode b_Qry_readTest 101 = .ok (.invokevirtual 143, 3) := by decide +kernel
theorem d_Qry_readTest_104 : decode b_Qry_readTest 104 = .ok (.istore 4, 2) := by decide +kernel
theorem d_Qry_readTest_106 : decode b_Qry_readTest 106 = .ok (.aload_n 0, 1) := by decide +kernel
theorem d_Qry_readTest_107 : decode b_Qry_readTest 107 = .ok (.getfield 44, 3) := by decide +kernel
theorem d_Qry_readTest_110 : decode b_Qry_readTest 110 = .ok (.invokevirtual 86, 3) := by decide +kernel
theorem d_Qry_readTest_113 : decode b_Qry_readTest 113 = .ok (.ifCond .ne 4, 3) := by decide +kernel
theorem d_Qry_readTest_117 : decode b_Qry_readTest 117 = .ok (.aload_n 0, 1) := by decide +kernel
theorem d_Qry_readTest_118 : decode b_Qry_readTest 118 = .ok (.getfield 48, 3) := by decide +kernel
theorem d_Qry_readTest_121 : decode b_Qry_readTest 121 = .ok (.getfield 222, 3) := by decide +kernel
theorem d_Qry_readTest_124 : decode b_Qry_readTest 124 = .ok (.iload 4, 2) := by decide +kernel
theorem d_Qry_readTest_126 : decode b_Qry_readTest 126 = .ok (.iaload, 1) := by decide +kernel
theorem d_Qry_readTest_127 : decode b_Qry_readTest 127 = .ok (.istore 5, 2) := by decide +kernel
theorem d_Qry_readTest_129 : decode b_Qry_readTest 129 = .ok (.aload_n 0, 1) := by decide +kernel
theorem d_Qry_readTest_130 : decode b_Qry_readTest 130 = .ok (.getfield 44, 3) := by decide +kernel
theorem d_Qry_readTest_133 : decode b_Qry_readTest 133 = .ok (.ldc 202, 2) := by decide +kernel
theorem d_Qry_readTest_135 : decode b_Qry_readTest 135 = .ok (.invokevirtual 92, 3) := by decide +kernel
theorem d_Qry_readTest_138 : decode b_Qry_readTest 138 = .ok (.ifCond .eq 47, 3) := by decide +kernel
theorem d_Qry_readTest_185 : decode b_Qry_readTest 185 = .ok (.aload_n 0, 1) := by decide +kernel
theorem d_Qry_readTest_186 : decode b_Qry_readTest 186 = .ok (.getfield 44, 3) := by decide +kernel
theorem d_Qry_readTest_189 : decode b_Qry_readTest 189 = .ok (.ldc 206, 2) := by decide +kernel
theorem d_Qry_readTest_191 : decode b_Qry_readTest 191 = .ok (.invokevirtual 92, 3) := by decide +kernel
theorem d_Qry_readTest_194 : decode b_Qry_readTest 194 = .ok (.ifCond .eq 44, 3) := by decide +kernel
theorem d_Qry_readTest_238 : decode b_Qry_readTest 238 = .ok (.aload_n 0, 1) := by decide +kernel
theorem d_Qry_readTest_239 : decode b_Qry_readTest 239 = .ok (.iload 4, 2) := by decide +kernel
theorem d_Qry_readTest_241 : decode b_Qry_readTest 241 = .ok (.iload_n 2, 1) := by decide +kernel
theorem d_Qry_readTest_242 : decode b_Qry_readTest 242 = .ok (.invokevirtual 228, 3) := by decide +kernel
theorem d_Qry_readTest_197 : decode b_Qry_readTest 197 = .ok (.aload_n 0, 1) := by decide +kernel
theorem d_Qry_readTest_198 : decode b_Qry_readTest 198 = .ok (.getfield 69, 3) := by decide +kernel
theorem d_Qry_readTest_201 : decode b_Qry_readTest 201 = .ok (.istore 6, 2) := by decide +kernel
theorem d_Qry_readTest_203 : decode b_Qry_readTest 203 = .ok (.aload_n 0, 1) := by decide +kernel
theorem d_Qry_readTest_204 : decode b_Qry_readTest 204 = .ok (.aload_n 0, 1) := by decide +kernel
theorem d_Qry_readTest_205 : decode b_Qry_readTest 205 = .ok (.getfield 48, 3) := by decide +kernel
theorem d_Qry_readTest_208 : decode b_Qry_readTest 208 = .ok (.getfield 146, 3) := by decide +kernel
theorem d_Qry_readTest_211 : decode b_Qry_readTest 211 = .ok (.iload 4, 2) := by decide +kernel
theorem d_Qry_readTest_213 : decode b_Qry_readTest 213 = .ok (.iaload, 1) := by decide +kernel
theorem d_Qry_readTest_214 : decode b_Qry_readTest 214 = .ok (.invokevirtual 225, 3) := by decide +kernel
theorem d_Qry_readTest_217 : decode b_Qry_readTest 217 = .ok (.aload_n 0, 1) := by decide +kernel
theorem d_Qry_readTest_218 : decode b_Qry_readTest 218 = .ok (.bipush 8, 2) := by decide +kernel
theorem d_Qry_readTest_220 : decode b_Qry_readTest 220 = .ok (.iload_n 2, 1) := by decide +kernel
theorem d_Qry_readTest_221 : decode b_Qry_readTest 221 = .ok (.iload 5, 2) := by decide +kernel
theorem d_Qry_readTest_223 : decode b_Qry_readTest 223 = .ok (.iload 6, 2) := by decide +kernel
theorem d_Qry_readTest_225 : decode b_Qry_readTest 225 = .ok (.aload_n 0, 1) := by decide +kernel
theorem d_Qry_readTest_226 : decode b_Qry_readTest 226 = .ok (.getfield 69, 3) := by decide +kernel
theorem d_Qry_readTest_229 : decode b_Qry_readTest 229 = .ok (.iload 6, 2) := by decide +kernel
theorem d_Qry_readTest_231 : decode b_Qry_readTest 231 = .ok (.isub, 1) := by decide +kernel
theorem d_Qry_readTest_232 : decode b_Qry_readTest 232 = .ok (.invokevirtual 218, 3) := by decide +kernel
theorem d_Qry_readTest_235 : decode b_Qry_readTest 235 = .ok (.goto 10, 3) := by decide +kernel
theorem d_Qry_readTest_141 : decode b_Qry_readTest 141 = .ok (.aload_n 0, 1) := by decide +kernel
theorem d_Qry_readTest_142 : decode b_Qry_readTest 142 = .ok (.getfield 44, 3) := by decide +kernel
theorem d_Qry_readTest_145 : decode b_Qry_readTest 145 = .ok (.ldc 200, 2) := by decide +kernel
theorem d_Qry_readTest_147 : decode b_Qry_readTest 147 = .ok (.invokevirtual 92, 3) := by decide +kernel
theorem d_Qry_readTest_150 : decode b_Qry_readTest 150 = .ok (.ifCond .eq 8, 3) := by decide +kernel
theorem d_Qry_readTest_158 : decode b_Qry_readTest 158 = .ok (.bipush 6, 2) := by decide +kernel
theorem d_Qry_readTest_153 : decode b_Qry_readTest 153 = .ok (.bipush 7, 2) := by decide +kernel
theorem d_Qry_readTest_155 : decode b_Qry_readTest 155 = .ok (.goto 5, 3) := by decide +kernel
theorem d_Qry_readTest_116 : decode b_Qry_readTest 116 = .ok (.return_, 1) := by decide +kernel
section
variable (l : Launch) (dC : Nat → ClassId) (dI : Nat → Nat → Nat) (cI cB cJ cZ : ClassId)
set_option maxRecDepth 100000 in
set_option maxHeartbeats 4000000 in
set_option maxRecDepth 100000 in
theorem t_Qry_takeBehind_e {p : Program} {l : Launch} {e : Env} {R : Room} {s : State} {m : MethodId} {args : Array Value} {below : List Frame} {meth : Method} {c : Code} {cells slots : Nat} {Q : State → Prop} {dC : Nat → ClassId} {dI : Nat → Nat → Nat} {cI cB cJ cZ : ClassId} {A : Nat → Prop} {ad : Nat → Nat} {NN : Nat} {E : Heap} {tM tC : Nat} {kK kV : Nat → Nat} {post : Int32 → St → Prop} (hx : p.tables.exec = Jvm.exec) (hb : c.code = b_Qry_takeBehind) (hml : c.maxLocals = 2) (hown : s.vm.findClass R_Qry = some m.cls) (hT : ∀ w ∈ TG, w.before args s = true) (hK : va_K (dC, dI) CL (TY cI cB cJ cZ) s) (hN : NW s) (hA : ∀ q : Nat, s.heap.size ≤ q → A q) (hRc : cells ≤ R.cells) (hRs : slots ≤ R.slots) (hRf : 1 ≤ R.frames) (hRl : 21 ≤ R.locals) (hNN : 152 ≤ NN) (hE : CE E tM tC kK kV A s) (hret : ∀ (r : Int32) (x : St) (H : Heap) (locs : List Loc) (pc : Nat) (ls : Array Slot), decode b_Qry_takeBehind pc = .ok (.ireturn, 1) → narrow .boolean (.int r) = .int r → post r x → Wd dC dI cI cB cJ cZ ad stC kcC NN A x H → va_S A s.heap H locs → W p l e R s m args below meth c H locs cells slots Q (F0 m pc ls [.int r])) : ∀ (o : Nat) (l1 : Int32) (x : St) (H : Heap) (locs : List Loc) (ls : Array Slot), (o < NN ∧ kcC o = 9) → wp_Qry_takeBehind post o l1 x → Wd dC dI cI cB cJ cZ ad stC kcC NN A x H → va_S A s.heap H locs → lv_has ls 2 [(0, .ref (ad o)), (1, .int l1)] → W p l e R s m args below meth c H locs cells slots Q (F0 m 0 ls []) := by
  intro o l1 x H locs ls fo hw hW hS hl
  unfold wp_Qry_takeBehind at hw
  refine lv_aload_n hx hb d_Qry_takeBehind_0 rfl (lv_at hl 0 rfl) ?_
  obtain ⟨q1, hq1, hw⟩ := hw
  refine w_getr (q := q1) (k := 17) (t := 9) (C := R_Qry) (T := F_Qry) (N := 20) hx hb hT hown hK hW fo.1 fo.2 (by decide) in_Qry rfl rfl (by decide) rfl fr_Qry_17 w_3_105 d_Qry_takeBehind_1 hq1 (fun aq1 bq1 => ?_)
  have fq1 : q1 < NN ∧ kcC q1 = 2 := ⟨aq1, bq1⟩
  refine lv_aload_n hx hb d_Qry_takeBehind_4 rfl (lv_at hl 0 rfl) ?_
  obtain ⟨q2, hq2, hw⟩ := hw
  refine w_getr (q := q2) (k := 17) (t := 9) (C := R_Qry) (T := F_Qry) (N := 20) hx hb hT hown hK hW fo.1 fo.2 (by decide) in_Qry rfl rfl (by decide) rfl fr_Qry_17 w_3_105 d_Qry_takeBehind_5 hq2 (fun aq2 bq2 => ?_)
  have fq2 : q2 < NN ∧ kcC q2 = 2 := ⟨aq2, bq2⟩
  refine w_geti (k := 2) (t := 2) (C := R_Scn) (T := F_Scn) (N := 8) hx hb hT hown hK hW fq2.1 fq2.2 (by decide) in_Scn rfl rfl (by decide) rfl fr_Scn_2 w_1_86 d_Qry_takeBehind_8 ?_
  have hF := hW.free hS hA
  refine va_calli (va_runV (C := R_Scn) (As := [.int (fI x q2 2)]) (rest := []) ⟨hx, hb, hml, hown, hT⟩ (k_Scn_byteAt l dC dI cI cB cJ cZ ad NN E tM tC kK kV hNN H.size q1 (fI x q2 2) x fq1 hw) ⟨callB_of 1 hT (gwt_in w_5_75) rfl rfl rfl (hT _ w_1_4) (hT _ w_7_167) (by decide +kernel) ⟨Nat.le_trans (Nat.le_of_ble_eq_true rfl) hRf, Nat.le_trans (Nat.le_of_ble_eq_true rfl) hRl⟩, hT _ w_5_73, hT _ w_5_74⟩ ⟨PVc.blind, va_recv hK hW.1 (ci := 2) (q0 := q1) rfl (pic_obj fq1.1 fq1.2 (by decide)), PVc.at _ hW hK hN hE hS hF⟩ rfl rfl hl.1 rfl (lv_room (Nat.le_of_ble_eq_true rfl)) d_Qry_takeBehind_11 ⟨hRc, hRs⟩) hS (fun q _ h => hF q h) hF (fun r4 x3 t H locs ht hvm hw hB hz1 hk1 hS => ?_)
  have hW := Wd.back hB ht hF
  clear hB ht hF hz1 hk1 hvm
  refine lv_iload_n hx hb d_Qry_takeBehind_14 rfl (lv_at hl 1 rfl) ?_
  refine lv_icmp_eq (tgt := 20) hx hb d_Qry_takeBehind_15 (by decide) (fun c5 => ?_) (fun c5 => ?_)
  · have hw := hw.1 c5
    refine lv_aload_n hx hb d_Qry_takeBehind_20 rfl (lv_at hl 0 rfl) ?_
    obtain ⟨q6, hq6, hw⟩ := hw
    refine w_getr (q := q6) (k := 17) (t := 9) (C := R_Qry) (T := F_Qry) (N := 20) hx hb hT hown hK hW fo.1 fo.2 (by decide) in_Qry rfl rfl (by decide) rfl fr_Qry_17 w_3_105 d_Qry_takeBehind_21 hq6 (fun aq6 bq6 => ?_)
    have fq6 : q6 < NN ∧ kcC q6 = 2 := ⟨aq6, bq6⟩
    refine lv_dup hx hb d_Qry_takeBehind_24 rfl ?_
    refine w_geti (k := 2) (t := 2) (C := R_Scn) (T := F_Scn) (N := 8) hx hb hT hown hK hW fq6.1 fq6.2 (by decide) in_Scn rfl rfl (by decide) rfl fr_Scn_2 w_1_86 d_Qry_takeBehind_25 ?_
    refine lv_iconst (v := 1) hx hb d_Qry_takeBehind_28 (by decide) ?_
    refine lv_iadd hx hb d_Qry_takeBehind_29 ?_
    refine w_puti (ty := .int) (k := 2) (t := 2) (C := R_Scn) (T := F_Scn) (N := 8) hx hb hT hown hK hW hS fq6.1 fq6.2 (by decide) in_Scn t_Scn t_Scn_ok n_Scn rfl rfl (by decide) rfl fr_Scn_2 w_1_86 (by decide +kernel) rfl rfl d_Qry_takeBehind_30 (fun H locs hW hS => ?_)
    obtain ⟨x7, ex7⟩ : ∃ y : St, y = setI x3 q6 2 ((fI x3 q6 2) + 1) := ⟨_, rfl⟩
    rw [← ex7] at hW
    have hw := hw x7 ex7
    refine lv_iconst (v := 1) hx hb d_Qry_takeBehind_33 (by decide) ?_
    exact hret 1 x7 H locs 34 ls d_Qry_takeBehind_34 rfl hw hW hS
  · have hw := hw.2 c5
    refine lv_iconst (v := 0) hx hb d_Qry_takeBehind_18 (by decide) ?_
    exact hret 0 x3 H locs 19 ls d_Qry_takeBehind_19 rfl hw hW hS
set_option maxHeartbeats 4000000 in
set_option maxRecDepth 100000 in
theorem k_Qry_takeBehind (l : Launch) (dC : Nat → ClassId) (dI : Nat → Nat → Nat) (cI cB cJ cZ : ClassId) (ad : Nat → Nat) (NN : Nat) (E : Heap) (tM tC : Nat) (kK kV : Nat → Nat) (hNN : 152 ≤ NN) (sz : Nat) (o : Nat) (l1 : Int32) (x : St) (fo : o < NN ∧ kcC o = 9) {post : Int32 → St → Prop} (hw : wp_Qry_takeBehind post o l1 x) : Met l y_Qry_takeBehind (wsOf y_Qry_takeBehind b_Qry_takeBehind 2 (some (.boolean))) ({ frames := 1, cells := 0, slots := 0, locals := 21 }) (va_Pc [.ref (ad o), .int l1] (PVc dC dI cI cB cJ cZ ad stC kcC NN E tM tC kK kV sz x)) (va_Qi (fun (r : Int32) (y : St) => post r y) (fun y t => Wd dC dI cI cB cJ cZ ad stC kcC NN (va_A (pic ad stC kcC NN cI cB cJ cZ x) sz) y t.heap) (va_A (pic ad stC kcC NN cI cB cJ cZ x) sz)) 0 0 (va_A (pic ad stC kcC NN cI cB cJ cZ x) sz) := by
  refine Met.ofW (cc := b_Qry_takeBehind) (maxL := 2) (ret := some (.boolean)) (by decide) rfl ?_
  intro p e s m args below meth c s₁ B hml hv
  obtain ⟨rfl, ⟨hsz, hW0, hK, hN⟩, hE⟩ := hv
  have hx := B.exec
  have hb := B.bytes
  have hr := B.returns
  have hts := atoms_spec B.pre
  have hT : ∀ w ∈ TG, w.before _ s = true := fun w h => hts w (List.mem_cons_of_mem _ h)
  have hown : s.vm.findClass R_Qry = some m.cls := findClass_of_methodNamed B.named
  have hlocks := B.notSynchronized
  subst hsz
  have hW : Wd dC dI cI cB cJ cZ ad stC kcC NN (va_A (pic ad stC kcC NN cI cB cJ cZ x) s.heap.size) x s.heap := ⟨hW0.1, hW0.2.1.self (sz := s.heap.size), hW0.2.2⟩
  generalize hAe : va_A (pic ad stC kcC NN cI cB cJ cZ x) s.heap.size = A at hW hE ⊢
  have hA : ∀ q : Nat, s.heap.size ≤ q → A q := fun q h => by rw [← hAe]; exact Or.inr h
  have hS : va_S A s.heap s.heap [] := va_S.rf
  have hl := lv_entry ([.ref (ad o), .int l1]) (n := 2) (Nat.le_of_ble_eq_true rfl)
  rw [lg_entry_eq]
  generalize (lg_sl ([.ref (ad o), .int l1]) ++ List.replicate (2 - (lg_sl ([.ref (ad o), .int l1])).length) Slot.unset).toArray = ls at hl ⊢
  have hl : lv_has ls 2 [(0, .ref (ad o)), (1, .int l1)] := hl
  exact t_Qry_takeBehind_e hx hb hml hown hT hK hN hA (Nat.le_refl 0) (Nat.le_refl 0) (Nat.le_refl 1) (Nat.le_refl 21) hNN hE (fun r x H locs pc ls hd hz hp hW hS => W.zret (v := r) (ty := .boolean) hx hb hr hz (fun t ht hM => ⟨⟨r, x, rfl, hp, Wd.back hW ht.symm (fun _ z => z)⟩, hS.F ht⟩) hS.2.2 hd hlocks)  o l1 x _ _ ls fo hw hW hS hl
set_option maxRecDepth 100000 in
set_option maxHeartbeats 4000000 in
set_option maxRecDepth 100000 in
theorem t_Qry_readOperator_e {p : Program} {l : Launch} {e : Env} {R : Room} {s : State} {m : MethodId} {args : Array Value} {below : List Frame} {meth : Method} {c : Code} {cells slots : Nat} {Q : State → Prop} {dC : Nat → ClassId} {dI : Nat → Nat → Nat} {cI cB cJ cZ : ClassId} {A : Nat → Prop} {ad : Nat → Nat} {NN : Nat} {E : Heap} {tM tC : Nat} {kK kV : Nat → Nat} {post : Int32 → St → Prop} (hx : p.tables.exec = Jvm.exec) (hb : c.code = b_Qry_readOperator) (hml : c.maxLocals = 1) (hown : s.vm.findClass R_Qry = some m.cls) (hT : ∀ w ∈ TG, w.before args s = true) (hK : va_K (dC, dI) CL (TY cI cB cJ cZ) s) (hN : NW s) (hA : ∀ q : Nat, s.heap.size ≤ q → A q) (hRc : cells ≤ R.cells) (hRs : slots ≤ R.slots) (hRf : 2 ≤ R.frames) (hRl : 42 ≤ R.locals) (hNN : 152 ≤ NN) (hE : CE E tM tC kK kV A s) (hret : ∀ (r : Int32) (x : St) (H : Heap) (locs : List Loc) (pc : Nat) (ls : Array Slot), decode b_Qry_readOperator pc = .ok (.ireturn, 1) → post r x → Wd dC dI cI cB cJ cZ ad stC kcC NN A x H → va_S A s.heap H locs → W p l e R s m args below meth c H locs cells slots Q (F0 m pc ls [.int r])) : ∀ (o : Nat) (x : St) (H : Heap) (locs : List Loc) (ls : Array Slot), (o < NN ∧ kcC o = 9) → wp_Qry_readOperator post o x → Wd dC dI cI cB cJ cZ ad stC kcC NN A x H → va_S A s.heap H locs → lv_has ls 1 [(0, .ref (ad o))] → W p l e R s m args below meth c H locs cells slots Q (F0 m 0 ls []) := by
  intro o x H locs ls fo hw hW hS hl
  unfold wp_Qry_readOperator at hw
  refine lv_aload_n hx hb d_Qry_readOperator_0 rfl (lv_at hl 0 rfl) ?_
  obtain ⟨q1, hq1, hw⟩ := hw
  refine w_getr (q := q1) (k := 17) (t := 9) (C := R_Qry) (T := F_Qry) (N := 20) hx hb hT hown hK hW fo.1 fo.2 (by decide) in_Qry rfl rfl (by decide) rfl fr_Qry_17 w_3_105 d_Qry_readOperator_1 hq1 (fun aq1 bq1 => ?_)
  have fq1 : q1 < NN ∧ kcC q1 = 2 := ⟨aq1, bq1⟩
  refine lv_bipush (v := 61) hx hb d_Qry_readOperator_4 (by decide) ?_
  have hF := hW.free hS hA
  refine va_calli (va_runV (C := R_Scn) (As := [.int 61]) (rest := []) ⟨hx, hb, hml, hown, hT⟩ (k_Scn_takeSign l dC dI cI cB cJ cZ ad NN E tM tC kK kV hNN H.size q1 61 x fq1 hw) ⟨callB_of 1 hT (gwt_in w_4_123) rfl rfl rfl (hT _ w_1_4) (hT _ w_7_199) (by decide +kernel) ⟨Nat.le_trans (Nat.le_of_ble_eq_true rfl) hRf, Nat.le_trans (Nat.le_of_ble_eq_true rfl) hRl⟩, hT _ w_4_121, hT _ w_4_122⟩ ⟨PVc.blind, va_recv hK hW.1 (ci := 2) (q0 := q1) rfl (pic_obj fq1.1 fq1.2 (by decide)), PVc.at _ hW hK hN hE hS hF⟩ rfl rfl hl.1 rfl (lv_room (Nat.le_of_ble_eq_true rfl)) d_Qry_readOperator_6 ⟨hRc, hRs⟩) hS (fun q _ h => hF q h) hF (fun r3 x2 t H locs ht hvm hw hB hz1 hk1 hS => ?_)
  have hW := Wd.back hB ht hF
  clear hB ht hF hz1 hk1 hvm
  refine lv_if_eq (tgt := 14) hx hb d_Qry_readOperator_9 (by decide) (fun c4 => ?_) (fun c4 => ?_)
  · have hw := hw.1 c4
    refine lv_aload_n hx hb d_Qry_readOperator_14 rfl (lv_at hl 0 rfl) ?_
    obtain ⟨q5, hq5, hw⟩ := hw
    refine w_getr (q := q5) (k := 17) (t := 9) (C := R_Qry) (T := F_Qry) (N := 20) hx hb hT hown hK hW fo.1 fo.2 (by decide) in_Qry rfl rfl (by decide) rfl fr_Qry_17 w_3_105 d_Qry_readOperator_15 hq5 (fun aq5 bq5 => ?_)
    have fq5 : q5 < NN ∧ kcC q5 = 2 := ⟨aq5, bq5⟩
    refine lv_bipush (v := 60) hx hb d_Qry_readOperator_18 (by decide) ?_
    have hF := hW.free hS hA
    refine va_calli (va_runV (C := R_Scn) (As := [.int 60]) (rest := []) ⟨hx, hb, hml, hown, hT⟩ (k_Scn_takeSign l dC dI cI cB cJ cZ ad NN E tM tC kK kV hNN H.size q5 60 x2 fq5 hw) ⟨callB_of 1 hT (gwt_in w_4_123) rfl rfl rfl (hT _ w_1_4) (hT _ w_7_199) (by decide +kernel) ⟨Nat.le_trans (Nat.le_of_ble_eq_true rfl) hRf, Nat.le_trans (Nat.le_of_ble_eq_true rfl) hRl⟩, hT _ w_4_121, hT _ w_4_122⟩ ⟨PVc.blind, va_recv hK hW.1 (ci := 2) (q0 := q5) rfl (pic_obj fq5.1 fq5.2 (by decide)), PVc.at _ hW hK hN hE hS hF⟩ rfl rfl hl.1 rfl (lv_room (Nat.le_of_ble_eq_true rfl)) d_Qry_readOperator_20 ⟨hRc, hRs⟩) hS (fun q _ h => hF q h) hF (fun r7 x6 t H locs ht hvm hw hB hz1 hk1 hS => ?_)
    have hW := Wd.back hB ht hF
    clear hB ht hF hz1 hk1 hvm
    refine lv_if_eq (tgt := 52) hx hb d_Qry_readOperator_23 (by decide) (fun c8 => ?_) (fun c8 => ?_)
    · have hw := hw.1 c8
      refine lv_aload_n hx hb d_Qry_readOperator_52 rfl (lv_at hl 0 rfl) ?_
      obtain ⟨q9, hq9, hw⟩ := hw
      refine w_getr (q := q9) (k := 17) (t := 9) (C := R_Qry) (T := F_Qry) (N := 20) hx hb hT hown hK hW fo.1 fo.2 (by decide) in_Qry rfl rfl (by decide) rfl fr_Qry_17 w_3_105 d_Qry_readOperator_53 hq9 (fun aq9 bq9 => ?_)
      have fq9 : q9 < NN ∧ kcC q9 = 2 := ⟨aq9, bq9⟩
      refine lv_bipush (v := 62) hx hb d_Qry_readOperator_56 (by decide) ?_
      have hF := hW.free hS hA
      refine va_calli (va_runV (C := R_Scn) (As := [.int 62]) (rest := []) ⟨hx, hb, hml, hown, hT⟩ (k_Scn_takeSign l dC dI cI cB cJ cZ ad NN E tM tC kK kV hNN H.size q9 62 x6 fq9 hw) ⟨callB_of 1 hT (gwt_in w_4_123) rfl rfl rfl (hT _ w_1_4) (hT _ w_7_199) (by decide +kernel) ⟨Nat.le_trans (Nat.le_of_ble_eq_true rfl) hRf, Nat.le_trans (Nat.le_of_ble_eq_true rfl) hRl⟩, hT _ w_4_121, hT _ w_4_122⟩ ⟨PVc.blind, va_recv hK hW.1 (ci := 2) (q0 := q9) rfl (pic_obj fq9.1 fq9.2 (by decide)), PVc.at _ hW hK hN hE hS hF⟩ rfl rfl hl.1 rfl (lv_room (Nat.le_of_ble_eq_true rfl)) d_Qry_readOperator_58 ⟨hRc, hRs⟩) hS (fun q _ h => hF q h) hF (fun r11 x10 t H locs ht hvm hw hB hz1 hk1 hS => ?_)
      have hW := Wd.back hB ht hF
      clear hB ht hF hz1 hk1 hvm
      refine lv_if_eq (tgt := 79) hx hb d_Qry_readOperator_61 (by decide) (fun c12 => ?_) (fun c12 => ?_)
      · have hw := hw.1 c12
        refine lv_aload_n hx hb d_Qry_readOperator_79 rfl (lv_at hl 0 rfl) ?_
        obtain ⟨q13, hq13, hw⟩ := hw
        refine w_getr (q := q13) (k := 17) (t := 9) (C := R_Qry) (T := F_Qry) (N := 20) hx hb hT hown hK hW fo.1 fo.2 (by decide) in_Qry rfl rfl (by decide) rfl fr_Qry_17 w_3_105 d_Qry_readOperator_80 hq13 (fun aq13 bq13 => ?_)
        have fq13 : q13 < NN ∧ kcC q13 = 2 := ⟨aq13, bq13⟩
        refine lv_aload_n hx hb d_Qry_readOperator_83 rfl (lv_at hl 0 rfl) ?_
        obtain ⟨q14, hq14, hw⟩ := hw
        refine w_getr (q := q14) (k := 17) (t := 9) (C := R_Qry) (T := F_Qry) (N := 20) hx hb hT hown hK hW fo.1 fo.2 (by decide) in_Qry rfl rfl (by decide) rfl fr_Qry_17 w_3_105 d_Qry_readOperator_84 hq14 (fun aq14 bq14 => ?_)
        have fq14 : q14 < NN ∧ kcC q14 = 2 := ⟨aq14, bq14⟩
        refine w_geti (k := 2) (t := 2) (C := R_Scn) (T := F_Scn) (N := 8) hx hb hT hown hK hW fq14.1 fq14.2 (by decide) in_Scn rfl rfl (by decide) rfl fr_Scn_2 w_1_86 d_Qry_readOperator_87 ?_
        have hF := hW.free hS hA
        refine va_callv (va_runV (C := R_Scn) (As := [.int (fI x10 q14 2)]) (rest := []) ⟨hx, hb, hml, hown, hT⟩ (k_Scn_refuse l dC dI cI cB cJ cZ ad NN E tM tC kK kV hNN H.size q13 (fI x10 q14 2) x10 fq13 hw) ⟨callB_of 1 hT (gwt_in w_4_128) rfl rfl rfl (hT _ w_1_4) (hT _ w_7_149) (by decide +kernel) ⟨Nat.le_trans (Nat.le_of_ble_eq_true rfl) hRf, Nat.le_trans (Nat.le_of_ble_eq_true rfl) hRl⟩, hT _ w_4_126, hT _ w_4_127⟩ ⟨PVc.blind, va_recv hK hW.1 (ci := 2) (q0 := q13) rfl (pic_obj fq13.1 fq13.2 (by decide)), PVc.at _ hW hK hN hE hS hF⟩ rfl rfl hl.1 rfl (lv_room (Nat.le_of_ble_eq_true rfl)) d_Qry_readOperator_90 ⟨hRc, hRs⟩) hS (fun q _ h => hF q h) hF (fun  x15 t H locs ht hvm hw hB hz1 hk1 hS => ?_)
        have hW := Wd.back hB ht hF
        clear hB ht hF hz1 hk1 hvm
        refine lv_iconst (v := 0) hx hb d_Qry_readOperator_93 (by decide) ?_
        exact hret 0 x15 H locs 94 ls d_Qry_readOperator_94 hw hW hS
      · have hw := hw.2 c12
        refine lv_aload_n hx hb d_Qry_readOperator_64 rfl (lv_at hl 0 rfl) ?_
        refine lv_bipush (v := 61) hx hb d_Qry_readOperator_65 (by decide) ?_
        have hF := hW.free hS hA
        refine va_calli (va_runV (C := R_Qry) (As := [.int 61]) (rest := []) ⟨hx, hb, hml, hown, hT⟩ (k_Qry_takeBehind l dC dI cI cB cJ cZ ad NN E tM tC kK kV hNN H.size o 61 x10 fo hw) ⟨callB_of 1 hT (gwt_in w_7_235) rfl rfl rfl (hT _ w_1_12) (hT _ w_7_232) (by decide +kernel) ⟨Nat.le_trans (Nat.le_of_ble_eq_true rfl) hRf, Nat.le_trans (Nat.le_of_ble_eq_true rfl) hRl⟩, hT _ w_7_234, hT _ ws_81⟩ ⟨PVc.blind, va_recv hK hW.1 (ci := 9) (q0 := o) rfl (pic_obj fo.1 fo.2 (by decide)), PVc.at _ hW hK hN hE hS hF⟩ rfl rfl hl.1 rfl (lv_room (Nat.le_of_ble_eq_true rfl)) d_Qry_readOperator_67 ⟨hRc, hRs⟩) hS (fun q _ h => hF q h) hF (fun r17 x16 t H locs ht hvm hw hB hz1 hk1 hS => ?_)
        have hW := Wd.back hB ht hF
        clear hB ht hF hz1 hk1 hvm
        refine lv_if_eq (tgt := 77) hx hb d_Qry_readOperator_70 (by decide) (fun c18 => ?_) (fun c18 => ?_)
        · have hw := hw.1 c18
          refine lv_iconst (v := 4) hx hb d_Qry_readOperator_77 (by decide) ?_
          exact hret 4 x16 H locs 78 ls d_Qry_readOperator_78 hw hW hS
        · have hw := hw.2 c18
          refine lv_iconst (v := 3) hx hb d_Qry_readOperator_73 (by decide) ?_
          refine lv_goto (tgt := 78) hx hb d_Qry_readOperator_74 (by decide) ?_
          exact hret 3 x16 H locs 78 ls d_Qry_readOperator_78 hw hW hS
    · have hw := hw.2 c8
      refine lv_aload_n hx hb d_Qry_readOperator_26 rfl (lv_at hl 0 rfl) ?_
      refine lv_bipush (v := 62) hx hb d_Qry_readOperator_27 (by decide) ?_
      have hF := hW.free hS hA
      refine va_calli (va_runV (C := R_Qry) (As := [.int 62]) (rest := []) ⟨hx, hb, hml, hown, hT⟩ (k_Qry_takeBehind l dC dI cI cB cJ cZ ad NN E tM tC kK kV hNN H.size o 62 x6 fo hw) ⟨callB_of 1 hT (gwt_in w_7_235) rfl rfl rfl (hT _ w_1_12) (hT _ w_7_232) (by decide +kernel) ⟨Nat.le_trans (Nat.le_of_ble_eq_true rfl) hRf, Nat.le_trans (Nat.le_of_ble_eq_true rfl) hRl⟩, hT _ w_7_234, hT _ ws_81⟩ ⟨PVc.blind, va_recv hK hW.1 (ci := 9) (q0 := o) rfl (pic_obj fo.1 fo.2 (by decide)), PVc.at _ hW hK hN hE hS hF⟩ rfl rfl hl.1 rfl (lv_room (Nat.le_of_ble_eq_true rfl)) d_Qry_readOperator_29 ⟨hRc, hRs⟩) hS (fun q _ h => hF q h) hF (fun r20 x19 t H locs ht hvm hw hB hz1 hk1 hS => ?_)
      have hW := Wd.back hB ht hF
      clear hB ht hF hz1 hk1 hvm
      refine lv_if_eq (tgt := 37) hx hb d_Qry_readOperator_32 (by decide) (fun c21 => ?_) (fun c21 => ?_)
      · have hw := hw.1 c21
        refine lv_aload_n hx hb d_Qry_readOperator_37 rfl (lv_at hl 0 rfl) ?_
        refine lv_bipush (v := 61) hx hb d_Qry_readOperator_38 (by decide) ?_
        have hF := hW.free hS hA
        refine va_calli (va_runV (C := R_Qry) (As := [.int 61]) (rest := []) ⟨hx, hb, hml, hown, hT⟩ (k_Qry_takeBehind l dC dI cI cB cJ cZ ad NN E tM tC kK kV hNN H.size o 61 x19 fo hw) ⟨callB_of 1 hT (gwt_in w_7_235) rfl rfl rfl (hT _ w_1_12) (hT _ w_7_232) (by decide +kernel) ⟨Nat.le_trans (Nat.le_of_ble_eq_true rfl) hRf, Nat.le_trans (Nat.le_of_ble_eq_true rfl) hRl⟩, hT _ w_7_234, hT _ ws_81⟩ ⟨PVc.blind, va_recv hK hW.1 (ci := 9) (q0 := o) rfl (pic_obj fo.1 fo.2 (by decide)), PVc.at _ hW hK hN hE hS hF⟩ rfl rfl hl.1 rfl (lv_room (Nat.le_of_ble_eq_true rfl)) d_Qry_readOperator_40 ⟨hRc, hRs⟩) hS (fun q _ h => hF q h) hF (fun r23 x22 t H locs ht hvm hw hB hz1 hk1 hS => ?_)
        have hW := Wd.back hB ht hF
        clear hB ht hF hz1 hk1 hvm
        refine lv_if_eq (tgt := 50) hx hb d_Qry_readOperator_43 (by decide) (fun c24 => ?_) (fun c24 => ?_)
        · have hw := hw.1 c24
          refine lv_iconst (v := 2) hx hb d_Qry_readOperator_50 (by decide) ?_
          exact hret 2 x22 H locs 51 ls d_Qry_readOperator_51 hw hW hS
        · have hw := hw.2 c24
          refine lv_iconst (v := 5) hx hb d_Qry_readOperator_46 (by decide) ?_
          refine lv_goto (tgt := 51) hx hb d_Qry_readOperator_47 (by decide) ?_
          exact hret 5 x22 H locs 51 ls d_Qry_readOperator_51 hw hW hS
      · have hw := hw.2 c21
        refine lv_iconst (v := 1) hx hb d_Qry_readOperator_35 (by decide) ?_
        exact hret 1 x19 H locs 36 ls d_Qry_readOperator_36 hw hW hS
  · have hw := hw.2 c4
    refine lv_iconst (v := 0) hx hb d_Qry_readOperator_12 (by decide) ?_
    exact hret 0 x2 H locs 13 ls d_Qry_readOperator_13 hw hW hS
set_option maxHeartbeats 4000000 in
set_option maxRecDepth 100000 in
theorem k_Qry_readOperator (l : Launch) (dC : Nat → ClassId) (dI : Nat → Nat → Nat) (cI cB cJ cZ : ClassId) (ad : Nat → Nat) (NN : Nat) (E : Heap) (tM tC : Nat) (kK kV : Nat → Nat) (hNN : 152 ≤ NN) (sz : Nat) (o : Nat) (x : St) (fo : o < NN ∧ kcC o = 9) {post : Int32 → St → Prop} (hw : wp_Qry_readOperator post o x) : Met l y_Qry_readOperator (wsOf y_Qry_readOperator b_Qry_readOperator 1 (some (.int))) ({ frames := 2, cells := 0, slots := 0, locals := 42 }) (va_Pc [.ref (ad o)] (PVc dC dI cI cB cJ cZ ad stC kcC NN E tM tC kK kV sz x)) (va_Qi (fun (r : Int32) (y : St) => post r y) (fun y t => Wd dC dI cI cB cJ cZ ad stC kcC NN (va_A (pic ad stC kcC NN cI cB cJ cZ x) sz) y t.heap) (va_A (pic ad stC kcC NN cI cB cJ cZ x) sz)) 0 0 (va_A (pic ad stC kcC NN cI cB cJ cZ x) sz) := by
  refine Met.ofW (cc := b_Qry_readOperator) (maxL := 1) (ret := some (.int)) (by decide) rfl ?_
  intro p e s m args below meth c s₁ B hml hv
  obtain ⟨rfl, ⟨hsz, hW0, hK, hN⟩, hE⟩ := hv
  have hx := B.exec
  have hb := B.bytes
  have hr := B.returns
  have hts := atoms_spec B.pre
  have hT : ∀ w ∈ TG, w.before _ s = true := fun w h => hts w (List.mem_cons_of_mem _ h)
  have hown : s.vm.findClass R_Qry = some m.cls := findClass_of_methodNamed B.named
  have hlocks := B.notSynchronized
  subst hsz
  have hW : Wd dC dI cI cB cJ cZ ad stC kcC NN (va_A (pic ad stC kcC NN cI cB cJ cZ x) s.heap.size) x s.heap := ⟨hW0.1, hW0.2.1.self (sz := s.heap.size), hW0.2.2⟩
  generalize hAe : va_A (pic ad stC kcC NN cI cB cJ cZ x) s.heap.size = A at hW hE ⊢
  have hA : ∀ q : Nat, s.heap.size ≤ q → A q := fun q h => by rw [← hAe]; exact Or.inr h
  have hS : va_S A s.heap s.heap [] := va_S.rf
  have hl := lv_entry ([.ref (ad o)]) (n := 1) (Nat.le_of_ble_eq_true rfl)
  rw [lg_entry_eq]
  generalize (lg_sl ([.ref (ad o)]) ++ List.replicate (1 - (lg_sl ([.ref (ad o)])).length) Slot.unset).toArray = ls at hl ⊢
  have hl : lv_has ls 1 [(0, .ref (ad o))] := hl
  exact t_Qry_readOperator_e hx hb hml hown hT hK hN hA (Nat.le_refl 0) (Nat.le_refl 0) (Nat.le_refl 2) (Nat.le_refl 42) hNN hE (fun r x H locs pc ls hd hp hW hS => W.iret (v := r) hx hb hr (fun t ht hM => ⟨⟨r, x, rfl, hp, Wd.back hW ht.symm (fun _ z => z)⟩, hS.F ht⟩) hS.2.2 hd hlocks)  o x _ _ ls fo hw hW hS hl
set_option maxRecDepth 100000 in
set_option maxHeartbeats 4000000 in
set_option maxRecDepth 100000 in
theorem t_Qry_atTruth_37 {p : Program} {l : Launch} {e : Env} {R : Room} {s : State} {m : MethodId} {args : Array Value} {below : List Frame} {meth : Method} {c : Code} {cells slots : Nat} {Q : State → Prop} {dC : Nat → ClassId} {dI : Nat → Nat → Nat} {cI cB cJ cZ : ClassId} {A : Nat → Prop} {ad : Nat → Nat} {NN : Nat} {E : Heap} {tM tC : Nat} {kK kV : Nat → Nat} {post : Int32 → St → Prop} (hx : p.tables.exec = Jvm.exec) (hb : c.code = b_Qry_atTruth) (hml : c.maxLocals = 3) (hown : s.vm.findClass R_Qry = some m.cls) (hT : ∀ w ∈ TG, w.before args s = true) (hK : va_K (dC, dI) CL (TY cI cB cJ cZ) s) (hN : NW s) (hA : ∀ q : Nat, s.heap.size ≤ q → A q) (hRc : cells ≤ R.cells) (hRs : slots ≤ R.slots) (hRf : 6 ≤ R.frames) (hRl : 243 ≤ R.locals) (hNN : 152 ≤ NN) (hE : CE E tM tC kK kV A s) (hret : ∀ (r : Int32) (x : St) (H : Heap) (locs : List Loc) (pc : Nat) (ls : Array Slot), decode b_Qry_atTruth pc = .ok (.ireturn, 1) → narrow .boolean (.int r) = .int r → post r x → Wd dC dI cI cB cJ cZ ad stC kcC NN A x H → va_S A s.heap H locs → W p l e R s m args below meth c H locs cells slots Q (F0 m pc ls [.int r]))  : ∀ (o : Nat) (l1 : Int32) (s0 : Int32) (x : St) (H : Heap) (locs : List Loc) (ls : Array Slot), (o < NN ∧ kcC o = 9) → j_Qry_atTruth_37 post o l1 s0 x → Wd dC dI cI cB cJ cZ ad stC kcC NN A x H → va_S A s.heap H locs → lv_has ls 3 [(0, .ref (ad o)), (1, .int l1)] → W p l e R s m args below meth c H locs cells slots Q (F0 m 37 ls [.int s0]) := by
  intro o l1 s0 x H locs ls fo hw hW hS hl
  unfold j_Qry_atTruth_37 at hw
  refine lv_istore_n (lv' := [(2, .int s0), (0, .ref (ad o)), (1, .int l1)]) hx hb d_Qry_atTruth_37 rfl hl (by decide) rfl (fun ls hl => ?_)
  refine lv_aload_n hx hb d_Qry_atTruth_38 rfl (lv_at hl 1 rfl) ?_
  obtain ⟨q1, hq1, hw⟩ := hw
  refine w_getr (q := q1) (k := 17) (t := 9) (C := R_Qry) (T := F_Qry) (N := 20) hx hb hT hown hK hW fo.1 fo.2 (by decide) in_Qry rfl rfl (by decide) rfl fr_Qry_17 w_3_105 d_Qry_atTruth_39 hq1 (fun aq1 bq1 => ?_)
  have fq1 : q1 < NN ∧ kcC q1 = 2 := ⟨aq1, bq1⟩
  refine lv_iload_n hx hb d_Qry_atTruth_42 rfl (lv_at hl 2 rfl) ?_
  refine w_puti (ty := .int) (k := 2) (t := 2) (C := R_Scn) (T := F_Scn) (N := 8) hx hb hT hown hK hW hS fq1.1 fq1.2 (by decide) in_Scn t_Scn t_Scn_ok n_Scn rfl rfl (by decide) rfl fr_Scn_2 w_1_86 (by decide +kernel) rfl rfl d_Qry_atTruth_43 (fun H locs hW hS => ?_)
  obtain ⟨x2, ex2⟩ : ∃ y : St, y = setI x q1 2 l1 := ⟨_, rfl⟩
  rw [← ex2] at hW
  have hw := hw x2 ex2
  refine lv_iload_n hx hb d_Qry_atTruth_46 rfl (lv_at hl 0 rfl) ?_
  exact hret s0 x2 H locs 47 ls d_Qry_atTruth_47 hw.1 hw.2 hW hS
set_option maxRecDepth 100000 in
set_option maxHeartbeats 4000000 in
set_option maxRecDepth 100000 in
theorem t_Qry_atTruth_32 {p : Program} {l : Launch} {e : Env} {R : Room} {s : State} {m : MethodId} {args : Array Value} {below : List Frame} {meth : Method} {c : Code} {cells slots : Nat} {Q : State → Prop} {dC : Nat → ClassId} {dI : Nat → Nat → Nat} {cI cB cJ cZ : ClassId} {A : Nat → Prop} {ad : Nat → Nat} {NN : Nat} {E : Heap} {tM tC : Nat} {kK kV : Nat → Nat} {post : Int32 → St → Prop} (hx : p.tables.exec = Jvm.exec) (hb : c.code = b_Qry_atTruth) (hml : c.maxLocals = 3) (hown : s.vm.findClass R_Qry = some m.cls) (hT : ∀ w ∈ TG, w.before args s = true) (hK : va_K (dC, dI) CL (TY cI cB cJ cZ) s) (hN : NW s) (hA : ∀ q : Nat, s.heap.size ≤ q → A q) (hRc : cells ≤ R.cells) (hRs : slots ≤ R.slots) (hRf : 6 ≤ R.frames) (hRl : 243 ≤ R.locals) (hNN : 152 ≤ NN) (hE : CE E tM tC kK kV A s) (hret : ∀ (r : Int32) (x : St) (H : Heap) (locs : List Loc) (pc : Nat) (ls : Array Slot), decode b_Qry_atTruth pc = .ok (.ireturn, 1) → narrow .boolean (.int r) = .int r → post r x → Wd dC dI cI cB cJ cZ ad stC kcC NN A x H → va_S A s.heap H locs → W p l e R s m args below meth c H locs cells slots Q (F0 m pc ls [.int r]))  : ∀ (o : Nat) (l1 : Int32) (x : St) (H : Heap) (locs : List Loc) (ls : Array Slot), (o < NN ∧ kcC o = 9) → j_Qry_atTruth_32 post o l1 x → Wd dC dI cI cB cJ cZ ad stC kcC NN A x H → va_S A s.heap H locs → lv_has ls 3 [(0, .ref (ad o)), (1, .int l1)] → W p l e R s m args below meth c H locs cells slots Q (F0 m 32 ls []) := by
  intro o l1 x H locs ls fo hw hW hS hl
  unfold j_Qry_atTruth_32 at hw
  refine lv_iconst (v := 1) hx hb d_Qry_atTruth_32 (by decide) ?_
  refine lv_goto (tgt := 37) hx hb d_Qry_atTruth_33 (by decide) ?_
  exact t_Qry_atTruth_37 hx hb hml hown hT hK hN hA hRc hRs hRf hRl hNN hE hret  o l1 1 x H locs ls fo hw hW hS (lv_sub hl [0, 1] rfl)
set_option maxRecDepth 100000 in
set_option maxHeartbeats 4000000 in
set_option maxRecDepth 100000 in
theorem t_Qry_atTruth_e {p : Program} {l : Launch} {e : Env} {R : Room} {s : State} {m : MethodId} {args : Array Value} {below : List Frame} {meth : Method} {c : Code} {cells slots : Nat} {Q : State → Prop} {dC : Nat → ClassId} {dI : Nat → Nat → Nat} {cI cB cJ cZ : ClassId} {A : Nat → Prop} {ad : Nat → Nat} {NN : Nat} {E : Heap} {tM tC : Nat} {kK kV : Nat → Nat} {post : Int32 → St → Prop} (hx : p.tables.exec = Jvm.exec) (hb : c.code = b_Qry_atTruth) (hml : c.maxLocals = 3) (hown : s.vm.findClass R_Qry = some m.cls) (hT : ∀ w ∈ TG, w.before args s = true) (hK : va_K (dC, dI) CL (TY cI cB cJ cZ) s) (hN : NW s) (hA : ∀ q : Nat, s.heap.size ≤ q → A q) (hRc : cells ≤ R.cells) (hRs : slots ≤ R.slots) (hRf : 6 ≤ R.frames) (hRl : 243 ≤ R.locals) (hNN : 152 ≤ NN) (hE : CE E tM tC kK kV A s) (hret : ∀ (r : Int32) (x : St) (H : Heap) (locs : List Loc) (pc : Nat) (ls : Array Slot), decode b_Qry_atTruth pc = .ok (.ireturn, 1) → narrow .boolean (.int r) = .int r → post r x → Wd dC dI cI cB cJ cZ ad stC kcC NN A x H → va_S A s.heap H locs → W p l e R s m args below meth c H locs cells slots Q (F0 m pc ls [.int r])) : ∀ (o : Nat) (x : St) (H : Heap) (locs : List Loc) (ls : Array Slot), (o < NN ∧ kcC o = 9) → wp_Qry_atTruth post o x → Wd dC dI cI cB cJ cZ ad stC kcC NN A x H → va_S A s.heap H locs → lv_has ls 3 [(0, .ref (ad o))] → W p l e R s m args below meth c H locs cells slots Q (F0 m 0 ls []) := by
  intro o x H locs ls fo hw hW hS hl
  unfold wp_Qry_atTruth at hw
  refine lv_aload_n hx hb d_Qry_atTruth_0 rfl (lv_at hl 0 rfl) ?_
  obtain ⟨q3, hq3, hw⟩ := hw
  refine w_getr (q := q3) (k := 17) (t := 9) (C := R_Qry) (T := F_Qry) (N := 20) hx hb hT hown hK hW fo.1 fo.2 (by decide) in_Qry rfl rfl (by decide) rfl fr_Qry_17 w_3_105 d_Qry_atTruth_1 hq3 (fun aq3 bq3 => ?_)
  have fq3 : q3 < NN ∧ kcC q3 = 2 := ⟨aq3, bq3⟩
  refine w_geti (k := 2) (t := 2) (C := R_Scn) (T := F_Scn) (N := 8) hx hb hT hown hK hW fq3.1 fq3.2 (by decide) in_Scn rfl rfl (by decide) rfl fr_Scn_2 w_1_86 d_Qry_atTruth_4 ?_
  refine lv_topi (fun v4 ev4 => ?_)
  have hw := hw v4 ev4
  refine lv_istore_n (lv' := [(1, .int v4), (0, .ref (ad o))]) hx hb d_Qry_atTruth_7 rfl hl (by decide) rfl (fun ls hl => ?_)
  refine lv_aload_n hx hb d_Qry_atTruth_8 rfl (lv_at hl 1 rfl) ?_
  obtain ⟨q5, hq5, hw⟩ := hw
  refine w_getr (q := q5) (k := 17) (t := 9) (C := R_Qry) (T := F_Qry) (N := 20) hx hb hT hown hK hW fo.1 fo.2 (by decide) in_Qry rfl rfl (by decide) rfl fr_Qry_17 w_3_105 d_Qry_atTruth_9 hq5 (fun aq5 bq5 => ?_)
  have fq5 : q5 < NN ∧ kcC q5 = 2 := ⟨aq5, bq5⟩
  refine va_ldcS hx hb hown (hE.str 27 (by decide)) d_Qry_atTruth_12 ?_
  have hF := hW.free hS hA
  refine va_calli (va_runV (C := R_Scn) (As := [.ref (kK 8)]) (rest := []) ⟨hx, hb, hml, hown, hT⟩ (k_Scn_takeWord l dC dI cI cB cJ cZ ad NN E tM tC kK kV hNN H.size q5 8 x fq5 (by decide) hw) ⟨callB_of 1 hT (gwt_in w_4_141) rfl rfl rfl (hT _ w_1_4) (hT _ w_7_159) (by decide +kernel) ⟨Nat.le_trans (Nat.le_of_ble_eq_true rfl) hRf, Nat.le_trans (Nat.le_of_ble_eq_true rfl) hRl⟩, hT _ w_4_139, hT _ w_4_140⟩ ⟨PVc.blind, va_recv hK hW.1 (ci := 2) (q0 := q5) rfl (pic_obj fq5.1 fq5.2 (by decide)), PVc.at _ hW hK hN hE hS hF⟩ rfl rfl hl.1 rfl (lv_room (Nat.le_of_ble_eq_true rfl)) d_Qry_atTruth_14 ⟨hRc, hRs⟩) hS (fun q _ h => hF q h) hF (fun r7 x6 t H locs ht hvm hw hB hz1 hk1 hS => ?_)
  have hW := Wd.back hB ht hF
  clear hB ht hF hz1 hk1 hvm
  refine lv_if_ne (tgt := 32) hx hb d_Qry_atTruth_17 (by decide) (fun c8 => ?_) (fun c8 => ?_)
  · have hw := hw.1 c8
    exact t_Qry_atTruth_32 hx hb hml hown hT hK hN hA hRc hRs hRf hRl hNN hE hret  o v4 x6 H locs ls fo hw hW hS (lv_sub hl [1, 0] rfl)
  · have hw := hw.2 c8
    refine lv_aload_n hx hb d_Qry_atTruth_20 rfl (lv_at hl 1 rfl) ?_
    obtain ⟨q9, hq9, hw⟩ := hw
    refine w_getr (q := q9) (k := 17) (t := 9) (C := R_Qry) (T := F_Qry) (N := 20) hx hb hT hown hK hW fo.1 fo.2 (by decide) in_Qry rfl rfl (by decide) rfl fr_Qry_17 w_3_105 d_Qry_atTruth_21 hq9 (fun aq9 bq9 => ?_)
    have fq9 : q9 < NN ∧ kcC q9 = 2 := ⟨aq9, bq9⟩
    refine va_ldcS hx hb hown (hE.str 28 (by decide)) d_Qry_atTruth_24 ?_
    have hF := hW.free hS hA
    refine va_calli (va_runV (C := R_Scn) (As := [.ref (kK 9)]) (rest := []) ⟨hx, hb, hml, hown, hT⟩ (k_Scn_takeWord l dC dI cI cB cJ cZ ad NN E tM tC kK kV hNN H.size q9 9 x6 fq9 (by decide) hw) ⟨callB_of 1 hT (gwt_in w_4_141) rfl rfl rfl (hT _ w_1_4) (hT _ w_7_159) (by decide +kernel) ⟨Nat.le_trans (Nat.le_of_ble_eq_true rfl) hRf, Nat.le_trans (Nat.le_of_ble_eq_true rfl) hRl⟩, hT _ w_4_139, hT _ w_4_140⟩ ⟨PVc.blind, va_recv hK hW.1 (ci := 2) (q0 := q9) rfl (pic_obj fq9.1 fq9.2 (by decide)), PVc.at _ hW hK hN hE hS hF⟩ rfl rfl hl.1 rfl (lv_room (Nat.le_of_ble_eq_true rfl)) d_Qry_atTruth_26 ⟨hRc, hRs⟩) hS (fun q _ h => hF q h) hF (fun r11 x10 t H locs ht hvm hw hB hz1 hk1 hS => ?_)
    have hW := Wd.back hB ht hF
    clear hB ht hF hz1 hk1 hvm
    refine lv_if_eq (tgt := 36) hx hb d_Qry_atTruth_29 (by decide) (fun c12 => ?_) (fun c12 => ?_)
    · have hw := hw.1 c12
      refine lv_iconst (v := 0) hx hb d_Qry_atTruth_36 (by decide) ?_
      exact t_Qry_atTruth_37 hx hb hml hown hT hK hN hA hRc hRs hRf hRl hNN hE hret  o v4 0 x10 H locs ls fo hw hW hS (lv_sub hl [1, 0] rfl)
    · have hw := hw.2 c12
      exact t_Qry_atTruth_32 hx hb hml hown hT hK hN hA hRc hRs hRf hRl hNN hE hret  o v4 x10 H locs ls fo hw hW hS (lv_sub hl [1, 0] rfl)
set_option maxHeartbeats 4000000 in
set_option maxRecDepth 100000 in
theorem k_Qry_atTruth (l : Launch) (dC : Nat → ClassId) (dI : Nat → Nat → Nat) (cI cB cJ cZ : ClassId) (ad : Nat → Nat) (NN : Nat) (E : Heap) (tM tC : Nat) (kK kV : Nat → Nat) (hNN : 152 ≤ NN) (sz : Nat) (o : Nat) (x : St) (fo : o < NN ∧ kcC o = 9) {post : Int32 → St → Prop} (hw : wp_Qry_atTruth post o x) : Met l y_Qry_atTruth (wsOf y_Qry_atTruth b_Qry_atTruth 3 (some (.boolean))) ({ frames := 6, cells := 0, slots := 0, locals := 243 }) (va_Pc [.ref (ad o)] (PVc dC dI cI cB cJ cZ ad stC kcC NN E tM tC kK kV sz x)) (va_Qi (fun (r : Int32) (y : St) => post r y) (fun y t => Wd dC dI cI cB cJ cZ ad stC kcC NN (va_A (pic ad stC kcC NN cI cB cJ cZ x) sz) y t.heap) (va_A (pic ad stC kcC NN cI cB cJ cZ x) sz)) 0 0 (va_A (pic ad stC kcC NN cI cB cJ cZ x) sz) := by
  refine Met.ofW (cc := b_Qry_atTruth) (maxL := 3) (ret := some (.boolean)) (by decide) rfl ?_
  intro p e s m args below meth c s₁ B hml hv
  obtain ⟨rfl, ⟨hsz, hW0, hK, hN⟩, hE⟩ := hv
  have hx := B.exec
  have hb := B.bytes
  have hr := B.returns
  have hts := atoms_spec B.pre
  have hT : ∀ w ∈ TG, w.before _ s = true := fun w h => hts w (List.mem_cons_of_mem _ h)
  have hown : s.vm.findClass R_Qry = some m.cls := findClass_of_methodNamed B.named
  have hlocks := B.notSynchronized
  subst hsz
  have hW : Wd dC dI cI cB cJ cZ ad stC kcC NN (va_A (pic ad stC kcC NN cI cB cJ cZ x) s.heap.size) x s.heap := ⟨hW0.1, hW0.2.1.self (sz := s.heap.size), hW0.2.2⟩
  generalize hAe : va_A (pic ad stC kcC NN cI cB cJ cZ x) s.heap.size = A at hW hE ⊢
  have hA : ∀ q : Nat, s.heap.size ≤ q → A q := fun q h => by rw [← hAe]; exact Or.inr h
  have hS : va_S A s.heap s.heap [] := va_S.rf
  have hl := lv_entry ([.ref (ad o)]) (n := 3) (Nat.le_of_ble_eq_true rfl)
  rw [lg_entry_eq]
  generalize (lg_sl ([.ref (ad o)]) ++ List.replicate (3 - (lg_sl ([.ref (ad o)])).length) Slot.unset).toArray = ls at hl ⊢
  have hl : lv_has ls 3 [(0, .ref (ad o))] := hl
  exact t_Qry_atTruth_e hx hb hml hown hT hK hN hA (Nat.le_refl 0) (Nat.le_refl 0) (Nat.le_refl 6) (Nat.le_refl 243) hNN hE (fun r x H locs pc ls hd hz hp hW hS => W.zret (v := r) (ty := .boolean) hx hb hr hz (fun t ht hM => ⟨⟨r, x, rfl, hp, Wd.back hW ht.symm (fun _ z => z)⟩, hS.F ht⟩) hS.2.2 hd hlocks)  o x _ _ ls fo hw hW hS hl
set_option maxRecDepth 100000 in
set_option maxHeartbeats 4000000 in
set_option maxRecDepth 100000 in
theorem t_Qry_readComparison_141 {p : Program} {l : Launch} {e : Env} {R : Room} {s : State} {m : MethodId} {args : Array Value} {below : List Frame} {meth : Method} {c : Code} {cells slots : Nat} {Q : State → Prop} {dC : Nat → ClassId} {dI : Nat → Nat → Nat} {cI cB cJ cZ : ClassId} {A : Nat → Prop} {ad : Nat → Nat} {NN : Nat} {E : Heap} {tM tC : Nat} {kK kV : Nat → Nat} {post : St → Prop} (hx : p.tables.exec = Jvm.exec) (hb : c.code = b_Qry_readComparison) (hml : c.maxLocals = 8) (hown : s.vm.findClass R_Qry = some m.cls) (hT : ∀ w ∈ TG, w.before args s = true) (hK : va_K (dC, dI) CL (TY cI cB cJ cZ) s) (hN : NW s) (hA : ∀ q : Nat, s.heap.size ≤ q → A q) (hRc : cells ≤ R.cells) (hRs : slots ≤ R.slots) (hRf : 8 ≤ R.frames) (hRl : 287 ≤ R.locals) (hNN : 152 ≤ NN) (hE : CE E tM tC kK kV A s) (hret : ∀ (x : St) (H : Heap) (locs : List Loc) (pc : Nat) (ls : Array Slot), decode b_Qry_readComparison pc = .ok (.return_, 1) → post x → Wd dC dI cI cB cJ cZ ad stC kcC NN A x H → va_S A s.heap H locs → W p l e R s m args below meth c H locs cells slots Q (F0 m pc ls []))  : ∀ (o : Nat) (l1 : Int32) (l2 : Int32) (l3 : Int32) (l4 : Int32) (l5 : Int32) (l6 : Int32) (l7 : Int32) (x : St) (H : Heap) (locs : List Loc) (ls : Array Slot), (o < NN ∧ kcC o = 9) → j_Qry_readComparison_141 post o l1 l2 l3 l4 l5 l6 l7 x → Wd dC dI cI cB cJ cZ ad stC kcC NN A x H → va_S A s.heap H locs → lv_has ls 8 [(0, .ref (ad o)), (1, .int l1), (2, .int l2), (3, .int l3), (4, .int l4), (5, .int l5), (6, .int l6), (7, .int l7)] → W p l e R s m args below meth c H locs cells slots Q (F0 m 141 ls []) := by
  intro o l1 l2 l3 l4 l5 l6 l7 x H locs ls fo hw hW hS hl
  unfold j_Qry_readComparison_141 at hw
  refine lv_aload_n hx hb d_Qry_readComparison_141 rfl (lv_at hl 0 rfl) ?_
  refine lv_iload hx hb d_Qry_readComparison_142 (lv_at hl 5 rfl) ?_
  refine lv_iload_n hx hb d_Qry_readComparison_144 rfl (lv_at hl 2 rfl) ?_
  refine lv_iload hx hb d_Qry_readComparison_145 (lv_at hl 4 rfl) ?_
  refine lv_aload_n hx hb d_Qry_readComparison_147 rfl (lv_at hl 0 rfl) ?_
  obtain ⟨q1, hq1, hw⟩ := hw
  refine w_getr (q := q1) (k := 18) (t := 9) (C := R_Qry) (T := F_Qry) (N := 20) hx hb hT hown hK hW fo.1 fo.2 (by decide) in_Qry rfl rfl (by decide) rfl fr_Qry_18 w_3_106 d_Qry_readComparison_148 hq1 (fun aq1 bq1 => ?_)
  have fq1 : q1 < NN ∧ kcC q1 = 3 := ⟨aq1, bq1⟩
  refine w_getf (q := (stC q1 9)) (k := 9) (t := 3) (C := R_Sch) (T := F_Sch) (N := 13) hx hb hT hown hK hW fq1.1 fq1.2 (by decide) in_Sch rfl rfl (by decide) rfl fr_Sch_9 w_1_177 d_Qry_readComparison_151 rfl ?_
  refine lv_iload hx hb d_Qry_readComparison_154 (lv_at hl 6 rfl) ?_
  obtain ⟨hi, hw⟩ := hw
  refine w_iald (o := (stC q1 9)) hx hb hK hW (st_ty hNN fq1.1 fq1.2 rfl).1 (st_ty hNN fq1.1 fq1.2 rfl).2 hi d_Qry_readComparison_156 ?_
  refine lv_iconst (v := 0) hx hb d_Qry_readComparison_157 (by decide) ?_
  have hF := hW.free hS hA
  refine va_callv (va_runV (C := R_Qry) (As := [.int l5, .int l2, .int l4, .int (rA x (stC q1 9) l6), .int 0]) (rest := []) ⟨hx, hb, hml, hown, hT⟩ (k_Qry_addStep l dC dI cI cB cJ cZ ad NN E tM tC kK kV hNN H.size o l5 l2 l4 (rA x (stC q1 9) l6) 0 x fo hw) ⟨callB_of 5 hT (gwt_in w_7_211) rfl rfl rfl (hT _ w_1_12) (hT _ w_7_208) (by decide +kernel) ⟨Nat.le_trans (Nat.le_of_ble_eq_true rfl) hRf, Nat.le_trans (Nat.le_of_ble_eq_true rfl) hRl⟩, hT _ w_7_210, hT _ ws_76⟩ ⟨PVc.blind, va_recv hK hW.1 (ci := 9) (q0 := o) rfl (pic_obj fo.1 fo.2 (by decide)), PVc.at _ hW hK hN hE hS hF⟩ rfl rfl hl.1 rfl (lv_room (Nat.le_of_ble_eq_true rfl)) d_Qry_readComparison_158 ⟨hRc, hRs⟩) hS (fun q _ h => hF q h) hF (fun  x2 t H locs ht hvm hw hB hz1 hk1 hS => ?_)
  have hW := Wd.back hB ht hF
  clear hB ht hF hz1 hk1 hvm
  exact hret x2 H locs 161 ls d_Qry_readComparison_161 hw hW hS
set_option maxRecDepth 100000 in
set_option maxHeartbeats 4000000 in
set_option maxRecDepth 100000 in
theorem t_Qry_readComparison_130 {p : Program} {l : Launch} {e : Env} {R : Room} {s : State} {m : MethodId} {args : Array Value} {below : List Frame} {meth : Method} {c : Code} {cells slots : Nat} {Q : State → Prop} {dC : Nat → ClassId} {dI : Nat → Nat → Nat} {cI cB cJ cZ : ClassId} {A : Nat → Prop} {ad : Nat → Nat} {NN : Nat} {E : Heap} {tM tC : Nat} {kK kV : Nat → Nat} {post : St → Prop} (hx : p.tables.exec = Jvm.exec) (hb : c.code = b_Qry_readComparison) (hml : c.maxLocals = 8) (hown : s.vm.findClass R_Qry = some m.cls) (hT : ∀ w ∈ TG, w.before args s = true) (hK : va_K (dC, dI) CL (TY cI cB cJ cZ) s) (hN : NW s) (hA : ∀ q : Nat, s.heap.size ≤ q → A q) (hRc : cells ≤ R.cells) (hRs : slots ≤ R.slots) (hRf : 8 ≤ R.frames) (hRl : 287 ≤ R.locals) (hNN : 152 ≤ NN) (hE : CE E tM tC kK kV A s) (hret : ∀ (x : St) (H : Heap) (locs : List Loc) (pc : Nat) (ls : Array Slot), decode b_Qry_readComparison pc = .ok (.return_, 1) → post x → Wd dC dI cI cB cJ cZ ad stC kcC NN A x H → va_S A s.heap H locs → W p l e R s m args below meth c H locs cells slots Q (F0 m pc ls []))  : ∀ (o : Nat) (l1 : Int32) (l2 : Int32) (l3 : Int32) (l4 : Int32) (l5 : Int32) (l6 : Int32) (l7 : Int32) (x : St) (H : Heap) (locs : List Loc) (ls : Array Slot), (o < NN ∧ kcC o = 9) → j_Qry_readComparison_130 post o l1 l2 l3 l4 l5 l6 l7 x → Wd dC dI cI cB cJ cZ ad stC kcC NN A x H → va_S A s.heap H locs → lv_has ls 8 [(0, .ref (ad o)), (1, .int l1), (2, .int l2), (3, .int l3), (4, .int l4), (5, .int l5), (6, .int l6), (7, .int l7)] → W p l e R s m args below meth c H locs cells slots Q (F0 m 130 ls []) := by
  intro o l1 l2 l3 l4 l5 l6 l7 x H locs ls fo hw hW hS hl
  unfold j_Qry_readComparison_130 at hw
  refine lv_aload_n hx hb d_Qry_readComparison_130 rfl (lv_at hl 0 rfl) ?_
  obtain ⟨q3, hq3, hw⟩ := hw
  refine w_getr (q := q3) (k := 17) (t := 9) (C := R_Qry) (T := F_Qry) (N := 20) hx hb hT hown hK hW fo.1 fo.2 (by decide) in_Qry rfl rfl (by decide) rfl fr_Qry_17 w_3_105 d_Qry_readComparison_131 hq3 (fun aq3 bq3 => ?_)
  have fq3 : q3 < NN ∧ kcC q3 = 2 := ⟨aq3, bq3⟩
  refine lv_aload_n hx hb d_Qry_readComparison_134 rfl (lv_at hl 0 rfl) ?_
  refine w_geti (k := 19) (t := 9) (C := R_Qry) (T := F_Qry) (N := 20) hx hb hT hown hK hW fo.1 fo.2 (by decide) in_Qry rfl rfl (by decide) rfl fr_Qry_19 w_3_107 d_Qry_readComparison_135 ?_
  have hF := hW.free hS hA
  refine va_callv (va_runV (C := R_Scn) (As := [.int (fI x o 19)]) (rest := []) ⟨hx, hb, hml, hown, hT⟩ (k_Scn_refuse l dC dI cI cB cJ cZ ad NN E tM tC kK kV hNN H.size q3 (fI x o 19) x fq3 hw) ⟨callB_of 1 hT (gwt_in w_4_128) rfl rfl rfl (hT _ w_1_4) (hT _ w_7_149) (by decide +kernel) ⟨Nat.le_trans (Nat.le_of_ble_eq_true rfl) hRf, Nat.le_trans (Nat.le_of_ble_eq_true rfl) hRl⟩, hT _ w_4_126, hT _ w_4_127⟩ ⟨PVc.blind, va_recv hK hW.1 (ci := 2) (q0 := q3) rfl (pic_obj fq3.1 fq3.2 (by decide)), PVc.at _ hW hK hN hE hS hF⟩ rfl rfl hl.1 rfl (lv_room (Nat.le_of_ble_eq_true rfl)) d_Qry_readComparison_138 ⟨hRc, hRs⟩) hS (fun q _ h => hF q h) hF (fun  x4 t H locs ht hvm hw hB hz1 hk1 hS => ?_)
  have hW := Wd.back hB ht hF
  clear hB ht hF hz1 hk1 hvm
  exact t_Qry_readComparison_141 hx hb hml hown hT hK hN hA hRc hRs hRf hRl hNN hE hret  o l1 l2 l3 l4 l5 l6 l7 x4 H locs ls fo hw hW hS (lv_sub hl [0, 1, 2, 3, 4, 5, 6, 7] rfl)
set_option maxRecDepth 100000 in
set_option maxHeartbeats 4000000 in
set_option maxRecDepth 100000 in
theorem t_Qry_readComparison_58 {p : Program} {l : Launch} {e : Env} {R : Room} {s : State} {m : MethodId} {args : Array Value} {below : List Frame} {meth : Method} {c : Code} {cells slots : Nat} {Q : State → Prop} {dC : Nat → ClassId} {dI : Nat → Nat → Nat} {cI cB cJ cZ : ClassId} {A : Nat → Prop} {ad : Nat → Nat} {NN : Nat} {E : Heap} {tM tC : Nat} {kK kV : Nat → Nat} {post : St → Prop} (hx : p.tables.exec = Jvm.exec) (hb : c.code = b_Qry_readComparison) (hml : c.maxLocals = 8) (hown : s.vm.findClass R_Qry = some m.cls) (hT : ∀ w ∈ TG, w.before args s = true) (hK : va_K (dC, dI) CL (TY cI cB cJ cZ) s) (hN : NW s) (hA : ∀ q : Nat, s.heap.size ≤ q → A q) (hRc : cells ≤ R.cells) (hRs : slots ≤ R.slots) (hRf : 8 ≤ R.frames) (hRl : 287 ≤ R.locals) (hNN : 152 ≤ NN) (hE : CE E tM tC kK kV A s) (hret : ∀ (x : St) (H : Heap) (locs : List Loc) (pc : Nat) (ls : Array Slot), decode b_Qry_readComparison pc = .ok (.return_, 1) → post x → Wd dC dI cI cB cJ cZ ad stC kcC NN A x H → va_S A s.heap H locs → W p l e R s m args below meth c H locs cells slots Q (F0 m pc ls []))  : ∀ (o : Nat) (l1 : Int32) (l2 : Int32) (l3 : Int32) (l4 : Int32) (l5 : Int32) (x : St) (H : Heap) (locs : List Loc) (ls : Array Slot), (o < NN ∧ kcC o = 9) → j_Qry_readComparison_58 post o l1 l2 l3 l4 l5 x → Wd dC dI cI cB cJ cZ ad stC kcC NN A x H → va_S A s.heap H locs → lv_has ls 8 [(0, .ref (ad o)), (1, .int l1), (2, .int l2), (3, .int l3), (4, .int l4), (5, .int l5)] → W p l e R s m args below meth c H locs cells slots Q (F0 m 58 ls []) := by
  intro o l1 l2 l3 l4 l5 x H locs ls fo hw hW hS hl
  unfold j_Qry_readComparison_58 at hw
  refine lv_aload_n hx hb d_Qry_readComparison_58 rfl (lv_at hl 0 rfl) ?_
  refine lv_iload_n hx hb d_Qry_readComparison_59 rfl (lv_at hl 3 rfl) ?_
  have hF := hW.free hS hA
  refine va_callv (va_runV (C := R_Qry) (As := [.int l3]) (rest := []) ⟨hx, hb, hml, hown, hT⟩ (k_Qry_readLiteral l dC dI cI cB cJ cZ ad NN E tM tC kK kV hNN H.size o l3 x fo hw) ⟨callB_of 1 hT (gwt_in w_7_219) rfl rfl rfl (hT _ w_1_12) (hT _ w_7_216) (by decide +kernel) ⟨Nat.le_trans (Nat.le_of_ble_eq_true rfl) hRf, Nat.le_trans (Nat.le_of_ble_eq_true rfl) hRl⟩, hT _ w_7_218, hT _ ws_78⟩ ⟨PVc.blind, va_recv hK hW.1 (ci := 9) (q0 := o) rfl (pic_obj fo.1 fo.2 (by decide)), PVc.at _ hW hK hN hE hS hF⟩ rfl rfl hl.1 rfl (lv_room (Nat.le_of_ble_eq_true rfl)) d_Qry_readComparison_60 ⟨hRc, hRs⟩) hS (fun q _ h => hF q h) hF (fun  x5 t H locs ht hvm hw hB hz1 hk1 hS => ?_)
  have hW := Wd.back hB ht hF
  clear hB ht hF hz1 hk1 hvm
  refine lv_aload_n hx hb d_Qry_readComparison_63 rfl (lv_at hl 0 rfl) ?_
  refine lv_iload hx hb d_Qry_readComparison_64 (lv_at hl 5 rfl) ?_
  refine lv_iload_n hx hb d_Qry_readComparison_66 rfl (lv_at hl 2 rfl) ?_
  refine lv_iload hx hb d_Qry_readComparison_67 (lv_at hl 4 rfl) ?_
  refine lv_aload_n hx hb d_Qry_readComparison_69 rfl (lv_at hl 0 rfl) ?_
  refine w_geti (k := 13) (t := 9) (C := R_Qry) (T := F_Qry) (N := 20) hx hb hT hown hK hW fo.1 fo.2 (by decide) in_Qry rfl rfl (by decide) rfl fr_Qry_13 w_3_99 d_Qry_readComparison_70 ?_
  refine lv_iconst (v := 1) hx hb d_Qry_readComparison_73 (by decide) ?_
  refine lv_isub hx hb d_Qry_readComparison_74 ?_
  refine lv_iconst (v := 1) hx hb d_Qry_readComparison_75 (by decide) ?_
  have hF := hW.free hS hA
  refine va_callv (va_runV (C := R_Qry) (As := [.int l5, .int l2, .int l4, .int ((fI x5 o 13) - 1), .int 1]) (rest := []) ⟨hx, hb, hml, hown, hT⟩ (k_Qry_addStep l dC dI cI cB cJ cZ ad NN E tM tC kK kV hNN H.size o l5 l2 l4 ((fI x5 o 13) - 1) 1 x5 fo hw) ⟨callB_of 5 hT (gwt_in w_7_211) rfl rfl rfl (hT _ w_1_12) (hT _ w_7_208) (by decide +kernel) ⟨Nat.le_trans (Nat.le_of_ble_eq_true rfl) hRf, Nat.le_trans (Nat.le_of_ble_eq_true rfl) hRl⟩, hT _ w_7_210, hT _ ws_76⟩ ⟨PVc.blind, va_recv hK hW.1 (ci := 9) (q0 := o) rfl (pic_obj fo.1 fo.2 (by decide)), PVc.at _ hW hK hN hE hS hF⟩ rfl rfl hl.1 rfl (lv_room (Nat.le_of_ble_eq_true rfl)) d_Qry_readComparison_76 ⟨hRc, hRs⟩) hS (fun q _ h => hF q h) hF (fun  x6 t H locs ht hvm hw hB hz1 hk1 hS => ?_)
  have hW := Wd.back hB ht hF
  clear hB ht hF hz1 hk1 hvm
  exact hret x6 H locs 79 ls d_Qry_readComparison_79 hw hW hS
set_option maxRecDepth 100000 in
set_option maxHeartbeats 4000000 in
set_option maxRecDepth 100000 in
theorem t_Qry_readComparison_e {p : Program} {l : Launch} {e : Env} {R : Room} {s : State} {m : MethodId} {args : Array Value} {below : List Frame} {meth : Method} {c : Code} {cells slots : Nat} {Q : State → Prop} {dC : Nat → ClassId} {dI : Nat → Nat → Nat} {cI cB cJ cZ : ClassId} {A : Nat → Prop} {ad : Nat → Nat} {NN : Nat} {E : Heap} {tM tC : Nat} {kK kV : Nat → Nat} {post : St → Prop} (hx : p.tables.exec = Jvm.exec) (hb : c.code = b_Qry_readComparison) (hml : c.maxLocals = 8) (hown : s.vm.findClass R_Qry = some m.cls) (hT : ∀ w ∈ TG, w.before args s = true) (hK : va_K (dC, dI) CL (TY cI cB cJ cZ) s) (hN : NW s) (hA : ∀ q : Nat, s.heap.size ≤ q → A q) (hRc : cells ≤ R.cells) (hRs : slots ≤ R.slots) (hRf : 8 ≤ R.frames) (hRl : 287 ≤ R.locals) (hNN : 152 ≤ NN) (hE : CE E tM tC kK kV A s) (hret : ∀ (x : St) (H : Heap) (locs : List Loc) (pc : Nat) (ls : Array Slot), decode b_Qry_readComparison pc = .ok (.return_, 1) → post x → Wd dC dI cI cB cJ cZ ad stC kcC NN A x H → va_S A s.heap H locs → W p l e R s m args below meth c H locs cells slots Q (F0 m pc ls [])) : ∀ (o : Nat) (l1 : Int32) (l2 : Int32) (x : St) (H : Heap) (locs : List Loc) (ls : Array Slot), (o < NN ∧ kcC o = 9) → wp_Qry_readComparison post o l1 l2 x → Wd dC dI cI cB cJ cZ ad stC kcC NN A x H → va_S A s.heap H locs → lv_has ls 8 [(0, .ref (ad o)), (1, .int l1), (2, .int l2)] → W p l e R s m args below meth c H locs cells slots Q (F0 m 0 ls []) := by
  intro o l1 l2 x H locs ls fo hw hW hS hl
  unfold wp_Qry_readComparison at hw
  refine lv_aload_n hx hb d_Qry_readComparison_0 rfl (lv_at hl 0 rfl) ?_
  obtain ⟨q7, hq7, hw⟩ := hw
  refine w_getr (q := q7) (k := 18) (t := 9) (C := R_Qry) (T := F_Qry) (N := 20) hx hb hT hown hK hW fo.1 fo.2 (by decide) in_Qry rfl rfl (by decide) rfl fr_Qry_18 w_3_106 d_Qry_readComparison_1 hq7 (fun aq7 bq7 => ?_)
  have fq7 : q7 < NN ∧ kcC q7 = 3 := ⟨aq7, bq7⟩
  refine w_getf (q := (stC q7 3)) (k := 3) (t := 3) (C := R_Sch) (T := F_Sch) (N := 13) hx hb hT hown hK hW fq7.1 fq7.2 (by decide) in_Sch rfl rfl (by decide) rfl fr_Sch_3 w_1_149 d_Qry_readComparison_4 rfl ?_
  refine lv_iload_n hx hb d_Qry_readComparison_7 rfl (lv_at hl 1 rfl) ?_
  obtain ⟨hi, hw⟩ := hw
  refine w_iald (o := (stC q7 3)) hx hb hK hW (st_ty hNN fq7.1 fq7.2 rfl).1 (st_ty hNN fq7.1 fq7.2 rfl).2 hi d_Qry_readComparison_8 ?_
  refine lv_topi (fun v8 ev8 => ?_)
  have hw := hw v8 ev8
  refine lv_istore_n (lv' := [(3, .int v8), (0, .ref (ad o)), (1, .int l1), (2, .int l2)]) hx hb d_Qry_readComparison_9 rfl hl (by decide) rfl (fun ls hl => ?_)
  refine lv_aload_n hx hb d_Qry_readComparison_10 rfl (lv_at hl 1 rfl) ?_
  obtain ⟨q9, hq9, hw⟩ := hw
  refine w_getr (q := q9) (k := 18) (t := 9) (C := R_Qry) (T := F_Qry) (N := 20) hx hb hT hown hK hW fo.1 fo.2 (by decide) in_Qry rfl rfl (by decide) rfl fr_Qry_18 w_3_106 d_Qry_readComparison_11 hq9 (fun aq9 bq9 => ?_)
  have fq9 : q9 < NN ∧ kcC q9 = 3 := ⟨aq9, bq9⟩
  refine w_getf (q := (stC q9 9)) (k := 9) (t := 3) (C := R_Sch) (T := F_Sch) (N := 13) hx hb hT hown hK hW fq9.1 fq9.2 (by decide) in_Sch rfl rfl (by decide) rfl fr_Sch_9 w_1_177 d_Qry_readComparison_14 rfl ?_
  refine lv_iload_n hx hb d_Qry_readComparison_17 rfl (lv_at hl 2 rfl) ?_
  obtain ⟨hi, hw⟩ := hw
  refine w_iald (o := (stC q9 9)) hx hb hK hW (st_ty hNN fq9.1 fq9.2 rfl).1 (st_ty hNN fq9.1 fq9.2 rfl).2 hi d_Qry_readComparison_18 ?_
  refine lv_topi (fun v10 ev10 => ?_)
  have hw := hw v10 ev10
  refine lv_istore (lv' := [(4, .int v10), (3, .int v8), (0, .ref (ad o)), (1, .int l1), (2, .int l2)]) hx hb d_Qry_readComparison_19 hl (by decide) rfl (fun ls hl => ?_)
  refine lv_aload_n hx hb d_Qry_readComparison_21 rfl (lv_at hl 2 rfl) ?_
  have hF := hW.free hS hA
  refine va_calli (va_runV (C := R_Qry) (As := []) (rest := []) ⟨hx, hb, hml, hown, hT⟩ (k_Qry_readOperator l dC dI cI cB cJ cZ ad NN E tM tC kK kV hNN H.size o x fo hw) ⟨callB_of 0 hT (gwt_in w_7_231) rfl rfl rfl (hT _ w_1_12) (hT _ w_7_228) (by decide +kernel) ⟨Nat.le_trans (Nat.le_of_ble_eq_true rfl) hRf, Nat.le_trans (Nat.le_of_ble_eq_true rfl) hRl⟩, hT _ w_7_230, hT _ ws_80⟩ ⟨PVc.blind, va_recv hK hW.1 (ci := 9) (q0 := o) rfl (pic_obj fo.1 fo.2 (by decide)), PVc.at _ hW hK hN hE hS hF⟩ rfl rfl hl.1 rfl (lv_room (Nat.le_of_ble_eq_true rfl)) d_Qry_readComparison_22 ⟨hRc, hRs⟩) hS (fun q _ h => hF q h) hF (fun r12 x11 t H locs ht hvm hw hB hz1 hk1 hS => ?_)
  have hW := Wd.back hB ht hF
  clear hB ht hF hz1 hk1 hvm
  refine lv_istore (lv' := [(5, .int r12), (4, .int v10), (3, .int v8), (0, .ref (ad o)), (1, .int l1), (2, .int l2)]) hx hb d_Qry_readComparison_25 hl (by decide) rfl (fun ls hl => ?_)
  refine lv_aload_n hx hb d_Qry_readComparison_27 rfl (lv_at hl 3 rfl) ?_
  obtain ⟨q13, hq13, hw⟩ := hw
  refine w_getr (q := q13) (k := 17) (t := 9) (C := R_Qry) (T := F_Qry) (N := 20) hx hb hT hown hK hW fo.1 fo.2 (by decide) in_Qry rfl rfl (by decide) rfl fr_Qry_17 w_3_105 d_Qry_readComparison_28 hq13 (fun aq13 bq13 => ?_)
  have fq13 : q13 < NN ∧ kcC q13 = 2 := ⟨aq13, bq13⟩
  have hF := hW.free hS hA
  refine va_calli (va_runV (C := R_Scn) (As := []) (rest := []) ⟨hx, hb, hml, hown, hT⟩ (k_Scn_good l dC dI cI cB cJ cZ ad NN E tM tC kK kV hNN H.size q13 x11 fq13 hw) ⟨callB_of 0 hT (gwt_in w_4_106) rfl rfl rfl (hT _ w_1_4) (hT _ w_7_147) (by decide +kernel) ⟨Nat.le_trans (Nat.le_of_ble_eq_true rfl) hRf, Nat.le_trans (Nat.le_of_ble_eq_true rfl) hRl⟩, hT _ w_4_104, hT _ w_4_105⟩ ⟨PVc.blind, va_recv hK hW.1 (ci := 2) (q0 := q13) rfl (pic_obj fq13.1 fq13.2 (by decide)), PVc.at _ hW hK hN hE hS hF⟩ rfl rfl hl.1 rfl (lv_room (Nat.le_of_ble_eq_true rfl)) d_Qry_readComparison_31 ⟨hRc, hRs⟩) hS (fun q _ h => hF q h) hF (fun r15 x14 t H locs ht hvm hw hB hz1 hk1 hS => ?_)
  have hW := Wd.back hB ht hF
  clear hB ht hF hz1 hk1 hvm
  refine lv_if_ne (tgt := 38) hx hb d_Qry_readComparison_34 (by decide) (fun c16 => ?_) (fun c16 => ?_)
  · have hw := hw.1 c16
    refine lv_aload_n hx hb d_Qry_readComparison_38 rfl (lv_at hl 3 rfl) ?_
    obtain ⟨q17, hq17, hw⟩ := hw
    refine w_getr (q := q17) (k := 17) (t := 9) (C := R_Qry) (T := F_Qry) (N := 20) hx hb hT hown hK hW fo.1 fo.2 (by decide) in_Qry rfl rfl (by decide) rfl fr_Qry_17 w_3_105 d_Qry_readComparison_39 hq17 (fun aq17 bq17 => ?_)
    have fq17 : q17 < NN ∧ kcC q17 = 2 := ⟨aq17, bq17⟩
    have hF := hW.free hS hA
    refine va_calli (va_runV (C := R_Scn) (As := []) (rest := []) ⟨hx, hb, hml, hown, hT⟩ (k_Scn_next l dC dI cI cB cJ cZ ad NN E tM tC kK kV hNN H.size q17 x14 fq17 hw) ⟨callB_of 0 hT (gwt_in w_4_110) rfl rfl rfl (hT _ w_1_4) (hT _ w_7_148) (by decide +kernel) ⟨Nat.le_trans (Nat.le_of_ble_eq_true rfl) hRf, Nat.le_trans (Nat.le_of_ble_eq_true rfl) hRl⟩, hT _ w_4_108, hT _ w_4_109⟩ ⟨PVc.blind, va_recv hK hW.1 (ci := 2) (q0 := q17) rfl (pic_obj fq17.1 fq17.2 (by decide)), PVc.at _ hW hK hN hE hS hF⟩ rfl rfl hl.1 rfl (lv_room (Nat.le_of_ble_eq_true rfl)) d_Qry_readComparison_42 ⟨hRc, hRs⟩) hS (fun q _ h => hF q h) hF (fun r19 x18 t H locs ht hvm hw hB hz1 hk1 hS => ?_)
    have hW := Wd.back hB ht hF
    clear hB ht hF hz1 hk1 hvm
    have hF := hW.free hS hA
    refine va_calli (va_runSN (As := [.int r19]) (rest := []) ⟨hx, hb, hml, hown, hT⟩ (k_V_isLetter l dC dI cI cB cJ cZ ad NN E tM tC kK kV hNN H.size r19 x18  hw) ⟨va_cnB 1 hT (gwt_in w_4_148) rfl rfl rfl (hN _ wn_7_168 rfl) (hT _ w_1_1) (by decide +kernel) ⟨Nat.le_trans (Nat.le_of_ble_eq_true rfl) hRf, Nat.le_trans (Nat.le_of_ble_eq_true rfl) hRl⟩, hT _ w_4_147, trivial⟩ ⟨PVc.blind, PVc.at _ hW hK hN hE hS hF⟩ rfl rfl hl.1 rfl (lv_room (Nat.le_of_ble_eq_true rfl)) d_Qry_readComparison_45 ⟨hRc, hRs⟩) hS (fun q _ h => hF q h) hF (fun r21 x20 t H locs ht hvm hw hB hz1 hk1 hS => ?_)
    have hW := Wd.back hB ht hF
    clear hB ht hF hz1 hk1 hvm
    refine lv_if_eq (tgt := 58) hx hb d_Qry_readComparison_48 (by decide) (fun c22 => ?_) (fun c22 => ?_)
    · have hw := hw.1 c22
      exact t_Qry_readComparison_58 hx hb hml hown hT hK hN hA hRc hRs hRf hRl hNN hE hret  o l1 l2 v8 v10 r12 x20 H locs ls fo hw hW hS (lv_sub hl [3, 4, 5, 2, 1, 0] rfl)
    · have hw := hw.2 c22
      refine lv_aload_n hx hb d_Qry_readComparison_51 rfl (lv_at hl 3 rfl) ?_
      have hF := hW.free hS hA
      refine va_calli (va_runV (C := R_Qry) (As := []) (rest := []) ⟨hx, hb, hml, hown, hT⟩ (k_Qry_atTruth l dC dI cI cB cJ cZ ad NN E tM tC kK kV hNN H.size o x20 fo hw) ⟨callB_of 0 hT (gwt_in w_7_239) rfl rfl rfl (hT _ w_1_12) (hT _ w_7_236) (by decide +kernel) ⟨Nat.le_trans (Nat.le_of_ble_eq_true rfl) hRf, Nat.le_trans (Nat.le_of_ble_eq_true rfl) hRl⟩, hT _ w_7_238, hT _ ws_82⟩ ⟨PVc.blind, va_recv hK hW.1 (ci := 9) (q0 := o) rfl (pic_obj fo.1 fo.2 (by decide)), PVc.at _ hW hK hN hE hS hF⟩ rfl rfl hl.1 rfl (lv_room (Nat.le_of_ble_eq_true rfl)) d_Qry_readComparison_52 ⟨hRc, hRs⟩) hS (fun q _ h => hF q h) hF (fun r24 x23 t H locs ht hvm hw hB hz1 hk1 hS => ?_)
      have hW := Wd.back hB ht hF
      clear hB ht hF hz1 hk1 hvm
      refine lv_if_eq (tgt := 80) hx hb d_Qry_readComparison_55 (by decide) (fun c25 => ?_) (fun c25 => ?_)
      · have hw := hw.1 c25
        refine lv_aload_n hx hb d_Qry_readComparison_80 rfl (lv_at hl 3 rfl) ?_
        have hF := hW.free hS hA
        refine va_calli (va_runV (C := R_Qry) (As := []) (rest := []) ⟨hx, hb, hml, hown, hT⟩ (k_Qry_readColumn l dC dI cI cB cJ cZ ad NN E tM tC kK kV hNN H.size o x23 fo hw) ⟨callB_of 0 hT (gwt_in w_7_191) rfl rfl rfl (hT _ w_1_12) (hT _ w_7_188) (by decide +kernel) ⟨Nat.le_trans (Nat.le_of_ble_eq_true rfl) hRf, Nat.le_trans (Nat.le_of_ble_eq_true rfl) hRl⟩, hT _ w_7_190, hT _ ws_73⟩ ⟨PVc.blind, va_recv hK hW.1 (ci := 9) (q0 := o) rfl (pic_obj fo.1 fo.2 (by decide)), PVc.at _ hW hK hN hE hS hF⟩ rfl rfl hl.1 rfl (lv_room (Nat.le_of_ble_eq_true rfl)) d_Qry_readComparison_81 ⟨hRc, hRs⟩) hS (fun q _ h => hF q h) hF (fun r27 x26 t H locs ht hvm hw hB hz1 hk1 hS => ?_)
        have hW := Wd.back hB ht hF
        clear hB ht hF hz1 hk1 hvm
        refine lv_istore (lv' := [(6, .int r27), (5, .int r12), (4, .int v10), (3, .int v8), (0, .ref (ad o)), (1, .int l1), (2, .int l2)]) hx hb d_Qry_readComparison_84 hl (by decide) rfl (fun ls hl => ?_)
        refine lv_aload_n hx hb d_Qry_readComparison_86 rfl (lv_at hl 4 rfl) ?_
        obtain ⟨q28, hq28, hw⟩ := hw
        refine w_getr (q := q28) (k := 17) (t := 9) (C := R_Qry) (T := F_Qry) (N := 20) hx hb hT hown hK hW fo.1 fo.2 (by decide) in_Qry rfl rfl (by decide) rfl fr_Qry_17 w_3_105 d_Qry_readComparison_87 hq28 (fun aq28 bq28 => ?_)
        have fq28 : q28 < NN ∧ kcC q28 = 2 := ⟨aq28, bq28⟩
        have hF := hW.free hS hA
        refine va_calli (va_runV (C := R_Scn) (As := []) (rest := []) ⟨hx, hb, hml, hown, hT⟩ (k_Scn_good l dC dI cI cB cJ cZ ad NN E tM tC kK kV hNN H.size q28 x26 fq28 hw) ⟨callB_of 0 hT (gwt_in w_4_106) rfl rfl rfl (hT _ w_1_4) (hT _ w_7_147) (by decide +kernel) ⟨Nat.le_trans (Nat.le_of_ble_eq_true rfl) hRf, Nat.le_trans (Nat.le_of_ble_eq_true rfl) hRl⟩, hT _ w_4_104, hT _ w_4_105⟩ ⟨PVc.blind, va_recv hK hW.1 (ci := 2) (q0 := q28) rfl (pic_obj fq28.1 fq28.2 (by decide)), PVc.at _ hW hK hN hE hS hF⟩ rfl rfl hl.1 rfl (lv_room (Nat.le_of_ble_eq_true rfl)) d_Qry_readComparison_90 ⟨hRc, hRs⟩) hS (fun q _ h => hF q h) hF (fun r30 x29 t H locs ht hvm hw hB hz1 hk1 hS => ?_)
        have hW := Wd.back hB ht hF
        clear hB ht hF hz1 hk1 hvm
        refine lv_if_ne (tgt := 97) hx hb d_Qry_readComparison_93 (by decide) (fun c31 => ?_) (fun c31 => ?_)
        · have hw := hw.1 c31
          refine lv_aload_n hx hb d_Qry_readComparison_97 rfl (lv_at hl 4 rfl) ?_
          obtain ⟨q32, hq32, hw⟩ := hw
          refine w_getr (q := q32) (k := 18) (t := 9) (C := R_Qry) (T := F_Qry) (N := 20) hx hb hT hown hK hW fo.1 fo.2 (by decide) in_Qry rfl rfl (by decide) rfl fr_Qry_18 w_3_106 d_Qry_readComparison_98 hq32 (fun aq32 bq32 => ?_)
          have fq32 : q32 < NN ∧ kcC q32 = 3 := ⟨aq32, bq32⟩
          refine w_getf (q := (stC q32 3)) (k := 3) (t := 3) (C := R_Sch) (T := F_Sch) (N := 13) hx hb hT hown hK hW fq32.1 fq32.2 (by decide) in_Sch rfl rfl (by decide) rfl fr_Sch_3 w_1_149 d_Qry_readComparison_101 rfl ?_
          refine lv_iload hx hb d_Qry_readComparison_104 (lv_at hl 0 rfl) ?_
          obtain ⟨hi, hw⟩ := hw
          refine w_iald (o := (stC q32 3)) hx hb hK hW (st_ty hNN fq32.1 fq32.2 rfl).1 (st_ty hNN fq32.1 fq32.2 rfl).2 hi d_Qry_readComparison_106 ?_
          refine lv_topi (fun v33 ev33 => ?_)
          have hw := hw v33 ev33
          refine lv_istore (lv' := [(7, .int v33), (6, .int r27), (5, .int r12), (4, .int v10), (3, .int v8), (0, .ref (ad o)), (1, .int l1), (2, .int l2)]) hx hb d_Qry_readComparison_107 hl (by decide) rfl (fun ls hl => ?_)
          refine lv_iload_n hx hb d_Qry_readComparison_109 rfl (lv_at hl 4 rfl) ?_
          refine lv_iload hx hb d_Qry_readComparison_110 (lv_at hl 0 rfl) ?_
          refine lv_icmp_eq (tgt := 141) hx hb d_Qry_readComparison_112 (by decide) (fun c34 => ?_) (fun c34 => ?_)
          · have hw := hw.1 c34
            exact t_Qry_readComparison_141 hx hb hml hown hT hK hN hA hRc hRs hRf hRl hNN hE hret  o l1 l2 v8 v10 r12 r27 v33 x29 H locs ls fo hw hW hS (lv_sub hl [5, 6, 7, 4, 3, 2, 1, 0] rfl)
          · have hw := hw.2 c34
            refine lv_iload_n hx hb d_Qry_readComparison_115 rfl (lv_at hl 4 rfl) ?_
            have hF := hW.free hS hA
            refine va_calli (va_runS (As := [.int v8]) (rest := []) ⟨hx, hb, hml, hown, hT⟩ (k_Qry_isNumber l dC dI cI cB cJ cZ ad NN E tM tC kK kV hNN H.size v8 x29  hw) ⟨callB_of 1 hT (gwt_in w_7_198) rfl rfl rfl (hT _ w_1_12) (hT _ w_7_196) (by decide +kernel) ⟨Nat.le_trans (Nat.le_of_ble_eq_true rfl) hRf, Nat.le_trans (Nat.le_of_ble_eq_true rfl) hRl⟩, hT _ w_7_197⟩ ⟨PVc.blind, PVc.at _ hW hK hN hE hS hF⟩ rfl rfl hl.1 rfl (lv_room (Nat.le_of_ble_eq_true rfl)) d_Qry_readComparison_116 ⟨hRc, hRs⟩) hS (fun q _ h => hF q h) hF (fun r36 x35 t H locs ht hvm hw hB hz1 hk1 hS => ?_)
            have hW := Wd.back hB ht hF
            clear hB ht hF hz1 hk1 hvm
            refine lv_if_eq (tgt := 130) hx hb d_Qry_readComparison_119 (by decide) (fun c37 => ?_) (fun c37 => ?_)
            · have hw := hw.1 c37
              exact t_Qry_readComparison_130 hx hb hml hown hT hK hN hA hRc hRs hRf hRl hNN hE hret  o l1 l2 v8 v10 r12 r27 v33 x35 H locs ls fo hw hW hS (lv_sub hl [5, 6, 7, 4, 3, 2, 1, 0] rfl)
            · have hw := hw.2 c37
              refine lv_iload hx hb d_Qry_readComparison_122 (lv_at hl 0 rfl) ?_
              have hF := hW.free hS hA
              refine va_calli (va_runS (As := [.int v33]) (rest := []) ⟨hx, hb, hml, hown, hT⟩ (k_Qry_isNumber l dC dI cI cB cJ cZ ad NN E tM tC kK kV hNN H.size v33 x35  hw) ⟨callB_of 1 hT (gwt_in w_7_198) rfl rfl rfl (hT _ w_1_12) (hT _ w_7_196) (by decide +kernel) ⟨Nat.le_trans (Nat.le_of_ble_eq_true rfl) hRf, Nat.le_trans (Nat.le_of_ble_eq_true rfl) hRl⟩, hT _ w_7_197⟩ ⟨PVc.blind, PVc.at _ hW hK hN hE hS hF⟩ rfl rfl hl.1 rfl (lv_room (Nat.le_of_ble_eq_true rfl)) d_Qry_readComparison_124 ⟨hRc, hRs⟩) hS (fun q _ h => hF q h) hF (fun r39 x38 t H locs ht hvm hw hB hz1 hk1 hS => ?_)
              have hW := Wd.back hB ht hF
              clear hB ht hF hz1 hk1 hvm
              refine lv_if_ne (tgt := 141) hx hb d_Qry_readComparison_127 (by decide) (fun c40 => ?_) (fun c40 => ?_)
              · have hw := hw.1 c40
                exact t_Qry_readComparison_141 hx hb hml hown hT hK hN hA hRc hRs hRf hRl hNN hE hret  o l1 l2 v8 v10 r12 r27 v33 x38 H locs ls fo hw hW hS (lv_sub hl [5, 6, 7, 4, 3, 2, 1, 0] rfl)
              · have hw := hw.2 c40
                exact t_Qry_readComparison_130 hx hb hml hown hT hK hN hA hRc hRs hRf hRl hNN hE hret  o l1 l2 v8 v10 r12 r27 v33 x38 H locs ls fo hw hW hS (lv_sub hl [5, 6, 7, 4, 3, 2, 1, 0] rfl)
        · have hw := hw.2 c31
          exact hret x29 H locs 96 ls d_Qry_readComparison_96 hw hW hS
      · have hw := hw.2 c25
        exact t_Qry_readComparison_58 hx hb hml hown hT hK hN hA hRc hRs hRf hRl hNN hE hret  o l1 l2 v8 v10 r12 x23 H locs ls fo hw hW hS (lv_sub hl [3, 4, 5, 2, 1, 0] rfl)
  · have hw := hw.2 c16
    exact hret x14 H locs 37 ls d_Qry_readComparison_37 hw hW hS
set_option maxHeartbeats 4000000 in
set_option maxRecDepth 100000 in
theorem k_Qry_readComparison (l : Launch) (dC : Nat → ClassId) (dI : Nat → Nat → Nat) (cI cB cJ cZ : ClassId) (ad : Nat → Nat) (NN : Nat) (E : Heap) (tM tC : Nat) (kK kV : Nat → Nat) (hNN : 152 ≤ NN) (sz : Nat) (o : Nat) (l1 : Int32) (l2 : Int32) (x : St) (fo : o < NN ∧ kcC o = 9) {post : St → Prop} (hw : wp_Qry_readComparison post o l1 l2 x) : Met l y_Qry_readComparison (wsOf y_Qry_readComparison b_Qry_readComparison 8 (none)) ({ frames := 8, cells := 0, slots := 0, locals := 287 }) (va_Pc [.ref (ad o), .int l1, .int l2] (PVc dC dI cI cB cJ cZ ad stC kcC NN E tM tC kK kV sz x)) (va_Qv (fun (y : St) => post y) (fun y t => Wd dC dI cI cB cJ cZ ad stC kcC NN (va_A (pic ad stC kcC NN cI cB cJ cZ x) sz) y t.heap) (va_A (pic ad stC kcC NN cI cB cJ cZ x) sz)) 0 0 (va_A (pic ad stC kcC NN cI cB cJ cZ x) sz) := by
  refine Met.ofW (cc := b_Qry_readComparison) (maxL := 8) (ret := none) (by decide) rfl ?_
  intro p e s m args below meth c s₁ B hml hv
  obtain ⟨rfl, ⟨hsz, hW0, hK, hN⟩, hE⟩ := hv
  have hx := B.exec
  have hb := B.bytes
  have hr := B.returns
  have hts := atoms_spec B.pre
  have hT : ∀ w ∈ TG, w.before _ s = true := fun w h => hts w (List.mem_cons_of_mem _ h)
  have hown : s.vm.findClass R_Qry = some m.cls := findClass_of_methodNamed B.named
  have hlocks := B.notSynchronized
  subst hsz
  have hW : Wd dC dI cI cB cJ cZ ad stC kcC NN (va_A (pic ad stC kcC NN cI cB cJ cZ x) s.heap.size) x s.heap := ⟨hW0.1, hW0.2.1.self (sz := s.heap.size), hW0.2.2⟩
  generalize hAe : va_A (pic ad stC kcC NN cI cB cJ cZ x) s.heap.size = A at hW hE ⊢
  have hA : ∀ q : Nat, s.heap.size ≤ q → A q := fun q h => by rw [← hAe]; exact Or.inr h
  have hS : va_S A s.heap s.heap [] := va_S.rf
  have hl := lv_entry ([.ref (ad o), .int l1, .int l2]) (n := 8) (Nat.le_of_ble_eq_true rfl)
  rw [lg_entry_eq]
  generalize (lg_sl ([.ref (ad o), .int l1, .int l2]) ++ List.replicate (8 - (lg_sl ([.ref (ad o), .int l1, .int l2])).length) Slot.unset).toArray = ls at hl ⊢
  have hl : lv_has ls 8 [(0, .ref (ad o)), (1, .int l1), (2, .int l2)] := hl
  exact t_Qry_readComparison_e hx hb hml hown hT hK hN hA (Nat.le_refl 0) (Nat.le_refl 0) (Nat.le_refl 8) (Nat.le_refl 287) hNN hE (fun x H locs pc ls hd hp hW hS => W.vret hx hb hr (fun t ht hM => ⟨⟨x, rfl, hp, Wd.back hW ht.symm (fun _ z => z)⟩, hS.F ht⟩) hS.2.2 hd hlocks)  o l1 l2 x _ _ ls fo hw hW hS hl
set_option maxRecDepth 100000 in
set_option maxHeartbeats 4000000 in
set_option maxRecDepth 100000 in
theorem t_Qry_readCondition_151 {p : Program} {l : Launch} {e : Env} {R : Room} {s : State} {m : MethodId} {args : Array Value} {below : List Frame} {meth : Method} {c : Code} {cells slots : Nat} {Q : State → Prop} {dC : Nat → ClassId} {dI : Nat → Nat → Nat} {cI cB cJ cZ : ClassId} {A : Nat → Prop} {ad : Nat → Nat} {NN : Nat} {E : Heap} {tM tC : Nat} {kK kV : Nat → Nat} {post : St → Prop} {self_Qry_readCondition : (St → Prop) → Nat → Int32 → St → Prop} {self_Qry_readTest : (St → Prop) → Nat → Int32 → St → Prop} {fd ld : Nat} {rec10 : Nat → Int32 → Int32 → Int32 → Int32 → Int32 → St → Prop} (hx : p.tables.exec = Jvm.exec) (hb : c.code = b_Qry_readCondition) (hml : c.maxLocals = 6) (hown : s.vm.findClass R_Qry = some m.cls) (hT : ∀ w ∈ TG, w.before args s = true) (hK : va_K (dC, dI) CL (TY cI cB cJ cZ) s) (hN : NW s) (hA : ∀ q : Nat, s.heap.size ≤ q → A q) (hRc : cells ≤ R.cells) (hRs : slots ≤ R.slots) (hRf : 9 ≤ R.frames) (hRl : 314 ≤ R.locals) (hNN : 152 ≤ NN) (hE : CE E tM tC kK kV A s) (hret : ∀ (x : St) (H : Heap) (locs : List Loc) (pc : Nat) (ls : Array Slot), decode b_Qry_readCondition pc = .ok (.return_, 1) → post x → Wd dC dI cI cB cJ cZ ad stC kcC NN A x H → va_S A s.heap H locs → W p l e R s m args below meth c H locs cells slots Q (F0 m pc ls [])) (hs_Qry_readCondition : ∀ (sz : Nat) (o : Nat) (l1 : Int32) (x : St), (o < NN ∧ kcC o = 9) → ∀ (post : St → Prop), self_Qry_readCondition post o l1 x → Met l y_Qry_readCondition (wsOf y_Qry_readCondition b_Qry_readCondition 6 (none)) ({ frames := fd, cells := 0, slots := 0, locals := ld }) (va_Pc [.ref (ad o), .int l1] (PVc dC dI cI cB cJ cZ ad stC kcC NN E tM tC kK kV sz x)) (va_Qv (fun (y : St) => post y) (fun y t => Wd dC dI cI cB cJ cZ ad stC kcC NN (va_A (pic ad stC kcC NN cI cB cJ cZ x) sz) y t.heap) (va_A (pic ad stC kcC NN cI cB cJ cZ x) sz)) 0 0 (va_A (pic ad stC kcC NN cI cB cJ cZ x) sz)) (hs_Qry_readTest : ∀ (sz : Nat) (o : Nat) (l1 : Int32) (x : St), (o < NN ∧ kcC o = 9) → ∀ (post : St → Prop), self_Qry_readTest post o l1 x → Met l y_Qry_readTest (wsOf y_Qry_readTest b_Qry_readTest 7 (none)) ({ frames := fd, cells := 0, slots := 0, locals := ld }) (va_Pc [.ref (ad o), .int l1] (PVc dC dI cI cB cJ cZ ad stC kcC NN E tM tC kK kV sz x)) (va_Qv (fun (y : St) => post y) (fun y t => Wd dC dI cI cB cJ cZ ad stC kcC NN (va_A (pic ad stC kcC NN cI cB cJ cZ x) sz) y t.heap) (va_A (pic ad stC kcC NN cI cB cJ cZ x) sz)) 0 0 (va_A (pic ad stC kcC NN cI cB cJ cZ x) sz)) (hDf : fd + 1 ≤ R.frames) (hDl : 26 + ld ≤ R.locals) (hrec10 : ∀ (o : Nat) (l1 : Int32) (l2 : Int32) (l3 : Int32) (l4 : Int32) (l5 : Int32) (x : St) (H : Heap) (locs : List Loc) (ls : Array Slot), (o < NN ∧ kcC o = 9) → rec10 o l1 l2 l3 l4 l5 x → Wd dC dI cI cB cJ cZ ad stC kcC NN A x H → va_S A s.heap H locs → lv_has ls 6 [(0, .ref (ad o)), (1, .int l1), (2, .int l2), (3, .int l3), (4, .int l4), (5, .int l5)] → W p l e R s m args below meth c H locs cells slots Q (F0 m 10 ls [])) : ∀ (o : Nat) (l1 : Int32) (l2 : Int32) (l3 : Int32) (l4 : Int32) (l5 : Int32) (x : St) (H : Heap) (locs : List Loc) (ls : Array Slot), (o < NN ∧ kcC o = 9) → j_Qry_readCondition_151 post self_Qry_readCondition self_Qry_readTest rec10 o l1 l2 l3 l4 l5 x → Wd dC dI cI cB cJ cZ ad stC kcC NN A x H → va_S A s.heap H locs → lv_has ls 6 [(0, .ref (ad o)), (1, .int l1), (2, .int l2), (3, .int l3), (4, .int l4), (5, .int l5)] → W p l e R s m args below meth c H locs cells slots Q (F0 m 151 ls []) := by
  intro o l1 l2 l3 l4 l5 x H locs ls fo hw hW hS hl
  unfold j_Qry_readCondition_151 at hw
  refine lv_iinc (v := (l5 + 1)) (lv' := [(5, .int (l5 + 1)), (0, .ref (ad o)), (1, .int l1), (2, .int l2), (3, .int l3), (4, .int l4)]) hx hb d_Qry_readCondition_151 hl (k := 5) rfl rfl (by decide) rfl (fun ls hl => ?_)
  refine lv_goto (tgt := 10) hx hb d_Qry_readCondition_154 (by decide) ?_
  exact hrec10 o l1 l2 l3 l4 (l5 + 1) x H locs ls fo hw hW hS (lv_sub hl [1, 2, 3, 4, 5, 0] rfl)
set_option maxRecDepth 100000 in
set_option maxHeartbeats 4000000 in
set_option maxRecDepth 100000 in
theorem t_Qry_readCondition_113 {p : Program} {l : Launch} {e : Env} {R : Room} {s : State} {m : MethodId} {args : Array Value} {below : List Frame} {meth : Method} {c : Code} {cells slots : Nat} {Q : State → Prop} {dC : Nat → ClassId} {dI : Nat → Nat → Nat} {cI cB cJ cZ : ClassId} {A : Nat → Prop} {ad : Nat → Nat} {NN : Nat} {E : Heap} {tM tC : Nat} {kK kV : Nat → Nat} {post : St → Prop} {self_Qry_readCondition : (St → Prop) → Nat → Int32 → St → Prop} {self_Qry_readTest : (St → Prop) → Nat → Int32 → St → Prop} {fd ld : Nat} {rec10 : Nat → Int32 → Int32 → Int32 → Int32 → Int32 → St → Prop} (hx : p.tables.exec = Jvm.exec) (hb : c.code = b_Qry_readCondition) (hml : c.maxLocals = 6) (hown : s.vm.findClass R_Qry = some m.cls) (hT : ∀ w ∈ TG, w.before args s = true) (hK : va_K (dC, dI) CL (TY cI cB cJ cZ) s) (hN : NW s) (hA : ∀ q : Nat, s.heap.size ≤ q → A q) (hRc : cells ≤ R.cells) (hRs : slots ≤ R.slots) (hRf : 9 ≤ R.frames) (hRl : 314 ≤ R.locals) (hNN : 152 ≤ NN) (hE : CE E tM tC kK kV A s) (hret : ∀ (x : St) (H : Heap) (locs : List Loc) (pc : Nat) (ls : Array Slot), decode b_Qry_readCondition pc = .ok (.return_, 1) → post x → Wd dC dI cI cB cJ cZ ad stC kcC NN A x H → va_S A s.heap H locs → W p l e R s m args below meth c H locs cells slots Q (F0 m pc ls [])) (hs_Qry_readCondition : ∀ (sz : Nat) (o : Nat) (l1 : Int32) (x : St), (o < NN ∧ kcC o = 9) → ∀ (post : St → Prop), self_Qry_readCondition post o l1 x → Met l y_Qry_readCondition (wsOf y_Qry_readCondition b_Qry_readCondition 6 (none)) ({ frames := fd, cells := 0, slots := 0, locals := ld }) (va_Pc [.ref (ad o), .int l1] (PVc dC dI cI cB cJ cZ ad stC kcC NN E tM tC kK kV sz x)) (va_Qv (fun (y : St) => post y) (fun y t => Wd dC dI cI cB cJ cZ ad stC kcC NN (va_A (pic ad stC kcC NN cI cB cJ cZ x) sz) y t.heap) (va_A (pic ad stC kcC NN cI cB cJ cZ x) sz)) 0 0 (va_A (pic ad stC kcC NN cI cB cJ cZ x) sz)) (hs_Qry_readTest : ∀ (sz : Nat) (o : Nat) (l1 : Int32) (x : St), (o < NN ∧ kcC o = 9) → ∀ (post : St → Prop), self_Qry_readTest post o l1 x → Met l y_Qry_readTest (wsOf y_Qry_readTest b_Qry_readTest 7 (none)) ({ frames := fd, cells := 0, slots := 0, locals := ld }) (va_Pc [.ref (ad o), .int l1] (PVc dC dI cI cB cJ cZ ad stC kcC NN E tM tC kK kV sz x)) (va_Qv (fun (y : St) => post y) (fun y t => Wd dC dI cI cB cJ cZ ad stC kcC NN (va_A (pic ad stC kcC NN cI cB cJ cZ x) sz) y t.heap) (va_A (pic ad stC kcC NN cI cB cJ cZ x) sz)) 0 0 (va_A (pic ad stC kcC NN cI cB cJ cZ x) sz)) (hDf : fd + 1 ≤ R.frames) (hDl : 26 + ld ≤ R.locals) (hrec10 : ∀ (o : Nat) (l1 : Int32) (l2 : Int32) (l3 : Int32) (l4 : Int32) (l5 : Int32) (x : St) (H : Heap) (locs : List Loc) (ls : Array Slot), (o < NN ∧ kcC o = 9) → rec10 o l1 l2 l3 l4 l5 x → Wd dC dI cI cB cJ cZ ad stC kcC NN A x H → va_S A s.heap H locs → lv_has ls 6 [(0, .ref (ad o)), (1, .int l1), (2, .int l2), (3, .int l3), (4, .int l4), (5, .int l5)] → W p l e R s m args below meth c H locs cells slots Q (F0 m 10 ls [])) : ∀ (o : Nat) (l1 : Int32) (l2 : Int32) (l3 : Int32) (l4 : Int32) (l5 : Int32) (x : St) (H : Heap) (locs : List Loc) (ls : Array Slot), (o < NN ∧ kcC o = 9) → j_Qry_readCondition_113 post self_Qry_readCondition self_Qry_readTest rec10 o l1 l2 l3 l4 l5 x → Wd dC dI cI cB cJ cZ ad stC kcC NN A x H → va_S A s.heap H locs → lv_has ls 6 [(0, .ref (ad o)), (1, .int l1), (2, .int l2), (3, .int l3), (4, .int l4), (5, .int l5)] → W p l e R s m args below meth c H locs cells slots Q (F0 m 113 ls []) := by
  intro o l1 l2 l3 l4 l5 x H locs ls fo hw hW hS hl
  unfold j_Qry_readCondition_113 at hw
  refine lv_iload hx hb d_Qry_readCondition_113 (lv_at hl 4 rfl) ?_
  refine lv_if_ne (tgt := 151) hx hb d_Qry_readCondition_115 (by decide) (fun c1 => ?_) (fun c1 => ?_)
  · have hw := hw.1 c1
    exact t_Qry_readCondition_151 hx hb hml hown hT hK hN hA hRc hRs hRf hRl hNN hE hret hs_Qry_readCondition hs_Qry_readTest hDf hDl hrec10 o l1 l2 l3 l4 l5 x H locs ls fo hw hW hS (lv_sub hl [0, 1, 2, 3, 4, 5] rfl)
  · have hw := hw.2 c1
    refine lv_aload_n hx hb d_Qry_readCondition_118 rfl (lv_at hl 0 rfl) ?_
    obtain ⟨q2, hq2, hw⟩ := hw
    refine w_getr (q := q2) (k := 17) (t := 9) (C := R_Qry) (T := F_Qry) (N := 20) hx hb hT hown hK hW fo.1 fo.2 (by decide) in_Qry rfl rfl (by decide) rfl fr_Qry_17 w_3_105 d_Qry_readCondition_119 hq2 (fun aq2 bq2 => ?_)
    have fq2 : q2 < NN ∧ kcC q2 = 2 := ⟨aq2, bq2⟩
    have hF := hW.free hS hA
    refine va_calli (va_runV (C := R_Scn) (As := []) (rest := []) ⟨hx, hb, hml, hown, hT⟩ (k_Scn_good l dC dI cI cB cJ cZ ad NN E tM tC kK kV hNN H.size q2 x fq2 hw) ⟨callB_of 0 hT (gwt_in w_4_106) rfl rfl rfl (hT _ w_1_4) (hT _ w_7_147) (by decide +kernel) ⟨Nat.le_trans (Nat.le_of_ble_eq_true rfl) hRf, Nat.le_trans (Nat.le_of_ble_eq_true rfl) hRl⟩, hT _ w_4_104, hT _ w_4_105⟩ ⟨PVc.blind, va_recv hK hW.1 (ci := 2) (q0 := q2) rfl (pic_obj fq2.1 fq2.2 (by decide)), PVc.at _ hW hK hN hE hS hF⟩ rfl rfl hl.1 rfl (lv_room (Nat.le_of_ble_eq_true rfl)) d_Qry_readCondition_122 ⟨hRc, hRs⟩) hS (fun q _ h => hF q h) hF (fun r4 x3 t H locs ht hvm hw hB hz1 hk1 hS => ?_)
    have hW := Wd.back hB ht hF
    clear hB ht hF hz1 hk1 hvm
    refine lv_if_eq (tgt := 151) hx hb d_Qry_readCondition_125 (by decide) (fun c5 => ?_) (fun c5 => ?_)
    · have hw := hw.1 c5
      exact t_Qry_readCondition_151 hx hb hml hown hT hK hN hA hRc hRs hRf hRl hNN hE hret hs_Qry_readCondition hs_Qry_readTest hDf hDl hrec10 o l1 l2 l3 l4 l5 x3 H locs ls fo hw hW hS (lv_sub hl [0, 1, 2, 3, 4, 5] rfl)
    · have hw := hw.2 c5
      refine lv_aload_n hx hb d_Qry_readCondition_128 rfl (lv_at hl 0 rfl) ?_
      obtain ⟨q6, hq6, hw⟩ := hw
      refine w_getr (q := q6) (k := 17) (t := 9) (C := R_Qry) (T := F_Qry) (N := 20) hx hb hT hown hK hW fo.1 fo.2 (by decide) in_Qry rfl rfl (by decide) rfl fr_Qry_17 w_3_105 d_Qry_readCondition_129 hq6 (fun aq6 bq6 => ?_)
      have fq6 : q6 < NN ∧ kcC q6 = 2 := ⟨aq6, bq6⟩
      refine va_ldcS hx hb hown (hE.str 22 (by decide)) d_Qry_readCondition_132 ?_
      have hF := hW.free hS hA
      refine va_calli (va_runV (C := R_Scn) (As := [.ref (kK 19)]) (rest := []) ⟨hx, hb, hml, hown, hT⟩ (k_Scn_takeWord l dC dI cI cB cJ cZ ad NN E tM tC kK kV hNN H.size q6 19 x3 fq6 (by decide) hw) ⟨callB_of 1 hT (gwt_in w_4_141) rfl rfl rfl (hT _ w_1_4) (hT _ w_7_159) (by decide +kernel) ⟨Nat.le_trans (Nat.le_of_ble_eq_true rfl) hRf, Nat.le_trans (Nat.le_of_ble_eq_true rfl) hRl⟩, hT _ w_4_139, hT _ w_4_140⟩ ⟨PVc.blind, va_recv hK hW.1 (ci := 2) (q0 := q6) rfl (pic_obj fq6.1 fq6.2 (by decide)), PVc.at _ hW hK hN hE hS hF⟩ rfl rfl hl.1 rfl (lv_room (Nat.le_of_ble_eq_true rfl)) d_Qry_readCondition_134 ⟨hRc, hRs⟩) hS (fun q _ h => hF q h) hF (fun r8 x7 t H locs ht hvm hw hB hz1 hk1 hS => ?_)
      have hW := Wd.back hB ht hF
      clear hB ht hF hz1 hk1 hvm
      refine lv_if_eq (tgt := 151) hx hb d_Qry_readCondition_137 (by decide) (fun c9 => ?_) (fun c9 => ?_)
      · have hw := hw.1 c9
        exact t_Qry_readCondition_151 hx hb hml hown hT hK hN hA hRc hRs hRf hRl hNN hE hret hs_Qry_readCondition hs_Qry_readTest hDf hDl hrec10 o l1 l2 l3 l4 l5 x7 H locs ls fo hw hW hS (lv_sub hl [0, 1, 2, 3, 4, 5] rfl)
      · have hw := hw.2 c9
        refine lv_aload_n hx hb d_Qry_readCondition_140 rfl (lv_at hl 0 rfl) ?_
        obtain ⟨q10, hq10, hw⟩ := hw
        refine w_getr (q := q10) (k := 17) (t := 9) (C := R_Qry) (T := F_Qry) (N := 20) hx hb hT hown hK hW fo.1 fo.2 (by decide) in_Qry rfl rfl (by decide) rfl fr_Qry_17 w_3_105 d_Qry_readCondition_141 hq10 (fun aq10 bq10 => ?_)
        have fq10 : q10 < NN ∧ kcC q10 = 2 := ⟨aq10, bq10⟩
        refine w_geti (k := 4) (t := 2) (C := R_Scn) (T := F_Scn) (N := 8) hx hb hT hown hK hW fq10.1 fq10.2 (by decide) in_Scn rfl rfl (by decide) rfl fr_Scn_4 w_1_95 d_Qry_readCondition_144 ?_
        refine lv_topi (fun v11 ev11 => ?_)
        have hw := hw v11 ev11
        refine lv_istore_n (lv' := [(2, .int v11), (0, .ref (ad o)), (1, .int l1), (3, .int l3), (4, .int l4), (5, .int l5)]) hx hb d_Qry_readCondition_147 rfl hl (by decide) rfl (fun ls hl => ?_)
        refine lv_iconst (v := 1) hx hb d_Qry_readCondition_148 (by decide) ?_
        refine lv_istore (lv' := [(4, .int 1), (2, .int v11), (0, .ref (ad o)), (1, .int l1), (3, .int l3), (5, .int l5)]) hx hb d_Qry_readCondition_149 hl (by decide) rfl (fun ls hl => ?_)
        exact t_Qry_readCondition_151 hx hb hml hown hT hK hN hA hRc hRs hRf hRl hNN hE hret hs_Qry_readCondition hs_Qry_readTest hDf hDl hrec10 o l1 v11 l3 1 l5 x7 H locs ls fo hw hW hS (lv_sub hl [2, 3, 1, 4, 0, 5] rfl)
set_option maxRecDepth 100000 in
set_option maxHeartbeats 4000000 in
set_option maxRecDepth 100000 in
theorem t_Qry_readCondition_92 {p : Program} {l : Launch} {e : Env} {R : Room} {s : State} {m : MethodId} {args : Array Value} {below : List Frame} {meth : Method} {c : Code} {cells slots : Nat} {Q : State → Prop} {dC : Nat → ClassId} {dI : Nat → Nat → Nat} {cI cB cJ cZ : ClassId} {A : Nat → Prop} {ad : Nat → Nat} {NN : Nat} {E : Heap} {tM tC : Nat} {kK kV : Nat → Nat} {post : St → Prop} {self_Qry_readCondition : (St → Prop) → Nat → Int32 → St → Prop} {self_Qry_readTest : (St → Prop) → Nat → Int32 → St → Prop} {fd ld : Nat} {rec10 : Nat → Int32 → Int32 → Int32 → Int32 → Int32 → St → Prop} (hx : p.tables.exec = Jvm.exec) (hb : c.code = b_Qry_readCondition) (hml : c.maxLocals = 6) (hown : s.vm.findClass R_Qry = some m.cls) (hT : ∀ w ∈ TG, w.before args s = true) (hK : va_K (dC, dI) CL (TY cI cB cJ cZ) s) (hN : NW s) (hA : ∀ q : Nat, s.heap.size ≤ q → A q) (hRc : cells ≤ R.cells) (hRs : slots ≤ R.slots) (hRf : 9 ≤ R.frames) (hRl : 314 ≤ R.locals) (hNN : 152 ≤ NN) (hE : CE E tM tC kK kV A s) (hret : ∀ (x : St) (H : Heap) (locs : List Loc) (pc : Nat) (ls : Array Slot), decode b_Qry_readCondition pc = .ok (.return_, 1) → post x → Wd dC dI cI cB cJ cZ ad stC kcC NN A x H → va_S A s.heap H locs → W p l e R s m args below meth c H locs cells slots Q (F0 m pc ls [])) (hs_Qry_readCondition : ∀ (sz : Nat) (o : Nat) (l1 : Int32) (x : St), (o < NN ∧ kcC o = 9) → ∀ (post : St → Prop), self_Qry_readCondition post o l1 x → Met l y_Qry_readCondition (wsOf y_Qry_readCondition b_Qry_readCondition 6 (none)) ({ frames := fd, cells := 0, slots := 0, locals := ld }) (va_Pc [.ref (ad o), .int l1] (PVc dC dI cI cB cJ cZ ad stC kcC NN E tM tC kK kV sz x)) (va_Qv (fun (y : St) => post y) (fun y t => Wd dC dI cI cB cJ cZ ad stC kcC NN (va_A (pic ad stC kcC NN cI cB cJ cZ x) sz) y t.heap) (va_A (pic ad stC kcC NN cI cB cJ cZ x) sz)) 0 0 (va_A (pic ad stC kcC NN cI cB cJ cZ x) sz)) (hs_Qry_readTest : ∀ (sz : Nat) (o : Nat) (l1 : Int32) (x : St), (o < NN ∧ kcC o = 9) → ∀ (post : St → Prop), self_Qry_readTest post o l1 x → Met l y_Qry_readTest (wsOf y_Qry_readTest b_Qry_readTest 7 (none)) ({ frames := fd, cells := 0, slots := 0, locals := ld }) (va_Pc [.ref (ad o), .int l1] (PVc dC dI cI cB cJ cZ ad stC kcC NN E tM tC kK kV sz x)) (va_Qv (fun (y : St) => post y) (fun y t => Wd dC dI cI cB cJ cZ ad stC kcC NN (va_A (pic ad stC kcC NN cI cB cJ cZ x) sz) y t.heap) (va_A (pic ad stC kcC NN cI cB cJ cZ x) sz)) 0 0 (va_A (pic ad stC kcC NN cI cB cJ cZ x) sz)) (hDf : fd + 1 ≤ R.frames) (hDl : 26 + ld ≤ R.locals) (hrec10 : ∀ (o : Nat) (l1 : Int32) (l2 : Int32) (l3 : Int32) (l4 : Int32) (l5 : Int32) (x : St) (H : Heap) (locs : List Loc) (ls : Array Slot), (o < NN ∧ kcC o = 9) → rec10 o l1 l2 l3 l4 l5 x → Wd dC dI cI cB cJ cZ ad stC kcC NN A x H → va_S A s.heap H locs → lv_has ls 6 [(0, .ref (ad o)), (1, .int l1), (2, .int l2), (3, .int l3), (4, .int l4), (5, .int l5)] → W p l e R s m args below meth c H locs cells slots Q (F0 m 10 ls [])) : ∀ (o : Nat) (l1 : Int32) (l2 : Int32) (l3 : Int32) (l4 : Int32) (l5 : Int32) (s0 : Int32) (x : St) (H : Heap) (locs : List Loc) (ls : Array Slot), (o < NN ∧ kcC o = 9) → j_Qry_readCondition_92 post self_Qry_readCondition self_Qry_readTest rec10 o l1 l2 l3 l4 l5 s0 x → Wd dC dI cI cB cJ cZ ad stC kcC NN A x H → va_S A s.heap H locs → lv_has ls 6 [(0, .ref (ad o)), (1, .int l1), (2, .int l2), (3, .int l3), (4, .int l4), (5, .int l5)] → W p l e R s m args below meth c H locs cells slots Q (F0 m 92 ls [.int s0]) := by
  intro o l1 l2 l3 l4 l5 s0 x H locs ls fo hw hW hS hl
  unfold j_Qry_readCondition_92 at hw
  refine lv_istore_n (lv' := [(3, .int s0), (0, .ref (ad o)), (1, .int l1), (2, .int l2), (4, .int l4), (5, .int l5)]) hx hb d_Qry_readCondition_92 rfl hl (by decide) rfl (fun ls hl => ?_)
  refine lv_iload hx hb d_Qry_readCondition_93 (lv_at hl 4 rfl) ?_
  refine lv_if_ne (tgt := 113) hx hb d_Qry_readCondition_95 (by decide) (fun c12 => ?_) (fun c12 => ?_)
  · have hw := hw.1 c12
    exact t_Qry_readCondition_113 hx hb hml hown hT hK hN hA hRc hRs hRf hRl hNN hE hret hs_Qry_readCondition hs_Qry_readTest hDf hDl hrec10 o l1 l2 s0 l4 l5 x H locs ls fo hw hW hS (lv_sub hl [1, 2, 3, 0, 4, 5] rfl)
  · have hw := hw.2 c12
    refine lv_iload_n hx hb d_Qry_readCondition_98 rfl (lv_at hl 3 rfl) ?_
    refine lv_iconst (v := (-1)) hx hb d_Qry_readCondition_99 (by decide) ?_
    refine lv_icmp_eq (tgt := 113) hx hb d_Qry_readCondition_100 (by decide) (fun c13 => ?_) (fun c13 => ?_)
    · have hw := hw.1 c13
      exact t_Qry_readCondition_113 hx hb hml hown hT hK hN hA hRc hRs hRf hRl hNN hE hret hs_Qry_readCondition hs_Qry_readTest hDf hDl hrec10 o l1 l2 s0 l4 l5 x H locs ls fo hw hW hS (lv_sub hl [1, 2, 3, 0, 4, 5] rfl)
    · have hw := hw.2 c13
      refine lv_aload_n hx hb d_Qry_readCondition_103 rfl (lv_at hl 1 rfl) ?_
      refine lv_bipush (v := 11) hx hb d_Qry_readCondition_104 (by decide) ?_
      refine lv_iload_n hx hb d_Qry_readCondition_106 rfl (lv_at hl 3 rfl) ?_
      refine lv_iconst (v := 0) hx hb d_Qry_readCondition_107 (by decide) ?_
      refine lv_iconst (v := 0) hx hb d_Qry_readCondition_108 (by decide) ?_
      refine lv_iconst (v := 0) hx hb d_Qry_readCondition_109 (by decide) ?_
      have hF := hW.free hS hA
      refine va_callv (va_runV (C := R_Qry) (As := [.int 11, .int l2, .int 0, .int 0, .int 0]) (rest := []) ⟨hx, hb, hml, hown, hT⟩ (k_Qry_addStep l dC dI cI cB cJ cZ ad NN E tM tC kK kV hNN H.size o 11 l2 0 0 0 x fo hw) ⟨callB_of 5 hT (gwt_in w_7_211) rfl rfl rfl (hT _ w_1_12) (hT _ w_7_208) (by decide +kernel) ⟨Nat.le_trans (Nat.le_of_ble_eq_true rfl) hRf, Nat.le_trans (Nat.le_of_ble_eq_true rfl) hRl⟩, hT _ w_7_210, hT _ ws_76⟩ ⟨PVc.blind, va_recv hK hW.1 (ci := 9) (q0 := o) rfl (pic_obj fo.1 fo.2 (by decide)), PVc.at _ hW hK hN hE hS hF⟩ rfl rfl hl.1 rfl (lv_room (Nat.le_of_ble_eq_true rfl)) d_Qry_readCondition_110 ⟨hRc, hRs⟩) hS (fun q _ h => hF q h) hF (fun  x14 t H locs ht hvm hw hB hz1 hk1 hS => ?_)
      have hW := Wd.back hB ht hF
      clear hB ht hF hz1 hk1 hvm
      exact t_Qry_readCondition_113 hx hb hml hown hT hK hN hA hRc hRs hRf hRl hNN hE hret hs_Qry_readCondition hs_Qry_readTest hDf hDl hrec10 o l1 l2 s0 l4 l5 x14 H locs ls fo hw hW hS (lv_sub hl [1, 2, 3, 0, 4, 5] rfl)
set_option maxRecDepth 100000 in
set_option maxHeartbeats 4000000 in
set_option maxRecDepth 100000 in
theorem t_Qry_readCondition_74 {p : Program} {l : Launch} {e : Env} {R : Room} {s : State} {m : MethodId} {args : Array Value} {below : List Frame} {meth : Method} {c : Code} {cells slots : Nat} {Q : State → Prop} {dC : Nat → ClassId} {dI : Nat → Nat → Nat} {cI cB cJ cZ : ClassId} {A : Nat → Prop} {ad : Nat → Nat} {NN : Nat} {E : Heap} {tM tC : Nat} {kK kV : Nat → Nat} {post : St → Prop} {self_Qry_readCondition : (St → Prop) → Nat → Int32 → St → Prop} {self_Qry_readTest : (St → Prop) → Nat → Int32 → St → Prop} {fd ld : Nat} {rec10 : Nat → Int32 → Int32 → Int32 → Int32 → Int32 → St → Prop} (hx : p.tables.exec = Jvm.exec) (hb : c.code = b_Qry_readCondition) (hml : c.maxLocals = 6) (hown : s.vm.findClass R_Qry = some m.cls) (hT : ∀ w ∈ TG, w.before args s = true) (hK : va_K (dC, dI) CL (TY cI cB cJ cZ) s) (hN : NW s) (hA : ∀ q : Nat, s.heap.size ≤ q → A q) (hRc : cells ≤ R.cells) (hRs : slots ≤ R.slots) (hRf : 9 ≤ R.frames) (hRl : 314 ≤ R.locals) (hNN : 152 ≤ NN) (hE : CE E tM tC kK kV A s) (hret : ∀ (x : St) (H : Heap) (locs : List Loc) (pc : Nat) (ls : Array Slot), decode b_Qry_readCondition pc = .ok (.return_, 1) → post x → Wd dC dI cI cB cJ cZ ad stC kcC NN A x H → va_S A s.heap H locs → W p l e R s m args below meth c H locs cells slots Q (F0 m pc ls [])) (hs_Qry_readCondition : ∀ (sz : Nat) (o : Nat) (l1 : Int32) (x : St), (o < NN ∧ kcC o = 9) → ∀ (post : St → Prop), self_Qry_readCondition post o l1 x → Met l y_Qry_readCondition (wsOf y_Qry_readCondition b_Qry_readCondition 6 (none)) ({ frames := fd, cells := 0, slots := 0, locals := ld }) (va_Pc [.ref (ad o), .int l1] (PVc dC dI cI cB cJ cZ ad stC kcC NN E tM tC kK kV sz x)) (va_Qv (fun (y : St) => post y) (fun y t => Wd dC dI cI cB cJ cZ ad stC kcC NN (va_A (pic ad stC kcC NN cI cB cJ cZ x) sz) y t.heap) (va_A (pic ad stC kcC NN cI cB cJ cZ x) sz)) 0 0 (va_A (pic ad stC kcC NN cI cB cJ cZ x) sz)) (hs_Qry_readTest : ∀ (sz : Nat) (o : Nat) (l1 : Int32) (x : St), (o < NN ∧ kcC o = 9) → ∀ (post : St → Prop), self_Qry_readTest post o l1 x → Met l y_Qry_readTest (wsOf y_Qry_readTest b_Qry_readTest 7 (none)) ({ frames := fd, cells := 0, slots := 0, locals := ld }) (va_Pc [.ref (ad o), .int l1] (PVc dC dI cI cB cJ cZ ad stC kcC NN E tM tC kK kV sz x)) (va_Qv (fun (y : St) => post y) (fun y t => Wd dC dI cI cB cJ cZ ad stC kcC NN (va_A (pic ad stC kcC NN cI cB cJ cZ x) sz) y t.heap) (va_A (pic ad stC kcC NN cI cB cJ cZ x) sz)) 0 0 (va_A (pic ad stC kcC NN cI cB cJ cZ x) sz)) (hDf : fd + 1 ≤ R.frames) (hDl : 26 + ld ≤ R.locals) (hrec10 : ∀ (o : Nat) (l1 : Int32) (l2 : Int32) (l3 : Int32) (l4 : Int32) (l5 : Int32) (x : St) (H : Heap) (locs : List Loc) (ls : Array Slot), (o < NN ∧ kcC o = 9) → rec10 o l1 l2 l3 l4 l5 x → Wd dC dI cI cB cJ cZ ad stC kcC NN A x H → va_S A s.heap H locs → lv_has ls 6 [(0, .ref (ad o)), (1, .int l1), (2, .int l2), (3, .int l3), (4, .int l4), (5, .int l5)] → W p l e R s m args below meth c H locs cells slots Q (F0 m 10 ls [])) : ∀ (o : Nat) (l1 : Int32) (l2 : Int32) (l3 : Int32) (l4 : Int32) (l5 : Int32) (s0 : Int32) (x : St) (H : Heap) (locs : List Loc) (ls : Array Slot), (o < NN ∧ kcC o = 9) → j_Qry_readCondition_74 post self_Qry_readCondition self_Qry_readTest rec10 o l1 l2 l3 l4 l5 s0 x → Wd dC dI cI cB cJ cZ ad stC kcC NN A x H → va_S A s.heap H locs → lv_has ls 6 [(0, .ref (ad o)), (1, .int l1), (2, .int l2), (3, .int l3), (4, .int l4), (5, .int l5)] → W p l e R s m args below meth c H locs cells slots Q (F0 m 74 ls [.int s0]) := by
  intro o l1 l2 l3 l4 l5 s0 x H locs ls fo hw hW hS hl
  unfold j_Qry_readCondition_74 at hw
  refine lv_istore (lv' := [(4, .int s0), (0, .ref (ad o)), (1, .int l1), (2, .int l2), (3, .int l3), (5, .int l5)]) hx hb d_Qry_readCondition_74 hl (by decide) rfl (fun ls hl => ?_)
  refine lv_iload hx hb d_Qry_readCondition_76 (lv_at hl 0 rfl) ?_
  refine lv_if_eq (tgt := 91) hx hb d_Qry_readCondition_78 (by decide) (fun c15 => ?_) (fun c15 => ?_)
  · have hw := hw.1 c15
    refine lv_iconst (v := (-1)) hx hb d_Qry_readCondition_91 (by decide) ?_
    exact t_Qry_readCondition_92 hx hb hml hown hT hK hN hA hRc hRs hRf hRl hNN hE hret hs_Qry_readCondition hs_Qry_readTest hDf hDl hrec10 o l1 l2 l3 s0 l5 (-1) x H locs ls fo hw hW hS (lv_sub hl [1, 2, 3, 4, 0, 5] rfl)
  · have hw := hw.2 c15
    refine lv_aload_n hx hb d_Qry_readCondition_81 rfl (lv_at hl 1 rfl) ?_
    obtain ⟨q16, hq16, hw⟩ := hw
    refine w_getr (q := q16) (k := 17) (t := 9) (C := R_Qry) (T := F_Qry) (N := 20) hx hb hT hown hK hW fo.1 fo.2 (by decide) in_Qry rfl rfl (by decide) rfl fr_Qry_17 w_3_105 d_Qry_readCondition_82 hq16 (fun aq16 bq16 => ?_)
    have fq16 : q16 < NN ∧ kcC q16 = 2 := ⟨aq16, bq16⟩
    refine w_geti (k := 4) (t := 2) (C := R_Scn) (T := F_Scn) (N := 8) hx hb hT hown hK hW fq16.1 fq16.2 (by decide) in_Scn rfl rfl (by decide) rfl fr_Scn_4 w_1_95 d_Qry_readCondition_85 ?_
    refine lv_goto (tgt := 92) hx hb d_Qry_readCondition_88 (by decide) ?_
    exact t_Qry_readCondition_92 hx hb hml hown hT hK hN hA hRc hRs hRf hRl hNN hE hret hs_Qry_readCondition hs_Qry_readTest hDf hDl hrec10 o l1 l2 l3 s0 l5 (fI x q16 4) x H locs ls fo hw hW hS (lv_sub hl [1, 2, 3, 4, 0, 5] rfl)
set_option maxRecDepth 100000 in
set_option maxHeartbeats 4000000 in
set_option maxRecDepth 100000 in
theorem t_Qry_readCondition_73 {p : Program} {l : Launch} {e : Env} {R : Room} {s : State} {m : MethodId} {args : Array Value} {below : List Frame} {meth : Method} {c : Code} {cells slots : Nat} {Q : State → Prop} {dC : Nat → ClassId} {dI : Nat → Nat → Nat} {cI cB cJ cZ : ClassId} {A : Nat → Prop} {ad : Nat → Nat} {NN : Nat} {E : Heap} {tM tC : Nat} {kK kV : Nat → Nat} {post : St → Prop} {self_Qry_readCondition : (St → Prop) → Nat → Int32 → St → Prop} {self_Qry_readTest : (St → Prop) → Nat → Int32 → St → Prop} {fd ld : Nat} {rec10 : Nat → Int32 → Int32 → Int32 → Int32 → Int32 → St → Prop} (hx : p.tables.exec = Jvm.exec) (hb : c.code = b_Qry_readCondition) (hml : c.maxLocals = 6) (hown : s.vm.findClass R_Qry = some m.cls) (hT : ∀ w ∈ TG, w.before args s = true) (hK : va_K (dC, dI) CL (TY cI cB cJ cZ) s) (hN : NW s) (hA : ∀ q : Nat, s.heap.size ≤ q → A q) (hRc : cells ≤ R.cells) (hRs : slots ≤ R.slots) (hRf : 9 ≤ R.frames) (hRl : 314 ≤ R.locals) (hNN : 152 ≤ NN) (hE : CE E tM tC kK kV A s) (hret : ∀ (x : St) (H : Heap) (locs : List Loc) (pc : Nat) (ls : Array Slot), decode b_Qry_readCondition pc = .ok (.return_, 1) → post x → Wd dC dI cI cB cJ cZ ad stC kcC NN A x H → va_S A s.heap H locs → W p l e R s m args below meth c H locs cells slots Q (F0 m pc ls [])) (hs_Qry_readCondition : ∀ (sz : Nat) (o : Nat) (l1 : Int32) (x : St), (o < NN ∧ kcC o = 9) → ∀ (post : St → Prop), self_Qry_readCondition post o l1 x → Met l y_Qry_readCondition (wsOf y_Qry_readCondition b_Qry_readCondition 6 (none)) ({ frames := fd, cells := 0, slots := 0, locals := ld }) (va_Pc [.ref (ad o), .int l1] (PVc dC dI cI cB cJ cZ ad stC kcC NN E tM tC kK kV sz x)) (va_Qv (fun (y : St) => post y) (fun y t => Wd dC dI cI cB cJ cZ ad stC kcC NN (va_A (pic ad stC kcC NN cI cB cJ cZ x) sz) y t.heap) (va_A (pic ad stC kcC NN cI cB cJ cZ x) sz)) 0 0 (va_A (pic ad stC kcC NN cI cB cJ cZ x) sz)) (hs_Qry_readTest : ∀ (sz : Nat) (o : Nat) (l1 : Int32) (x : St), (o < NN ∧ kcC o = 9) → ∀ (post : St → Prop), self_Qry_readTest post o l1 x → Met l y_Qry_readTest (wsOf y_Qry_readTest b_Qry_readTest 7 (none)) ({ frames := fd, cells := 0, slots := 0, locals := ld }) (va_Pc [.ref (ad o), .int l1] (PVc dC dI cI cB cJ cZ ad stC kcC NN E tM tC kK kV sz x)) (va_Qv (fun (y : St) => post y) (fun y t => Wd dC dI cI cB cJ cZ ad stC kcC NN (va_A (pic ad stC kcC NN cI cB cJ cZ x) sz) y t.heap) (va_A (pic ad stC kcC NN cI cB cJ cZ x) sz)) 0 0 (va_A (pic ad stC kcC NN cI cB cJ cZ x) sz)) (hDf : fd + 1 ≤ R.frames) (hDl : 26 + ld ≤ R.locals) (hrec10 : ∀ (o : Nat) (l1 : Int32) (l2 : Int32) (l3 : Int32) (l4 : Int32) (l5 : Int32) (x : St) (H : Heap) (locs : List Loc) (ls : Array Slot), (o < NN ∧ kcC o = 9) → rec10 o l1 l2 l3 l4 l5 x → Wd dC dI cI cB cJ cZ ad stC kcC NN A x H → va_S A s.heap H locs → lv_has ls 6 [(0, .ref (ad o)), (1, .int l1), (2, .int l2), (3, .int l3), (4, .int l4), (5, .int l5)] → W p l e R s m args below meth c H locs cells slots Q (F0 m 10 ls [])) : ∀ (o : Nat) (l1 : Int32) (l2 : Int32) (l3 : Int32) (l4 : Int32) (l5 : Int32) (x : St) (H : Heap) (locs : List Loc) (ls : Array Slot), (o < NN ∧ kcC o = 9) → j_Qry_readCondition_73 post self_Qry_readCondition self_Qry_readTest rec10 o l1 l2 l3 l4 l5 x → Wd dC dI cI cB cJ cZ ad stC kcC NN A x H → va_S A s.heap H locs → lv_has ls 6 [(0, .ref (ad o)), (1, .int l1), (2, .int l2), (3, .int l3), (4, .int l4), (5, .int l5)] → W p l e R s m args below meth c H locs cells slots Q (F0 m 73 ls []) := by
  intro o l1 l2 l3 l4 l5 x H locs ls fo hw hW hS hl
  unfold j_Qry_readCondition_73 at hw
  refine lv_iconst (v := 0) hx hb d_Qry_readCondition_73 (by decide) ?_
  exact t_Qry_readCondition_74 hx hb hml hown hT hK hN hA hRc hRs hRf hRl hNN hE hret hs_Qry_readCondition hs_Qry_readTest hDf hDl hrec10 o l1 l2 l3 l4 l5 0 x H locs ls fo hw hW hS (lv_sub hl [0, 1, 2, 3, 4, 5] rfl)
set_option maxRecDepth 100000 in
set_option maxHeartbeats 4000000 in
set_option maxRecDepth 100000 in
theorem t_Qry_readCondition_47 {p : Program} {l : Launch} {e : Env} {R : Room} {s : State} {m : MethodId} {args : Array Value} {below : List Frame} {meth : Method} {c : Code} {cells slots : Nat} {Q : State → Prop} {dC : Nat → ClassId} {dI : Nat → Nat → Nat} {cI cB cJ cZ : ClassId} {A : Nat → Prop} {ad : Nat → Nat} {NN : Nat} {E : Heap} {tM tC : Nat} {kK kV : Nat → Nat} {post : St → Prop} {self_Qry_readCondition : (St → Prop) → Nat → Int32 → St → Prop} {self_Qry_readTest : (St → Prop) → Nat → Int32 → St → Prop} {fd ld : Nat} {rec10 : Nat → Int32 → Int32 → Int32 → Int32 → Int32 → St → Prop} (hx : p.tables.exec = Jvm.exec) (hb : c.code = b_Qry_readCondition) (hml : c.maxLocals = 6) (hown : s.vm.findClass R_Qry = some m.cls) (hT : ∀ w ∈ TG, w.before args s = true) (hK : va_K (dC, dI) CL (TY cI cB cJ cZ) s) (hN : NW s) (hA : ∀ q : Nat, s.heap.size ≤ q → A q) (hRc : cells ≤ R.cells) (hRs : slots ≤ R.slots) (hRf : 9 ≤ R.frames) (hRl : 314 ≤ R.locals) (hNN : 152 ≤ NN) (hE : CE E tM tC kK kV A s) (hret : ∀ (x : St) (H : Heap) (locs : List Loc) (pc : Nat) (ls : Array Slot), decode b_Qry_readCondition pc = .ok (.return_, 1) → post x → Wd dC dI cI cB cJ cZ ad stC kcC NN A x H → va_S A s.heap H locs → W p l e R s m args below meth c H locs cells slots Q (F0 m pc ls [])) (hs_Qry_readCondition : ∀ (sz : Nat) (o : Nat) (l1 : Int32) (x : St), (o < NN ∧ kcC o = 9) → ∀ (post : St → Prop), self_Qry_readCondition post o l1 x → Met l y_Qry_readCondition (wsOf y_Qry_readCondition b_Qry_readCondition 6 (none)) ({ frames := fd, cells := 0, slots := 0, locals := ld }) (va_Pc [.ref (ad o), .int l1] (PVc dC dI cI cB cJ cZ ad stC kcC NN E tM tC kK kV sz x)) (va_Qv (fun (y : St) => post y) (fun y t => Wd dC dI cI cB cJ cZ ad stC kcC NN (va_A (pic ad stC kcC NN cI cB cJ cZ x) sz) y t.heap) (va_A (pic ad stC kcC NN cI cB cJ cZ x) sz)) 0 0 (va_A (pic ad stC kcC NN cI cB cJ cZ x) sz)) (hs_Qry_readTest : ∀ (sz : Nat) (o : Nat) (l1 : Int32) (x : St), (o < NN ∧ kcC o = 9) → ∀ (post : St → Prop), self_Qry_readTest post o l1 x → Met l y_Qry_readTest (wsOf y_Qry_readTest b_Qry_readTest 7 (none)) ({ frames := fd, cells := 0, slots := 0, locals := ld }) (va_Pc [.ref (ad o), .int l1] (PVc dC dI cI cB cJ cZ ad stC kcC NN E tM tC kK kV sz x)) (va_Qv (fun (y : St) => post y) (fun y t => Wd dC dI cI cB cJ cZ ad stC kcC NN (va_A (pic ad stC kcC NN cI cB cJ cZ x) sz) y t.heap) (va_A (pic ad stC kcC NN cI cB cJ cZ x) sz)) 0 0 (va_A (pic ad stC kcC NN cI cB cJ cZ x) sz)) (hDf : fd + 1 ≤ R.frames) (hDl : 26 + ld ≤ R.locals) (hrec10 : ∀ (o : Nat) (l1 : Int32) (l2 : Int32) (l3 : Int32) (l4 : Int32) (l5 : Int32) (x : St) (H : Heap) (locs : List Loc) (ls : Array Slot), (o < NN ∧ kcC o = 9) → rec10 o l1 l2 l3 l4 l5 x → Wd dC dI cI cB cJ cZ ad stC kcC NN A x H → va_S A s.heap H locs → lv_has ls 6 [(0, .ref (ad o)), (1, .int l1), (2, .int l2), (3, .int l3), (4, .int l4), (5, .int l5)] → W p l e R s m args below meth c H locs cells slots Q (F0 m 10 ls [])) : ∀ (o : Nat) (l1 : Int32) (l2 : Int32) (l3 : Int32) (l4 : Int32) (l5 : Int32) (x : St) (H : Heap) (locs : List Loc) (ls : Array Slot), (o < NN ∧ kcC o = 9) → j_Qry_readCondition_47 post self_Qry_readCondition self_Qry_readTest rec10 o l1 l2 l3 l4 l5 x → Wd dC dI cI cB cJ cZ ad stC kcC NN A x H → va_S A s.heap H locs → lv_has ls 6 [(0, .ref (ad o)), (1, .int l1), (2, .int l2), (3, .int l3), (4, .int l4), (5, .int l5)] → W p l e R s m args below meth c H locs cells slots Q (F0 m 47 ls []) := by
  intro o l1 l2 l3 l4 l5 x H locs ls fo hw hW hS hl
  unfold j_Qry_readCondition_47 at hw
  refine lv_aload_n hx hb d_Qry_readCondition_47 rfl (lv_at hl 0 rfl) ?_
  obtain ⟨q17, hq17, hw⟩ := hw
  refine w_getr (q := q17) (k := 17) (t := 9) (C := R_Qry) (T := F_Qry) (N := 20) hx hb hT hown hK hW fo.1 fo.2 (by decide) in_Qry rfl rfl (by decide) rfl fr_Qry_17 w_3_105 d_Qry_readCondition_48 hq17 (fun aq17 bq17 => ?_)
  have fq17 : q17 < NN ∧ kcC q17 = 2 := ⟨aq17, bq17⟩
  have hF := hW.free hS hA
  refine va_calli (va_runV (C := R_Scn) (As := []) (rest := []) ⟨hx, hb, hml, hown, hT⟩ (k_Scn_good l dC dI cI cB cJ cZ ad NN E tM tC kK kV hNN H.size q17 x fq17 hw) ⟨callB_of 0 hT (gwt_in w_4_106) rfl rfl rfl (hT _ w_1_4) (hT _ w_7_147) (by decide +kernel) ⟨Nat.le_trans (Nat.le_of_ble_eq_true rfl) hRf, Nat.le_trans (Nat.le_of_ble_eq_true rfl) hRl⟩, hT _ w_4_104, hT _ w_4_105⟩ ⟨PVc.blind, va_recv hK hW.1 (ci := 2) (q0 := q17) rfl (pic_obj fq17.1 fq17.2 (by decide)), PVc.at _ hW hK hN hE hS hF⟩ rfl rfl hl.1 rfl (lv_room (Nat.le_of_ble_eq_true rfl)) d_Qry_readCondition_51 ⟨hRc, hRs⟩) hS (fun q _ h => hF q h) hF (fun r19 x18 t H locs ht hvm hw hB hz1 hk1 hS => ?_)
  have hW := Wd.back hB ht hF
  clear hB ht hF hz1 hk1 hvm
  refine lv_if_eq (tgt := 73) hx hb d_Qry_readCondition_54 (by decide) (fun c20 => ?_) (fun c20 => ?_)
  · have hw := hw.1 c20
    exact t_Qry_readCondition_73 hx hb hml hown hT hK hN hA hRc hRs hRf hRl hNN hE hret hs_Qry_readCondition hs_Qry_readTest hDf hDl hrec10 o l1 l2 l3 l4 l5 x18 H locs ls fo hw hW hS (lv_sub hl [0, 1, 2, 3, 4, 5] rfl)
  · have hw := hw.2 c20
    refine lv_aload_n hx hb d_Qry_readCondition_57 rfl (lv_at hl 0 rfl) ?_
    obtain ⟨q21, hq21, hw⟩ := hw
    refine w_getr (q := q21) (k := 17) (t := 9) (C := R_Qry) (T := F_Qry) (N := 20) hx hb hT hown hK hW fo.1 fo.2 (by decide) in_Qry rfl rfl (by decide) rfl fr_Qry_17 w_3_105 d_Qry_readCondition_58 hq21 (fun aq21 bq21 => ?_)
    have fq21 : q21 < NN ∧ kcC q21 = 2 := ⟨aq21, bq21⟩
    refine va_ldcS hx hb hown (hE.str 21 (by decide)) d_Qry_readCondition_61 ?_
    have hF := hW.free hS hA
    refine va_calli (va_runV (C := R_Scn) (As := [.ref (kK 18)]) (rest := []) ⟨hx, hb, hml, hown, hT⟩ (k_Scn_takeWord l dC dI cI cB cJ cZ ad NN E tM tC kK kV hNN H.size q21 18 x18 fq21 (by decide) hw) ⟨callB_of 1 hT (gwt_in w_4_141) rfl rfl rfl (hT _ w_1_4) (hT _ w_7_159) (by decide +kernel) ⟨Nat.le_trans (Nat.le_of_ble_eq_true rfl) hRf, Nat.le_trans (Nat.le_of_ble_eq_true rfl) hRl⟩, hT _ w_4_139, hT _ w_4_140⟩ ⟨PVc.blind, va_recv hK hW.1 (ci := 2) (q0 := q21) rfl (pic_obj fq21.1 fq21.2 (by decide)), PVc.at _ hW hK hN hE hS hF⟩ rfl rfl hl.1 rfl (lv_room (Nat.le_of_ble_eq_true rfl)) d_Qry_readCondition_63 ⟨hRc, hRs⟩) hS (fun q _ h => hF q h) hF (fun r23 x22 t H locs ht hvm hw hB hz1 hk1 hS => ?_)
    have hW := Wd.back hB ht hF
    clear hB ht hF hz1 hk1 hvm
    refine lv_if_eq (tgt := 73) hx hb d_Qry_readCondition_66 (by decide) (fun c24 => ?_) (fun c24 => ?_)
    · have hw := hw.1 c24
      exact t_Qry_readCondition_73 hx hb hml hown hT hK hN hA hRc hRs hRf hRl hNN hE hret hs_Qry_readCondition hs_Qry_readTest hDf hDl hrec10 o l1 l2 l3 l4 l5 x22 H locs ls fo hw hW hS (lv_sub hl [0, 1, 2, 3, 4, 5] rfl)
    · have hw := hw.2 c24
      refine lv_iconst (v := 1) hx hb d_Qry_readCondition_69 (by decide) ?_
      refine lv_goto (tgt := 74) hx hb d_Qry_readCondition_70 (by decide) ?_
      exact t_Qry_readCondition_74 hx hb hml hown hT hK hN hA hRc hRs hRf hRl hNN hE hret hs_Qry_readCondition hs_Qry_readTest hDf hDl hrec10 o l1 l2 l3 l4 l5 1 x22 H locs ls fo hw hW hS (lv_sub hl [0, 1, 2, 3, 4, 5] rfl)
set_option maxRecDepth 100000 in
set_option maxHeartbeats 4000000 in
set_option maxRecDepth 100000 in
theorem t_Qry_readCondition_10 {p : Program} {l : Launch} {e : Env} {R : Room} {s : State} {m : MethodId} {args : Array Value} {below : List Frame} {meth : Method} {c : Code} {cells slots : Nat} {Q : State → Prop} {dC : Nat → ClassId} {dI : Nat → Nat → Nat} {cI cB cJ cZ : ClassId} {A : Nat → Prop} {ad : Nat → Nat} {NN : Nat} {E : Heap} {tM tC : Nat} {kK kV : Nat → Nat} {post : St → Prop} {self_Qry_readCondition : (St → Prop) → Nat → Int32 → St → Prop} {self_Qry_readTest : (St → Prop) → Nat → Int32 → St → Prop} {fd ld : Nat} {rec10 : Nat → Int32 → Int32 → Int32 → Int32 → Int32 → St → Prop} (hx : p.tables.exec = Jvm.exec) (hb : c.code = b_Qry_readCondition) (hml : c.maxLocals = 6) (hown : s.vm.findClass R_Qry = some m.cls) (hT : ∀ w ∈ TG, w.before args s = true) (hK : va_K (dC, dI) CL (TY cI cB cJ cZ) s) (hN : NW s) (hA : ∀ q : Nat, s.heap.size ≤ q → A q) (hRc : cells ≤ R.cells) (hRs : slots ≤ R.slots) (hRf : 9 ≤ R.frames) (hRl : 314 ≤ R.locals) (hNN : 152 ≤ NN) (hE : CE E tM tC kK kV A s) (hret : ∀ (x : St) (H : Heap) (locs : List Loc) (pc : Nat) (ls : Array Slot), decode b_Qry_readCondition pc = .ok (.return_, 1) → post x → Wd dC dI cI cB cJ cZ ad stC kcC NN A x H → va_S A s.heap H locs → W p l e R s m args below meth c H locs cells slots Q (F0 m pc ls [])) (hs_Qry_readCondition : ∀ (sz : Nat) (o : Nat) (l1 : Int32) (x : St), (o < NN ∧ kcC o = 9) → ∀ (post : St → Prop), self_Qry_readCondition post o l1 x → Met l y_Qry_readCondition (wsOf y_Qry_readCondition b_Qry_readCondition 6 (none)) ({ frames := fd, cells := 0, slots := 0, locals := ld }) (va_Pc [.ref (ad o), .int l1] (PVc dC dI cI cB cJ cZ ad stC kcC NN E tM tC kK kV sz x)) (va_Qv (fun (y : St) => post y) (fun y t => Wd dC dI cI cB cJ cZ ad stC kcC NN (va_A (pic ad stC kcC NN cI cB cJ cZ x) sz) y t.heap) (va_A (pic ad stC kcC NN cI cB cJ cZ x) sz)) 0 0 (va_A (pic ad stC kcC NN cI cB cJ cZ x) sz)) (hs_Qry_readTest : ∀ (sz : Nat) (o : Nat) (l1 : Int32) (x : St), (o < NN ∧ kcC o = 9) → ∀ (post : St → Prop), self_Qry_readTest post o l1 x → Met l y_Qry_readTest (wsOf y_Qry_readTest b_Qry_readTest 7 (none)) ({ frames := fd, cells := 0, slots := 0, locals := ld }) (va_Pc [.ref (ad o), .int l1] (PVc dC dI cI cB cJ cZ ad stC kcC NN E tM tC kK kV sz x)) (va_Qv (fun (y : St) => post y) (fun y t => Wd dC dI cI cB cJ cZ ad stC kcC NN (va_A (pic ad stC kcC NN cI cB cJ cZ x) sz) y t.heap) (va_A (pic ad stC kcC NN cI cB cJ cZ x) sz)) 0 0 (va_A (pic ad stC kcC NN cI cB cJ cZ x) sz)) (hDf : fd + 1 ≤ R.frames) (hDl : 26 + ld ≤ R.locals) (hrec10 : ∀ (o : Nat) (l1 : Int32) (l2 : Int32) (l3 : Int32) (l4 : Int32) (l5 : Int32) (x : St) (H : Heap) (locs : List Loc) (ls : Array Slot), (o < NN ∧ kcC o = 9) → rec10 o l1 l2 l3 l4 l5 x → Wd dC dI cI cB cJ cZ ad stC kcC NN A x H → va_S A s.heap H locs → lv_has ls 6 [(0, .ref (ad o)), (1, .int l1), (2, .int l2), (3, .int l3), (4, .int l4), (5, .int l5)] → W p l e R s m args below meth c H locs cells slots Q (F0 m 10 ls [])) : ∀ (o : Nat) (l1 : Int32) (l2 : Int32) (l3 : Int32) (l4 : Int32) (l5 : Int32) (x : St) (H : Heap) (locs : List Loc) (ls : Array Slot), (o < NN ∧ kcC o = 9) → j_Qry_readCondition_10 post self_Qry_readCondition self_Qry_readTest rec10 o l1 l2 l3 l4 l5 x → Wd dC dI cI cB cJ cZ ad stC kcC NN A x H → va_S A s.heap H locs → lv_has ls 6 [(0, .ref (ad o)), (1, .int l1), (2, .int l2), (3, .int l3), (4, .int l4), (5, .int l5)] → W p l e R s m args below meth c H locs cells slots Q (F0 m 10 ls []) := by
  intro o l1 l2 l3 l4 l5 x H locs ls fo hw hW hS hl
  unfold j_Qry_readCondition_10 at hw
  refine lv_iload hx hb d_Qry_readCondition_10 (lv_at hl 5 rfl) ?_
  refine lv_aload_n hx hb d_Qry_readCondition_12 rfl (lv_at hl 0 rfl) ?_
  obtain ⟨q25, hq25, hw⟩ := hw
  refine w_getr (q := q25) (k := 17) (t := 9) (C := R_Qry) (T := F_Qry) (N := 20) hx hb hT hown hK hW fo.1 fo.2 (by decide) in_Qry rfl rfl (by decide) rfl fr_Qry_17 w_3_105 d_Qry_readCondition_13 hq25 (fun aq25 bq25 => ?_)
  have fq25 : q25 < NN ∧ kcC q25 = 2 := ⟨aq25, bq25⟩
  refine w_geti (k := 1) (t := 2) (C := R_Scn) (T := F_Scn) (N := 8) hx hb hT hown hK hW fq25.1 fq25.2 (by decide) in_Scn rfl rfl (by decide) rfl fr_Scn_1 w_1_82 d_Qry_readCondition_16 ?_
  refine lv_icmp_gt (tgt := 157) hx hb d_Qry_readCondition_19 (by decide) (fun c26 => ?_) (fun c26 => ?_)
  · have hw := hw.1 c26
    exact hret x H locs 157 ls d_Qry_readCondition_157 hw hW hS
  · have hw := hw.2 c26
    refine lv_iload hx hb d_Qry_readCondition_22 (lv_at hl 4 rfl) ?_
    refine lv_if_eq (tgt := 157) hx hb d_Qry_readCondition_24 (by decide) (fun c27 => ?_) (fun c27 => ?_)
    · have hw := hw.1 c27
      exact hret x H locs 157 ls d_Qry_readCondition_157 hw hW hS
    · have hw := hw.2 c27
      refine lv_aload_n hx hb d_Qry_readCondition_27 rfl (lv_at hl 0 rfl) ?_
      refine lv_iload_n hx hb d_Qry_readCondition_28 rfl (lv_at hl 1 rfl) ?_
      have hF := hW.free hS hA
      refine va_callv (va_runV (C := R_Qry) (As := [.int l1]) (rest := []) ⟨hx, hb, hml, hown, hT⟩ (hs_Qry_readTest H.size o l1 x fo _ hw) ⟨callB_of 1 hT (gwt_in w_7_207) rfl rfl rfl (hT _ w_1_12) (hT _ w_7_204) (by decide +kernel) ⟨hDf, Nat.le_trans (Nat.add_le_add_right (by decide) _) hDl⟩, hT _ w_7_206, hT _ ws_75⟩ ⟨PVc.blind, va_recv hK hW.1 (ci := 9) (q0 := o) rfl (pic_obj fo.1 fo.2 (by decide)), PVc.at _ hW hK hN hE hS hF⟩ rfl rfl hl.1 rfl (lv_room (Nat.le_of_ble_eq_true rfl)) d_Qry_readCondition_29 ⟨hRc, hRs⟩) hS (fun q _ h => hF q h) hF (fun  x28 t H locs ht hvm hw hB hz1 hk1 hS => ?_)
      have hW := Wd.back hB ht hF
      clear hB ht hF hz1 hk1 hvm
      refine lv_iload_n hx hb d_Qry_readCondition_32 rfl (lv_at hl 3 rfl) ?_
      refine lv_iconst (v := (-1)) hx hb d_Qry_readCondition_33 (by decide) ?_
      refine lv_icmp_eq (tgt := 47) hx hb d_Qry_readCondition_34 (by decide) (fun c29 => ?_) (fun c29 => ?_)
      · have hw := hw.1 c29
        exact t_Qry_readCondition_47 hx hb hml hown hT hK hN hA hRc hRs hRf hRl hNN hE hret hs_Qry_readCondition hs_Qry_readTest hDf hDl hrec10 o l1 l2 l3 l4 l5 x28 H locs ls fo hw hW hS (lv_sub hl [0, 1, 2, 3, 4, 5] rfl)
      · have hw := hw.2 c29
        refine lv_aload_n hx hb d_Qry_readCondition_37 rfl (lv_at hl 0 rfl) ?_
        refine lv_bipush (v := 10) hx hb d_Qry_readCondition_38 (by decide) ?_
        refine lv_iload_n hx hb d_Qry_readCondition_40 rfl (lv_at hl 3 rfl) ?_
        refine lv_iconst (v := 0) hx hb d_Qry_readCondition_41 (by decide) ?_
        refine lv_iconst (v := 0) hx hb d_Qry_readCondition_42 (by decide) ?_
        refine lv_iconst (v := 0) hx hb d_Qry_readCondition_43 (by decide) ?_
        have hF := hW.free hS hA
        refine va_callv (va_runV (C := R_Qry) (As := [.int 10, .int l3, .int 0, .int 0, .int 0]) (rest := []) ⟨hx, hb, hml, hown, hT⟩ (k_Qry_addStep l dC dI cI cB cJ cZ ad NN E tM tC kK kV hNN H.size o 10 l3 0 0 0 x28 fo hw) ⟨callB_of 5 hT (gwt_in w_7_211) rfl rfl rfl (hT _ w_1_12) (hT _ w_7_208) (by decide +kernel) ⟨Nat.le_trans (Nat.le_of_ble_eq_true rfl) hRf, Nat.le_trans (Nat.le_of_ble_eq_true rfl) hRl⟩, hT _ w_7_210, hT _ ws_76⟩ ⟨PVc.blind, va_recv hK hW.1 (ci := 9) (q0 := o) rfl (pic_obj fo.1 fo.2 (by decide)), PVc.at _ hW hK hN hE hS hF⟩ rfl rfl hl.1 rfl (lv_room (Nat.le_of_ble_eq_true rfl)) d_Qry_readCondition_44 ⟨hRc, hRs⟩) hS (fun q _ h => hF q h) hF (fun  x30 t H locs ht hvm hw hB hz1 hk1 hS => ?_)
        have hW := Wd.back hB ht hF
        clear hB ht hF hz1 hk1 hvm
        exact t_Qry_readCondition_47 hx hb hml hown hT hK hN hA hRc hRs hRf hRl hNN hE hret hs_Qry_readCondition hs_Qry_readTest hDf hDl hrec10 o l1 l2 l3 l4 l5 x30 H locs ls fo hw hW hS (lv_sub hl [0, 1, 2, 3, 4, 5] rfl)
set_option maxHeartbeats 4000000 in
set_option maxRecDepth 100000 in
theorem tl_Qry_readCondition_10 {p : Program} {l : Launch} {e : Env} {R : Room} {s : State} {m : MethodId} {args : Array Value} {below : List Frame} {meth : Method} {c : Code} {cells slots : Nat} {Q : State → Prop} {dC : Nat → ClassId} {dI : Nat → Nat → Nat} {cI cB cJ cZ : ClassId} {A : Nat → Prop} {ad : Nat → Nat} {NN : Nat} {E : Heap} {tM tC : Nat} {kK kV : Nat → Nat} {post : St → Prop} {self_Qry_readCondition : (St → Prop) → Nat → Int32 → St → Prop} {self_Qry_readTest : (St → Prop) → Nat → Int32 → St → Prop} {fd ld : Nat} (hx : p.tables.exec = Jvm.exec) (hb : c.code = b_Qry_readCondition) (hml : c.maxLocals = 6) (hown : s.vm.findClass R_Qry = some m.cls) (hT : ∀ w ∈ TG, w.before args s = true) (hK : va_K (dC, dI) CL (TY cI cB cJ cZ) s) (hN : NW s) (hA : ∀ q : Nat, s.heap.size ≤ q → A q) (hRc : cells ≤ R.cells) (hRs : slots ≤ R.slots) (hRf : 9 ≤ R.frames) (hRl : 314 ≤ R.locals) (hNN : 152 ≤ NN) (hE : CE E tM tC kK kV A s) (hret : ∀ (x : St) (H : Heap) (locs : List Loc) (pc : Nat) (ls : Array Slot), decode b_Qry_readCondition pc = .ok (.return_, 1) → post x → Wd dC dI cI cB cJ cZ ad stC kcC NN A x H → va_S A s.heap H locs → W p l e R s m args below meth c H locs cells slots Q (F0 m pc ls [])) (hs_Qry_readCondition : ∀ (sz : Nat) (o : Nat) (l1 : Int32) (x : St), (o < NN ∧ kcC o = 9) → ∀ (post : St → Prop), self_Qry_readCondition post o l1 x → Met l y_Qry_readCondition (wsOf y_Qry_readCondition b_Qry_readCondition 6 (none)) ({ frames := fd, cells := 0, slots := 0, locals := ld }) (va_Pc [.ref (ad o), .int l1] (PVc dC dI cI cB cJ cZ ad stC kcC NN E tM tC kK kV sz x)) (va_Qv (fun (y : St) => post y) (fun y t => Wd dC dI cI cB cJ cZ ad stC kcC NN (va_A (pic ad stC kcC NN cI cB cJ cZ x) sz) y t.heap) (va_A (pic ad stC kcC NN cI cB cJ cZ x) sz)) 0 0 (va_A (pic ad stC kcC NN cI cB cJ cZ x) sz)) (hs_Qry_readTest : ∀ (sz : Nat) (o : Nat) (l1 : Int32) (x : St), (o < NN ∧ kcC o = 9) → ∀ (post : St → Prop), self_Qry_readTest post o l1 x → Met l y_Qry_readTest (wsOf y_Qry_readTest b_Qry_readTest 7 (none)) ({ frames := fd, cells := 0, slots := 0, locals := ld }) (va_Pc [.ref (ad o), .int l1] (PVc dC dI cI cB cJ cZ ad stC kcC NN E tM tC kK kV sz x)) (va_Qv (fun (y : St) => post y) (fun y t => Wd dC dI cI cB cJ cZ ad stC kcC NN (va_A (pic ad stC kcC NN cI cB cJ cZ x) sz) y t.heap) (va_A (pic ad stC kcC NN cI cB cJ cZ x) sz)) 0 0 (va_A (pic ad stC kcC NN cI cB cJ cZ x) sz)) (hDf : fd + 1 ≤ R.frames) (hDl : 26 + ld ≤ R.locals)  : ∀ n : Nat, ∀ (o : Nat) (l1 : Int32) (l2 : Int32) (l3 : Int32) (l4 : Int32) (l5 : Int32) (x : St) (H : Heap) (locs : List Loc) (ls : Array Slot), (o < NN ∧ kcC o = 9) → wl_Qry_readCondition_10 post self_Qry_readCondition self_Qry_readTest n o l1 l2 l3 l4 l5 x → Wd dC dI cI cB cJ cZ ad stC kcC NN A x H → va_S A s.heap H locs → lv_has ls 6 [(0, .ref (ad o)), (1, .int l1), (2, .int l2), (3, .int l3), (4, .int l4), (5, .int l5)] → W p l e R s m args below meth c H locs cells slots Q (F0 m 10 ls []) := by
  intro n
  induction n with
  | zero => intro o l1 l2 l3 l4 l5 x H locs ls fo hw; exact hw.elim
  | succ n ih => intro o l1 l2 l3 l4 l5 x H locs ls fo hw hW hS hl; exact t_Qry_readCondition_10 hx hb hml hown hT hK hN hA hRc hRs hRf hRl hNN hE hret hs_Qry_readCondition hs_Qry_readTest hDf hDl  ih o l1 l2 l3 l4 l5 x H locs ls fo hw hW hS hl
set_option maxRecDepth 100000 in
set_option maxHeartbeats 4000000 in
set_option maxRecDepth 100000 in
theorem t_Qry_readCondition_e {p : Program} {l : Launch} {e : Env} {R : Room} {s : State} {m : MethodId} {args : Array Value} {below : List Frame} {meth : Method} {c : Code} {cells slots : Nat} {Q : State → Prop} {dC : Nat → ClassId} {dI : Nat → Nat → Nat} {cI cB cJ cZ : ClassId} {A : Nat → Prop} {ad : Nat → Nat} {NN : Nat} {E : Heap} {tM tC : Nat} {kK kV : Nat → Nat} {post : St → Prop} {self_Qry_readCondition : (St → Prop) → Nat → Int32 → St → Prop} {self_Qry_readTest : (St → Prop) → Nat → Int32 → St → Prop} {fd ld : Nat} (hx : p.tables.exec = Jvm.exec) (hb : c.code = b_Qry_readCondition) (hml : c.maxLocals = 6) (hown : s.vm.findClass R_Qry = some m.cls) (hT : ∀ w ∈ TG, w.before args s = true) (hK : va_K (dC, dI) CL (TY cI cB cJ cZ) s) (hN : NW s) (hA : ∀ q : Nat, s.heap.size ≤ q → A q) (hRc : cells ≤ R.cells) (hRs : slots ≤ R.slots) (hRf : 9 ≤ R.frames) (hRl : 314 ≤ R.locals) (hNN : 152 ≤ NN) (hE : CE E tM tC kK kV A s) (hret : ∀ (x : St) (H : Heap) (locs : List Loc) (pc : Nat) (ls : Array Slot), decode b_Qry_readCondition pc = .ok (.return_, 1) → post x → Wd dC dI cI cB cJ cZ ad stC kcC NN A x H → va_S A s.heap H locs → W p l e R s m args below meth c H locs cells slots Q (F0 m pc ls [])) (hs_Qry_readCondition : ∀ (sz : Nat) (o : Nat) (l1 : Int32) (x : St), (o < NN ∧ kcC o = 9) → ∀ (post : St → Prop), self_Qry_readCondition post o l1 x → Met l y_Qry_readCondition (wsOf y_Qry_readCondition b_Qry_readCondition 6 (none)) ({ frames := fd, cells := 0, slots := 0, locals := ld }) (va_Pc [.ref (ad o), .int l1] (PVc dC dI cI cB cJ cZ ad stC kcC NN E tM tC kK kV sz x)) (va_Qv (fun (y : St) => post y) (fun y t => Wd dC dI cI cB cJ cZ ad stC kcC NN (va_A (pic ad stC kcC NN cI cB cJ cZ x) sz) y t.heap) (va_A (pic ad stC kcC NN cI cB cJ cZ x) sz)) 0 0 (va_A (pic ad stC kcC NN cI cB cJ cZ x) sz)) (hs_Qry_readTest : ∀ (sz : Nat) (o : Nat) (l1 : Int32) (x : St), (o < NN ∧ kcC o = 9) → ∀ (post : St → Prop), self_Qry_readTest post o l1 x → Met l y_Qry_readTest (wsOf y_Qry_readTest b_Qry_readTest 7 (none)) ({ frames := fd, cells := 0, slots := 0, locals := ld }) (va_Pc [.ref (ad o), .int l1] (PVc dC dI cI cB cJ cZ ad stC kcC NN E tM tC kK kV sz x)) (va_Qv (fun (y : St) => post y) (fun y t => Wd dC dI cI cB cJ cZ ad stC kcC NN (va_A (pic ad stC kcC NN cI cB cJ cZ x) sz) y t.heap) (va_A (pic ad stC kcC NN cI cB cJ cZ x) sz)) 0 0 (va_A (pic ad stC kcC NN cI cB cJ cZ x) sz)) (hDf : fd + 1 ≤ R.frames) (hDl : 26 + ld ≤ R.locals) : ∀ (o : Nat) (l1 : Int32) (x : St) (H : Heap) (locs : List Loc) (ls : Array Slot), (o < NN ∧ kcC o = 9) → wb_Qry_readCondition post self_Qry_readCondition self_Qry_readTest o l1 x → Wd dC dI cI cB cJ cZ ad stC kcC NN A x H → va_S A s.heap H locs → lv_has ls 6 [(0, .ref (ad o)), (1, .int l1)] → W p l e R s m args below meth c H locs cells slots Q (F0 m 0 ls []) := by
  intro o l1 x H locs ls fo hw hW hS hl
  unfold wb_Qry_readCondition at hw
  refine lv_iconst (v := (-1)) hx hb d_Qry_readCondition_0 (by decide) ?_
  refine lv_istore_n (lv' := [(2, .int (-1)), (0, .ref (ad o)), (1, .int l1)]) hx hb d_Qry_readCondition_1 rfl hl (by decide) rfl (fun ls hl => ?_)
  refine lv_iconst (v := (-1)) hx hb d_Qry_readCondition_2 (by decide) ?_
  refine lv_istore_n (lv' := [(3, .int (-1)), (2, .int (-1)), (0, .ref (ad o)), (1, .int l1)]) hx hb d_Qry_readCondition_3 rfl hl (by decide) rfl (fun ls hl => ?_)
  refine lv_iconst (v := 1) hx hb d_Qry_readCondition_4 (by decide) ?_
  refine lv_istore (lv' := [(4, .int 1), (3, .int (-1)), (2, .int (-1)), (0, .ref (ad o)), (1, .int l1)]) hx hb d_Qry_readCondition_5 hl (by decide) rfl (fun ls hl => ?_)
  refine lv_iconst (v := 0) hx hb d_Qry_readCondition_7 (by decide) ?_
  refine lv_istore (lv' := [(5, .int 0), (4, .int 1), (3, .int (-1)), (2, .int (-1)), (0, .ref (ad o)), (1, .int l1)]) hx hb d_Qry_readCondition_8 hl (by decide) rfl (fun ls hl => ?_)
  obtain ⟨n, hw⟩ := hw
  exact tl_Qry_readCondition_10 hx hb hml hown hT hK hN hA hRc hRs hRf hRl hNN hE hret hs_Qry_readCondition hs_Qry_readTest hDf hDl  n o l1 (-1) (-1) 1 0 x H locs ls fo hw hW hS (lv_sub hl [4, 5, 3, 2, 1, 0] rfl)
set_option maxRecDepth 100000 in
set_option maxHeartbeats 4000000 in
set_option maxRecDepth 100000 in
theorem t_Qry_readTest_160 {p : Program} {l : Launch} {e : Env} {R : Room} {s : State} {m : MethodId} {args : Array Value} {below : List Frame} {meth : Method} {c : Code} {cells slots : Nat} {Q : State → Prop} {dC : Nat → ClassId} {dI : Nat → Nat → Nat} {cI cB cJ cZ : ClassId} {A : Nat → Prop} {ad : Nat → Nat} {NN : Nat} {E : Heap} {tM tC : Nat} {kK kV : Nat → Nat} {post : St → Prop} {self_Qry_readCondition : (St → Prop) → Nat → Int32 → St → Prop} {self_Qry_readTest : (St → Prop) → Nat → Int32 → St → Prop} {fd ld : Nat} (hx : p.tables.exec = Jvm.exec) (hb : c.code = b_Qry_readTest) (hml : c.maxLocals = 7) (hown : s.vm.findClass R_Qry = some m.cls) (hT : ∀ w ∈ TG, w.before args s = true) (hK : va_K (dC, dI) CL (TY cI cB cJ cZ) s) (hN : NW s) (hA : ∀ q : Nat, s.heap.size ≤ q → A q) (hRc : cells ≤ R.cells) (hRs : slots ≤ R.slots) (hRf : 9 ≤ R.frames) (hRl : 314 ≤ R.locals) (hNN : 152 ≤ NN) (hE : CE E tM tC kK kV A s) (hret : ∀ (x : St) (H : Heap) (locs : List Loc) (pc : Nat) (ls : Array Slot), decode b_Qry_readTest pc = .ok (.return_, 1) → post x → Wd dC dI cI cB cJ cZ ad stC kcC NN A x H → va_S A s.heap H locs → W p l e R s m args below meth c H locs cells slots Q (F0 m pc ls [])) (hs_Qry_readCondition : ∀ (sz : Nat) (o : Nat) (l1 : Int32) (x : St), (o < NN ∧ kcC o = 9) → ∀ (post : St → Prop), self_Qry_readCondition post o l1 x → Met l y_Qry_readCondition (wsOf y_Qry_readCondition b_Qry_readCondition 6 (none)) ({ frames := fd, cells := 0, slots := 0, locals := ld }) (va_Pc [.ref (ad o), .int l1] (PVc dC dI cI cB cJ cZ ad stC kcC NN E tM tC kK kV sz x)) (va_Qv (fun (y : St) => post y) (fun y t => Wd dC dI cI cB cJ cZ ad stC kcC NN (va_A (pic ad stC kcC NN cI cB cJ cZ x) sz) y t.heap) (va_A (pic ad stC kcC NN cI cB cJ cZ x) sz)) 0 0 (va_A (pic ad stC kcC NN cI cB cJ cZ x) sz)) (hs_Qry_readTest : ∀ (sz : Nat) (o : Nat) (l1 : Int32) (x : St), (o < NN ∧ kcC o = 9) → ∀ (post : St → Prop), self_Qry_readTest post o l1 x → Met l y_Qry_readTest (wsOf y_Qry_readTest b_Qry_readTest 7 (none)) ({ frames := fd, cells := 0, slots := 0, locals := ld }) (va_Pc [.ref (ad o), .int l1] (PVc dC dI cI cB cJ cZ ad stC kcC NN E tM tC kK kV sz x)) (va_Qv (fun (y : St) => post y) (fun y t => Wd dC dI cI cB cJ cZ ad stC kcC NN (va_A (pic ad stC kcC NN cI cB cJ cZ x) sz) y t.heap) (va_A (pic ad stC kcC NN cI cB cJ cZ x) sz)) 0 0 (va_A (pic ad stC kcC NN cI cB cJ cZ x) sz)) (hDf : fd + 1 ≤ R.frames) (hDl : 26 + ld ≤ R.locals)  : ∀ (o : Nat) (l1 : Int32) (l2 : Int32) (l3 : Int32) (l4 : Int32) (l5 : Int32) (s0 : Int32) (x : St) (H : Heap) (locs : List Loc) (ls : Array Slot), (o < NN ∧ kcC o = 9) → j_Qry_readTest_160 post self_Qry_readCondition self_Qry_readTest o l1 l2 l3 l4 l5 s0 x → Wd dC dI cI cB cJ cZ ad stC kcC NN A x H → va_S A s.heap H locs → lv_has ls 7 [(0, .ref (ad o)), (1, .int l1), (2, .int l2), (3, .int l3), (4, .int l4), (5, .int l5)] → W p l e R s m args below meth c H locs cells slots Q (F0 m 160 ls [.int s0]) := by
  intro o l1 l2 l3 l4 l5 s0 x H locs ls fo hw hW hS hl
  unfold j_Qry_readTest_160 at hw
  refine lv_istore (lv' := [(6, .int s0), (0, .ref (ad o)), (1, .int l1), (2, .int l2), (3, .int l3), (4, .int l4), (5, .int l5)]) hx hb d_Qry_readTest_160 hl (by decide) rfl (fun ls hl => ?_)
  refine lv_aload_n hx hb d_Qry_readTest_162 rfl (lv_at hl 1 rfl) ?_
  obtain ⟨q1, hq1, hw⟩ := hw
  refine w_getr (q := q1) (k := 17) (t := 9) (C := R_Qry) (T := F_Qry) (N := 20) hx hb hT hown hK hW fo.1 fo.2 (by decide) in_Qry rfl rfl (by decide) rfl fr_Qry_17 w_3_105 d_Qry_readTest_163 hq1 (fun aq1 bq1 => ?_)
  have fq1 : q1 < NN ∧ kcC q1 = 2 := ⟨aq1, bq1⟩
  refine va_ldcS hx hb hown (hE.str 25 (by decide)) d_Qry_readTest_166 ?_
  have hF := hW.free hS hA
  refine va_callv (va_runV (C := R_Scn) (As := [.ref (kK 22)]) (rest := []) ⟨hx, hb, hml, hown, hT⟩ (k_Scn_needWord l dC dI cI cB cJ cZ ad NN E tM tC kK kV hNN H.size q1 22 x fq1 (by decide) hw) ⟨callB_of 1 hT (gwt_in w_4_209) rfl rfl rfl (hT _ w_1_4) (hT _ w_7_142) (by decide +kernel) ⟨Nat.le_trans (Nat.le_of_ble_eq_true rfl) hRf, Nat.le_trans (Nat.le_of_ble_eq_true rfl) hRl⟩, hT _ w_4_207, hT _ w_4_208⟩ ⟨PVc.blind, va_recv hK hW.1 (ci := 2) (q0 := q1) rfl (pic_obj fq1.1 fq1.2 (by decide)), PVc.at _ hW hK hN hE hS hF⟩ rfl rfl hl.1 rfl (lv_room (Nat.le_of_ble_eq_true rfl)) d_Qry_readTest_168 ⟨hRc, hRs⟩) hS (fun q _ h => hF q h) hF (fun  x2 t H locs ht hvm hw hB hz1 hk1 hS => ?_)
  have hW := Wd.back hB ht hF
  clear hB ht hF hz1 hk1 hvm
  refine lv_aload_n hx hb d_Qry_readTest_171 rfl (lv_at hl 1 rfl) ?_
  refine lv_iload hx hb d_Qry_readTest_172 (lv_at hl 0 rfl) ?_
  refine lv_iload_n hx hb d_Qry_readTest_174 rfl (lv_at hl 3 rfl) ?_
  refine lv_iload hx hb d_Qry_readTest_175 (lv_at hl 6 rfl) ?_
  refine lv_iconst (v := 0) hx hb d_Qry_readTest_177 (by decide) ?_
  refine lv_iconst (v := 0) hx hb d_Qry_readTest_178 (by decide) ?_
  have hF := hW.free hS hA
  refine va_callv (va_runV (C := R_Qry) (As := [.int s0, .int l2, .int l5, .int 0, .int 0]) (rest := []) ⟨hx, hb, hml, hown, hT⟩ (k_Qry_addStep l dC dI cI cB cJ cZ ad NN E tM tC kK kV hNN H.size o s0 l2 l5 0 0 x2 fo hw) ⟨callB_of 5 hT (gwt_in w_7_211) rfl rfl rfl (hT _ w_1_12) (hT _ w_7_208) (by decide +kernel) ⟨Nat.le_trans (Nat.le_of_ble_eq_true rfl) hRf, Nat.le_trans (Nat.le_of_ble_eq_true rfl) hRl⟩, hT _ w_7_210, hT _ ws_76⟩ ⟨PVc.blind, va_recv hK hW.1 (ci := 9) (q0 := o) rfl (pic_obj fo.1 fo.2 (by decide)), PVc.at _ hW hK hN hE hS hF⟩ rfl rfl hl.1 rfl (lv_room (Nat.le_of_ble_eq_true rfl)) d_Qry_readTest_179 ⟨hRc, hRs⟩) hS (fun q _ h => hF q h) hF (fun  x3 t H locs ht hvm hw hB hz1 hk1 hS => ?_)
  have hW := Wd.back hB ht hF
  clear hB ht hF hz1 hk1 hvm
  refine lv_goto (tgt := 245) hx hb d_Qry_readTest_182 (by decide) ?_
  exact hret x3 H locs 245 ls d_Qry_readTest_245 hw hW hS
set_option maxRecDepth 100000 in
set_option maxHeartbeats 4000000 in
set_option maxRecDepth 100000 in
theorem t_Qry_readTest_42 {p : Program} {l : Launch} {e : Env} {R : Room} {s : State} {m : MethodId} {args : Array Value} {below : List Frame} {meth : Method} {c : Code} {cells slots : Nat} {Q : State → Prop} {dC : Nat → ClassId} {dI : Nat → Nat → Nat} {cI cB cJ cZ : ClassId} {A : Nat → Prop} {ad : Nat → Nat} {NN : Nat} {E : Heap} {tM tC : Nat} {kK kV : Nat → Nat} {post : St → Prop} {self_Qry_readCondition : (St → Prop) → Nat → Int32 → St → Prop} {self_Qry_readTest : (St → Prop) → Nat → Int32 → St → Prop} {fd ld : Nat} (hx : p.tables.exec = Jvm.exec) (hb : c.code = b_Qry_readTest) (hml : c.maxLocals = 7) (hown : s.vm.findClass R_Qry = some m.cls) (hT : ∀ w ∈ TG, w.before args s = true) (hK : va_K (dC, dI) CL (TY cI cB cJ cZ) s) (hN : NW s) (hA : ∀ q : Nat, s.heap.size ≤ q → A q) (hRc : cells ≤ R.cells) (hRs : slots ≤ R.slots) (hRf : 9 ≤ R.frames) (hRl : 314 ≤ R.locals) (hNN : 152 ≤ NN) (hE : CE E tM tC kK kV A s) (hret : ∀ (x : St) (H : Heap) (locs : List Loc) (pc : Nat) (ls : Array Slot), decode b_Qry_readTest pc = .ok (.return_, 1) → post x → Wd dC dI cI cB cJ cZ ad stC kcC NN A x H → va_S A s.heap H locs → W p l e R s m args below meth c H locs cells slots Q (F0 m pc ls [])) (hs_Qry_readCondition : ∀ (sz : Nat) (o : Nat) (l1 : Int32) (x : St), (o < NN ∧ kcC o = 9) → ∀ (post : St → Prop), self_Qry_readCondition post o l1 x → Met l y_Qry_readCondition (wsOf y_Qry_readCondition b_Qry_readCondition 6 (none)) ({ frames := fd, cells := 0, slots := 0, locals := ld }) (va_Pc [.ref (ad o), .int l1] (PVc dC dI cI cB cJ cZ ad stC kcC NN E tM tC kK kV sz x)) (va_Qv (fun (y : St) => post y) (fun y t => Wd dC dI cI cB cJ cZ ad stC kcC NN (va_A (pic ad stC kcC NN cI cB cJ cZ x) sz) y t.heap) (va_A (pic ad stC kcC NN cI cB cJ cZ x) sz)) 0 0 (va_A (pic ad stC kcC NN cI cB cJ cZ x) sz)) (hs_Qry_readTest : ∀ (sz : Nat) (o : Nat) (l1 : Int32) (x : St), (o < NN ∧ kcC o = 9) → ∀ (post : St → Prop), self_Qry_readTest post o l1 x → Met l y_Qry_readTest (wsOf y_Qry_readTest b_Qry_readTest 7 (none)) ({ frames := fd, cells := 0, slots := 0, locals := ld }) (va_Pc [.ref (ad o), .int l1] (PVc dC dI cI cB cJ cZ ad stC kcC NN E tM tC kK kV sz x)) (va_Qv (fun (y : St) => post y) (fun y t => Wd dC dI cI cB cJ cZ ad stC kcC NN (va_A (pic ad stC kcC NN cI cB cJ cZ x) sz) y t.heap) (va_A (pic ad stC kcC NN cI cB cJ cZ x) sz)) 0 0 (va_A (pic ad stC kcC NN cI cB cJ cZ x) sz)) (hDf : fd + 1 ≤ R.frames) (hDl : 26 + ld ≤ R.locals)  : ∀ (o : Nat) (l1 : Int32) (l2 : Int32) (l3 : Int32) (x : St) (H : Heap) (locs : List Loc) (ls : Array Slot), (o < NN ∧ kcC o = 9) → j_Qry_readTest_42 post self_Qry_readCondition self_Qry_readTest o l1 l2 l3 x → Wd dC dI cI cB cJ cZ ad stC kcC NN A x H → va_S A s.heap H locs → lv_has ls 7 [(0, .ref (ad o)), (1, .int l1), (2, .int l2), (3, .int l3)] → W p l e R s m args below meth c H locs cells slots Q (F0 m 42 ls []) := by
  intro o l1 l2 l3 x H locs ls fo hw hW hS hl
  unfold j_Qry_readTest_42 at hw
  refine lv_iload_n hx hb d_Qry_readTest_42 rfl (lv_at hl 1 rfl) ?_
  refine lv_bipush (v := 32) hx hb d_Qry_readTest_43 (by decide) ?_
  refine lv_icmp_lt (tgt := 59) hx hb d_Qry_readTest_45 (by decide) (fun c4 => ?_) (fun c4 => ?_)
  · have hw := hw.1 c4
    refine lv_iload_n hx hb d_Qry_readTest_59 rfl (lv_at hl 3 rfl) ?_
    refine lv_if_eq (tgt := 83) hx hb d_Qry_readTest_60 (by decide) (fun c5 => ?_) (fun c5 => ?_)
    · have hw := hw.1 c5
      refine lv_aload_n hx hb d_Qry_readTest_83 rfl (lv_at hl 0 rfl) ?_
      refine lv_iload_n hx hb d_Qry_readTest_84 rfl (lv_at hl 1 rfl) ?_
      refine lv_iconst (v := 1) hx hb d_Qry_readTest_85 (by decide) ?_
      refine lv_iadd hx hb d_Qry_readTest_86 ?_
      have hF := hW.free hS hA
      refine va_callv (va_runV (C := R_Qry) (As := [.int (l1 + 1)]) (rest := []) ⟨hx, hb, hml, hown, hT⟩ (hs_Qry_readCondition H.size o (l1 + 1) x fo _ hw) ⟨callB_of 1 hT (gwt_in w_7_203) rfl rfl rfl (hT _ w_1_12) (hT _ w_7_200) (by decide +kernel) ⟨hDf, Nat.le_trans (Nat.add_le_add_right (by decide) _) hDl⟩, hT _ w_7_202, hT _ ws_74⟩ ⟨PVc.blind, va_recv hK hW.1 (ci := 9) (q0 := o) rfl (pic_obj fo.1 fo.2 (by decide)), PVc.at _ hW hK hN hE hS hF⟩ rfl rfl hl.1 rfl (lv_room (Nat.le_of_ble_eq_true rfl)) d_Qry_readTest_87 ⟨hRc, hRs⟩) hS (fun q _ h => hF q h) hF (fun  x6 t H locs ht hvm hw hB hz1 hk1 hS => ?_)
      have hW := Wd.back hB ht hF
      clear hB ht hF hz1 hk1 hvm
      refine lv_aload_n hx hb d_Qry_readTest_90 rfl (lv_at hl 0 rfl) ?_
      obtain ⟨q7, hq7, hw⟩ := hw
      refine w_getr (q := q7) (k := 17) (t := 9) (C := R_Qry) (T := F_Qry) (N := 20) hx hb hT hown hK hW fo.1 fo.2 (by decide) in_Qry rfl rfl (by decide) rfl fr_Qry_17 w_3_105 d_Qry_readTest_91 hq7 (fun aq7 bq7 => ?_)
      have fq7 : q7 < NN ∧ kcC q7 = 2 := ⟨aq7, bq7⟩
      refine lv_bipush (v := 41) hx hb d_Qry_readTest_94 (by decide) ?_
      have hF := hW.free hS hA
      refine va_callv (va_runV (C := R_Scn) (As := [.int 41]) (rest := []) ⟨hx, hb, hml, hown, hT⟩ (k_Scn_needSign l dC dI cI cB cJ cZ ad NN E tM tC kK kV hNN H.size q7 41 x6 fq7 hw) ⟨callB_of 1 hT (gwt_in w_4_118) rfl rfl rfl (hT _ w_1_4) (hT _ w_7_187) (by decide +kernel) ⟨Nat.le_trans (Nat.le_of_ble_eq_true rfl) hRf, Nat.le_trans (Nat.le_of_ble_eq_true rfl) hRl⟩, hT _ w_4_116, hT _ w_4_117⟩ ⟨PVc.blind, va_recv hK hW.1 (ci := 2) (q0 := q7) rfl (pic_obj fq7.1 fq7.2 (by decide)), PVc.at _ hW hK hN hE hS hF⟩ rfl rfl hl.1 rfl (lv_room (Nat.le_of_ble_eq_true rfl)) d_Qry_readTest_96 ⟨hRc, hRs⟩) hS (fun q _ h => hF q h) hF (fun  x8 t H locs ht hvm hw hB hz1 hk1 hS => ?_)
      have hW := Wd.back hB ht hF
      clear hB ht hF hz1 hk1 hvm
      exact hret x8 H locs 99 ls d_Qry_readTest_99 hw hW hS
    · have hw := hw.2 c5
      refine lv_aload_n hx hb d_Qry_readTest_63 rfl (lv_at hl 0 rfl) ?_
      refine lv_iload_n hx hb d_Qry_readTest_64 rfl (lv_at hl 1 rfl) ?_
      refine lv_iconst (v := 1) hx hb d_Qry_readTest_65 (by decide) ?_
      refine lv_iadd hx hb d_Qry_readTest_66 ?_
      have hF := hW.free hS hA
      refine va_callv (va_runV (C := R_Qry) (As := [.int (l1 + 1)]) (rest := []) ⟨hx, hb, hml, hown, hT⟩ (hs_Qry_readTest H.size o (l1 + 1) x fo _ hw) ⟨callB_of 1 hT (gwt_in w_7_207) rfl rfl rfl (hT _ w_1_12) (hT _ w_7_204) (by decide +kernel) ⟨hDf, Nat.le_trans (Nat.add_le_add_right (by decide) _) hDl⟩, hT _ w_7_206, hT _ ws_75⟩ ⟨PVc.blind, va_recv hK hW.1 (ci := 9) (q0 := o) rfl (pic_obj fo.1 fo.2 (by decide)), PVc.at _ hW hK hN hE hS hF⟩ rfl rfl hl.1 rfl (lv_room (Nat.le_of_ble_eq_true rfl)) d_Qry_readTest_67 ⟨hRc, hRs⟩) hS (fun q _ h => hF q h) hF (fun  x9 t H locs ht hvm hw hB hz1 hk1 hS => ?_)
      have hW := Wd.back hB ht hF
      clear hB ht hF hz1 hk1 hvm
      refine lv_aload_n hx hb d_Qry_readTest_70 rfl (lv_at hl 0 rfl) ?_
      refine lv_bipush (v := 9) hx hb d_Qry_readTest_71 (by decide) ?_
      refine lv_iload_n hx hb d_Qry_readTest_73 rfl (lv_at hl 2 rfl) ?_
      refine lv_iconst (v := 0) hx hb d_Qry_readTest_74 (by decide) ?_
      refine lv_iconst (v := 0) hx hb d_Qry_readTest_75 (by decide) ?_
      refine lv_iconst (v := 0) hx hb d_Qry_readTest_76 (by decide) ?_
      have hF := hW.free hS hA
      refine va_callv (va_runV (C := R_Qry) (As := [.int 9, .int l2, .int 0, .int 0, .int 0]) (rest := []) ⟨hx, hb, hml, hown, hT⟩ (k_Qry_addStep l dC dI cI cB cJ cZ ad NN E tM tC kK kV hNN H.size o 9 l2 0 0 0 x9 fo hw) ⟨callB_of 5 hT (gwt_in w_7_211) rfl rfl rfl (hT _ w_1_12) (hT _ w_7_208) (by decide +kernel) ⟨Nat.le_trans (Nat.le_of_ble_eq_true rfl) hRf, Nat.le_trans (Nat.le_of_ble_eq_true rfl) hRl⟩, hT _ w_7_210, hT _ ws_76⟩ ⟨PVc.blind, va_recv hK hW.1 (ci := 9) (q0 := o) rfl (pic_obj fo.1 fo.2 (by decide)), PVc.at _ hW hK hN hE hS hF⟩ rfl rfl hl.1 rfl (lv_room (Nat.le_of_ble_eq_true rfl)) d_Qry_readTest_77 ⟨hRc, hRs⟩) hS (fun q _ h => hF q h) hF (fun  x10 t H locs ht hvm hw hB hz1 hk1 hS => ?_)
      have hW := Wd.back hB ht hF
      clear hB ht hF hz1 hk1 hvm
      refine lv_goto (tgt := 99) hx hb d_Qry_readTest_80 (by decide) ?_
      exact hret x10 H locs 99 ls d_Qry_readTest_99 hw hW hS
  · have hw := hw.2 c4
    refine lv_aload_n hx hb d_Qry_readTest_48 rfl (lv_at hl 0 rfl) ?_
    obtain ⟨q11, hq11, hw⟩ := hw
    refine w_getr (q := q11) (k := 17) (t := 9) (C := R_Qry) (T := F_Qry) (N := 20) hx hb hT hown hK hW fo.1 fo.2 (by decide) in_Qry rfl rfl (by decide) rfl fr_Qry_17 w_3_105 d_Qry_readTest_49 hq11 (fun aq11 bq11 => ?_)
    have fq11 : q11 < NN ∧ kcC q11 = 2 := ⟨aq11, bq11⟩
    refine lv_iload_n hx hb d_Qry_readTest_52 rfl (lv_at hl 2 rfl) ?_
    have hF := hW.free hS hA
    refine va_callv (va_runV (C := R_Scn) (As := [.int l2]) (rest := []) ⟨hx, hb, hml, hown, hT⟩ (k_Scn_refuse l dC dI cI cB cJ cZ ad NN E tM tC kK kV hNN H.size q11 l2 x fq11 hw) ⟨callB_of 1 hT (gwt_in w_4_128) rfl rfl rfl (hT _ w_1_4) (hT _ w_7_149) (by decide +kernel) ⟨Nat.le_trans (Nat.le_of_ble_eq_true rfl) hRf, Nat.le_trans (Nat.le_of_ble_eq_true rfl) hRl⟩, hT _ w_4_126, hT _ w_4_127⟩ ⟨PVc.blind, va_recv hK hW.1 (ci := 2) (q0 := q11) rfl (pic_obj fq11.1 fq11.2 (by decide)), PVc.at _ hW hK hN hE hS hF⟩ rfl rfl hl.1 rfl (lv_room (Nat.le_of_ble_eq_true rfl)) d_Qry_readTest_53 ⟨hRc, hRs⟩) hS (fun q _ h => hF q h) hF (fun  x12 t H locs ht hvm hw hB hz1 hk1 hS => ?_)
    have hW := Wd.back hB ht hF
    clear hB ht hF hz1 hk1 hvm
    refine lv_goto (tgt := 99) hx hb d_Qry_readTest_56 (by decide) ?_
    exact hret x12 H locs 99 ls d_Qry_readTest_99 hw hW hS
set_option maxRecDepth 100000 in
set_option maxHeartbeats 4000000 in
set_option maxRecDepth 100000 in
theorem t_Qry_readTest_e {p : Program} {l : Launch} {e : Env} {R : Room} {s : State} {m : MethodId} {args : Array Value} {below : List Frame} {meth : Method} {c : Code} {cells slots : Nat} {Q : State → Prop} {dC : Nat → ClassId} {dI : Nat → Nat → Nat} {cI cB cJ cZ : ClassId} {A : Nat → Prop} {ad : Nat → Nat} {NN : Nat} {E : Heap} {tM tC : Nat} {kK kV : Nat → Nat} {post : St → Prop} {self_Qry_readCondition : (St → Prop) → Nat → Int32 → St → Prop} {self_Qry_readTest : (St → Prop) → Nat → Int32 → St → Prop} {fd ld : Nat} (hx : p.tables.exec = Jvm.exec) (hb : c.code = b_Qry_readTest) (hml : c.maxLocals = 7) (hown : s.vm.findClass R_Qry = some m.cls) (hT : ∀ w ∈ TG, w.before args s = true) (hK : va_K (dC, dI) CL (TY cI cB cJ cZ) s) (hN : NW s) (hA : ∀ q : Nat, s.heap.size ≤ q → A q) (hRc : cells ≤ R.cells) (hRs : slots ≤ R.slots) (hRf : 9 ≤ R.frames) (hRl : 314 ≤ R.locals) (hNN : 152 ≤ NN) (hE : CE E tM tC kK kV A s) (hret : ∀ (x : St) (H : Heap) (locs : List Loc) (pc : Nat) (ls : Array Slot), decode b_Qry_readTest pc = .ok (.return_, 1) → post x → Wd dC dI cI cB cJ cZ ad stC kcC NN A x H → va_S A s.heap H locs → W p l e R s m args below meth c H locs cells slots Q (F0 m pc ls [])) (hs_Qry_readCondition : ∀ (sz : Nat) (o : Nat) (l1 : Int32) (x : St), (o < NN ∧ kcC o = 9) → ∀ (post : St → Prop), self_Qry_readCondition post o l1 x → Met l y_Qry_readCondition (wsOf y_Qry_readCondition b_Qry_readCondition 6 (none)) ({ frames := fd, cells := 0, slots := 0, locals := ld }) (va_Pc [.ref (ad o), .int l1] (PVc dC dI cI cB cJ cZ ad stC kcC NN E tM tC kK kV sz x)) (va_Qv (fun (y : St) => post y) (fun y t => Wd dC dI cI cB cJ cZ ad stC kcC NN (va_A (pic ad stC kcC NN cI cB cJ cZ x) sz) y t.heap) (va_A (pic ad stC kcC NN cI cB cJ cZ x) sz)) 0 0 (va_A (pic ad stC kcC NN cI cB cJ cZ x) sz)) (hs_Qry_readTest : ∀ (sz : Nat) (o : Nat) (l1 : Int32) (x : St), (o < NN ∧ kcC o = 9) → ∀ (post : St → Prop), self_Qry_readTest post o l1 x → Met l y_Qry_readTest (wsOf y_Qry_readTest b_Qry_readTest 7 (none)) ({ frames := fd, cells := 0, slots := 0, locals := ld }) (va_Pc [.ref (ad o), .int l1] (PVc dC dI cI cB cJ cZ ad stC kcC NN E tM tC kK kV sz x)) (va_Qv (fun (y : St) => post y) (fun y t => Wd dC dI cI cB cJ cZ ad stC kcC NN (va_A (pic ad stC kcC NN cI cB cJ cZ x) sz) y t.heap) (va_A (pic ad stC kcC NN cI cB cJ cZ x) sz)) 0 0 (va_A (pic ad stC kcC NN cI cB cJ cZ x) sz)) (hDf : fd + 1 ≤ R.frames) (hDl : 26 + ld ≤ R.locals) : ∀ (o : Nat) (l1 : Int32) (x : St) (H : Heap) (locs : List Loc) (ls : Array Slot), (o < NN ∧ kcC o = 9) → wb_Qry_readTest post self_Qry_readCondition self_Qry_readTest o l1 x → Wd dC dI cI cB cJ cZ ad stC kcC NN A x H → va_S A s.heap H locs → lv_has ls 7 [(0, .ref (ad o)), (1, .int l1)] → W p l e R s m args below meth c H locs cells slots Q (F0 m 0 ls []) := by
  intro o l1 x H locs ls fo hw hW hS hl
  unfold wb_Qry_readTest at hw
  refine lv_aload_n hx hb d_Qry_readTest_0 rfl (lv_at hl 0 rfl) ?_
  obtain ⟨q13, hq13, hw⟩ := hw
  refine w_getr (q := q13) (k := 17) (t := 9) (C := R_Qry) (T := F_Qry) (N := 20) hx hb hT hown hK hW fo.1 fo.2 (by decide) in_Qry rfl rfl (by decide) rfl fr_Qry_17 w_3_105 d_Qry_readTest_1 hq13 (fun aq13 bq13 => ?_)
  have fq13 : q13 < NN ∧ kcC q13 = 2 := ⟨aq13, bq13⟩
  have hF := hW.free hS hA
  refine va_calli (va_runV (C := R_Scn) (As := []) (rest := []) ⟨hx, hb, hml, hown, hT⟩ (k_Scn_next l dC dI cI cB cJ cZ ad NN E tM tC kK kV hNN H.size q13 x fq13 hw) ⟨callB_of 0 hT (gwt_in w_4_110) rfl rfl rfl (hT _ w_1_4) (hT _ w_7_148) (by decide +kernel) ⟨Nat.le_trans (Nat.le_of_ble_eq_true rfl) hRf, Nat.le_trans (Nat.le_of_ble_eq_true rfl) hRl⟩, hT _ w_4_108, hT _ w_4_109⟩ ⟨PVc.blind, va_recv hK hW.1 (ci := 2) (q0 := q13) rfl (pic_obj fq13.1 fq13.2 (by decide)), PVc.at _ hW hK hN hE hS hF⟩ rfl rfl hl.1 rfl (lv_room (Nat.le_of_ble_eq_true rfl)) d_Qry_readTest_4 ⟨hRc, hRs⟩) hS (fun q _ h => hF q h) hF (fun r15 x14 t H locs ht hvm hw hB hz1 hk1 hS => ?_)
  have hW := Wd.back hB ht hF
  clear hB ht hF hz1 hk1 hvm
  refine lv_pop hx hb d_Qry_readTest_7 rfl ?_
  refine lv_aload_n hx hb d_Qry_readTest_8 rfl (lv_at hl 0 rfl) ?_
  obtain ⟨q16, hq16, hw⟩ := hw
  refine w_getr (q := q16) (k := 17) (t := 9) (C := R_Qry) (T := F_Qry) (N := 20) hx hb hT hown hK hW fo.1 fo.2 (by decide) in_Qry rfl rfl (by decide) rfl fr_Qry_17 w_3_105 d_Qry_readTest_9 hq16 (fun aq16 bq16 => ?_)
  have fq16 : q16 < NN ∧ kcC q16 = 2 := ⟨aq16, bq16⟩
  refine w_geti (k := 2) (t := 2) (C := R_Scn) (T := F_Scn) (N := 8) hx hb hT hown hK hW fq16.1 fq16.2 (by decide) in_Scn rfl rfl (by decide) rfl fr_Scn_2 w_1_86 d_Qry_readTest_12 ?_
  refine lv_topi (fun v17 ev17 => ?_)
  have hw := hw v17 ev17
  refine lv_istore_n (lv' := [(2, .int v17), (0, .ref (ad o)), (1, .int l1)]) hx hb d_Qry_readTest_15 rfl hl (by decide) rfl (fun ls hl => ?_)
  refine lv_aload_n hx hb d_Qry_readTest_16 rfl (lv_at hl 1 rfl) ?_
  obtain ⟨q18, hq18, hw⟩ := hw
  refine w_getr (q := q18) (k := 17) (t := 9) (C := R_Qry) (T := F_Qry) (N := 20) hx hb hT hown hK hW fo.1 fo.2 (by decide) in_Qry rfl rfl (by decide) rfl fr_Qry_17 w_3_105 d_Qry_readTest_17 hq18 (fun aq18 bq18 => ?_)
  have fq18 : q18 < NN ∧ kcC q18 = 2 := ⟨aq18, bq18⟩
  refine va_ldcS hx hb hown (hE.str 23 (by decide)) d_Qry_readTest_20 ?_
  have hF := hW.free hS hA
  refine va_calli (va_runV (C := R_Scn) (As := [.ref (kK 20)]) (rest := []) ⟨hx, hb, hml, hown, hT⟩ (k_Scn_takeWord l dC dI cI cB cJ cZ ad NN E tM tC kK kV hNN H.size q18 20 x14 fq18 (by decide) hw) ⟨callB_of 1 hT (gwt_in w_4_141) rfl rfl rfl (hT _ w_1_4) (hT _ w_7_159) (by decide +kernel) ⟨Nat.le_trans (Nat.le_of_ble_eq_true rfl) hRf, Nat.le_trans (Nat.le_of_ble_eq_true rfl) hRl⟩, hT _ w_4_139, hT _ w_4_140⟩ ⟨PVc.blind, va_recv hK hW.1 (ci := 2) (q0 := q18) rfl (pic_obj fq18.1 fq18.2 (by decide)), PVc.at _ hW hK hN hE hS hF⟩ rfl rfl hl.1 rfl (lv_room (Nat.le_of_ble_eq_true rfl)) d_Qry_readTest_22 ⟨hRc, hRs⟩) hS (fun q _ h => hF q h) hF (fun r20 x19 t H locs ht hvm hw hB hz1 hk1 hS => ?_)
  have hW := Wd.back hB ht hF
  clear hB ht hF hz1 hk1 hvm
  refine lv_istore_n (lv' := [(3, .int r20), (2, .int v17), (0, .ref (ad o)), (1, .int l1)]) hx hb d_Qry_readTest_25 rfl hl (by decide) rfl (fun ls hl => ?_)
  refine lv_iload_n hx hb d_Qry_readTest_26 rfl (lv_at hl 0 rfl) ?_
  refine lv_if_ne (tgt := 42) hx hb d_Qry_readTest_27 (by decide) (fun c21 => ?_) (fun c21 => ?_)
  · have hw := hw.1 c21
    exact t_Qry_readTest_42 hx hb hml hown hT hK hN hA hRc hRs hRf hRl hNN hE hret hs_Qry_readCondition hs_Qry_readTest hDf hDl  o l1 v17 r20 x19 H locs ls fo hw hW hS (lv_sub hl [2, 3, 1, 0] rfl)
  · have hw := hw.2 c21
    refine lv_aload_n hx hb d_Qry_readTest_30 rfl (lv_at hl 2 rfl) ?_
    obtain ⟨q22, hq22, hw⟩ := hw
    refine w_getr (q := q22) (k := 17) (t := 9) (C := R_Qry) (T := F_Qry) (N := 20) hx hb hT hown hK hW fo.1 fo.2 (by decide) in_Qry rfl rfl (by decide) rfl fr_Qry_17 w_3_105 d_Qry_readTest_31 hq22 (fun aq22 bq22 => ?_)
    have fq22 : q22 < NN ∧ kcC q22 = 2 := ⟨aq22, bq22⟩
    refine lv_bipush (v := 40) hx hb d_Qry_readTest_34 (by decide) ?_
    have hF := hW.free hS hA
    refine va_calli (va_runV (C := R_Scn) (As := [.int 40]) (rest := []) ⟨hx, hb, hml, hown, hT⟩ (k_Scn_takeSign l dC dI cI cB cJ cZ ad NN E tM tC kK kV hNN H.size q22 40 x19 fq22 hw) ⟨callB_of 1 hT (gwt_in w_4_123) rfl rfl rfl (hT _ w_1_4) (hT _ w_7_199) (by decide +kernel) ⟨Nat.le_trans (Nat.le_of_ble_eq_true rfl) hRf, Nat.le_trans (Nat.le_of_ble_eq_true rfl) hRl⟩, hT _ w_4_121, hT _ w_4_122⟩ ⟨PVc.blind, va_recv hK hW.1 (ci := 2) (q0 := q22) rfl (pic_obj fq22.1 fq22.2 (by decide)), PVc.at _ hW hK hN hE hS hF⟩ rfl rfl hl.1 rfl (lv_room (Nat.le_of_ble_eq_true rfl)) d_Qry_readTest_36 ⟨hRc, hRs⟩) hS (fun q _ h => hF q h) hF (fun r24 x23 t H locs ht hvm hw hB hz1 hk1 hS => ?_)
    have hW := Wd.back hB ht hF
    clear hB ht hF hz1 hk1 hvm
    refine lv_if_eq (tgt := 100) hx hb d_Qry_readTest_39 (by decide) (fun c25 => ?_) (fun c25 => ?_)
    · have hw := hw.1 c25
      refine lv_aload_n hx hb d_Qry_readTest_100 rfl (lv_at hl 2 rfl) ?_
      have hF := hW.free hS hA
      refine va_calli (va_runV (C := R_Qry) (As := []) (rest := []) ⟨hx, hb, hml, hown, hT⟩ (k_Qry_readColumn l dC dI cI cB cJ cZ ad NN E tM tC kK kV hNN H.size o x23 fo hw) ⟨callB_of 0 hT (gwt_in w_7_191) rfl rfl rfl (hT _ w_1_12) (hT _ w_7_188) (by decide +kernel) ⟨Nat.le_trans (Nat.le_of_ble_eq_true rfl) hRf, Nat.le_trans (Nat.le_of_ble_eq_true rfl) hRl⟩, hT _ w_7_190, hT _ ws_73⟩ ⟨PVc.blind, va_recv hK hW.1 (ci := 9) (q0 := o) rfl (pic_obj fo.1 fo.2 (by decide)), PVc.at _ hW hK hN hE hS hF⟩ rfl rfl hl.1 rfl (lv_room (Nat.le_of_ble_eq_true rfl)) d_Qry_readTest_101 ⟨hRc, hRs⟩) hS (fun q _ h => hF q h) hF (fun r27 x26 t H locs ht hvm hw hB hz1 hk1 hS => ?_)
      have hW := Wd.back hB ht hF
      clear hB ht hF hz1 hk1 hvm
      refine lv_istore (lv' := [(4, .int r27), (3, .int r20), (2, .int v17), (0, .ref (ad o)), (1, .int l1)]) hx hb d_Qry_readTest_104 hl (by decide) rfl (fun ls hl => ?_)
      refine lv_aload_n hx hb d_Qry_readTest_106 rfl (lv_at hl 3 rfl) ?_
      obtain ⟨q28, hq28, hw⟩ := hw
      refine w_getr (q := q28) (k := 17) (t := 9) (C := R_Qry) (T := F_Qry) (N := 20) hx hb hT hown hK hW fo.1 fo.2 (by decide) in_Qry rfl rfl (by decide) rfl fr_Qry_17 w_3_105 d_Qry_readTest_107 hq28 (fun aq28 bq28 => ?_)
      have fq28 : q28 < NN ∧ kcC q28 = 2 := ⟨aq28, bq28⟩
      have hF := hW.free hS hA
      refine va_calli (va_runV (C := R_Scn) (As := []) (rest := []) ⟨hx, hb, hml, hown, hT⟩ (k_Scn_good l dC dI cI cB cJ cZ ad NN E tM tC kK kV hNN H.size q28 x26 fq28 hw) ⟨callB_of 0 hT (gwt_in w_4_106) rfl rfl rfl (hT _ w_1_4) (hT _ w_7_147) (by decide +kernel) ⟨Nat.le_trans (Nat.le_of_ble_eq_true rfl) hRf, Nat.le_trans (Nat.le_of_ble_eq_true rfl) hRl⟩, hT _ w_4_104, hT _ w_4_105⟩ ⟨PVc.blind, va_recv hK hW.1 (ci := 2) (q0 := q28) rfl (pic_obj fq28.1 fq28.2 (by decide)), PVc.at _ hW hK hN hE hS hF⟩ rfl rfl hl.1 rfl (lv_room (Nat.le_of_ble_eq_true rfl)) d_Qry_readTest_110 ⟨hRc, hRs⟩) hS (fun q _ h => hF q h) hF (fun r30 x29 t H locs ht hvm hw hB hz1 hk1 hS => ?_)
      have hW := Wd.back hB ht hF
      clear hB ht hF hz1 hk1 hvm
      refine lv_if_ne (tgt := 117) hx hb d_Qry_readTest_113 (by decide) (fun c31 => ?_) (fun c31 => ?_)
      · have hw := hw.1 c31
        refine lv_aload_n hx hb d_Qry_readTest_117 rfl (lv_at hl 3 rfl) ?_
        obtain ⟨q32, hq32, hw⟩ := hw
        refine w_getr (q := q32) (k := 18) (t := 9) (C := R_Qry) (T := F_Qry) (N := 20) hx hb hT hown hK hW fo.1 fo.2 (by decide) in_Qry rfl rfl (by decide) rfl fr_Qry_18 w_3_106 d_Qry_readTest_118 hq32 (fun aq32 bq32 => ?_)
        have fq32 : q32 < NN ∧ kcC q32 = 3 := ⟨aq32, bq32⟩
        refine w_getf (q := (stC q32 9)) (k := 9) (t := 3) (C := R_Sch) (T := F_Sch) (N := 13) hx hb hT hown hK hW fq32.1 fq32.2 (by decide) in_Sch rfl rfl (by decide) rfl fr_Sch_9 w_1_177 d_Qry_readTest_121 rfl ?_
        refine lv_iload hx hb d_Qry_readTest_124 (lv_at hl 0 rfl) ?_
        obtain ⟨hi, hw⟩ := hw
        refine w_iald (o := (stC q32 9)) hx hb hK hW (st_ty hNN fq32.1 fq32.2 rfl).1 (st_ty hNN fq32.1 fq32.2 rfl).2 hi d_Qry_readTest_126 ?_
        refine lv_topi (fun v33 ev33 => ?_)
        have hw := hw v33 ev33
        refine lv_istore (lv' := [(5, .int v33), (4, .int r27), (3, .int r20), (2, .int v17), (0, .ref (ad o)), (1, .int l1)]) hx hb d_Qry_readTest_127 hl (by decide) rfl (fun ls hl => ?_)
        refine lv_aload_n hx hb d_Qry_readTest_129 rfl (lv_at hl 4 rfl) ?_
        obtain ⟨q34, hq34, hw⟩ := hw
        refine w_getr (q := q34) (k := 17) (t := 9) (C := R_Qry) (T := F_Qry) (N := 20) hx hb hT hown hK hW fo.1 fo.2 (by decide) in_Qry rfl rfl (by decide) rfl fr_Qry_17 w_3_105 d_Qry_readTest_130 hq34 (fun aq34 bq34 => ?_)
        have fq34 : q34 < NN ∧ kcC q34 = 2 := ⟨aq34, bq34⟩
        refine va_ldcS hx hb hown (hE.str 24 (by decide)) d_Qry_readTest_133 ?_
        have hF := hW.free hS hA
        refine va_calli (va_runV (C := R_Scn) (As := [.ref (kK 21)]) (rest := []) ⟨hx, hb, hml, hown, hT⟩ (k_Scn_takeWord l dC dI cI cB cJ cZ ad NN E tM tC kK kV hNN H.size q34 21 x29 fq34 (by decide) hw) ⟨callB_of 1 hT (gwt_in w_4_141) rfl rfl rfl (hT _ w_1_4) (hT _ w_7_159) (by decide +kernel) ⟨Nat.le_trans (Nat.le_of_ble_eq_true rfl) hRf, Nat.le_trans (Nat.le_of_ble_eq_true rfl) hRl⟩, hT _ w_4_139, hT _ w_4_140⟩ ⟨PVc.blind, va_recv hK hW.1 (ci := 2) (q0 := q34) rfl (pic_obj fq34.1 fq34.2 (by decide)), PVc.at _ hW hK hN hE hS hF⟩ rfl rfl hl.1 rfl (lv_room (Nat.le_of_ble_eq_true rfl)) d_Qry_readTest_135 ⟨hRc, hRs⟩) hS (fun q _ h => hF q h) hF (fun r36 x35 t H locs ht hvm hw hB hz1 hk1 hS => ?_)
        have hW := Wd.back hB ht hF
        clear hB ht hF hz1 hk1 hvm
        refine lv_if_eq (tgt := 185) hx hb d_Qry_readTest_138 (by decide) (fun c37 => ?_) (fun c37 => ?_)
        · have hw := hw.1 c37
          refine lv_aload_n hx hb d_Qry_readTest_185 rfl (lv_at hl 4 rfl) ?_
          obtain ⟨q38, hq38, hw⟩ := hw
          refine w_getr (q := q38) (k := 17) (t := 9) (C := R_Qry) (T := F_Qry) (N := 20) hx hb hT hown hK hW fo.1 fo.2 (by decide) in_Qry rfl rfl (by decide) rfl fr_Qry_17 w_3_105 d_Qry_readTest_186 hq38 (fun aq38 bq38 => ?_)
          have fq38 : q38 < NN ∧ kcC q38 = 2 := ⟨aq38, bq38⟩
          refine va_ldcS hx hb hown (hE.str 26 (by decide)) d_Qry_readTest_189 ?_
          have hF := hW.free hS hA
          refine va_calli (va_runV (C := R_Scn) (As := [.ref (kK 23)]) (rest := []) ⟨hx, hb, hml, hown, hT⟩ (k_Scn_takeWord l dC dI cI cB cJ cZ ad NN E tM tC kK kV hNN H.size q38 23 x35 fq38 (by decide) hw) ⟨callB_of 1 hT (gwt_in w_4_141) rfl rfl rfl (hT _ w_1_4) (hT _ w_7_159) (by decide +kernel) ⟨Nat.le_trans (Nat.le_of_ble_eq_true rfl) hRf, Nat.le_trans (Nat.le_of_ble_eq_true rfl) hRl⟩, hT _ w_4_139, hT _ w_4_140⟩ ⟨PVc.blind, va_recv hK hW.1 (ci := 2) (q0 := q38) rfl (pic_obj fq38.1 fq38.2 (by decide)), PVc.at _ hW hK hN hE hS hF⟩ rfl rfl hl.1 rfl (lv_room (Nat.le_of_ble_eq_true rfl)) d_Qry_readTest_191 ⟨hRc, hRs⟩) hS (fun q _ h => hF q h) hF (fun r40 x39 t H locs ht hvm hw hB hz1 hk1 hS => ?_)
          have hW := Wd.back hB ht hF
          clear hB ht hF hz1 hk1 hvm
          refine lv_if_eq (tgt := 238) hx hb d_Qry_readTest_194 (by decide) (fun c41 => ?_) (fun c41 => ?_)
          · have hw := hw.1 c41
            refine lv_aload_n hx hb d_Qry_readTest_238 rfl (lv_at hl 4 rfl) ?_
            refine lv_iload hx hb d_Qry_readTest_239 (lv_at hl 1 rfl) ?_
            refine lv_iload_n hx hb d_Qry_readTest_241 rfl (lv_at hl 3 rfl) ?_
            have hF := hW.free hS hA
            refine va_callv (va_runV (C := R_Qry) (As := [.int r27, .int v17]) (rest := []) ⟨hx, hb, hml, hown, hT⟩ (k_Qry_readComparison l dC dI cI cB cJ cZ ad NN E tM tC kK kV hNN H.size o r27 v17 x39 fo hw) ⟨callB_of 2 hT (gwt_in w_7_227) rfl rfl rfl (hT _ w_1_12) (hT _ w_7_224) (by decide +kernel) ⟨Nat.le_trans (Nat.le_of_ble_eq_true rfl) hRf, Nat.le_trans (Nat.le_of_ble_eq_true rfl) hRl⟩, hT _ w_7_226, hT _ ws_79⟩ ⟨PVc.blind, va_recv hK hW.1 (ci := 9) (q0 := o) rfl (pic_obj fo.1 fo.2 (by decide)), PVc.at _ hW hK hN hE hS hF⟩ rfl rfl hl.1 rfl (lv_room (Nat.le_of_ble_eq_true rfl)) d_Qry_readTest_242 ⟨hRc, hRs⟩) hS (fun q _ h => hF q h) hF (fun  x42 t H locs ht hvm hw hB hz1 hk1 hS => ?_)
            have hW := Wd.back hB ht hF
            clear hB ht hF hz1 hk1 hvm
            exact hret x42 H locs 245 ls d_Qry_readTest_245 hw hW hS
          · have hw := hw.2 c41
            refine lv_aload_n hx hb d_Qry_readTest_197 rfl (lv_at hl 4 rfl) ?_
            refine w_geti (k := 13) (t := 9) (C := R_Qry) (T := F_Qry) (N := 20) hx hb hT hown hK hW fo.1 fo.2 (by decide) in_Qry rfl rfl (by decide) rfl fr_Qry_13 w_3_99 d_Qry_readTest_198 ?_
            refine lv_topi (fun v43 ev43 => ?_)
            have hw := hw v43 ev43
            refine lv_istore (lv' := [(6, .int v43), (5, .int v33), (4, .int r27), (3, .int r20), (2, .int v17), (0, .ref (ad o)), (1, .int l1)]) hx hb d_Qry_readTest_201 hl (by decide) rfl (fun ls hl => ?_)
            refine lv_aload_n hx hb d_Qry_readTest_203 rfl (lv_at hl 5 rfl) ?_
            refine lv_aload_n hx hb d_Qry_readTest_204 rfl (lv_at hl 5 rfl) ?_
            obtain ⟨q44, hq44, hw⟩ := hw
            refine w_getr (q := q44) (k := 18) (t := 9) (C := R_Qry) (T := F_Qry) (N := 20) hx hb hT hown hK hW fo.1 fo.2 (by decide) in_Qry rfl rfl (by decide) rfl fr_Qry_18 w_3_106 d_Qry_readTest_205 hq44 (fun aq44 bq44 => ?_)
            have fq44 : q44 < NN ∧ kcC q44 = 3 := ⟨aq44, bq44⟩
            refine w_getf (q := (stC q44 3)) (k := 3) (t := 3) (C := R_Sch) (T := F_Sch) (N := 13) hx hb hT hown hK hW fq44.1 fq44.2 (by decide) in_Sch rfl rfl (by decide) rfl fr_Sch_3 w_1_149 d_Qry_readTest_208 rfl ?_
            refine lv_iload hx hb d_Qry_readTest_211 (lv_at hl 2 rfl) ?_
            obtain ⟨hi, hw⟩ := hw
            refine w_iald (o := (stC q44 3)) hx hb hK hW (st_ty hNN fq44.1 fq44.2 rfl).1 (st_ty hNN fq44.1 fq44.2 rfl).2 hi d_Qry_readTest_213 ?_
            have hF := hW.free hS hA
            refine va_callv (va_runV (C := R_Qry) (As := [.int (rA x39 (stC q44 3) r27)]) (rest := []) ⟨hx, hb, hml, hown, hT⟩ (k_Qry_readList l dC dI cI cB cJ cZ ad NN E tM tC kK kV hNN H.size o (rA x39 (stC q44 3) r27) x39 fo hw) ⟨callB_of 1 hT (gwt_in w_7_215) rfl rfl rfl (hT _ w_1_12) (hT _ w_7_212) (by decide +kernel) ⟨Nat.le_trans (Nat.le_of_ble_eq_true rfl) hRf, Nat.le_trans (Nat.le_of_ble_eq_true rfl) hRl⟩, hT _ w_7_214, hT _ ws_77⟩ ⟨PVc.blind, va_recv hK hW.1 (ci := 9) (q0 := o) rfl (pic_obj fo.1 fo.2 (by decide)), PVc.at _ hW hK hN hE hS hF⟩ rfl rfl hl.1 rfl (lv_room (Nat.le_of_ble_eq_true rfl)) d_Qry_readTest_214 ⟨hRc, hRs⟩) hS (fun q _ h => hF q h) hF (fun  x45 t H locs ht hvm hw hB hz1 hk1 hS => ?_)
            have hW := Wd.back hB ht hF
            clear hB ht hF hz1 hk1 hvm
            refine lv_aload_n hx hb d_Qry_readTest_217 rfl (lv_at hl 5 rfl) ?_
            refine lv_bipush (v := 8) hx hb d_Qry_readTest_218 (by decide) ?_
            refine lv_iload_n hx hb d_Qry_readTest_220 rfl (lv_at hl 4 rfl) ?_
            refine lv_iload hx hb d_Qry_readTest_221 (lv_at hl 1 rfl) ?_
            refine lv_iload hx hb d_Qry_readTest_223 (lv_at hl 0 rfl) ?_
            refine lv_aload_n hx hb d_Qry_readTest_225 rfl (lv_at hl 5 rfl) ?_
            refine w_geti (k := 13) (t := 9) (C := R_Qry) (T := F_Qry) (N := 20) hx hb hT hown hK hW fo.1 fo.2 (by decide) in_Qry rfl rfl (by decide) rfl fr_Qry_13 w_3_99 d_Qry_readTest_226 ?_
            refine lv_iload hx hb d_Qry_readTest_229 (lv_at hl 0 rfl) ?_
            refine lv_isub hx hb d_Qry_readTest_231 ?_
            have hF := hW.free hS hA
            refine va_callv (va_runV (C := R_Qry) (As := [.int 8, .int v17, .int v33, .int v43, .int ((fI x45 o 13) - v43)]) (rest := []) ⟨hx, hb, hml, hown, hT⟩ (k_Qry_addStep l dC dI cI cB cJ cZ ad NN E tM tC kK kV hNN H.size o 8 v17 v33 v43 ((fI x45 o 13) - v43) x45 fo hw) ⟨callB_of 5 hT (gwt_in w_7_211) rfl rfl rfl (hT _ w_1_12) (hT _ w_7_208) (by decide +kernel) ⟨Nat.le_trans (Nat.le_of_ble_eq_true rfl) hRf, Nat.le_trans (Nat.le_of_ble_eq_true rfl) hRl⟩, hT _ w_7_210, hT _ ws_76⟩ ⟨PVc.blind, va_recv hK hW.1 (ci := 9) (q0 := o) rfl (pic_obj fo.1 fo.2 (by decide)), PVc.at _ hW hK hN hE hS hF⟩ rfl rfl hl.1 rfl (lv_room (Nat.le_of_ble_eq_true rfl)) d_Qry_readTest_232 ⟨hRc, hRs⟩) hS (fun q _ h => hF q h) hF (fun  x46 t H locs ht hvm hw hB hz1 hk1 hS => ?_)
            have hW := Wd.back hB ht hF
            clear hB ht hF hz1 hk1 hvm
            refine lv_goto (tgt := 245) hx hb d_Qry_readTest_235 (by decide) ?_
            exact hret x46 H locs 245 ls d_Qry_readTest_245 hw hW hS
        · have hw := hw.2 c37
          refine lv_aload_n hx hb d_Qry_readTest_141 rfl (lv_at hl 4 rfl) ?_
          obtain ⟨q47, hq47, hw⟩ := hw
          refine w_getr (q := q47) (k := 17) (t := 9) (C := R_Qry) (T := F_Qry) (N := 20) hx hb hT hown hK hW fo.1 fo.2 (by decide) in_Qry rfl rfl (by decide) rfl fr_Qry_17 w_3_105 d_Qry_readTest_142 hq47 (fun aq47 bq47 => ?_)
          have fq47 : q47 < NN ∧ kcC q47 = 2 := ⟨aq47, bq47⟩
          refine va_ldcS hx hb hown (hE.str 23 (by decide)) d_Qry_readTest_145 ?_
          have hF := hW.free hS hA
          refine va_calli (va_runV (C := R_Scn) (As := [.ref (kK 20)]) (rest := []) ⟨hx, hb, hml, hown, hT⟩ (k_Scn_takeWord l dC dI cI cB cJ cZ ad NN E tM tC kK kV hNN H.size q47 20 x35 fq47 (by decide) hw) ⟨callB_of 1 hT (gwt_in w_4_141) rfl rfl rfl (hT _ w_1_4) (hT _ w_7_159) (by decide +kernel) ⟨Nat.le_trans (Nat.le_of_ble_eq_true rfl) hRf, Nat.le_trans (Nat.le_of_ble_eq_true rfl) hRl⟩, hT _ w_4_139, hT _ w_4_140⟩ ⟨PVc.blind, va_recv hK hW.1 (ci := 2) (q0 := q47) rfl (pic_obj fq47.1 fq47.2 (by decide)), PVc.at _ hW hK hN hE hS hF⟩ rfl rfl hl.1 rfl (lv_room (Nat.le_of_ble_eq_true rfl)) d_Qry_readTest_147 ⟨hRc, hRs⟩) hS (fun q _ h => hF q h) hF (fun r49 x48 t H locs ht hvm hw hB hz1 hk1 hS => ?_)
          have hW := Wd.back hB ht hF
          clear hB ht hF hz1 hk1 hvm
          refine lv_if_eq (tgt := 158) hx hb d_Qry_readTest_150 (by decide) (fun c50 => ?_) (fun c50 => ?_)
          · have hw := hw.1 c50
            refine lv_bipush (v := 6) hx hb d_Qry_readTest_158 (by decide) ?_
            exact t_Qry_readTest_160 hx hb hml hown hT hK hN hA hRc hRs hRf hRl hNN hE hret hs_Qry_readCondition hs_Qry_readTest hDf hDl  o l1 v17 r20 r27 v33 6 x48 H locs ls fo hw hW hS (lv_sub hl [4, 5, 3, 2, 1, 0] rfl)
          · have hw := hw.2 c50
            refine lv_bipush (v := 7) hx hb d_Qry_readTest_153 (by decide) ?_
            refine lv_goto (tgt := 160) hx hb d_Qry_readTest_155 (by decide) ?_
            exact t_Qry_readTest_160 hx hb hml hown hT hK hN hA hRc hRs hRf hRl hNN hE hret hs_Qry_readCondition hs_Qry_readTest hDf hDl  o l1 v17 r20 r27 v33 7 x48 H locs ls fo hw hW hS (lv_sub hl [4, 5, 3, 2, 1, 0] rfl)
      · have hw := hw.2 c31
        exact hret x29 H locs 116 ls d_Qry_readTest_116 hw hW hS
    · have hw := hw.2 c25
      exact t_Qry_readTest_42 hx hb hml hown hT hK hN hA hRc hRs hRf hRl hNN hE hret hs_Qry_readCondition hs_Qry_readTest hDf hDl  o l1 v17 r20 x23 H locs ls fo hw hW hS (lv_sub hl [2, 3, 1, 0] rfl)
set_option maxHeartbeats 4000000 in
set_option maxRecDepth 100000 in
theorem kr_Qry_readCondition (l : Launch) (dC : Nat → ClassId) (dI : Nat → Nat → Nat) (cI cB cJ cZ : ClassId) (ad : Nat → Nat) (NN : Nat) (E : Heap) (tM tC : Nat) (kK kV : Nat → Nat) (hNN : 152 ≤ NN) : ∀ d : Nat, (∀ (sz : Nat) (o : Nat) (l1 : Int32) (x : St), (o < NN ∧ kcC o = 9) → ∀ (post : St → Prop), ((wr_Qry_readCondition d)).1 post o l1 x → Met l y_Qry_readCondition (wsOf y_Qry_readCondition b_Qry_readCondition 6 (none)) ({ frames := 9 + d, cells := 0, slots := 0, locals := 314 + d * 26 }) (va_Pc [.ref (ad o), .int l1] (PVc dC dI cI cB cJ cZ ad stC kcC NN E tM tC kK kV sz x)) (va_Qv (fun (y : St) => post y) (fun y t => Wd dC dI cI cB cJ cZ ad stC kcC NN (va_A (pic ad stC kcC NN cI cB cJ cZ x) sz) y t.heap) (va_A (pic ad stC kcC NN cI cB cJ cZ x) sz)) 0 0 (va_A (pic ad stC kcC NN cI cB cJ cZ x) sz)) ∧ (∀ (sz : Nat) (o : Nat) (l1 : Int32) (x : St), (o < NN ∧ kcC o = 9) → ∀ (post : St → Prop), ((wr_Qry_readCondition d)).2 post o l1 x → Met l y_Qry_readTest (wsOf y_Qry_readTest b_Qry_readTest 7 (none)) ({ frames := 9 + d, cells := 0, slots := 0, locals := 314 + d * 26 }) (va_Pc [.ref (ad o), .int l1] (PVc dC dI cI cB cJ cZ ad stC kcC NN E tM tC kK kV sz x)) (va_Qv (fun (y : St) => post y) (fun y t => Wd dC dI cI cB cJ cZ ad stC kcC NN (va_A (pic ad stC kcC NN cI cB cJ cZ x) sz) y t.heap) (va_A (pic ad stC kcC NN cI cB cJ cZ x) sz)) 0 0 (va_A (pic ad stC kcC NN cI cB cJ cZ x) sz)) := by
  intro d
  induction d with
  | zero =>
    exact ⟨fun sz o l1 x fo post hw => hw.elim, fun sz o l1 x fo post hw => hw.elim⟩
  | succ d ih =>
    refine ⟨?_, ?_⟩
    · intro sz o l1 x fo post hw
      have hw : wb_Qry_readCondition post ((wr_Qry_readCondition d)).1 ((wr_Qry_readCondition d)).2 o l1 x := hw
      refine Met.ofW (cc := b_Qry_readCondition) (maxL := 6) (ret := none) (by decide) rfl ?_
      intro p e s m args below meth c s₁ B hml hv
      obtain ⟨rfl, ⟨hsz, hW0, hK, hN⟩, hE⟩ := hv
      have hx := B.exec
      have hb := B.bytes
      have hr := B.returns
      have hts := atoms_spec B.pre
      have hT : ∀ w ∈ TG, w.before _ s = true := fun w h => hts w (List.mem_cons_of_mem _ h)
      have hown : s.vm.findClass R_Qry = some m.cls := findClass_of_methodNamed B.named
      have hlocks := B.notSynchronized
      subst hsz
      have hW : Wd dC dI cI cB cJ cZ ad stC kcC NN (va_A (pic ad stC kcC NN cI cB cJ cZ x) s.heap.size) x s.heap := ⟨hW0.1, hW0.2.1.self (sz := s.heap.size), hW0.2.2⟩
      generalize hAe : va_A (pic ad stC kcC NN cI cB cJ cZ x) s.heap.size = A at hW hE ⊢
      have hA : ∀ q : Nat, s.heap.size ≤ q → A q := fun q h => by rw [← hAe]; exact Or.inr h
      have hS : va_S A s.heap s.heap [] := va_S.rf
      have hl := lv_entry ([.ref (ad o), .int l1]) (n := 6) (Nat.le_of_ble_eq_true rfl)
      rw [lg_entry_eq]
      generalize (lg_sl ([.ref (ad o), .int l1]) ++ List.replicate (6 - (lg_sl ([.ref (ad o), .int l1])).length) Slot.unset).toArray = ls at hl ⊢
      have hl : lv_has ls 6 [(0, .ref (ad o)), (1, .int l1)] := hl
      exact t_Qry_readCondition_e hx hb hml hown hT hK hN hA (Nat.le_refl 0) (Nat.le_refl 0) (Nat.le_add_right 9 (d + 1)) (Nat.le_add_right 314 ((d + 1) * 26)) hNN hE (fun x H locs pc ls hd hp hW hS => W.vret hx hb hr (fun t ht hM => ⟨⟨x, rfl, hp, Wd.back hW ht.symm (fun _ z => z)⟩, hS.F ht⟩) hS.2.2 hd hlocks) (ih).1 (ih).2 (Nat.le_of_eq (Nat.add_assoc 9 d 1)) (by show 26 + (314 + d * 26) ≤ 314 + (d + 1) * 26; omega) o l1 x _ _ ls fo hw hW hS hl
    · intro sz o l1 x fo post hw
      have hw : wb_Qry_readTest post ((wr_Qry_readCondition d)).1 ((wr_Qry_readCondition d)).2 o l1 x := hw
      refine Met.ofW (cc := b_Qry_readTest) (maxL := 7) (ret := none) (by decide) rfl ?_
      intro p e s m args below meth c s₁ B hml hv
      obtain ⟨rfl, ⟨hsz, hW0, hK, hN⟩, hE⟩ := hv
      have hx := B.exec
      have hb := B.bytes
      have hr := B.returns
      have hts := atoms_spec B.pre
      have hT : ∀ w ∈ TG, w.before _ s = true := fun w h => hts w (List.mem_cons_of_mem _ h)
      have hown : s.vm.findClass R_Qry = some m.cls := findClass_of_methodNamed B.named
      have hlocks := B.notSynchronized
      subst hsz
      have hW : Wd dC dI cI cB cJ cZ ad stC kcC NN (va_A (pic ad stC kcC NN cI cB cJ cZ x) s.heap.size) x s.heap := ⟨hW0.1, hW0.2.1.self (sz := s.heap.size), hW0.2.2⟩
      generalize hAe : va_A (pic ad stC kcC NN cI cB cJ cZ x) s.heap.size = A at hW hE ⊢
      have hA : ∀ q : Nat, s.heap.size ≤ q → A q := fun q h => by rw [← hAe]; exact Or.inr h
      have hS : va_S A s.heap s.heap [] := va_S.rf
      have hl := lv_entry ([.ref (ad o), .int l1]) (n := 7) (Nat.le_of_ble_eq_true rfl)
      rw [lg_entry_eq]
      generalize (lg_sl ([.ref (ad o), .int l1]) ++ List.replicate (7 - (lg_sl ([.ref (ad o), .int l1])).length) Slot.unset).toArray = ls at hl ⊢
      have hl : lv_has ls 7 [(0, .ref (ad o)), (1, .int l1)] := hl
      exact t_Qry_readTest_e hx hb hml hown hT hK hN hA (Nat.le_refl 0) (Nat.le_refl 0) (Nat.le_add_right 9 (d + 1)) (Nat.le_add_right 314 ((d + 1) * 26)) hNN hE (fun x H locs pc ls hd hp hW hS => W.vret hx hb hr (fun t ht hM => ⟨⟨x, rfl, hp, Wd.back hW ht.symm (fun _ z => z)⟩, hS.F ht⟩) hS.2.2 hd hlocks) (ih).1 (ih).2 (Nat.le_of_eq (Nat.add_assoc 9 d 1)) (by show 26 + (314 + d * 26) ≤ 314 + (d + 1) * 26; omega) o l1 x _ _ ls fo hw hW hS hl

theorem k_Qry_readCondition (l : Launch) (dC : Nat → ClassId) (dI : Nat → Nat → Nat) (cI cB cJ cZ : ClassId) (ad : Nat → Nat) (NN : Nat) (E : Heap) (tM tC : Nat) (kK kV : Nat → Nat) (hNN : 152 ≤ NN) (sz : Nat) (o : Nat) (l1 : Int32) (x : St) (fo : o < NN ∧ kcC o = 9) {post : St → Prop} (hw : wp_Qry_readCondition post o l1 x) : Met l y_Qry_readCondition (wsOf y_Qry_readCondition b_Qry_readCondition 6 (none)) ({ frames := 209, cells := 0, slots := 0, locals := 5514 }) (va_Pc [.ref (ad o), .int l1] (PVc dC dI cI cB cJ cZ ad stC kcC NN E tM tC kK kV sz x)) (va_Qv (fun (y : St) => post y) (fun y t => Wd dC dI cI cB cJ cZ ad stC kcC NN (va_A (pic ad stC kcC NN cI cB cJ cZ x) sz) y t.heap) (va_A (pic ad stC kcC NN cI cB cJ cZ x) sz)) 0 0 (va_A (pic ad stC kcC NN cI cB cJ cZ x) sz) := ((kr_Qry_readCondition l dC dI cI cB cJ cZ ad NN E tM tC kK kV hNN 200)).1 sz o l1 x fo post hw
theorem k_Qry_readTest (l : Launch) (dC : Nat → ClassId) (dI : Nat → Nat → Nat) (cI cB cJ cZ : ClassId) (ad : Nat → Nat) (NN : Nat) (E : Heap) (tM tC : Nat) (kK kV : Nat → Nat) (hNN : 152 ≤ NN) (sz : Nat) (o : Nat) (l1 : Int32) (x : St) (fo : o < NN ∧ kcC o = 9) {post : St → Prop} (hw : wp_Qry_readTest post o l1 x) : Met l y_Qry_readTest (wsOf y_Qry_readTest b_Qry_readTest 7 (none)) ({ frames := 209, cells := 0, slots := 0, locals := 5514 }) (va_Pc [.ref (ad o), .int l1] (PVc dC dI cI cB cJ cZ ad stC kcC NN E tM tC kK kV sz x)) (va_Qv (fun (y : St) => post y) (fun y t => Wd dC dI cI cB cJ cZ ad stC kcC NN (va_A (pic ad stC kcC NN cI cB cJ cZ x) sz) y t.heap) (va_A (pic ad stC kcC NN cI cB cJ cZ x) sz)) 0 0 (va_A (pic ad stC kcC NN cI cB cJ cZ x) sz) := ((kr_Qry_readCondition l dC dI cI cB cJ cZ ad NN E tM tC kK kV hNN 200)).2 sz o l1 x fo post hw
end
