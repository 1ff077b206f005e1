theorem w_13_101 : (Jvm.Cond.instanceMethod ({ cls := "StripedVaultModel", name := "tellWord", desc := "(J)V" } : Jvm.MethodName)) ∈ TG := tw_13 101 (by decide +kernel) (by decide +kernel)
theorem w_13_102 : (Jvm.Cond.code ({ cls := "StripedVaultModel", name := "tellWord", desc := "(J)V" } : Jvm.MethodName) prog_14_method_142_code (4 : Nat) (Option.none : Option Jvm.ClassFile.FieldType)) ∈ TG := tw_13 102 (by decide +kernel) (by decide +kernel)
theorem w_13_103 : (Jvm.Cond.methodLink "StripedVaultModel" (960 : Nat) ({ cls := "StripedVaultModel", name := "tellNumber", desc := "(J)V" } : Jvm.MethodName)) ∈ TG := tw_13 103 (by decide +kernel) (by decide +kernel)
theorem w_13_105 : (Jvm.Cond.instanceMethod ({ cls := "StripedVaultModel", name := "tellNumber", desc := "(J)V" } : Jvm.MethodName)) ∈ TG := tw_13 105 (by decide +kernel) (by decide +kernel)
theorem w_13_106 : (Jvm.Cond.code ({ cls := "StripedVaultModel", name := "tellNumber", desc := "(J)V" } : Jvm.MethodName) prog_14_method_143_code (9 : Nat) (Option.none : Option Jvm.ClassFile.FieldType)) ∈ TG := tw_13 106 (by decide +kernel) (by decide +kernel)
theorem w_13_107 : (Jvm.Cond.constantLong "StripedVaultModel" (947 : Nat) (9 : Int64)) ∈ TG := tw_13 107 (by decide +kernel) (by decide +kernel)
theorem w_13_108 : (Jvm.Cond.constantLong "StripedVaultModel" (949 : Nat) (-9 : Int64)) ∈ TG := tw_13 108 (by decide +kernel) (by decide +kernel)
theorem w_13_63 : (Jvm.Cond.methodLink "StripedVaultModel" (941 : Nat) ({ cls := "StripedVaultModel", name := "tellGroup", desc := "(I)V" } : Jvm.MethodName)) ∈ TG := tw_13 63 (by decide +kernel) (by decide +kernel)
theorem w_13_65 : (Jvm.Cond.instanceMethod ({ cls := "StripedVaultModel", name := "tellGroup", desc := "(I)V" } : Jvm.MethodName)) ∈ TG := tw_13 65 (by decide +kernel) (by decide +kernel)
theorem w_13_66 : (Jvm.Cond.code ({ cls := "StripedVaultModel", name := "tellGroup", desc := "(I)V" } : Jvm.MethodName) prog_14_method_153_code (6 : Nat) (Option.none : Option Jvm.ClassFile.FieldType)) ∈ TG := tw_13 66 (by decide +kernel) (by decide +kernel)
theorem w_13_71 : (Jvm.Cond.methodLink "StripedVaultModel" (972 : Nat) ({ cls := "StripedVaultModel", name := "columnIn", desc := "(I)I" } : Jvm.MethodName)) ∈ TG := tw_13 71 (by decide +kernel) (by decide +kernel)
theorem w_13_73 : (Jvm.Cond.instanceMethod ({ cls := "StripedVaultModel", name := "columnIn", desc := "(I)I" } : Jvm.MethodName)) ∈ TG := tw_13 73 (by decide +kernel) (by decide +kernel)
theorem w_13_74 : (Jvm.Cond.code ({ cls := "StripedVaultModel", name := "columnIn", desc := "(I)I" } : Jvm.MethodName) prog_14_method_151_code (4 : Nat) (Option.some Jvm.ClassFile.FieldType.int)) ∈ TG := tw_13 74 (by decide +kernel) (by decide +kernel)
theorem w_13_79 : (Jvm.Cond.methodLink "StripedVaultModel" (975 : Nat) ({ cls := "StripedVaultModel", name := "pass", desc := "(I)V" } : Jvm.MethodName)) ∈ TG := tw_13 79 (by decide +kernel) (by decide +kernel)
theorem w_13_81 : (Jvm.Cond.instanceMethod ({ cls := "StripedVaultModel", name := "pass", desc := "(I)V" } : Jvm.MethodName)) ∈ TG := tw_13 81 (by decide +kernel) (by decide +kernel)
theorem w_13_82 : (Jvm.Cond.code ({ cls := "StripedVaultModel", name := "pass", desc := "(I)V" } : Jvm.MethodName) prog_14_method_152_code (3 : Nat) (Option.none : Option Jvm.ClassFile.FieldType)) ∈ TG := tw_13 82 (by decide +kernel) (by decide +kernel)
theorem w_13_83 : (Jvm.Cond.methodLink "StripedVaultModel" (978 : Nat) ({ cls := "StripedVaultModel", name := "tellOne", desc := "(II)V" } : Jvm.MethodName)) ∈ TG := tw_13 83 (by decide +kernel) (by decide +kernel)
theorem w_13_85 : (Jvm.Cond.instanceMethod ({ cls := "StripedVaultModel", name := "tellOne", desc := "(II)V" } : Jvm.MethodName)) ∈ TG := tw_13 85 (by decide +kernel) (by decide +kernel)
theorem w_13_86 : (Jvm.Cond.code ({ cls := "StripedVaultModel", name := "tellOne", desc := "(II)V" } : Jvm.MethodName) prog_14_method_154_code (3 : Nat) (Option.none : Option Jvm.ClassFile.FieldType)) ∈ TG := tw_13 86 (by decide +kernel) (by decide +kernel)
theorem w_13_87 : (Jvm.Cond.methodLink "StripedVaultModel" (981 : Nat) ({ cls := "StripedVaultModel", name := "tellValue", desc := "(II)V" } : Jvm.MethodName)) ∈ TG := tw_13 87 (by decide +kernel) (by decide +kernel)
theorem w_13_89 : (Jvm.Cond.instanceMethod ({ cls := "StripedVaultModel", name := "tellValue", desc := "(II)V" } : Jvm.MethodName)) ∈ TG := tw_13 89 (by decide +kernel) (by decide +kernel)
theorem w_13_90 : (Jvm.Cond.code ({ cls := "StripedVaultModel", name := "tellValue", desc := "(II)V" } : Jvm.MethodName) prog_14_method_146_code (3 : Nat) (Option.none : Option Jvm.ClassFile.FieldType)) ∈ TG := tw_13 90 (by decide +kernel) (by decide +kernel)
theorem w_13_91 : (Jvm.Cond.methodLink "StripedVaultModel" (954 : Nat) ({ cls := "StripedVaultModel", name := "tellText", desc := "(I)V" } : Jvm.MethodName)) ∈ TG := tw_13 91 (by decide +kernel) (by decide +kernel)
theorem w_13_93 : (Jvm.Cond.instanceMethod ({ cls := "StripedVaultModel", name := "tellText", desc := "(I)V" } : Jvm.MethodName)) ∈ TG := tw_13 93 (by decide +kernel) (by decide +kernel)
theorem w_13_94 : (Jvm.Cond.code ({ cls := "StripedVaultModel", name := "tellText", desc := "(I)V" } : Jvm.MethodName) prog_14_method_145_code (4 : Nat) (Option.none : Option Jvm.ClassFile.FieldType)) ∈ TG := tw_13 94 (by decide +kernel) (by decide +kernel)
theorem w_13_99 : (Jvm.Cond.methodLink "StripedVaultModel" (957 : Nat) ({ cls := "StripedVaultModel", name := "tellWord", desc := "(J)V" } : Jvm.MethodName)) ∈ TG := tw_13 99 (by decide +kernel) (by decide +kernel)
theorem ws_226 : Cond.selects R_Mod y_Mod_tellGroup y_Mod_tellGroup ∈ TG := tw_s 226 (by decide +kernel) (by decide +kernel)
theorem ws_228 : Cond.selects R_Mod y_Mod_columnIn y_Mod_columnIn ∈ TG := tw_s 228 (by decide +kernel) (by decide +kernel)
theorem ws_230 : Cond.selects R_Mod y_Mod_pass y_Mod_pass ∈ TG := tw_s 230 (by decide +kernel) (by decide +kernel)
theorem ws_231 : Cond.selects R_Mod y_Mod_tellOne y_Mod_tellOne ∈ TG := tw_s 231 (by decide +kernel) (by decide +kernel)
theorem ws_232 : Cond.selects R_Mod y_Mod_tellValue y_Mod_tellValue ∈ TG := tw_s 232 (by decide +kernel) (by decide +kernel)
theorem ws_233 : Cond.selects R_Mod y_Mod_tellText y_Mod_tellText ∈ TG := tw_s 233 (by decide +kernel) (by decide +kernel)
theorem ws_235 : Cond.selects R_Mod y_Mod_tellWord y_Mod_tellWord ∈ TG := tw_s 235 (by decide +kernel) (by decide +kernel)
theorem ws_236 : Cond.selects R_Mod y_Mod_tellNumber y_Mod_tellNumber ∈ TG := tw_s 236 (by decide +kernel) (by decide +kernel)
theorem d_Mod_tellNumber_81 : decode b_Mod_tellNumber 81 = .ok (.l2i, 1) := by decide +kernel
theorem d_Mod_tellNumber_82 : decode b_Mod_tellNumber 82 = .ok (.iadd, 1) := by decide +kernel
theorem d_Mod_tellNumber_83 : decode b_Mod_tellNumber 83 = .ok (.invokevirtual 944, 3) := by decide +kernel
theorem d_Mod_tellNumber_86 : decode b_Mod_tellNumber 86 = .ok (.lload 5, 2) := by decide +kernel
theorem d_Mod_tellNumber_88 : decode b_Mod_tellNumber 88 = .ok (.ldc2_w 489, 3) := by decide +kernel
theorem d_Mod_tellNumber_91 : decode b_Mod_tellNumber 91 = .ok (.ldiv, 1) := by decide +kernel
theorem d_Mod_tellNumber_92 : decode b_Mod_tellNumber 92 = .ok (.lstore 5, 2) := by decide +kernel
theorem d_Mod_tellNumber_94 : decode b_Mod_tellNumber 94 = .ok (.goto (-48), 3) := by decide +kernel
theorem d_Mod_tellNumber_46 : decode b_Mod_tellNumber 46 = .ok (.lload 5, 2) := by decide +kernel
theorem d_Mod_tellNumber_48 : decode b_Mod_tellNumber 48 = .ok (.lconst 0, 1) := by decide +kernel
theorem d_Mod_tellNumber_49 : decode b_Mod_tellNumber 49 = .ok (.lcmp, 1) := by decide +kernel
theorem d_Mod_tellNumber_50 : decode b_Mod_tellNumber 50 = .ok (.ifCond .le 47, 3) := by decide +kernel
theorem d_Mod_tellNumber_97 : decode b_Mod_tellNumber 97 = .ok (.return_, 1) := by decide +kernel
theorem d_Mod_tellNumber_53 : decode b_Mod_tellNumber 53 = .ok (.lload_n 1, 1) := by decide +kernel
theorem d_Mod_tellNumber_54 : decode b_Mod_tellNumber 54 = .ok (.lload 5, 2) := by decide +kernel
theorem d_Mod_tellNumber_56 : decode b_Mod_tellNumber 56 = .ok (.ldiv, 1) := by decide +kernel
theorem d_Mod_tellNumber_57 : decode b_Mod_tellNumber 57 = .ok (.ldc2_w 489, 3) := by decide +kernel
theorem d_Mod_tellNumber_60 : decode b_Mod_tellNumber 60 = .ok (.lrem, 1) := by decide +kernel
theorem d_Mod_tellNumber_61 : decode b_Mod_tellNumber 61 = .ok (.lstore 7, 2) := by decide +kernel
theorem d_Mod_tellNumber_63 : decode b_Mod_tellNumber 63 = .ok (.aload_n 0, 1) := by decide +kernel
theorem d_Mod_tellNumber_64 : decode b_Mod_tellNumber 64 = .ok (.bipush 48, 2) := by decide +kernel
theorem d_Mod_tellNumber_66 : decode b_Mod_tellNumber 66 = .ok (.lload 7, 2) := by decide +kernel
theorem d_Mod_tellNumber_68 : decode b_Mod_tellNumber 68 = .ok (.lconst 0, 1) := by decide +kernel
theorem d_Mod_tellNumber_69 : decode b_Mod_tellNumber 69 = .ok (.lcmp, 1) := by decide +kernel
theorem d_Mod_tellNumber_70 : decode b_Mod_tellNumber 70 = .ok (.ifCond .ge 9, 3) := by decide +kernel
theorem d_Mod_tellNumber_79 : decode b_Mod_tellNumber 79 = .ok (.lload 7, 2) := by decide +kernel
theorem d_Mod_tellNumber_73 : decode b_Mod_tellNumber 73 = .ok (.lload 7, 2) := by decide +kernel
theorem d_Mod_tellNumber_75 : decode b_Mod_tellNumber 75 = .ok (.lneg, 1) := by decide +kernel
theorem d_Mod_tellNumber_76 : decode b_Mod_tellNumber 76 = .ok (.goto 5, 3) := by decide +kernel
theorem d_Mod_tellNumber_34 : decode b_Mod_tellNumber 34 = .ok (.lload_n 3, 1) := by decide +kernel
theorem d_Mod_tellNumber_35 : decode b_Mod_tellNumber 35 = .ok (.ldc2_w 489, 3) := by decide +kernel
theorem d_Mod_tellNumber_38 : decode b_Mod_tellNumber 38 = .ok (.lmul, 1) := by decide +kernel
theorem d_Mod_tellNumber_39 : decode b_Mod_tellNumber 39 = .ok (.lstore_n 3, 1) := by decide +kernel
theorem d_Mod_tellNumber_40 : decode b_Mod_tellNumber 40 = .ok (.goto (-26), 3) := by decide +kernel
theorem d_Mod_tellNumber_14 : decode b_Mod_tellNumber 14 = .ok (.lload_n 1, 1) := by decide +kernel
theorem d_Mod_tellNumber_15 : decode b_Mod_tellNumber 15 = .ok (.lload_n 3, 1) := by decide +kernel
theorem d_Mod_tellNumber_16 : decode b_Mod_tellNumber 16 = .ok (.ldiv, 1) := by decide +kernel
theorem d_Mod_tellNumber_17 : decode b_Mod_tellNumber 17 = .ok (.ldc2_w 947, 3) := by decide +kernel
theorem d_Mod_tellNumber_20 : decode b_Mod_tellNumber 20 = .ok (.lcmp, 1) := by decide +kernel
theorem d_Mod_tellNumber_21 : decode b_Mod_tellNumber 21 = .ok (.ifCond .gt 13, 3) := by decide +kernel
theorem d_Mod_tellNumber_24 : decode b_Mod_tellNumber 24 = .ok (.lload_n 1, 1) := by decide +kernel
theorem d_Mod_tellNumber_25 : decode b_Mod_tellNumber 25 = .ok (.lload_n 3, 1) := by decide +kernel
theorem d_Mod_tellNumber_26 : decode b_Mod_tellNumber 26 = .ok (.ldiv, 1) := by decide +kernel
theorem d_Mod_tellNumber_27 : decode b_Mod_tellNumber 27 = .ok (.ldc2_w 949, 3) := by decide +kernel
theorem d_Mod_tellNumber_30 : decode b_Mod_tellNumber 30 = .ok (.lcmp, 1) := by decide +kernel
theorem d_Mod_tellNumber_31 : decode b_Mod_tellNumber 31 = .ok (.ifCond .ge 12, 3) := by decide +kernel
theorem d_Mod_tellNumber_43 : decode b_Mod_tellNumber 43 = .ok (.lload_n 3, 1) := by decide +kernel
theorem d_Mod_tellNumber_44 : decode b_Mod_tellNumber 44 = .ok (.lstore 5, 2) := by decide +kernel
theorem d_Mod_tellNumber_12 : decode b_Mod_tellNumber 12 = .ok (.lconst 1, 1) := by decide +kernel
theorem d_Mod_tellNumber_13 : decode b_Mod_tellNumber 13 = .ok (.lstore_n 3, 1) := by decide +kernel
theorem d_Mod_tellNumber_0 : decode b_Mod_tellNumber 0 = .ok (.lload_n 1, 1) := by decide +kernel
theorem d_Mod_tellNumber_1 : decode b_Mod_tellNumber 1 = .ok (.lconst 0, 1) := by decide +kernel
theorem d_Mod_tellNumber_2 : decode b_Mod_tellNumber 2 = .ok (.lcmp, 1) := by decide +kernel
theorem d_Mod_tellNumber_3 : decode b_Mod_tellNumber 3 = .ok (.ifCond .ge 9, 3) := by decide +kernel
theorem d_Mod_tellNumber_6 : decode b_Mod_tellNumber 6 = .ok (.aload_n 0, 1) := by decide +kernel
theorem d_Mod_tellNumber_7 : decode b_Mod_tellNumber 7 = .ok (.bipush 45, 2) := by decide +kernel
theorem d_Mod_tellNumber_9 : decode b_Mod_tellNumber 9 = .ok (.invokevirtual 944, 3) := by decide +kernel
theorem d_Mod_tellValue_38 : decode b_Mod_tellValue 38 = .ok (.invokevirtual 957, 3) := by decide +kernel
theorem d_Mod_tellValue_41 : decode b_Mod_tellValue 41 = .ok (.goto 13, 3) := by decide +kernel
theorem d_Mod_tellValue_54 : decode b_Mod_tellValue 54 = .ok (.return_, 1) := by decide +kernel
theorem d_Mod_tellValue_0 : decode b_Mod_tellValue 0 = .ok (.iload_n 1, 1) := by decide +kernel
theorem d_Mod_tellValue_1 : decode b_Mod_tellValue 1 = .ok (.iconst 3, 1) := by decide +kernel
theorem d_Mod_tellValue_2 : decode b_Mod_tellValue 2 = .ok (.if_icmp .ne 11, 3) := by decide +kernel
theorem d_Mod_tellValue_13 : decode b_Mod_tellValue 13 = .ok (.iload_n 1, 1) := by decide +kernel
theorem d_Mod_tellValue_14 : decode b_Mod_tellValue 14 = .ok (.ifCond .ne 30, 3) := by decide +kernel
theorem d_Mod_tellValue_44 : decode b_Mod_tellValue 44 = .ok (.aload_n 0, 1) := by decide +kernel
theorem d_Mod_tellValue_45 : decode b_Mod_tellValue 45 = .ok (.aload_n 0, 1) := by decide +kernel
theorem d_Mod_tellValue_46 : decode b_Mod_tellValue 46 = .ok (.getfield 173, 3) := by decide +kernel
theorem d_Mod_tellValue_49 : decode b_Mod_tellValue 49 = .ok (.iload_n 2, 1) := by decide +kernel
theorem d_Mod_tellValue_50 : decode b_Mod_tellValue 50 = .ok (.laload, 1) := by decide +kernel
theorem d_Mod_tellValue_51 : decode b_Mod_tellValue 51 = .ok (.invokevirtual 960, 3) := by decide +kernel
theorem d_Mod_tellValue_17 : decode b_Mod_tellValue 17 = .ok (.aload_n 0, 1) := by decide +kernel
theorem d_Mod_tellValue_18 : decode b_Mod_tellValue 18 = .ok (.aload_n 0, 1) := by decide +kernel
theorem d_Mod_tellValue_19 : decode b_Mod_tellValue 19 = .ok (.getfield 173, 3) := by decide +kernel
theorem d_Mod_tellValue_22 : decode b_Mod_tellValue 22 = .ok (.iload_n 2, 1) := by decide +kernel
theorem d_Mod_tellValue_23 : decode b_Mod_tellValue 23 = .ok (.laload, 1) := by decide +kernel
theorem d_Mod_tellValue_24 : decode b_Mod_tellValue 24 = .ok (.lconst 1, 1) := by decide +kernel
theorem d_Mod_tellValue_25 : decode b_Mod_tellValue 25 = .ok (.lcmp, 1) := by decide +kernel
theorem d_Mod_tellValue_26 : decode b_Mod_tellValue 26 = .ok (.ifCond .ne 9, 3) := by decide +kernel
theorem d_Mod_tellValue_35 : decode b_Mod_tellValue 35 = .ok (.ldc2_w 504, 3) := by decide +kernel
theorem d_Mod_tellValue_29 : decode b_Mod_tellValue 29 = .ok (.ldc2_w 502, 3) := by decide +kernel
theorem d_Mod_tellValue_32 : decode b_Mod_tellValue 32 = .ok (.goto 6, 3) := by decide +kernel
theorem d_Mod_tellValue_5 : decode b_Mod_tellValue 5 = .ok (.aload_n 0, 1) := by decide +kernel
theorem d_Mod_tellValue_6 : decode b_Mod_tellValue 6 = .ok (.iload_n 2, 1) := by decide +kernel
theorem d_Mod_tellValue_7 : decode b_Mod_tellValue 7 = .ok (.invokevirtual 954, 3) := by decide +kernel
theorem d_Mod_tellValue_10 : decode b_Mod_tellValue 10 = .ok (.goto 44, 3) := by decide +kernel
theorem d_Mod_tellGroup_255 : decode b_Mod_tellGroup 255 = .ok (.iinc 3 1, 3) := by decide +kernel
theorem d_Mod_tellGroup_258 : decode b_Mod_tellGroup 258 = .ok (.goto (-248), 3) := by decide +kernel
theorem d_Mod_tellGroup_244 : decode b_Mod_tellGroup 244 = .ok (.iload 5, 2) := by decide +kernel
theorem d_Mod_tellGroup_246 : decode b_Mod_tellGroup 246 = .ok (.ifCond .eq 9, 3) := by decide +kernel
theorem d_Mod_tellGroup_249 : decode b_Mod_tellGroup 249 = .ok (.aload_n 0, 1) := by decide +kernel
theorem d_Mod_tellGroup_250 : decode b_Mod_tellGroup 250 = .ok (.bipush 93, 2) := by decide +kernel
theorem d_Mod_tellGroup_252 : decode b_Mod_tellGroup 252 = .ok (.invokevirtual 944, 3) := by decide +kernel
theorem d_Mod_tellGroup_184 : decode b_Mod_tellGroup 184 = .ok (.iload 5, 2) := by decide +kernel
theorem d_Mod_tellGroup_186 : decode b_Mod_tellGroup 186 = .ok (.ifCond .eq 58, 3) := by decide +kernel
theorem d_Mod_tellGroup_189 : decode b_Mod_tellGroup 189 = .ok (.aload_n 0, 1) := by decide +kernel
theorem d_Mod_tellGroup_190 : decode b_Mod_tellGroup 190 = .ok (.getfield 242, 3) := by decide +kernel
theorem d_Mod_tellGroup_193 : decode b_Mod_tellGroup 193 = .ok (.iload 4, 2) := by decide +kernel
theorem d_Mod_tellGroup_195 : decode b_Mod_tellGroup 195 = .ok (.iaload, 1) := by decide +kernel
theorem d_Mod_tellGroup_196 : decode b_Mod_tellGroup 196 = .ok (.aload_n 0, 1) := by decide +kernel
theorem d_Mod_tellGroup_197 : decode b_Mod_tellGroup 197 = .ok (.getfield 245, 3) := by decide +kernel
theorem d_Mod_tellGroup_200 : decode b_Mod_tellGroup 200 = .ok (.iload 4, 2) := by decide +kernel
theorem d_Mod_tellGroup_202 : decode b_Mod_tellGroup 202 = .ok (.iaload, 1) := by decide +kernel
theorem d_Mod_tellGroup_203 : decode b_Mod_tellGroup 203 = .ok (.if_icmp .ge 41, 3) := by decide +kernel
theorem d_Mod_tellGroup_206 : decode b_Mod_tellGroup 206 = .ok (.aload_n 0, 1) := by decide +kernel
theorem d_Mod_tellGroup_207 : decode b_Mod_tellGroup 207 = .ok (.getfield 186, 3) := by decide +kernel
theorem d_Mod_tellGroup_210 : decode b_Mod_tellGroup 210 = .ok (.aload_n 0, 1) := by decide +kernel
theorem d_Mod_tellGroup_211 : decode b_Mod_tellGroup 211 = .ok (.getfield 242, 3) := by decide +kernel
theorem d_Mod_tellGroup_214 : decode b_Mod_tellGroup 214 = .ok (.iload 4, 2) := by decide +kernel
theorem d_Mod_tellGroup_216 : decode b_Mod_tellGroup 216 = .ok (.iaload, 1) := by decide +kernel
theorem d_Mod_tellGroup_217 : decode b_Mod_tellGroup 217 = .ok (.iaload, 1) := by decide +kernel
theorem d_Mod_tellGroup_218 : decode b_Mod_tellGroup 218 = .ok (.aload_n 0, 1) := by decide +kernel
theorem d_Mod_tellGroup_219 : decode b_Mod_tellGroup 219 = .ok (.iconst 1, 1) := by decide +kernel
theorem d_Mod_tellGroup_220 : decode b_Mod_tellGroup 220 = .ok (.iload_n 3, 1) := by decide +kernel
theorem d_Mod_tellGroup_221 : decode b_Mod_tellGroup 221 = .ok (.iconst 1, 1) := by decide +kernel
theorem d_Mod_tellGroup_222 : decode b_Mod_tellGroup 222 = .ok (.invokevirtual 416, 3) := by decide +kernel
theorem d_Mod_tellGroup_225 : decode b_Mod_tellGroup 225 = .ok (.if_icmp .ne 19, 3) := by decide +kernel
theorem d_Mod_tellGroup_228 : decode b_Mod_tellGroup 228 = .ok (.aload_n 0, 1) := by decide +kernel
theorem d_Mod_tellGroup_229 : decode b_Mod_tellGroup 229 = .ok (.bipush 44, 2) := by decide +kernel
theorem d_Mod_tellGroup_231 : decode b_Mod_tellGroup 231 = .ok (.invokevirtual 944, 3) := by decide +kernel
theorem d_Mod_tellGroup_234 : decode b_Mod_tellGroup 234 = .ok (.aload_n 0, 1) := by decide +kernel
theorem d_Mod_tellGroup_235 : decode b_Mod_tellGroup 235 = .ok (.iload_n 3, 1) := by decide +kernel
theorem d_Mod_tellGroup_236 : decode b_Mod_tellGroup 236 = .ok (.iload 4, 2) := by decide +kernel
theorem d_Mod_tellGroup_238 : decode b_Mod_tellGroup 238 = .ok (.invokevirtual 978, 3) := by decide +kernel
theorem d_Mod_tellGroup_241 : decode b_Mod_tellGroup 241 = .ok (.goto (-57), 3) := by decide +kernel
theorem d_Mod_tellGroup_177 : decode b_Mod_tellGroup 177 = .ok (.aload_n 0, 1) := by decide +kernel
theorem d_Mod_tellGroup_178 : decode b_Mod_tellGroup 178 = .ok (.iload_n 3, 1) := by decide +kernel
theorem d_Mod_tellGroup_179 : decode b_Mod_tellGroup 179 = .ok (.iload 4, 2) := by decide +kernel
theorem d_Mod_tellGroup_181 : decode b_Mod_tellGroup 181 = .ok (.invokevirtual 978, 3) := by decide +kernel
theorem d_Mod_tellGroup_164 : decode b_Mod_tellGroup 164 = .ok (.istore 5, 2) := by decide +kernel
theorem d_Mod_tellGroup_166 : decode b_Mod_tellGroup 166 = .ok (.iload 5, 2) := by decide +kernel
theorem d_Mod_tellGroup_168 : decode b_Mod_tellGroup 168 = .ok (.ifCond .eq 9, 3) := by decide +kernel
theorem d_Mod_tellGroup_171 : decode b_Mod_tellGroup 171 = .ok (.aload_n 0, 1) := by decide +kernel
theorem d_Mod_tellGroup_172 : decode b_Mod_tellGroup 172 = .ok (.bipush 91, 2) := by decide +kernel
theorem d_Mod_tellGroup_174 : decode b_Mod_tellGroup 174 = .ok (.invokevirtual 944, 3) := by decide +kernel
theorem d_Mod_tellGroup_98 : decode b_Mod_tellGroup 98 = .ok (.iload 5, 2) := by decide +kernel
theorem d_Mod_tellGroup_100 : decode b_Mod_tellGroup 100 = .ok (.aload_n 0, 1) := by decide +kernel
theorem d_Mod_tellGroup_101 : decode b_Mod_tellGroup 101 = .ok (.getfield 29, 3) := by decide +kernel
theorem d_Mod_tellGroup_104 : decode b_Mod_tellGroup 104 = .ok (.iconst 1, 1) := by decide +kernel
theorem d_Mod_tellGroup_105 : decode b_Mod_tellGroup 105 = .ok (.iload_n 3, 1) := by decide +kernel
theorem d_Mod_tellGroup_106 : decode b_Mod_tellGroup 106 = .ok (.invokestatic 412, 3) := by decide +kernel
theorem d_Mod_tellGroup_109 : decode b_Mod_tellGroup 109 = .ok (.iaload, 1) := by decide +kernel
theorem d_Mod_tellGroup_110 : decode b_Mod_tellGroup 110 = .ok (.if_icmp .ge 29, 3) := by decide +kernel
theorem d_Mod_tellGroup_139 : decode b_Mod_tellGroup 139 = .ok (.aload_n 0, 1) := by decide +kernel
theorem d_Mod_tellGroup_140 : decode b_Mod_tellGroup 140 = .ok (.bipush 58, 2) := by decide +kernel
theorem d_Mod_tellGroup_142 : decode b_Mod_tellGroup 142 = .ok (.invokevirtual 944, 3) := by decide +kernel
theorem d_Mod_tellGroup_145 : decode b_Mod_tellGroup 145 = .ok (.aload_n 0, 1) := by decide +kernel
theorem d_Mod_tellGroup_146 : decode b_Mod_tellGroup 146 = .ok (.getfield 17, 3) := by decide +kernel
theorem d_Mod_tellGroup_149 : decode b_Mod_tellGroup 149 = .ok (.iconst 1, 1) := by decide +kernel
theorem d_Mod_tellGroup_150 : decode b_Mod_tellGroup 150 = .ok (.iload_n 3, 1) := by decide +kernel
theorem d_Mod_tellGroup_151 : decode b_Mod_tellGroup 151 = .ok (.invokestatic 412, 3) := by decide +kernel
theorem d_Mod_tellGroup_154 : decode b_Mod_tellGroup 154 = .ok (.iaload, 1) := by decide +kernel
theorem d_Mod_tellGroup_155 : decode b_Mod_tellGroup 155 = .ok (.iconst 2, 1) := by decide +kernel
theorem d_Mod_tellGroup_156 : decode b_Mod_tellGroup 156 = .ok (.if_icmp .ne 7, 3) := by decide +kernel
theorem d_Mod_tellGroup_163 : decode b_Mod_tellGroup 163 = .ok (.iconst 0, 1) := by decide +kernel
theorem d_Mod_tellGroup_159 : decode b_Mod_tellGroup 159 = .ok (.iconst 1, 1) := by decide +kernel
theorem d_Mod_tellGroup_160 : decode b_Mod_tellGroup 160 = .ok (.goto 4, 3) := by decide +kernel
theorem d_Mod_tellGroup_113 : decode b_Mod_tellGroup 113 = .ok (.aload_n 0, 1) := by decide +kernel
theorem d_Mod_tellGroup_114 : decode b_Mod_tellGroup 114 = .ok (.aload_n 0, 1) := by decide +kernel
theorem d_Mod_tellGroup_115 : decode b_Mod_tellGroup 115 = .ok (.getfield 32, 3) := by decide +kernel
theorem d_Mod_tellGroup_118 : decode b_Mod_tellGroup 118 = .ok (.bipush 16, 2) := by decide +kernel
theorem d_Mod_tellGroup_120 : decode b_Mod_tellGroup 120 = .ok (.iconst 1, 1) := by decide +kernel
theorem d_Mod_tellGroup_121 : decode b_Mod_tellGroup 121 = .ok (.iload_n 3, 1) := by decide +kernel
theorem d_Mod_tellGroup_122 : decode b_Mod_tellGroup 122 = .ok (.invokestatic 412, 3) := by decide +kernel
theorem d_Mod_tellGroup_125 : decode b_Mod_tellGroup 125 = .ok (.imul, 1) := by decide +kernel
theorem d_Mod_tellGroup_126 : decode b_Mod_tellGroup 126 = .ok (.iload 5, 2) := by decide +kernel
theorem d_Mod_tellGroup_128 : decode b_Mod_tellGroup 128 = .ok (.iadd, 1) := by decide +kernel
theorem d_Mod_tellGroup_129 : decode b_Mod_tellGroup 129 = .ok (.iaload, 1) := by decide +kernel
theorem d_Mod_tellGroup_130 : decode b_Mod_tellGroup 130 = .ok (.invokevirtual 944, 3) := by decide +kernel
theorem d_Mod_tellGroup_133 : decode b_Mod_tellGroup 133 = .ok (.iinc 5 1, 3) := by decide +kernel
theorem d_Mod_tellGroup_136 : decode b_Mod_tellGroup 136 = .ok (.goto (-38), 3) := by decide +kernel
theorem d_Mod_tellGroup_93 : decode b_Mod_tellGroup 93 = .ok (.iconst 1, 1) := by decide +kernel
theorem d_Mod_tellGroup_94 : decode b_Mod_tellGroup 94 = .ok (.istore_n 2, 1) := by decide +kernel
theorem d_Mod_tellGroup_95 : decode b_Mod_tellGroup 95 = .ok (.iconst 0, 1) := by decide +kernel
theorem d_Mod_tellGroup_96 : decode b_Mod_tellGroup 96 = .ok (.istore 5, 2) := by decide +kernel
theorem d_Mod_tellGroup_10 : decode b_Mod_tellGroup 10 = .ok (.iload_n 3, 1) := by decide +kernel
theorem d_Mod_tellGroup_11 : decode b_Mod_tellGroup 11 = .ok (.aload_n 0, 1) := by decide +kernel
theorem d_Mod_tellGroup_12 : decode b_Mod_tellGroup 12 = .ok (.getfield 35, 3) := by decide +kernel
theorem d_Mod_tellGroup_15 : decode b_Mod_tellGroup 15 = .ok (.iconst 1, 1) := by decide +kernel
theorem d_Mod_tellGroup_16 : decode b_Mod_tellGroup 16 = .ok (.iaload, 1) := by decide +kernel
theorem d_Mod_tellGroup_17 : decode b_Mod_tellGroup 17 = .ok (.if_icmp .ge 244, 3) := by decide +kernel
theorem d_Mod_tellGroup_261 : decode b_Mod_tellGroup 261 = .ok (.aload_n 0, 1) := by decide +kernel
theorem d_Mod_tellGroup_262 : decode b_Mod_tellGroup 262 = .ok (.bipush 125, 2) := by decide +kernel
theorem d_Mod_tellGroup_264 : decode b_Mod_tellGroup 264 = .ok (.invokevirtual 944, 3) := by decide +kernel
theorem d_Mod_tellGroup_267 : decode b_Mod_tellGroup 267 = .ok (.return_, 1) := by decide +kernel
theorem d_Mod_tellGroup_20 : decode b_Mod_tellGroup 20 = .ok (.aload_n 0, 1) := by decide +kernel
theorem d_Mod_tellGroup_21 : decode b_Mod_tellGroup 21 = .ok (.getfield 23, 3) := by decide +kernel
theorem d_Mod_tellGroup_24 : decode b_Mod_tellGroup 24 = .ok (.iconst 1, 1) := by decide +kernel
theorem d_Mod_tellGroup_25 : decode b_Mod_tellGroup 25 = .ok (.iload_n 3, 1) := by decide +kernel
theorem d_Mod_tellGroup_26 : decode b_Mod_tellGroup 26 = .ok (.invokestatic 412, 3) := by decide +kernel
theorem d_Mod_tellGroup_29 : decode b_Mod_tellGroup 29 = .ok (.iaload, 1) := by decide +kernel
theorem d_Mod_tellGroup_30 : decode b_Mod_tellGroup 30 = .ok (.iload_n 1, 1) := by decide +kernel
theorem d_Mod_tellGroup_31 : decode b_Mod_tellGroup 31 = .ok (.if_icmp .eq 6, 3) := by decide +kernel
theorem d_Mod_tellGroup_37 : decode b_Mod_tellGroup 37 = .ok (.aload_n 0, 1) := by decide +kernel
theorem d_Mod_tellGroup_38 : decode b_Mod_tellGroup 38 = .ok (.iload_n 3, 1) := by decide +kernel
theorem d_Mod_tellGroup_39 : decode b_Mod_tellGroup 39 = .ok (.invokevirtual 972, 3) := by decide +kernel
theorem d_Mod_tellGroup_42 : decode b_Mod_tellGroup 42 = .ok (.istore 4, 2) := by decide +kernel
theorem d_Mod_tellGroup_44 : decode b_Mod_tellGroup 44 = .ok (.iload 4, 2) := by decide +kernel
theorem d_Mod_tellGroup_46 : decode b_Mod_tellGroup 46 = .ok (.iconst (-1), 1) := by decide +kernel
theorem d_Mod_tellGroup_47 : decode b_Mod_tellGroup 47 = .ok (.if_icmp .ne 6, 3) := by decide +kernel
theorem d_Mod_tellGroup_53 : decode b_Mod_tellGroup 53 = .ok (.aload_n 0, 1) := by decide +kernel
theorem d_Mod_tellGroup_54 : decode b_Mod_tellGroup 54 = .ok (.getfield 189, 3) := by decide +kernel
theorem d_Mod_tellGroup_57 : decode b_Mod_tellGroup 57 = .ok (.aload_n 0, 1) := by decide +kernel
theorem d_Mod_tellGroup_58 : decode b_Mod_tellGroup 58 = .ok (.getfield 242, 3) := by decide +kernel
theorem d_Mod_tellGroup_61 : decode b_Mod_tellGroup 61 = .ok (.iload 4, 2) := by decide +kernel
theorem d_Mod_tellGroup_63 : decode b_Mod_tellGroup 63 = .ok (.iaload, 1) := by decide +kernel
theorem d_Mod_tellGroup_64 : decode b_Mod_tellGroup 64 = .ok (.iaload, 1) := by decide +kernel
theorem d_Mod_tellGroup_65 : decode b_Mod_tellGroup 65 = .ok (.aload_n 0, 1) := by decide +kernel
theorem d_Mod_tellGroup_66 : decode b_Mod_tellGroup 66 = .ok (.iconst 1, 1) := by decide +kernel
theorem d_Mod_tellGroup_67 : decode b_Mod_tellGroup 67 = .ok (.iload_n 3, 1) := by decide +kernel
theorem d_Mod_tellGroup_68 : decode b_Mod_tellGroup 68 = .ok (.iconst 0, 1) := by decide +kernel
theorem d_Mod_tellGroup_69 : decode b_Mod_tellGroup 69 = .ok (.invokevirtual 416, 3) := by decide +kernel
theorem d_Mod_tellGroup_72 : decode b_Mod_tellGroup 72 = .ok (.if_icmp .ge 11, 3) := by decide +kernel
theorem d_Mod_tellGroup_83 : decode b_Mod_tellGroup 83 = .ok (.iload_n 2, 1) := by decide +kernel
theorem d_Mod_tellGroup_84 : decode b_Mod_tellGroup 84 = .ok (.ifCond .eq 9, 3) := by decide +kernel
theorem d_Mod_tellGroup_87 : decode b_Mod_tellGroup 87 = .ok (.aload_n 0, 1) := by decide +kernel
theorem d_Mod_tellGroup_88 : decode b_Mod_tellGroup 88 = .ok (.bipush 44, 2) := by decide +kernel
theorem d_Mod_tellGroup_90 : decode b_Mod_tellGroup 90 = .ok (.invokevirtual 944, 3) := by decide +kernel
theorem d_Mod_tellGroup_75 : decode b_Mod_tellGroup 75 = .ok (.aload_n 0, 1) := by decide +kernel
theorem d_Mod_tellGroup_76 : decode b_Mod_tellGroup 76 = .ok (.iload_n 3, 1) := by decide +kernel
theorem d_Mod_tellGroup_77 : decode b_Mod_tellGroup 77 = .ok (.invokevirtual 975, 3) := by decide +kernel
theorem d_Mod_tellGroup_80 : decode b_Mod_tellGroup 80 = .ok (.goto 175, 3) := by decide +kernel
theorem d_Mod_tellGroup_50 : decode b_Mod_tellGroup 50 = .ok (.goto 205, 3) := by decide +kernel
theorem d_Mod_tellGroup_34 : decode b_Mod_tellGroup 34 = .ok (.goto 221, 3) := by decide +kernel
theorem d_Mod_tellGroup_0 : decode b_Mod_tellGroup 0 = .ok (.aload_n 0, 1) := by decide +kernel
theorem d_Mod_tellGroup_1 : decode b_Mod_tellGroup 1 = .ok (.bipush 123, 2) := by decide +kernel
theorem d_Mod_tellGroup_3 : decode b_Mod_tellGroup 3 = .ok (.invokevirtual 944, 3) := by decide +kernel
theorem d_Mod_tellGroup_6 : decode b_Mod_tellGroup 6 = .ok (.iconst 0, 1) := by decide +kernel
theorem d_Mod_tellGroup_7 : decode b_Mod_tellGroup 7 = .ok (.istore_n 2, 1) := by decide +kernel
theorem d_Mod_tellGroup_8 : decode b_Mod_tellGroup 8 = .ok (.iconst 0, 1) := by decide +kernel
theorem d_Mod_tellGroup_9 : decode b_Mod_tellGroup 9 = .ok (.istore_n 3, 1) := by decide +kernel
theorem d_Mod_tellOne_0 : decode b_Mod_tellOne 0 = .ok (.aload_n 0, 1) := by decide +kernel
theorem d_Mod_tellOne_1 : decode b_Mod_tellOne 1 = .ok (.getfield 20, 3) := by decide +kernel
theorem d_Mod_tellOne_4 : decode b_Mod_tellOne 4 = .ok (.iconst 1, 1) := by decide +kernel
theorem d_Mod_tellOne_5 : decode b_Mod_tellOne 5 = .ok (.iload_n 1, 1) := by decide +kernel
theorem d_Mod_tellOne_6 : decode b_Mod_tellOne 6 = .ok (.invokestatic 412, 3) := by decide +kernel
theorem d_Mod_tellOne_9 : decode b_Mod_tellOne 9 = .ok (.iaload, 1) := by decide +kernel
theorem d_Mod_tellOne_10 : decode b_Mod_tellOne 10 = .ok (.iconst 4, 1) := by decide +kernel
theorem d_Mod_tellOne_11 : decode b_Mod_tellOne 11 = .ok (.if_icmp .ne 11, 3) := by decide +kernel
theorem d_Mod_tellOne_22 : decode b_Mod_tellOne 22 = .ok (.aload_n 0, 1) := by decide +kernel
theorem d_Mod_tellOne_23 : decode b_Mod_tellOne 23 = .ok (.aload_n 0, 1) := by decide +kernel
theorem d_Mod_tellOne_24 : decode b_Mod_tellOne 24 = .ok (.getfield 20, 3) := by decide +kernel
theorem d_Mod_tellOne_27 : decode b_Mod_tellOne 27 = .ok (.iconst 1, 1) := by decide +kernel
theorem d_Mod_tellOne_28 : decode b_Mod_tellOne 28 = .ok (.iload_n 1, 1) := by decide +kernel
theorem d_Mod_tellOne_29 : decode b_Mod_tellOne 29 = .ok (.invokestatic 412, 3) := by decide +kernel
theorem d_Mod_tellOne_32 : decode b_Mod_tellOne 32 = .ok (.iaload, 1) := by decide +kernel
theorem d_Mod_tellOne_33 : decode b_Mod_tellOne 33 = .ok (.aload_n 0, 1) := by decide +kernel
theorem d_Mod_tellOne_34 : decode b_Mod_tellOne 34 = .ok (.getfield 192, 3) := by decide +kernel
theorem d_Mod_tellOne_37 : decode b_Mod_tellOne 37 = .ok (.aload_n 0, 1) := by decide +kernel
theorem d_Mod_tellOne_38 : decode b_Mod_tellOne 38 = .ok (.getfield 242, 3) := by decide +kernel
theorem d_Mod_tellOne_41 : decode b_Mod_tellOne 41 = .ok (.iload_n 2, 1) := by decide +kernel
theorem d_Mod_tellOne_42 : decode b_Mod_tellOne 42 = .ok (.iaload, 1) := by decide +kernel
theorem d_Mod_tellOne_43 : decode b_Mod_tellOne 43 = .ok (.iaload, 1) := by decide +kernel
theorem d_Mod_tellOne_44 : decode b_Mod_tellOne 44 = .ok (.invokevirtual 981, 3) := by decide +kernel
theorem d_Mod_tellOne_47 : decode b_Mod_tellOne 47 = .ok (.aload_n 0, 1) := by decide +kernel
theorem d_Mod_tellOne_48 : decode b_Mod_tellOne 48 = .ok (.getfield 242, 3) := by decide +kernel
theorem d_Mod_tellOne_51 : decode b_Mod_tellOne 51 = .ok (.iload_n 2, 1) := by decide +kernel
theorem d_Mod_tellOne_52 : decode b_Mod_tellOne 52 = .ok (.dup2, 1) := by decide +kernel
theorem d_Mod_tellOne_53 : decode b_Mod_tellOne 53 = .ok (.iaload, 1) := by decide +kernel
theorem d_Mod_tellOne_54 : decode b_Mod_tellOne 54 = .ok (.iconst 1, 1) := by decide +kernel
theorem d_Mod_tellOne_55 : decode b_Mod_tellOne 55 = .ok (.iadd, 1) := by decide +kernel
theorem d_Mod_tellOne_56 : decode b_Mod_tellOne 56 = .ok (.iastore, 1) := by decide +kernel
theorem d_Mod_tellOne_57 : decode b_Mod_tellOne 57 = .ok (.return_, 1) := by decide +kernel
theorem d_Mod_tellOne_14 : decode b_Mod_tellOne 14 = .ok (.aload_n 0, 1) := by decide +kernel
theorem d_Mod_tellOne_15 : decode b_Mod_tellOne 15 = .ok (.iload_n 1, 1) := by decide +kernel
theorem d_Mod_tellOne_16 : decode b_Mod_tellOne 16 = .ok (.invokevirtual 941, 3) := by decide +kernel
theorem d_Mod_tellOne_19 : decode b_Mod_tellOne 19 = .ok (.goto 38, 3) := by decide +kernel
section
variable (l : Launch) (dC : Nat → ClassId) (dI : Nat → Nat → Nat) (cI cB cJ cZ : ClassId)
set_option maxRecDepth 100000 in
set_option maxHeartbeats 4000000 in
set_option maxRecDepth 100000 in
theorem t_Mod_tellNumber_81 {p : Program} {l : Launch} {e : Env} {R : Room} {s : State} {m : MethodId} {args : Array Value} {below : List Frame} {meth : Method} {c : Code} {cells slots : Nat} {Q : State → Prop} {dC : Nat → ClassId} {dI : Nat → Nat → Nat} {cI cB cJ cZ : ClassId} {A : Nat → Prop} {ad : Nat → Nat} {post : St → Prop} {rec46 : Int64 → Int64 → Int64 → St → Prop} (hx : p.tables.exec = Jvm.exec) (hb : c.code = b_Mod_tellNumber) (hml : c.maxLocals = 9) (hown : s.vm.findClass R_Mod = some m.cls) (hT : ∀ w ∈ TG, w.before args s = true) (hK : va_K (dC, dI) CL (TY cI cB cJ cZ) s) (hN : NW s) (hA : ∀ q : Nat, s.heap.size ≤ q → A q) (hRc : cells ≤ R.cells) (hRs : slots ≤ R.slots) (hRf : 1 ≤ R.frames) (hRl : 21 ≤ R.locals) (hret : ∀ (x : St) (H : Heap) (locs : List Loc) (pc : Nat) (ls : Array Slot), decode b_Mod_tellNumber pc = .ok (.return_, 1) → post x → Wd dC dI cI cB cJ cZ ad stM kcM 115 A x H → va_S A s.heap H locs → W p l e R s m args below meth c H locs cells slots Q (F0 m pc ls [])) (hrec46 : ∀ (l1 : Int64) (l3 : Int64) (l5 : Int64) (x : St) (H : Heap) (locs : List Loc) (ls : Array Slot), rec46 l1 l3 l5 x → Wd dC dI cI cB cJ cZ ad stM kcM 115 A x H → va_S A s.heap H locs → lv_has ls 9 [(0, .ref (ad 0)), (1, .long l1), (3, .long l3), (5, .long l5)] → W p l e R s m args below meth c H locs cells slots Q (F0 m 46 ls [])) : ∀ (l1 : Int64) (l3 : Int64) (l5 : Int64) (l7 : Int64) (s0 : Int64) (s1 : Int32) (x : St) (H : Heap) (locs : List Loc) (ls : Array Slot), j_Mod_tellNumber_81 post rec46 l1 l3 l5 l7 s0 s1 x → Wd dC dI cI cB cJ cZ ad stM kcM 115 A x H → va_S A s.heap H locs → lv_has ls 9 [(0, .ref (ad 0)), (1, .long l1), (3, .long l3), (5, .long l5), (7, .long l7)] → W p l e R s m args below meth c H locs cells slots Q (F0 m 81 ls [.long s0, .int s1, .ref (ad 0)]) := by
  intro l1 l3 l5 l7 s0 s1 x H locs ls  hw hW hS hl
  unfold j_Mod_tellNumber_81 at hw
  refine lv_l2i hx hb d_Mod_tellNumber_81 rfl ?_
  refine lv_iadd hx hb d_Mod_tellNumber_82 ?_
  have hF := hW.free hS hA
  refine va_callv (va_runV (C := R_Mod) (As := [.int (s1 + (s0 : Int64).toInt32)]) (rest := []) ⟨hx, hb, hml, hown, hT⟩ (k_Mod_tell l dC dI cI cB cJ cZ ad H.size (s1 + (s0 : Int64).toInt32) x  hw) ⟨callB_of 1 hT (gwt_in w_13_70) rfl rfl rfl (hT _ w_1_15) (hT _ w_13_67) (by decide +kernel) ⟨Nat.le_trans (Nat.le_of_ble_eq_true rfl) hRf, Nat.le_trans (Nat.le_of_ble_eq_true rfl) hRl⟩, hT _ w_13_69, hT _ ws_227⟩ ⟨PW.blind, va_recv hK hW.1 (ci := 12) (q0 := 0) rfl (pic_obj ko_0.1 ko_0.2 (by decide)), PW.at _ hW hK hN⟩ rfl rfl hl.1 rfl (lv_room (Nat.le_of_ble_eq_true rfl)) d_Mod_tellNumber_83 ⟨hRc, hRs⟩) hS (fun q _ h => hF q h) hF (fun  x1821 t H locs ht hvm hw hB hz1 hk1 hS => ?_)
  have hW := Wd.back hB ht hF
  clear hB ht hF hz1 hk1 hvm
  refine lv_lload hx hb d_Mod_tellNumber_86 (lv_at hl 3 rfl) ?_
  refine lv_ldc2 hx hb hown (hT _ w_11_102) d_Mod_tellNumber_88 ?_
  refine lv_ldiv hx hb d_Mod_tellNumber_91 (by decide) ?_
  refine lv_topl (fun v1822 ev1822 => ?_)
  have hw := hw v1822 ev1822
  refine lv_lstore (lv' := [(5, .long v1822), (0, .ref (ad 0)), (1, .long l1), (3, .long l3), (7, .long l7)]) hx hb d_Mod_tellNumber_92 hl (by decide) rfl (fun ls hl => ?_)
  refine lv_goto (tgt := 46) hx hb d_Mod_tellNumber_94 (by decide) ?_
  exact hrec46 l1 l3 v1822 x1821 H locs ls  hw hW hS (lv_sub hl [1, 2, 3, 0] rfl)
set_option maxRecDepth 100000 in
set_option maxHeartbeats 4000000 in
set_option maxRecDepth 100000 in
theorem t_Mod_tellNumber_46 {p : Program} {l : Launch} {e : Env} {R : Room} {s : State} {m : MethodId} {args : Array Value} {below : List Frame} {meth : Method} {c : Code} {cells slots : Nat} {Q : State → Prop} {dC : Nat → ClassId} {dI : Nat → Nat → Nat} {cI cB cJ cZ : ClassId} {A : Nat → Prop} {ad : Nat → Nat} {post : St → Prop} {rec46 : Int64 → Int64 → Int64 → St → Prop} (hx : p.tables.exec = Jvm.exec) (hb : c.code = b_Mod_tellNumber) (hml : c.maxLocals = 9) (hown : s.vm.findClass R_Mod = some m.cls) (hT : ∀ w ∈ TG, w.before args s = true) (hK : va_K (dC, dI) CL (TY cI cB cJ cZ) s) (hN : NW s) (hA : ∀ q : Nat, s.heap.size ≤ q → A q) (hRc : cells ≤ R.cells) (hRs : slots ≤ R.slots) (hRf : 1 ≤ R.frames) (hRl : 21 ≤ R.locals) (hret : ∀ (x : St) (H : Heap) (locs : List Loc) (pc : Nat) (ls : Array Slot), decode b_Mod_tellNumber pc = .ok (.return_, 1) → post x → Wd dC dI cI cB cJ cZ ad stM kcM 115 A x H → va_S A s.heap H locs → W p l e R s m args below meth c H locs cells slots Q (F0 m pc ls [])) (hrec46 : ∀ (l1 : Int64) (l3 : Int64) (l5 : Int64) (x : St) (H : Heap) (locs : List Loc) (ls : Array Slot), rec46 l1 l3 l5 x → Wd dC dI cI cB cJ cZ ad stM kcM 115 A x H → va_S A s.heap H locs → lv_has ls 9 [(0, .ref (ad 0)), (1, .long l1), (3, .long l3), (5, .long l5)] → W p l e R s m args below meth c H locs cells slots Q (F0 m 46 ls [])) : ∀ (l1 : Int64) (l3 : Int64) (l5 : Int64) (x : St) (H : Heap) (locs : List Loc) (ls : Array Slot), j_Mod_tellNumber_46 post rec46 l1 l3 l5 x → Wd dC dI cI cB cJ cZ ad stM kcM 115 A x H → va_S A s.heap H locs → lv_has ls 9 [(0, .ref (ad 0)), (1, .long l1), (3, .long l3), (5, .long l5)] → W p l e R s m args below meth c H locs cells slots Q (F0 m 46 ls []) := by
  intro l1 l3 l5 x H locs ls  hw hW hS hl
  unfold j_Mod_tellNumber_46 at hw
  refine lv_lload hx hb d_Mod_tellNumber_46 (lv_at hl 3 rfl) ?_
  refine lv_lconst (v := 0) hx hb d_Mod_tellNumber_48 (by decide) ?_
  refine W.lcmp hx hb d_Mod_tellNumber_49 ?_
  refine lv_if_le (tgt := 97) hx hb d_Mod_tellNumber_50 (by decide) (fun c1823 => ?_) (fun c1823 => ?_)
  · have hw := hw.1 c1823
    exact hret x H locs 97 ls d_Mod_tellNumber_97 hw hW hS
  · have hw := hw.2 c1823
    refine lv_lload_n hx hb d_Mod_tellNumber_53 rfl (lv_at hl 1 rfl) ?_
    refine lv_lload hx hb d_Mod_tellNumber_54 (lv_at hl 3 rfl) ?_
    obtain ⟨hz, hw⟩ := hw
    refine lv_ldiv hx hb d_Mod_tellNumber_56 hz ?_
    refine lv_ldc2 hx hb hown (hT _ w_11_102) d_Mod_tellNumber_57 ?_
    refine lv_lrem hx hb d_Mod_tellNumber_60 (by decide) ?_
    refine lv_topl (fun v1824 ev1824 => ?_)
    have hw := hw v1824 ev1824
    refine lv_lstore (lv' := [(7, .long v1824), (0, .ref (ad 0)), (1, .long l1), (3, .long l3), (5, .long l5)]) hx hb d_Mod_tellNumber_61 hl (by decide) rfl (fun ls hl => ?_)
    refine lv_aload_n hx hb d_Mod_tellNumber_63 rfl (lv_at hl 1 rfl) ?_
    refine lv_bipush (v := 48) hx hb d_Mod_tellNumber_64 (by decide) ?_
    refine lv_lload hx hb d_Mod_tellNumber_66 (lv_at hl 0 rfl) ?_
    refine lv_lconst (v := 0) hx hb d_Mod_tellNumber_68 (by decide) ?_
    refine W.lcmp hx hb d_Mod_tellNumber_69 ?_
    refine lv_if_ge (tgt := 79) hx hb d_Mod_tellNumber_70 (by decide) (fun c1825 => ?_) (fun c1825 => ?_)
    · have hw := hw.1 c1825
      refine lv_lload hx hb d_Mod_tellNumber_79 (lv_at hl 0 rfl) ?_
      exact t_Mod_tellNumber_81 hx hb hml hown hT hK hN hA hRc hRs hRf hRl hret hrec46 l1 l3 l5 v1824 v1824 48 x H locs ls  hw hW hS (lv_sub hl [1, 2, 3, 4, 0] rfl)
    · have hw := hw.2 c1825
      refine lv_lload hx hb d_Mod_tellNumber_73 (lv_at hl 0 rfl) ?_
      refine lv_lneg hx hb d_Mod_tellNumber_75 ?_
      refine lv_goto (tgt := 81) hx hb d_Mod_tellNumber_76 (by decide) ?_
      exact t_Mod_tellNumber_81 hx hb hml hown hT hK hN hA hRc hRs hRf hRl hret hrec46 l1 l3 l5 v1824 (-v1824) 48 x H locs ls  hw hW hS (lv_sub hl [1, 2, 3, 4, 0] rfl)
set_option maxHeartbeats 4000000 in
set_option maxRecDepth 100000 in
theorem tl_Mod_tellNumber_46 {p : Program} {l : Launch} {e : Env} {R : Room} {s : State} {m : MethodId} {args : Array Value} {below : List Frame} {meth : Method} {c : Code} {cells slots : Nat} {Q : State → Prop} {dC : Nat → ClassId} {dI : Nat → Nat → Nat} {cI cB cJ cZ : ClassId} {A : Nat → Prop} {ad : Nat → Nat} {post : St → Prop} (hx : p.tables.exec = Jvm.exec) (hb : c.code = b_Mod_tellNumber) (hml : c.maxLocals = 9) (hown : s.vm.findClass R_Mod = some m.cls) (hT : ∀ w ∈ TG, w.before args s = true) (hK : va_K (dC, dI) CL (TY cI cB cJ cZ) s) (hN : NW s) (hA : ∀ q : Nat, s.heap.size ≤ q → A q) (hRc : cells ≤ R.cells) (hRs : slots ≤ R.slots) (hRf : 1 ≤ R.frames) (hRl : 21 ≤ R.locals) (hret : ∀ (x : St) (H : Heap) (locs : List Loc) (pc : Nat) (ls : Array Slot), decode b_Mod_tellNumber pc = .ok (.return_, 1) → post x → Wd dC dI cI cB cJ cZ ad stM kcM 115 A x H → va_S A s.heap H locs → W p l e R s m args below meth c H locs cells slots Q (F0 m pc ls []))  : ∀ n : Nat, ∀ (l1 : Int64) (l3 : Int64) (l5 : Int64) (x : St) (H : Heap) (locs : List Loc) (ls : Array Slot), wl_Mod_tellNumber_46 post n l1 l3 l5 x → Wd dC dI cI cB cJ cZ ad stM kcM 115 A x H → va_S A s.heap H locs → lv_has ls 9 [(0, .ref (ad 0)), (1, .long l1), (3, .long l3), (5, .long l5)] → W p l e R s m args below meth c H locs cells slots Q (F0 m 46 ls []) := by
  intro n
  induction n with
  | zero => intro l1 l3 l5 x H locs ls  hw; exact hw.elim
  | succ n ih => intro l1 l3 l5 x H locs ls  hw hW hS hl; exact t_Mod_tellNumber_46 hx hb hml hown hT hK hN hA hRc hRs hRf hRl hret  ih l1 l3 l5 x H locs ls  hw hW hS hl
set_option maxRecDepth 100000 in
set_option maxHeartbeats 4000000 in
set_option maxRecDepth 100000 in
theorem t_Mod_tellNumber_34 {p : Program} {l : Launch} {e : Env} {R : Room} {s : State} {m : MethodId} {args : Array Value} {below : List Frame} {meth : Method} {c : Code} {cells slots : Nat} {Q : State → Prop} {dC : Nat → ClassId} {dI : Nat → Nat → Nat} {cI cB cJ cZ : ClassId} {A : Nat → Prop} {ad : Nat → Nat} {post : St → Prop} {rec14 : Int64 → Int64 → St → Prop} (hx : p.tables.exec = Jvm.exec) (hb : c.code = b_Mod_tellNumber) (hml : c.maxLocals = 9) (hown : s.vm.findClass R_Mod = some m.cls) (hT : ∀ w ∈ TG, w.before args s = true) (hK : va_K (dC, dI) CL (TY cI cB cJ cZ) s) (hN : NW s) (hA : ∀ q : Nat, s.heap.size ≤ q → A q) (hRc : cells ≤ R.cells) (hRs : slots ≤ R.slots) (hRf : 1 ≤ R.frames) (hRl : 21 ≤ R.locals) (hret : ∀ (x : St) (H : Heap) (locs : List Loc) (pc : Nat) (ls : Array Slot), decode b_Mod_tellNumber pc = .ok (.return_, 1) → post x → Wd dC dI cI cB cJ cZ ad stM kcM 115 A x H → va_S A s.heap H locs → W p l e R s m args below meth c H locs cells slots Q (F0 m pc ls [])) (hrec14 : ∀ (l1 : Int64) (l3 : Int64) (x : St) (H : Heap) (locs : List Loc) (ls : Array Slot), rec14 l1 l3 x → Wd dC dI cI cB cJ cZ ad stM kcM 115 A x H → va_S A s.heap H locs → lv_has ls 9 [(0, .ref (ad 0)), (1, .long l1), (3, .long l3)] → W p l e R s m args below meth c H locs cells slots Q (F0 m 14 ls [])) : ∀ (l1 : Int64) (l3 : Int64) (x : St) (H : Heap) (locs : List Loc) (ls : Array Slot), j_Mod_tellNumber_34 post rec14 l1 l3 x → Wd dC dI cI cB cJ cZ ad stM kcM 115 A x H → va_S A s.heap H locs → lv_has ls 9 [(0, .ref (ad 0)), (1, .long l1), (3, .long l3)] → W p l e R s m args below meth c H locs cells slots Q (F0 m 34 ls []) := by
  intro l1 l3 x H locs ls  hw hW hS hl
  unfold j_Mod_tellNumber_34 at hw
  refine lv_lload_n hx hb d_Mod_tellNumber_34 rfl (lv_at hl 2 rfl) ?_
  refine lv_ldc2 hx hb hown (hT _ w_11_102) d_Mod_tellNumber_35 ?_
  refine lv_lmul hx hb d_Mod_tellNumber_38 ?_
  refine lv_topl (fun v1826 ev1826 => ?_)
  have hw := hw v1826 ev1826
  refine lv_lstore_n (lv' := [(3, .long v1826), (0, .ref (ad 0)), (1, .long l1)]) hx hb d_Mod_tellNumber_39 rfl hl (by decide) rfl (fun ls hl => ?_)
  refine lv_goto (tgt := 14) hx hb d_Mod_tellNumber_40 (by decide) ?_
  exact hrec14 l1 v1826 x H locs ls  hw hW hS (lv_sub hl [1, 2, 0] rfl)
set_option maxRecDepth 100000 in
set_option maxHeartbeats 4000000 in
set_option maxRecDepth 100000 in
theorem t_Mod_tellNumber_14 {p : Program} {l : Launch} {e : Env} {R : Room} {s : State} {m : MethodId} {args : Array Value} {below : List Frame} {meth : Method} {c : Code} {cells slots : Nat} {Q : State → Prop} {dC : Nat → ClassId} {dI : Nat → Nat → Nat} {cI cB cJ cZ : ClassId} {A : Nat → Prop} {ad : Nat → Nat} {post : St → Prop} {rec14 : Int64 → Int64 → St → Prop} (hx : p.tables.exec = Jvm.exec) (hb : c.code = b_Mod_tellNumber) (hml : c.maxLocals = 9) (hown : s.vm.findClass R_Mod = some m.cls) (hT : ∀ w ∈ TG, w.before args s = true) (hK : va_K (dC, dI) CL (TY cI cB cJ cZ) s) (hN : NW s) (hA : ∀ q : Nat, s.heap.size ≤ q → A q) (hRc : cells ≤ R.cells) (hRs : slots ≤ R.slots) (hRf : 1 ≤ R.frames) (hRl : 21 ≤ R.locals) (hret : ∀ (x : St) (H : Heap) (locs : List Loc) (pc : Nat) (ls : Array Slot), decode b_Mod_tellNumber pc = .ok (.return_, 1) → post x → Wd dC dI cI cB cJ cZ ad stM kcM 115 A x H → va_S A s.heap H locs → W p l e R s m args below meth c H locs cells slots Q (F0 m pc ls [])) (hrec14 : ∀ (l1 : Int64) (l3 : Int64) (x : St) (H : Heap) (locs : List Loc) (ls : Array Slot), rec14 l1 l3 x → Wd dC dI cI cB cJ cZ ad stM kcM 115 A x H → va_S A s.heap H locs → lv_has ls 9 [(0, .ref (ad 0)), (1, .long l1), (3, .long l3)] → W p l e R s m args below meth c H locs cells slots Q (F0 m 14 ls [])) : ∀ (l1 : Int64) (l3 : Int64) (x : St) (H : Heap) (locs : List Loc) (ls : Array Slot), j_Mod_tellNumber_14 post rec14 l1 l3 x → Wd dC dI cI cB cJ cZ ad stM kcM 115 A x H → va_S A s.heap H locs → lv_has ls 9 [(0, .ref (ad 0)), (1, .long l1), (3, .long l3)] → W p l e R s m args below meth c H locs cells slots Q (F0 m 14 ls []) := by
  intro l1 l3 x H locs ls  hw hW hS hl
  unfold j_Mod_tellNumber_14 at hw
  refine lv_lload_n hx hb d_Mod_tellNumber_14 rfl (lv_at hl 1 rfl) ?_
  refine lv_lload_n hx hb d_Mod_tellNumber_15 rfl (lv_at hl 2 rfl) ?_
  obtain ⟨hz, hw⟩ := hw
  refine lv_ldiv hx hb d_Mod_tellNumber_16 hz ?_
  refine lv_ldc2 hx hb hown (hT _ w_13_107) d_Mod_tellNumber_17 ?_
  refine W.lcmp hx hb d_Mod_tellNumber_20 ?_
  refine lv_if_gt (tgt := 34) hx hb d_Mod_tellNumber_21 (by decide) (fun c1827 => ?_) (fun c1827 => ?_)
  · have hw := hw.1 c1827
    exact t_Mod_tellNumber_34 hx hb hml hown hT hK hN hA hRc hRs hRf hRl hret hrec14 l1 l3 x H locs ls  hw hW hS (lv_sub hl [0, 1, 2] rfl)
  · have hw := hw.2 c1827
    refine lv_lload_n hx hb d_Mod_tellNumber_24 rfl (lv_at hl 1 rfl) ?_
    refine lv_lload_n hx hb d_Mod_tellNumber_25 rfl (lv_at hl 2 rfl) ?_
    obtain ⟨hz, hw⟩ := hw
    refine lv_ldiv hx hb d_Mod_tellNumber_26 hz ?_
    refine lv_ldc2 hx hb hown (hT _ w_13_108) d_Mod_tellNumber_27 ?_
    refine W.lcmp hx hb d_Mod_tellNumber_30 ?_
    refine lv_if_ge (tgt := 43) hx hb d_Mod_tellNumber_31 (by decide) (fun c1828 => ?_) (fun c1828 => ?_)
    · have hw := hw.1 c1828
      refine lv_lload_n hx hb d_Mod_tellNumber_43 rfl (lv_at hl 2 rfl) ?_
      refine lv_lstore (lv' := [(5, .long l3), (0, .ref (ad 0)), (1, .long l1), (3, .long l3)]) hx hb d_Mod_tellNumber_44 hl (by decide) rfl (fun ls hl => ?_)
      obtain ⟨n, hw⟩ := hw
      exact tl_Mod_tellNumber_46 hx hb hml hown hT hK hN hA hRc hRs hRf hRl hret  n l1 l3 l3 x H locs ls  hw hW hS (lv_sub hl [1, 2, 3, 0] rfl)
    · have hw := hw.2 c1828
      exact t_Mod_tellNumber_34 hx hb hml hown hT hK hN hA hRc hRs hRf hRl hret hrec14 l1 l3 x H locs ls  hw hW hS (lv_sub hl [0, 1, 2] rfl)
set_option maxHeartbeats 4000000 in
set_option maxRecDepth 100000 in
theorem tl_Mod_tellNumber_14 {p : Program} {l : Launch} {e : Env} {R : Room} {s : State} {m : MethodId} {args : Array Value} {below : List Frame} {meth : Method} {c : Code} {cells slots : Nat} {Q : State → Prop} {dC : Nat → ClassId} {dI : Nat → Nat → Nat} {cI cB cJ cZ : ClassId} {A : Nat → Prop} {ad : Nat → Nat} {post : St → Prop} (hx : p.tables.exec = Jvm.exec) (hb : c.code = b_Mod_tellNumber) (hml : c.maxLocals = 9) (hown : s.vm.findClass R_Mod = some m.cls) (hT : ∀ w ∈ TG, w.before args s = true) (hK : va_K (dC, dI) CL (TY cI cB cJ cZ) s) (hN : NW s) (hA : ∀ q : Nat, s.heap.size ≤ q → A q) (hRc : cells ≤ R.cells) (hRs : slots ≤ R.slots) (hRf : 1 ≤ R.frames) (hRl : 21 ≤ R.locals) (hret : ∀ (x : St) (H : Heap) (locs : List Loc) (pc : Nat) (ls : Array Slot), decode b_Mod_tellNumber pc = .ok (.return_, 1) → post x → Wd dC dI cI cB cJ cZ ad stM kcM 115 A x H → va_S A s.heap H locs → W p l e R s m args below meth c H locs cells slots Q (F0 m pc ls []))  : ∀ n : Nat, ∀ (l1 : Int64) (l3 : Int64) (x : St) (H : Heap) (locs : List Loc) (ls : Array Slot), wl_Mod_tellNumber_14 post n l1 l3 x → Wd dC dI cI cB cJ cZ ad stM kcM 115 A x H → va_S A s.heap H locs → lv_has ls 9 [(0, .ref (ad 0)), (1, .long l1), (3, .long l3)] → W p l e R s m args below meth c H locs cells slots Q (F0 m 14 ls []) := by
  intro n
  induction n with
  | zero => intro l1 l3 x H locs ls  hw; exact hw.elim
  | succ n ih => intro l1 l3 x H locs ls  hw hW hS hl; exact t_Mod_tellNumber_14 hx hb hml hown hT hK hN hA hRc hRs hRf hRl hret  ih l1 l3 x H locs ls  hw hW hS hl
set_option maxRecDepth 100000 in
set_option maxHeartbeats 4000000 in
set_option maxRecDepth 100000 in
theorem t_Mod_tellNumber_12 {p : Program} {l : Launch} {e : Env} {R : Room} {s : State} {m : MethodId} {args : Array Value} {below : List Frame} {meth : Method} {c : Code} {cells slots : Nat} {Q : State → Prop} {dC : Nat → ClassId} {dI : Nat → Nat → Nat} {cI cB cJ cZ : ClassId} {A : Nat → Prop} {ad : Nat → Nat} {post : St → Prop} (hx : p.tables.exec = Jvm.exec) (hb : c.code = b_Mod_tellNumber) (hml : c.maxLocals = 9) (hown : s.vm.findClass R_Mod = some m.cls) (hT : ∀ w ∈ TG, w.before args s = true) (hK : va_K (dC, dI) CL (TY cI cB cJ cZ) s) (hN : NW s) (hA : ∀ q : Nat, s.heap.size ≤ q → A q) (hRc : cells ≤ R.cells) (hRs : slots ≤ R.slots) (hRf : 1 ≤ R.frames) (hRl : 21 ≤ R.locals) (hret : ∀ (x : St) (H : Heap) (locs : List Loc) (pc : Nat) (ls : Array Slot), decode b_Mod_tellNumber pc = .ok (.return_, 1) → post x → Wd dC dI cI cB cJ cZ ad stM kcM 115 A x H → va_S A s.heap H locs → W p l e R s m args below meth c H locs cells slots Q (F0 m pc ls []))  : ∀ (l1 : Int64) (x : St) (H : Heap) (locs : List Loc) (ls : Array Slot), j_Mod_tellNumber_12 post l1 x → Wd dC dI cI cB cJ cZ ad stM kcM 115 A x H → va_S A s.heap H locs → lv_has ls 9 [(0, .ref (ad 0)), (1, .long l1)] → W p l e R s m args below meth c H locs cells slots Q (F0 m 12 ls []) := by
  intro l1 x H locs ls  hw hW hS hl
  unfold j_Mod_tellNumber_12 at hw
  refine lv_lconst (v := 1) hx hb d_Mod_tellNumber_12 (by decide) ?_
  refine lv_lstore_n (lv' := [(3, .long 1), (0, .ref (ad 0)), (1, .long l1)]) hx hb d_Mod_tellNumber_13 rfl hl (by decide) rfl (fun ls hl => ?_)
  obtain ⟨n, hw⟩ := hw
  exact tl_Mod_tellNumber_14 hx hb hml hown hT hK hN hA hRc hRs hRf hRl hret  n l1 1 x H locs ls  hw hW hS (lv_sub hl [1, 2, 0] rfl)
set_option maxRecDepth 100000 in
set_option maxHeartbeats 4000000 in
set_option maxRecDepth 100000 in
theorem t_Mod_tellNumber_e {p : Program} {l : Launch} {e : Env} {R : Room} {s : State} {m : MethodId} {args : Array Value} {below : List Frame} {meth : Method} {c : Code} {cells slots : Nat} {Q : State → Prop} {dC : Nat → ClassId} {dI : Nat → Nat → Nat} {cI cB cJ cZ : ClassId} {A : Nat → Prop} {ad : Nat → Nat} {post : St → Prop} (hx : p.tables.exec = Jvm.exec) (hb : c.code = b_Mod_tellNumber) (hml : c.maxLocals = 9) (hown : s.vm.findClass R_Mod = some m.cls) (hT : ∀ w ∈ TG, w.before args s = true) (hK : va_K (dC, dI) CL (TY cI cB cJ cZ) s) (hN : NW s) (hA : ∀ q : Nat, s.heap.size ≤ q → A q) (hRc : cells ≤ R.cells) (hRs : slots ≤ R.slots) (hRf : 1 ≤ R.frames) (hRl : 21 ≤ R.locals) (hret : ∀ (x : St) (H : Heap) (locs : List Loc) (pc : Nat) (ls : Array Slot), decode b_Mod_tellNumber pc = .ok (.return_, 1) → post x → Wd dC dI cI cB cJ cZ ad stM kcM 115 A x H → va_S A s.heap H locs → W p l e R s m args below meth c H locs cells slots Q (F0 m pc ls [])) : ∀ (l1 : Int64) (x : St) (H : Heap) (locs : List Loc) (ls : Array Slot), wp_Mod_tellNumber post l1 x → Wd dC dI cI cB cJ cZ ad stM kcM 115 A x H → va_S A s.heap H locs → lv_has ls 9 [(0, .ref (ad 0)), (1, .long l1)] → W p l e R s m args below meth c H locs cells slots Q (F0 m 0 ls []) := by
  intro l1 x H locs ls  hw hW hS hl
  unfold wp_Mod_tellNumber at hw
  refine lv_lload_n hx hb d_Mod_tellNumber_0 rfl (lv_at hl 1 rfl) ?_
  refine lv_lconst (v := 0) hx hb d_Mod_tellNumber_1 (by decide) ?_
  refine W.lcmp hx hb d_Mod_tellNumber_2 ?_
  refine lv_if_ge (tgt := 12) hx hb d_Mod_tellNumber_3 (by decide) (fun c1829 => ?_) (fun c1829 => ?_)
  · have hw := hw.1 c1829
    exact t_Mod_tellNumber_12 hx hb hml hown hT hK hN hA hRc hRs hRf hRl hret  l1 x H locs ls  hw hW hS (lv_sub hl [0, 1] rfl)
  · have hw := hw.2 c1829
    refine lv_aload_n hx hb d_Mod_tellNumber_6 rfl (lv_at hl 0 rfl) ?_
    refine lv_bipush (v := 45) hx hb d_Mod_tellNumber_7 (by decide) ?_
    have hF := hW.free hS hA
    refine va_callv (va_runV (C := R_Mod) (As := [.int 45]) (rest := []) ⟨hx, hb, hml, hown, hT⟩ (k_Mod_tell l dC dI cI cB cJ cZ ad H.size 45 x  hw) ⟨callB_of 1 hT (gwt_in w_13_70) rfl rfl rfl (hT _ w_1_15) (hT _ w_13_67) (by decide +kernel) ⟨Nat.le_trans (Nat.le_of_ble_eq_true rfl) hRf, Nat.le_trans (Nat.le_of_ble_eq_true rfl) hRl⟩, hT _ w_13_69, hT _ ws_227⟩ ⟨PW.blind, va_recv hK hW.1 (ci := 12) (q0 := 0) rfl (pic_obj ko_0.1 ko_0.2 (by decide)), PW.at _ hW hK hN⟩ rfl rfl hl.1 rfl (lv_room (Nat.le_of_ble_eq_true rfl)) d_Mod_tellNumber_9 ⟨hRc, hRs⟩) hS (fun q _ h => hF q h) hF (fun  x1830 t H locs ht hvm hw hB hz1 hk1 hS => ?_)
    have hW := Wd.back hB ht hF
    clear hB ht hF hz1 hk1 hvm
    exact t_Mod_tellNumber_12 hx hb hml hown hT hK hN hA hRc hRs hRf hRl hret  l1 x1830 H locs ls  hw hW hS (lv_sub hl [0, 1] rfl)
set_option maxHeartbeats 4000000 in
set_option maxRecDepth 100000 in
theorem k_Mod_tellNumber (l : Launch) (dC : Nat → ClassId) (dI : Nat → Nat → Nat) (cI cB cJ cZ : ClassId) (ad : Nat → Nat) (sz : Nat) (l1 : Int64) (x : St) {post : St → Prop} (hw : wp_Mod_tellNumber post l1 x) : Met l y_Mod_tellNumber (wsOf y_Mod_tellNumber b_Mod_tellNumber 9 (none)) ({ frames := 1, cells := 0, slots := 0, locals := 21 }) (va_Pc [.ref (ad 0), .long l1] (PW dC dI cI cB cJ cZ ad stM kcM 115 sz x)) (va_Qv (fun (y : St) => post y) (fun y t => Wd dC dI cI cB cJ cZ ad stM kcM 115 (va_A (pic ad stM kcM 115 cI cB cJ cZ x) sz) y t.heap) (va_A (pic ad stM kcM 115 cI cB cJ cZ x) sz)) 0 0 (va_A (pic ad stM kcM 115 cI cB cJ cZ x) sz) := by
  refine Met.ofW (cc := b_Mod_tellNumber) (maxL := 9) (ret := none) (by decide) rfl ?_
  intro p e s m args below meth c s₁ B hml hv
  obtain ⟨rfl, hsz, hW0, hK, hN⟩ := hv
  have hx := B.exec
  have hb := B.bytes
  have hr := B.returns
  have hts := atoms_spec B.pre
  have hT : ∀ w ∈ TG, w.before _ s = true := fun w h => hts w (List.mem_cons_of_mem _ h)
  have hown : s.vm.findClass R_Mod = some m.cls := findClass_of_methodNamed B.named
  have hlocks := B.notSynchronized
  subst hsz
  have hW : Wd dC dI cI cB cJ cZ ad stM kcM 115 (va_A (pic ad stM kcM 115 cI cB cJ cZ x) s.heap.size) x s.heap := ⟨hW0.1, hW0.2.1.self (sz := s.heap.size), hW0.2.2⟩
  generalize hAe : va_A (pic ad stM kcM 115 cI cB cJ cZ x) s.heap.size = A at hW ⊢
  have hA : ∀ q : Nat, s.heap.size ≤ q → A q := fun q h => by rw [← hAe]; exact Or.inr h
  have hS : va_S A s.heap s.heap [] := va_S.rf
  have hl := lv_entry ([.ref (ad 0), .long l1]) (n := 9) (Nat.le_of_ble_eq_true rfl)
  rw [lg_entry_eq]
  generalize (lg_sl ([.ref (ad 0), .long l1]) ++ List.replicate (9 - (lg_sl ([.ref (ad 0), .long l1])).length) Slot.unset).toArray = ls at hl ⊢
  have hl : lv_has ls 9 [(0, .ref (ad 0)), (1, .long l1)] := hl
  exact t_Mod_tellNumber_e hx hb hml hown hT hK hN hA (Nat.le_refl 0) (Nat.le_refl 0) (Nat.le_refl 1) (Nat.le_refl 21) (fun x H locs pc ls hd hp hW hS => W.vret hx hb hr (fun t ht hM => ⟨⟨x, rfl, hp, Wd.back hW ht.symm (fun _ z => z)⟩, hS.F ht⟩) hS.2.2 hd hlocks)  l1 x _ _ ls  hw hW hS hl
set_option maxRecDepth 100000 in
set_option maxHeartbeats 4000000 in
set_option maxRecDepth 100000 in
theorem t_Mod_tellValue_38 {p : Program} {l : Launch} {e : Env} {R : Room} {s : State} {m : MethodId} {args : Array Value} {below : List Frame} {meth : Method} {c : Code} {cells slots : Nat} {Q : State → Prop} {dC : Nat → ClassId} {dI : Nat → Nat → Nat} {cI cB cJ cZ : ClassId} {A : Nat → Prop} {ad : Nat → Nat} {post : St → Prop} (hx : p.tables.exec = Jvm.exec) (hb : c.code = b_Mod_tellValue) (hml : c.maxLocals = 3) (hown : s.vm.findClass R_Mod = some m.cls) (hT : ∀ w ∈ TG, w.before args s = true) (hK : va_K (dC, dI) CL (TY cI cB cJ cZ) s) (hN : NW s) (hA : ∀ q : Nat, s.heap.size ≤ q → A q) (hRc : cells ≤ R.cells) (hRs : slots ≤ R.slots) (hRf : 3 ≤ R.frames) (hRl : 65 ≤ R.locals) (hret : ∀ (x : St) (H : Heap) (locs : List Loc) (pc : Nat) (ls : Array Slot), decode b_Mod_tellValue pc = .ok (.return_, 1) → post x → Wd dC dI cI cB cJ cZ ad stM kcM 115 A x H → va_S A s.heap H locs → W p l e R s m args below meth c H locs cells slots Q (F0 m pc ls []))  : ∀ (l1 : Int32) (l2 : Int32) (s0 : Int64) (x : St) (H : Heap) (locs : List Loc) (ls : Array Slot), j_Mod_tellValue_38 post l1 l2 s0 x → Wd dC dI cI cB cJ cZ ad stM kcM 115 A x H → va_S A s.heap H locs → lv_has ls 3 [(0, .ref (ad 0)), (1, .int l1), (2, .int l2)] → W p l e R s m args below meth c H locs cells slots Q (F0 m 38 ls [.long s0, .ref (ad 0)]) := by
  intro l1 l2 s0 x H locs ls  hw hW hS hl
  unfold j_Mod_tellValue_38 at hw
  have hF := hW.free hS hA
  refine va_callv (va_runV (C := R_Mod) (As := [.long s0]) (rest := []) ⟨hx, hb, hml, hown, hT⟩ (k_Mod_tellWord l dC dI cI cB cJ cZ ad H.size s0 x  hw) ⟨callB_of 1 hT (gwt_in w_13_102) rfl rfl rfl (hT _ w_1_15) (hT _ w_13_99) (by decide +kernel) ⟨Nat.le_trans (Nat.le_of_ble_eq_true rfl) hRf, Nat.le_trans (Nat.le_of_ble_eq_true rfl) hRl⟩, hT _ w_13_101, hT _ ws_235⟩ ⟨PW.blind, va_recv hK hW.1 (ci := 12) (q0 := 0) rfl (pic_obj ko_0.1 ko_0.2 (by decide)), PW.at _ hW hK hN⟩ rfl rfl hl.1 rfl (lv_room (Nat.le_of_ble_eq_true rfl)) d_Mod_tellValue_38 ⟨hRc, hRs⟩) hS (fun q _ h => hF q h) hF (fun  x1831 t H locs ht hvm hw hB hz1 hk1 hS => ?_)
  have hW := Wd.back hB ht hF
  clear hB ht hF hz1 hk1 hvm
  refine lv_goto (tgt := 54) hx hb d_Mod_tellValue_41 (by decide) ?_
  exact hret x1831 H locs 54 ls d_Mod_tellValue_54 hw hW hS
set_option maxRecDepth 100000 in
set_option maxHeartbeats 4000000 in
set_option maxRecDepth 100000 in
theorem t_Mod_tellValue_e {p : Program} {l : Launch} {e : Env} {R : Room} {s : State} {m : MethodId} {args : Array Value} {below : List Frame} {meth : Method} {c : Code} {cells slots : Nat} {Q : State → Prop} {dC : Nat → ClassId} {dI : Nat → Nat → Nat} {cI cB cJ cZ : ClassId} {A : Nat → Prop} {ad : Nat → Nat} {post : St → Prop} (hx : p.tables.exec = Jvm.exec) (hb : c.code = b_Mod_tellValue) (hml : c.maxLocals = 3) (hown : s.vm.findClass R_Mod = some m.cls) (hT : ∀ w ∈ TG, w.before args s = true) (hK : va_K (dC, dI) CL (TY cI cB cJ cZ) s) (hN : NW s) (hA : ∀ q : Nat, s.heap.size ≤ q → A q) (hRc : cells ≤ R.cells) (hRs : slots ≤ R.slots) (hRf : 3 ≤ R.frames) (hRl : 65 ≤ R.locals) (hret : ∀ (x : St) (H : Heap) (locs : List Loc) (pc : Nat) (ls : Array Slot), decode b_Mod_tellValue pc = .ok (.return_, 1) → post x → Wd dC dI cI cB cJ cZ ad stM kcM 115 A x H → va_S A s.heap H locs → W p l e R s m args below meth c H locs cells slots Q (F0 m pc ls [])) : ∀ (l1 : Int32) (l2 : Int32) (x : St) (H : Heap) (locs : List Loc) (ls : Array Slot), wp_Mod_tellValue post l1 l2 x → Wd dC dI cI cB cJ cZ ad stM kcM 115 A x H → va_S A s.heap H locs → lv_has ls 3 [(0, .ref (ad 0)), (1, .int l1), (2, .int l2)] → W p l e R s m args below meth c H locs cells slots Q (F0 m 0 ls []) := by
  intro l1 l2 x H locs ls  hw hW hS hl
  unfold wp_Mod_tellValue at hw
  refine lv_iload_n hx hb d_Mod_tellValue_0 rfl (lv_at hl 1 rfl) ?_
  refine lv_iconst (v := 3) hx hb d_Mod_tellValue_1 (by decide) ?_
  refine lv_icmp_ne (tgt := 13) hx hb d_Mod_tellValue_2 (by decide) (fun c1832 => ?_) (fun c1832 => ?_)
  · have hw := hw.1 c1832
    refine lv_iload_n hx hb d_Mod_tellValue_13 rfl (lv_at hl 1 rfl) ?_
    refine lv_if_ne (tgt := 44) hx hb d_Mod_tellValue_14 (by decide) (fun c1833 => ?_) (fun c1833 => ?_)
    · have hw := hw.1 c1833
      refine lv_aload_n hx hb d_Mod_tellValue_44 rfl (lv_at hl 0 rfl) ?_
      refine lv_aload_n hx hb d_Mod_tellValue_45 rfl (lv_at hl 0 rfl) ?_
      refine w_getf (q := 54) (k := 89) (t := 12) (C := R_Mod) (T := F_Mod) (N := 167) hx hb hT hown hK hW ko_0.1 ko_0.2 (by decide) in_Mod rfl rfl (by decide) rfl fr_Mod_89 w_9_25 d_Mod_tellValue_46 rfl ?_
      refine lv_iload_n hx hb d_Mod_tellValue_49 rfl (lv_at hl 2 rfl) ?_
      obtain ⟨hi, hw⟩ := hw
      refine w_lald (o := 54) hx hb hK hW ko_54.1 ko_54.2 hi d_Mod_tellValue_50 ?_
      have hF := hW.free hS hA
      refine va_callv (va_runV (C := R_Mod) (As := [.long (rL x 54 l2)]) (rest := []) ⟨hx, hb, hml, hown, hT⟩ (k_Mod_tellNumber l dC dI cI cB cJ cZ ad H.size (rL x 54 l2) x  hw) ⟨callB_of 1 hT (gwt_in w_13_106) rfl rfl rfl (hT _ w_1_15) (hT _ w_13_103) (by decide +kernel) ⟨Nat.le_trans (Nat.le_of_ble_eq_true rfl) hRf, Nat.le_trans (Nat.le_of_ble_eq_true rfl) hRl⟩, hT _ w_13_105, hT _ ws_236⟩ ⟨PW.blind, va_recv hK hW.1 (ci := 12) (q0 := 0) rfl (pic_obj ko_0.1 ko_0.2 (by decide)), PW.at _ hW hK hN⟩ rfl rfl hl.1 rfl (lv_room (Nat.le_of_ble_eq_true rfl)) d_Mod_tellValue_51 ⟨hRc, hRs⟩) hS (fun q _ h => hF q h) hF (fun  x1834 t H locs ht hvm hw hB hz1 hk1 hS => ?_)
      have hW := Wd.back hB ht hF
      clear hB ht hF hz1 hk1 hvm
      exact hret x1834 H locs 54 ls d_Mod_tellValue_54 hw hW hS
    · have hw := hw.2 c1833
      refine lv_aload_n hx hb d_Mod_tellValue_17 rfl (lv_at hl 0 rfl) ?_
      refine lv_aload_n hx hb d_Mod_tellValue_18 rfl (lv_at hl 0 rfl) ?_
      refine w_getf (q := 54) (k := 89) (t := 12) (C := R_Mod) (T := F_Mod) (N := 167) hx hb hT hown hK hW ko_0.1 ko_0.2 (by decide) in_Mod rfl rfl (by decide) rfl fr_Mod_89 w_9_25 d_Mod_tellValue_19 rfl ?_
      refine lv_iload_n hx hb d_Mod_tellValue_22 rfl (lv_at hl 2 rfl) ?_
      obtain ⟨hi, hw⟩ := hw
      refine w_lald (o := 54) hx hb hK hW ko_54.1 ko_54.2 hi d_Mod_tellValue_23 ?_
      refine lv_lconst (v := 1) hx hb d_Mod_tellValue_24 (by decide) ?_
      refine W.lcmp hx hb d_Mod_tellValue_25 ?_
      refine lv_if_ne (tgt := 35) hx hb d_Mod_tellValue_26 (by decide) (fun c1835 => ?_) (fun c1835 => ?_)
      · have hw := hw.1 c1835
        refine lv_ldc2 hx hb hown (hT _ w_11_96) d_Mod_tellValue_35 ?_
        exact t_Mod_tellValue_38 hx hb hml hown hT hK hN hA hRc hRs hRf hRl hret  l1 l2 439721161573 x H locs ls  hw hW hS (lv_sub hl [0, 1, 2] rfl)
      · have hw := hw.2 c1835
        refine lv_ldc2 hx hb hown (hT _ w_11_95) d_Mod_tellValue_29 ?_
        refine lv_goto (tgt := 38) hx hb d_Mod_tellValue_32 (by decide) ?_
        exact t_Mod_tellValue_38 hx hb hml hown hT hK hN hA hRc hRs hRf hRl hret  l1 l2 1953658213 x H locs ls  hw hW hS (lv_sub hl [0, 1, 2] rfl)
  · have hw := hw.2 c1832
    refine lv_aload_n hx hb d_Mod_tellValue_5 rfl (lv_at hl 0 rfl) ?_
    refine lv_iload_n hx hb d_Mod_tellValue_6 rfl (lv_at hl 2 rfl) ?_
    have hF := hW.free hS hA
    refine va_callv (va_runV (C := R_Mod) (As := [.int l2]) (rest := []) ⟨hx, hb, hml, hown, hT⟩ (k_Mod_tellText l dC dI cI cB cJ cZ ad H.size l2 x  hw) ⟨callB_of 1 hT (gwt_in w_13_94) rfl rfl rfl (hT _ w_1_15) (hT _ w_13_91) (by decide +kernel) ⟨Nat.le_trans (Nat.le_of_ble_eq_true rfl) hRf, Nat.le_trans (Nat.le_of_ble_eq_true rfl) hRl⟩, hT _ w_13_93, hT _ ws_233⟩ ⟨PW.blind, va_recv hK hW.1 (ci := 12) (q0 := 0) rfl (pic_obj ko_0.1 ko_0.2 (by decide)), PW.at _ hW hK hN⟩ rfl rfl hl.1 rfl (lv_room (Nat.le_of_ble_eq_true rfl)) d_Mod_tellValue_7 ⟨hRc, hRs⟩) hS (fun q _ h => hF q h) hF (fun  x1836 t H locs ht hvm hw hB hz1 hk1 hS => ?_)
    have hW := Wd.back hB ht hF
    clear hB ht hF hz1 hk1 hvm
    refine lv_goto (tgt := 54) hx hb d_Mod_tellValue_10 (by decide) ?_
    exact hret x1836 H locs 54 ls d_Mod_tellValue_54 hw hW hS
set_option maxHeartbeats 4000000 in
set_option maxRecDepth 100000 in
theorem k_Mod_tellValue (l : Launch) (dC : Nat → ClassId) (dI : Nat → Nat → Nat) (cI cB cJ cZ : ClassId) (ad : Nat → Nat) (sz : Nat) (l1 : Int32) (l2 : Int32) (x : St) {post : St → Prop} (hw : wp_Mod_tellValue post l1 l2 x) : Met l y_Mod_tellValue (wsOf y_Mod_tellValue b_Mod_tellValue 3 (none)) ({ frames := 3, cells := 0, slots := 0, locals := 65 }) (va_Pc [.ref (ad 0), .int l1, .int l2] (PW dC dI cI cB cJ cZ ad stM kcM 115 sz x)) (va_Qv (fun (y : St) => post y) (fun y t => Wd dC dI cI cB cJ cZ ad stM kcM 115 (va_A (pic ad stM kcM 115 cI cB cJ cZ x) sz) y t.heap) (va_A (pic ad stM kcM 115 cI cB cJ cZ x) sz)) 0 0 (va_A (pic ad stM kcM 115 cI cB cJ cZ x) sz) := by
  refine Met.ofW (cc := b_Mod_tellValue) (maxL := 3) (ret := none) (by decide) rfl ?_
  intro p e s m args below meth c s₁ B hml hv
  obtain ⟨rfl, hsz, hW0, hK, hN⟩ := hv
  have hx := B.exec
  have hb := B.bytes
  have hr := B.returns
  have hts := atoms_spec B.pre
  have hT : ∀ w ∈ TG, w.before _ s = true := fun w h => hts w (List.mem_cons_of_mem _ h)
  have hown : s.vm.findClass R_Mod = some m.cls := findClass_of_methodNamed B.named
  have hlocks := B.notSynchronized
  subst hsz
  have hW : Wd dC dI cI cB cJ cZ ad stM kcM 115 (va_A (pic ad stM kcM 115 cI cB cJ cZ x) s.heap.size) x s.heap := ⟨hW0.1, hW0.2.1.self (sz := s.heap.size), hW0.2.2⟩
  generalize hAe : va_A (pic ad stM kcM 115 cI cB cJ cZ x) s.heap.size = A at hW ⊢
  have hA : ∀ q : Nat, s.heap.size ≤ q → A q := fun q h => by rw [← hAe]; exact Or.inr h
  have hS : va_S A s.heap s.heap [] := va_S.rf
  have hl := lv_entry ([.ref (ad 0), .int l1, .int l2]) (n := 3) (Nat.le_of_ble_eq_true rfl)
  rw [lg_entry_eq]
  generalize (lg_sl ([.ref (ad 0), .int l1, .int l2]) ++ List.replicate (3 - (lg_sl ([.ref (ad 0), .int l1, .int l2])).length) Slot.unset).toArray = ls at hl ⊢
  have hl : lv_has ls 3 [(0, .ref (ad 0)), (1, .int l1), (2, .int l2)] := hl
  exact t_Mod_tellValue_e hx hb hml hown hT hK hN hA (Nat.le_refl 0) (Nat.le_refl 0) (Nat.le_refl 3) (Nat.le_refl 65) (fun x H locs pc ls hd hp hW hS => W.vret hx hb hr (fun t ht hM => ⟨⟨x, rfl, hp, Wd.back hW ht.symm (fun _ z => z)⟩, hS.F ht⟩) hS.2.2 hd hlocks)  l1 l2 x _ _ ls  hw hW hS hl
set_option maxRecDepth 100000 in
set_option maxHeartbeats 4000000 in
set_option maxRecDepth 100000 in
theorem t_Mod_tellGroup_255 {p : Program} {l : Launch} {e : Env} {R : Room} {s : State} {m : MethodId} {args : Array Value} {below : List Frame} {meth : Method} {c : Code} {cells slots : Nat} {Q : State → Prop} {dC : Nat → ClassId} {dI : Nat → Nat → Nat} {cI cB cJ cZ : ClassId} {A : Nat → Prop} {ad : Nat → Nat} {post : St → Prop} {self_Mod_tellGroup : (St → Prop) → Int32 → St → Prop} {self_Mod_tellOne : (St → Prop) → Int32 → Int32 → St → Prop} {fd ld : Nat} {rec10 : Int32 → Int32 → Int32 → St → Prop} (hx : p.tables.exec = Jvm.exec) (hb : c.code = b_Mod_tellGroup) (hml : c.maxLocals = 6) (hown : s.vm.findClass R_Mod = some m.cls) (hT : ∀ w ∈ TG, w.before args s = true) (hK : va_K (dC, dI) CL (TY cI cB cJ cZ) s) (hN : NW s) (hA : ∀ q : Nat, s.heap.size ≤ q → A q) (hRc : cells ≤ R.cells) (hRs : slots ≤ R.slots) (hRf : 4 ≤ R.frames) (hRl : 87 ≤ R.locals) (hret : ∀ (x : St) (H : Heap) (locs : List Loc) (pc : Nat) (ls : Array Slot), decode b_Mod_tellGroup pc = .ok (.return_, 1) → post x → Wd dC dI cI cB cJ cZ ad stM kcM 115 A x H → va_S A s.heap H locs → W p l e R s m args below meth c H locs cells slots Q (F0 m pc ls [])) (hs_Mod_tellGroup : ∀ (sz : Nat) (l1 : Int32) (x : St), ∀ (post : St → Prop), self_Mod_tellGroup post l1 x → Met l y_Mod_tellGroup (wsOf y_Mod_tellGroup b_Mod_tellGroup 6 (none)) ({ frames := fd, cells := 0, slots := 0, locals := ld }) (va_Pc [.ref (ad 0), .int l1] (PW dC dI cI cB cJ cZ ad stM kcM 115 sz x)) (va_Qv (fun (y : St) => post y) (fun y t => Wd dC dI cI cB cJ cZ ad stM kcM 115 (va_A (pic ad stM kcM 115 cI cB cJ cZ x) sz) y t.heap) (va_A (pic ad stM kcM 115 cI cB cJ cZ x) sz)) 0 0 (va_A (pic ad stM kcM 115 cI cB cJ cZ x) sz)) (hs_Mod_tellOne : ∀ (sz : Nat) (l1 : Int32) (l2 : Int32) (x : St), ∀ (post : St → Prop), self_Mod_tellOne post l1 l2 x → Met l y_Mod_tellOne (wsOf y_Mod_tellOne b_Mod_tellOne 3 (none)) ({ frames := fd, cells := 0, slots := 0, locals := ld }) (va_Pc [.ref (ad 0), .int l1, .int l2] (PW dC dI cI cB cJ cZ ad stM kcM 115 sz x)) (va_Qv (fun (y : St) => post y) (fun y t => Wd dC dI cI cB cJ cZ ad stM kcM 115 (va_A (pic ad stM kcM 115 cI cB cJ cZ x) sz) y t.heap) (va_A (pic ad stM kcM 115 cI cB cJ cZ x) sz)) 0 0 (va_A (pic ad stM kcM 115 cI cB cJ cZ x) sz)) (hDf : fd + 1 ≤ R.frames) (hDl : 25 + ld ≤ R.locals) (hrec10 : ∀ (l1 : Int32) (l2 : Int32) (l3 : Int32) (x : St) (H : Heap) (locs : List Loc) (ls : Array Slot), rec10 l1 l2 l3 x → Wd dC dI cI cB cJ cZ ad stM kcM 115 A x H → va_S A s.heap H locs → lv_has ls 6 [(0, .ref (ad 0)), (1, .int l1), (2, .int l2), (3, .int l3)] → W p l e R s m args below meth c H locs cells slots Q (F0 m 10 ls [])) : ∀ (l1 : Int32) (l2 : Int32) (l3 : Int32) (x : St) (H : Heap) (locs : List Loc) (ls : Array Slot), j_Mod_tellGroup_255 post self_Mod_tellGroup self_Mod_tellOne rec10 l1 l2 l3 x → Wd dC dI cI cB cJ cZ ad stM kcM 115 A x H → va_S A s.heap H locs → lv_has ls 6 [(0, .ref (ad 0)), (1, .int l1), (2, .int l2), (3, .int l3)] → W p l e R s m args below meth c H locs cells slots Q (F0 m 255 ls []) := by
  intro l1 l2 l3 x H locs ls  hw hW hS hl
  unfold j_Mod_tellGroup_255 at hw
  refine lv_iinc (v := (l3 + 1)) (lv' := [(3, .int (l3 + 1)), (0, .ref (ad 0)), (1, .int l1), (2, .int l2)]) hx hb d_Mod_tellGroup_255 hl (k := 3) rfl rfl (by decide) rfl (fun ls hl => ?_)
  refine lv_goto (tgt := 10) hx hb d_Mod_tellGroup_258 (by decide) ?_
  exact hrec10 l1 l2 (l3 + 1) x H locs ls  hw hW hS (lv_sub hl [1, 2, 3, 0] rfl)
set_option maxRecDepth 100000 in
set_option maxHeartbeats 4000000 in
set_option maxRecDepth 100000 in
theorem t_Mod_tellGroup_244 {p : Program} {l : Launch} {e : Env} {R : Room} {s : State} {m : MethodId} {args : Array Value} {below : List Frame} {meth : Method} {c : Code} {cells slots : Nat} {Q : State → Prop} {dC : Nat → ClassId} {dI : Nat → Nat → Nat} {cI cB cJ cZ : ClassId} {A : Nat → Prop} {ad : Nat → Nat} {post : St → Prop} {self_Mod_tellGroup : (St → Prop) → Int32 → St → Prop} {self_Mod_tellOne : (St → Prop) → Int32 → Int32 → St → Prop} {fd ld : Nat} {rec10 : Int32 → Int32 → Int32 → St → Prop} (hx : p.tables.exec = Jvm.exec) (hb : c.code = b_Mod_tellGroup) (hml : c.maxLocals = 6) (hown : s.vm.findClass R_Mod = some m.cls) (hT : ∀ w ∈ TG, w.before args s = true) (hK : va_K (dC, dI) CL (TY cI cB cJ cZ) s) (hN : NW s) (hA : ∀ q : Nat, s.heap.size ≤ q → A q) (hRc : cells ≤ R.cells) (hRs : slots ≤ R.slots) (hRf : 4 ≤ R.frames) (hRl : 87 ≤ R.locals) (hret : ∀ (x : St) (H : Heap) (locs : List Loc) (pc : Nat) (ls : Array Slot), decode b_Mod_tellGroup pc = .ok (.return_, 1) → post x → Wd dC dI cI cB cJ cZ ad stM kcM 115 A x H → va_S A s.heap H locs → W p l e R s m args below meth c H locs cells slots Q (F0 m pc ls [])) (hs_Mod_tellGroup : ∀ (sz : Nat) (l1 : Int32) (x : St), ∀ (post : St → Prop), self_Mod_tellGroup post l1 x → Met l y_Mod_tellGroup (wsOf y_Mod_tellGroup b_Mod_tellGroup 6 (none)) ({ frames := fd, cells := 0, slots := 0, locals := ld }) (va_Pc [.ref (ad 0), .int l1] (PW dC dI cI cB cJ cZ ad stM kcM 115 sz x)) (va_Qv (fun (y : St) => post y) (fun y t => Wd dC dI cI cB cJ cZ ad stM kcM 115 (va_A (pic ad stM kcM 115 cI cB cJ cZ x) sz) y t.heap) (va_A (pic ad stM kcM 115 cI cB cJ cZ x) sz)) 0 0 (va_A (pic ad stM kcM 115 cI cB cJ cZ x) sz)) (hs_Mod_tellOne : ∀ (sz : Nat) (l1 : Int32) (l2 : Int32) (x : St), ∀ (post : St → Prop), self_Mod_tellOne post l1 l2 x → Met l y_Mod_tellOne (wsOf y_Mod_tellOne b_Mod_tellOne 3 (none)) ({ frames := fd, cells := 0, slots := 0, locals := ld }) (va_Pc [.ref (ad 0), .int l1, .int l2] (PW dC dI cI cB cJ cZ ad stM kcM 115 sz x)) (va_Qv (fun (y : St) => post y) (fun y t => Wd dC dI cI cB cJ cZ ad stM kcM 115 (va_A (pic ad stM kcM 115 cI cB cJ cZ x) sz) y t.heap) (va_A (pic ad stM kcM 115 cI cB cJ cZ x) sz)) 0 0 (va_A (pic ad stM kcM 115 cI cB cJ cZ x) sz)) (hDf : fd + 1 ≤ R.frames) (hDl : 25 + ld ≤ R.locals) (hrec10 : ∀ (l1 : Int32) (l2 : Int32) (l3 : Int32) (x : St) (H : Heap) (locs : List Loc) (ls : Array Slot), rec10 l1 l2 l3 x → Wd dC dI cI cB cJ cZ ad stM kcM 115 A x H → va_S A s.heap H locs → lv_has ls 6 [(0, .ref (ad 0)), (1, .int l1), (2, .int l2), (3, .int l3)] → W p l e R s m args below meth c H locs cells slots Q (F0 m 10 ls [])) : ∀ (l1 : Int32) (l2 : Int32) (l3 : Int32) (l4 : Int32) (l5 : Int32) (x : St) (H : Heap) (locs : List Loc) (ls : Array Slot), j_Mod_tellGroup_244 post self_Mod_tellGroup self_Mod_tellOne rec10 l1 l2 l3 l4 l5 x → Wd dC dI cI cB cJ cZ ad stM kcM 115 A x H → va_S A s.heap H locs → lv_has ls 6 [(0, .ref (ad 0)), (1, .int l1), (2, .int l2), (3, .int l3), (4, .int l4), (5, .int l5)] → W p l e R s m args below meth c H locs cells slots Q (F0 m 244 ls []) := by
  intro l1 l2 l3 l4 l5 x H locs ls  hw hW hS hl
  unfold j_Mod_tellGroup_244 at hw
  refine lv_iload hx hb d_Mod_tellGroup_244 (lv_at hl 5 rfl) ?_
  refine lv_if_eq (tgt := 255) hx hb d_Mod_tellGroup_246 (by decide) (fun c1837 => ?_) (fun c1837 => ?_)
  · have hw := hw.1 c1837
    exact t_Mod_tellGroup_255 hx hb hml hown hT hK hN hA hRc hRs hRf hRl hret hs_Mod_tellGroup hs_Mod_tellOne hDf hDl hrec10 l1 l2 l3 x H locs ls  hw hW hS (lv_sub hl [0, 1, 2, 3] rfl)
  · have hw := hw.2 c1837
    refine lv_aload_n hx hb d_Mod_tellGroup_249 rfl (lv_at hl 0 rfl) ?_
    refine lv_bipush (v := 93) hx hb d_Mod_tellGroup_250 (by decide) ?_
    have hF := hW.free hS hA
    refine va_callv (va_runV (C := R_Mod) (As := [.int 93]) (rest := []) ⟨hx, hb, hml, hown, hT⟩ (k_Mod_tell l dC dI cI cB cJ cZ ad H.size 93 x  hw) ⟨callB_of 1 hT (gwt_in w_13_70) rfl rfl rfl (hT _ w_1_15) (hT _ w_13_67) (by decide +kernel) ⟨Nat.le_trans (Nat.le_of_ble_eq_true rfl) hRf, Nat.le_trans (Nat.le_of_ble_eq_true rfl) hRl⟩, hT _ w_13_69, hT _ ws_227⟩ ⟨PW.blind, va_recv hK hW.1 (ci := 12) (q0 := 0) rfl (pic_obj ko_0.1 ko_0.2 (by decide)), PW.at _ hW hK hN⟩ rfl rfl hl.1 rfl (lv_room (Nat.le_of_ble_eq_true rfl)) d_Mod_tellGroup_252 ⟨hRc, hRs⟩) hS (fun q _ h => hF q h) hF (fun  x1838 t H locs ht hvm hw hB hz1 hk1 hS => ?_)
    have hW := Wd.back hB ht hF
    clear hB ht hF hz1 hk1 hvm
    exact t_Mod_tellGroup_255 hx hb hml hown hT hK hN hA hRc hRs hRf hRl hret hs_Mod_tellGroup hs_Mod_tellOne hDf hDl hrec10 l1 l2 l3 x1838 H locs ls  hw hW hS (lv_sub hl [0, 1, 2, 3] rfl)
set_option maxRecDepth 100000 in
set_option maxHeartbeats 4000000 in
set_option maxRecDepth 100000 in
theorem t_Mod_tellGroup_184 {p : Program} {l : Launch} {e : Env} {R : Room} {s : State} {m : MethodId} {args : Array Value} {below : List Frame} {meth : Method} {c : Code} {cells slots : Nat} {Q : State → Prop} {dC : Nat → ClassId} {dI : Nat → Nat → Nat} {cI cB cJ cZ : ClassId} {A : Nat → Prop} {ad : Nat → Nat} {post : St → Prop} {self_Mod_tellGroup : (St → Prop) → Int32 → St → Prop} {self_Mod_tellOne : (St → Prop) → Int32 → Int32 → St → Prop} {fd ld : Nat} {rec10 : Int32 → Int32 → Int32 → St → Prop} {rec184 : Int32 → Int32 → Int32 → Int32 → Int32 → St → Prop} (hx : p.tables.exec = Jvm.exec) (hb : c.code = b_Mod_tellGroup) (hml : c.maxLocals = 6) (hown : s.vm.findClass R_Mod = some m.cls) (hT : ∀ w ∈ TG, w.before args s = true) (hK : va_K (dC, dI) CL (TY cI cB cJ cZ) s) (hN : NW s) (hA : ∀ q : Nat, s.heap.size ≤ q → A q) (hRc : cells ≤ R.cells) (hRs : slots ≤ R.slots) (hRf : 4 ≤ R.frames) (hRl : 87 ≤ R.locals) (hret : ∀ (x : St) (H : Heap) (locs : List Loc) (pc : Nat) (ls : Array Slot), decode b_Mod_tellGroup pc = .ok (.return_, 1) → post x → Wd dC dI cI cB cJ cZ ad stM kcM 115 A x H → va_S A s.heap H locs → W p l e R s m args below meth c H locs cells slots Q (F0 m pc ls [])) (hs_Mod_tellGroup : ∀ (sz : Nat) (l1 : Int32) (x : St), ∀ (post : St → Prop), self_Mod_tellGroup post l1 x → Met l y_Mod_tellGroup (wsOf y_Mod_tellGroup b_Mod_tellGroup 6 (none)) ({ frames := fd, cells := 0, slots := 0, locals := ld }) (va_Pc [.ref (ad 0), .int l1] (PW dC dI cI cB cJ cZ ad stM kcM 115 sz x)) (va_Qv (fun (y : St) => post y) (fun y t => Wd dC dI cI cB cJ cZ ad stM kcM 115 (va_A (pic ad stM kcM 115 cI cB cJ cZ x) sz) y t.heap) (va_A (pic ad stM kcM 115 cI cB cJ cZ x) sz)) 0 0 (va_A (pic ad stM kcM 115 cI cB cJ cZ x) sz)) (hs_Mod_tellOne : ∀ (sz : Nat) (l1 : Int32) (l2 : Int32) (x : St), ∀ (post : St → Prop), self_Mod_tellOne post l1 l2 x → Met l y_Mod_tellOne (wsOf y_Mod_tellOne b_Mod_tellOne 3 (none)) ({ frames := fd, cells := 0, slots := 0, locals := ld }) (va_Pc [.ref (ad 0), .int l1, .int l2] (PW dC dI cI cB cJ cZ ad stM kcM 115 sz x)) (va_Qv (fun (y : St) => post y) (fun y t => Wd dC dI cI cB cJ cZ ad stM kcM 115 (va_A (pic ad stM kcM 115 cI cB cJ cZ x) sz) y t.heap) (va_A (pic ad stM kcM 115 cI cB cJ cZ x) sz)) 0 0 (va_A (pic ad stM kcM 115 cI cB cJ cZ x) sz)) (hDf : fd + 1 ≤ R.frames) (hDl : 25 + ld ≤ R.locals) (hrec10 : ∀ (l1 : Int32) (l2 : Int32) (l3 : Int32) (x : St) (H : Heap) (locs : List Loc) (ls : Array Slot), rec10 l1 l2 l3 x → Wd dC dI cI cB cJ cZ ad stM kcM 115 A x H → va_S A s.heap H locs → lv_has ls 6 [(0, .ref (ad 0)), (1, .int l1), (2, .int l2), (3, .int l3)] → W p l e R s m args below meth c H locs cells slots Q (F0 m 10 ls [])) (hrec184 : ∀ (l1 : Int32) (l2 : Int32) (l3 : Int32) (l4 : Int32) (l5 : Int32) (x : St) (H : Heap) (locs : List Loc) (ls : Array Slot), rec184 l1 l2 l3 l4 l5 x → Wd dC dI cI cB cJ cZ ad stM kcM 115 A x H → va_S A s.heap H locs → lv_has ls 6 [(0, .ref (ad 0)), (1, .int l1), (2, .int l2), (3, .int l3), (4, .int l4), (5, .int l5)] → W p l e R s m args below meth c H locs cells slots Q (F0 m 184 ls [])) : ∀ (l1 : Int32) (l2 : Int32) (l3 : Int32) (l4 : Int32) (l5 : Int32) (x : St) (H : Heap) (locs : List Loc) (ls : Array Slot), j_Mod_tellGroup_184 post self_Mod_tellGroup self_Mod_tellOne rec10 rec184 l1 l2 l3 l4 l5 x → Wd dC dI cI cB cJ cZ ad stM kcM 115 A x H → va_S A s.heap H locs → lv_has ls 6 [(0, .ref (ad 0)), (1, .int l1), (2, .int l2), (3, .int l3), (4, .int l4), (5, .int l5)] → W p l e R s m args below meth c H locs cells slots Q (F0 m 184 ls []) := by
  intro l1 l2 l3 l4 l5 x H locs ls  hw hW hS hl
  unfold j_Mod_tellGroup_184 at hw
  refine lv_iload hx hb d_Mod_tellGroup_184 (lv_at hl 5 rfl) ?_
  refine lv_if_eq (tgt := 244) hx hb d_Mod_tellGroup_186 (by decide) (fun c1839 => ?_) (fun c1839 => ?_)
  · have hw := hw.1 c1839
    exact t_Mod_tellGroup_244 hx hb hml hown hT hK hN hA hRc hRs hRf hRl hret hs_Mod_tellGroup hs_Mod_tellOne hDf hDl hrec10 l1 l2 l3 l4 l5 x H locs ls  hw hW hS (lv_sub hl [0, 1, 2, 3, 4, 5] rfl)
  · have hw := hw.2 c1839
    refine lv_aload_n hx hb d_Mod_tellGroup_189 rfl (lv_at hl 0 rfl) ?_
    refine w_getf (q := 76) (k := 114) (t := 12) (C := R_Mod) (T := F_Mod) (N := 167) hx hb hT hown hK hW ko_0.1 ko_0.2 (by decide) in_Mod rfl rfl (by decide) rfl fr_Mod_114 w_9_50 d_Mod_tellGroup_190 rfl ?_
    refine lv_iload hx hb d_Mod_tellGroup_193 (lv_at hl 4 rfl) ?_
    obtain ⟨hi, hw⟩ := hw
    refine w_iald (o := 76) hx hb hK hW ko_76.1 ko_76.2 hi d_Mod_tellGroup_195 ?_
    refine lv_aload_n hx hb d_Mod_tellGroup_196 rfl (lv_at hl 0 rfl) ?_
    refine w_getf (q := 77) (k := 115) (t := 12) (C := R_Mod) (T := F_Mod) (N := 167) hx hb hT hown hK hW ko_0.1 ko_0.2 (by decide) in_Mod rfl rfl (by decide) rfl fr_Mod_115 w_9_51 d_Mod_tellGroup_197 rfl ?_
    refine lv_iload hx hb d_Mod_tellGroup_200 (lv_at hl 4 rfl) ?_
    obtain ⟨hi, hw⟩ := hw
    refine w_iald (o := 77) hx hb hK hW ko_77.1 ko_77.2 hi d_Mod_tellGroup_202 ?_
    refine lv_icmp_ge (tgt := 244) hx hb d_Mod_tellGroup_203 (by decide) (fun c1840 => ?_) (fun c1840 => ?_)
    · have hw := hw.1 c1840
      exact t_Mod_tellGroup_244 hx hb hml hown hT hK hN hA hRc hRs hRf hRl hret hs_Mod_tellGroup hs_Mod_tellOne hDf hDl hrec10 l1 l2 l3 l4 l5 x H locs ls  hw hW hS (lv_sub hl [0, 1, 2, 3, 4, 5] rfl)
    · have hw := hw.2 c1840
      refine lv_aload_n hx hb d_Mod_tellGroup_206 rfl (lv_at hl 0 rfl) ?_
      refine w_getf (q := 58) (k := 95) (t := 12) (C := R_Mod) (T := F_Mod) (N := 167) hx hb hT hown hK hW ko_0.1 ko_0.2 (by decide) in_Mod rfl rfl (by decide) rfl fr_Mod_95 w_9_31 d_Mod_tellGroup_207 rfl ?_
      refine lv_aload_n hx hb d_Mod_tellGroup_210 rfl (lv_at hl 0 rfl) ?_
      refine w_getf (q := 76) (k := 114) (t := 12) (C := R_Mod) (T := F_Mod) (N := 167) hx hb hT hown hK hW ko_0.1 ko_0.2 (by decide) in_Mod rfl rfl (by decide) rfl fr_Mod_114 w_9_50 d_Mod_tellGroup_211 rfl ?_
      refine lv_iload hx hb d_Mod_tellGroup_214 (lv_at hl 4 rfl) ?_
      obtain ⟨hi, hw⟩ := hw
      refine w_iald (o := 76) hx hb hK hW ko_76.1 ko_76.2 hi d_Mod_tellGroup_216 ?_
      obtain ⟨hi, hw⟩ := hw
      refine w_iald (o := 58) hx hb hK hW ko_58.1 ko_58.2 hi d_Mod_tellGroup_217 ?_
      refine lv_aload_n hx hb d_Mod_tellGroup_218 rfl (lv_at hl 0 rfl) ?_
      refine lv_iconst (v := 1) hx hb d_Mod_tellGroup_219 (by decide) ?_
      refine lv_iload_n hx hb d_Mod_tellGroup_220 rfl (lv_at hl 3 rfl) ?_
      refine lv_iconst (v := 1) hx hb d_Mod_tellGroup_221 (by decide) ?_
      have hF := hW.free hS hA
      refine va_calli (va_runV (C := R_Mod) (As := [.int 1, .int l3, .int 1]) (rest := [.int (rA x 58 (rA x 76 l4))]) ⟨hx, hb, hml, hown, hT⟩ (k_Mod_level l dC dI cI cB cJ cZ ad H.size 1 l3 1 x  hw) ⟨callB_of 3 hT (gwt_in w_11_114) rfl rfl rfl (hT _ w_1_15) (hT _ w_11_111) (by decide +kernel) ⟨Nat.le_trans (Nat.le_of_ble_eq_true rfl) hRf, Nat.le_trans (Nat.le_of_ble_eq_true rfl) hRl⟩, hT _ w_11_113, hT _ ws_136⟩ ⟨PW.blind, va_recv hK hW.1 (ci := 12) (q0 := 0) rfl (pic_obj ko_0.1 ko_0.2 (by decide)), PW.at _ hW hK hN⟩ rfl rfl hl.1 rfl (lv_room (Nat.le_of_ble_eq_true rfl)) d_Mod_tellGroup_222 ⟨hRc, hRs⟩) hS (fun q _ h => hF q h) hF (fun r1842 x1841 t H locs ht hvm hw hB hz1 hk1 hS => ?_)
      have hW := Wd.back hB ht hF
      clear hB ht hF hz1 hk1 hvm
      refine lv_icmp_ne (tgt := 244) hx hb d_Mod_tellGroup_225 (by decide) (fun c1843 => ?_) (fun c1843 => ?_)
      · have hw := hw.1 c1843
        exact t_Mod_tellGroup_244 hx hb hml hown hT hK hN hA hRc hRs hRf hRl hret hs_Mod_tellGroup hs_Mod_tellOne hDf hDl hrec10 l1 l2 l3 l4 l5 x1841 H locs ls  hw hW hS (lv_sub hl [0, 1, 2, 3, 4, 5] rfl)
      · have hw := hw.2 c1843
        refine lv_aload_n hx hb d_Mod_tellGroup_228 rfl (lv_at hl 0 rfl) ?_
        refine lv_bipush (v := 44) hx hb d_Mod_tellGroup_229 (by decide) ?_
        have hF := hW.free hS hA
        refine va_callv (va_runV (C := R_Mod) (As := [.int 44]) (rest := []) ⟨hx, hb, hml, hown, hT⟩ (k_Mod_tell l dC dI cI cB cJ cZ ad H.size 44 x1841  hw) ⟨callB_of 1 hT (gwt_in w_13_70) rfl rfl rfl (hT _ w_1_15) (hT _ w_13_67) (by decide +kernel) ⟨Nat.le_trans (Nat.le_of_ble_eq_true rfl) hRf, Nat.le_trans (Nat.le_of_ble_eq_true rfl) hRl⟩, hT _ w_13_69, hT _ ws_227⟩ ⟨PW.blind, va_recv hK hW.1 (ci := 12) (q0 := 0) rfl (pic_obj ko_0.1 ko_0.2 (by decide)), PW.at _ hW hK hN⟩ rfl rfl hl.1 rfl (lv_room (Nat.le_of_ble_eq_true rfl)) d_Mod_tellGroup_231 ⟨hRc, hRs⟩) hS (fun q _ h => hF q h) hF (fun  x1844 t H locs ht hvm hw hB hz1 hk1 hS => ?_)
        have hW := Wd.back hB ht hF
        clear hB ht hF hz1 hk1 hvm
        refine lv_aload_n hx hb d_Mod_tellGroup_234 rfl (lv_at hl 0 rfl) ?_
        refine lv_iload_n hx hb d_Mod_tellGroup_235 rfl (lv_at hl 3 rfl) ?_
        refine lv_iload hx hb d_Mod_tellGroup_236 (lv_at hl 4 rfl) ?_
        have hF := hW.free hS hA
        refine va_callv (va_runV (C := R_Mod) (As := [.int l3, .int l4]) (rest := []) ⟨hx, hb, hml, hown, hT⟩ (hs_Mod_tellOne H.size l3 l4 x1844  _ hw) ⟨callB_of 2 hT (gwt_in w_13_86) rfl rfl rfl (hT _ w_1_15) (hT _ w_13_83) (by decide +kernel) ⟨hDf, Nat.le_trans (Nat.add_le_add_right (by decide) _) hDl⟩, hT _ w_13_85, hT _ ws_231⟩ ⟨PW.blind, va_recv hK hW.1 (ci := 12) (q0 := 0) rfl (pic_obj ko_0.1 ko_0.2 (by decide)), PW.at _ hW hK hN⟩ rfl rfl hl.1 rfl (lv_room (Nat.le_of_ble_eq_true rfl)) d_Mod_tellGroup_238 ⟨hRc, hRs⟩) hS (fun q _ h => hF q h) hF (fun  x1845 t H locs ht hvm hw hB hz1 hk1 hS => ?_)
        have hW := Wd.back hB ht hF
        clear hB ht hF hz1 hk1 hvm
        refine lv_goto (tgt := 184) hx hb d_Mod_tellGroup_241 (by decide) ?_
        exact hrec184 l1 l2 l3 l4 l5 x1845 H locs ls  hw hW hS (lv_sub hl [0, 1, 2, 3, 4, 5] rfl)
set_option maxHeartbeats 4000000 in
set_option maxRecDepth 100000 in
theorem tl_Mod_tellGroup_184 {p : Program} {l : Launch} {e : Env} {R : Room} {s : State} {m : MethodId} {args : Array Value} {below : List Frame} {meth : Method} {c : Code} {cells slots : Nat} {Q : State → Prop} {dC : Nat → ClassId} {dI : Nat → Nat → Nat} {cI cB cJ cZ : ClassId} {A : Nat → Prop} {ad : Nat → Nat} {post : St → Prop} {self_Mod_tellGroup : (St → Prop) → Int32 → St → Prop} {self_Mod_tellOne : (St → Prop) → Int32 → Int32 → St → Prop} {fd ld : Nat} {rec10 : Int32 → Int32 → Int32 → St → Prop} (hx : p.tables.exec = Jvm.exec) (hb : c.code = b_Mod_tellGroup) (hml : c.maxLocals = 6) (hown : s.vm.findClass R_Mod = some m.cls) (hT : ∀ w ∈ TG, w.before args s = true) (hK : va_K (dC, dI) CL (TY cI cB cJ cZ) s) (hN : NW s) (hA : ∀ q : Nat, s.heap.size ≤ q → A q) (hRc : cells ≤ R.cells) (hRs : slots ≤ R.slots) (hRf : 4 ≤ R.frames) (hRl : 87 ≤ R.locals) (hret : ∀ (x : St) (H : Heap) (locs : List Loc) (pc : Nat) (ls : Array Slot), decode b_Mod_tellGroup pc = .ok (.return_, 1) → post x → Wd dC dI cI cB cJ cZ ad stM kcM 115 A x H → va_S A s.heap H locs → W p l e R s m args below meth c H locs cells slots Q (F0 m pc ls [])) (hs_Mod_tellGroup : ∀ (sz : Nat) (l1 : Int32) (x : St), ∀ (post : St → Prop), self_Mod_tellGroup post l1 x → Met l y_Mod_tellGroup (wsOf y_Mod_tellGroup b_Mod_tellGroup 6 (none)) ({ frames := fd, cells := 0, slots := 0, locals := ld }) (va_Pc [.ref (ad 0), .int l1] (PW dC dI cI cB cJ cZ ad stM kcM 115 sz x)) (va_Qv (fun (y : St) => post y) (fun y t => Wd dC dI cI cB cJ cZ ad stM kcM 115 (va_A (pic ad stM kcM 115 cI cB cJ cZ x) sz) y t.heap) (va_A (pic ad stM kcM 115 cI cB cJ cZ x) sz)) 0 0 (va_A (pic ad stM kcM 115 cI cB cJ cZ x) sz)) (hs_Mod_tellOne : ∀ (sz : Nat) (l1 : Int32) (l2 : Int32) (x : St), ∀ (post : St → Prop), self_Mod_tellOne post l1 l2 x → Met l y_Mod_tellOne (wsOf y_Mod_tellOne b_Mod_tellOne 3 (none)) ({ frames := fd, cells := 0, slots := 0, locals := ld }) (va_Pc [.ref (ad 0), .int l1, .int l2] (PW dC dI cI cB cJ cZ ad stM kcM 115 sz x)) (va_Qv (fun (y : St) => post y) (fun y t => Wd dC dI cI cB cJ cZ ad stM kcM 115 (va_A (pic ad stM kcM 115 cI cB cJ cZ x) sz) y t.heap) (va_A (pic ad stM kcM 115 cI cB cJ cZ x) sz)) 0 0 (va_A (pic ad stM kcM 115 cI cB cJ cZ x) sz)) (hDf : fd + 1 ≤ R.frames) (hDl : 25 + ld ≤ R.locals) (hrec10 : ∀ (l1 : Int32) (l2 : Int32) (l3 : Int32) (x : St) (H : Heap) (locs : List Loc) (ls : Array Slot), rec10 l1 l2 l3 x → Wd dC dI cI cB cJ cZ ad stM kcM 115 A x H → va_S A s.heap H locs → lv_has ls 6 [(0, .ref (ad 0)), (1, .int l1), (2, .int l2), (3, .int l3)] → W p l e R s m args below meth c H locs cells slots Q (F0 m 10 ls [])) : ∀ n : Nat, ∀ (l1 : Int32) (l2 : Int32) (l3 : Int32) (l4 : Int32) (l5 : Int32) (x : St) (H : Heap) (locs : List Loc) (ls : Array Slot), wl_Mod_tellGroup_184 post self_Mod_tellGroup self_Mod_tellOne rec10 n l1 l2 l3 l4 l5 x → Wd dC dI cI cB cJ cZ ad stM kcM 115 A x H → va_S A s.heap H locs → lv_has ls 6 [(0, .ref (ad 0)), (1, .int l1), (2, .int l2), (3, .int l3), (4, .int l4), (5, .int l5)] → W p l e R s m args below meth c H locs cells slots Q (F0 m 184 ls []) := by
  intro n
  induction n with
  | zero => intro l1 l2 l3 l4 l5 x H locs ls  hw; exact hw.elim
  | succ n ih => intro l1 l2 l3 l4 l5 x H locs ls  hw hW hS hl; exact t_Mod_tellGroup_184 hx hb hml hown hT hK hN hA hRc hRs hRf hRl hret hs_Mod_tellGroup hs_Mod_tellOne hDf hDl hrec10 ih l1 l2 l3 l4 l5 x H locs ls  hw hW hS hl
set_option maxRecDepth 100000 in
set_option maxHeartbeats 4000000 in
set_option maxRecDepth 100000 in
theorem t_Mod_tellGroup_177 {p : Program} {l : Launch} {e : Env} {R : Room} {s : State} {m : MethodId} {args : Array Value} {below : List Frame} {meth : Method} {c : Code} {cells slots : Nat} {Q : State → Prop} {dC : Nat → ClassId} {dI : Nat → Nat → Nat} {cI cB cJ cZ : ClassId} {A : Nat → Prop} {ad : Nat → Nat} {post : St → Prop} {self_Mod_tellGroup : (St → Prop) → Int32 → St → Prop} {self_Mod_tellOne : (St → Prop) → Int32 → Int32 → St → Prop} {fd ld : Nat} {rec10 : Int32 → Int32 → Int32 → St → Prop} (hx : p.tables.exec = Jvm.exec) (hb : c.code = b_Mod_tellGroup) (hml : c.maxLocals = 6) (hown : s.vm.findClass R_Mod = some m.cls) (hT : ∀ w ∈ TG, w.before args s = true) (hK : va_K (dC, dI) CL (TY cI cB cJ cZ) s) (hN : NW s) (hA : ∀ q : Nat, s.heap.size ≤ q → A q) (hRc : cells ≤ R.cells) (hRs : slots ≤ R.slots) (hRf : 4 ≤ R.frames) (hRl : 87 ≤ R.locals) (hret : ∀ (x : St) (H : Heap) (locs : List Loc) (pc : Nat) (ls : Array Slot), decode b_Mod_tellGroup pc = .ok (.return_, 1) → post x → Wd dC dI cI cB cJ cZ ad stM kcM 115 A x H → va_S A s.heap H locs → W p l e R s m args below meth c H locs cells slots Q (F0 m pc ls [])) (hs_Mod_tellGroup : ∀ (sz : Nat) (l1 : Int32) (x : St), ∀ (post : St → Prop), self_Mod_tellGroup post l1 x → Met l y_Mod_tellGroup (wsOf y_Mod_tellGroup b_Mod_tellGroup 6 (none)) ({ frames := fd, cells := 0, slots := 0, locals := ld }) (va_Pc [.ref (ad 0), .int l1] (PW dC dI cI cB cJ cZ ad stM kcM 115 sz x)) (va_Qv (fun (y : St) => post y) (fun y t => Wd dC dI cI cB cJ cZ ad stM kcM 115 (va_A (pic ad stM kcM 115 cI cB cJ cZ x) sz) y t.heap) (va_A (pic ad stM kcM 115 cI cB cJ cZ x) sz)) 0 0 (va_A (pic ad stM kcM 115 cI cB cJ cZ x) sz)) (hs_Mod_tellOne : ∀ (sz : Nat) (l1 : Int32) (l2 : Int32) (x : St), ∀ (post : St → Prop), self_Mod_tellOne post l1 l2 x → Met l y_Mod_tellOne (wsOf y_Mod_tellOne b_Mod_tellOne 3 (none)) ({ frames := fd, cells := 0, slots := 0, locals := ld }) (va_Pc [.ref (ad 0), .int l1, .int l2] (PW dC dI cI cB cJ cZ ad stM kcM 115 sz x)) (va_Qv (fun (y : St) => post y) (fun y t => Wd dC dI cI cB cJ cZ ad stM kcM 115 (va_A (pic ad stM kcM 115 cI cB cJ cZ x) sz) y t.heap) (va_A (pic ad stM kcM 115 cI cB cJ cZ x) sz)) 0 0 (va_A (pic ad stM kcM 115 cI cB cJ cZ x) sz)) (hDf : fd + 1 ≤ R.frames) (hDl : 25 + ld ≤ R.locals) (hrec10 : ∀ (l1 : Int32) (l2 : Int32) (l3 : Int32) (x : St) (H : Heap) (locs : List Loc) (ls : Array Slot), rec10 l1 l2 l3 x → Wd dC dI cI cB cJ cZ ad stM kcM 115 A x H → va_S A s.heap H locs → lv_has ls 6 [(0, .ref (ad 0)), (1, .int l1), (2, .int l2), (3, .int l3)] → W p l e R s m args below meth c H locs cells slots Q (F0 m 10 ls [])) : ∀ (l1 : Int32) (l2 : Int32) (l3 : Int32) (l4 : Int32) (l5 : Int32) (x : St) (H : Heap) (locs : List Loc) (ls : Array Slot), j_Mod_tellGroup_177 post self_Mod_tellGroup self_Mod_tellOne rec10 l1 l2 l3 l4 l5 x → Wd dC dI cI cB cJ cZ ad stM kcM 115 A x H → va_S A s.heap H locs → lv_has ls 6 [(0, .ref (ad 0)), (1, .int l1), (2, .int l2), (3, .int l3), (4, .int l4), (5, .int l5)] → W p l e R s m args below meth c H locs cells slots Q (F0 m 177 ls []) := by
  intro l1 l2 l3 l4 l5 x H locs ls  hw hW hS hl
  unfold j_Mod_tellGroup_177 at hw
  refine lv_aload_n hx hb d_Mod_tellGroup_177 rfl (lv_at hl 0 rfl) ?_
  refine lv_iload_n hx hb d_Mod_tellGroup_178 rfl (lv_at hl 3 rfl) ?_
  refine lv_iload hx hb d_Mod_tellGroup_179 (lv_at hl 4 rfl) ?_
  have hF := hW.free hS hA
  refine va_callv (va_runV (C := R_Mod) (As := [.int l3, .int l4]) (rest := []) ⟨hx, hb, hml, hown, hT⟩ (hs_Mod_tellOne H.size l3 l4 x  _ hw) ⟨callB_of 2 hT (gwt_in w_13_86) rfl rfl rfl (hT _ w_1_15) (hT _ w_13_83) (by decide +kernel) ⟨hDf, Nat.le_trans (Nat.add_le_add_right (by decide) _) hDl⟩, hT _ w_13_85, hT _ ws_231⟩ ⟨PW.blind, va_recv hK hW.1 (ci := 12) (q0 := 0) rfl (pic_obj ko_0.1 ko_0.2 (by decide)), PW.at _ hW hK hN⟩ rfl rfl hl.1 rfl (lv_room (Nat.le_of_ble_eq_true rfl)) d_Mod_tellGroup_181 ⟨hRc, hRs⟩) hS (fun q _ h => hF q h) hF (fun  x1846 t H locs ht hvm hw hB hz1 hk1 hS => ?_)
  have hW := Wd.back hB ht hF
  clear hB ht hF hz1 hk1 hvm
  obtain ⟨n, hw⟩ := hw
  exact tl_Mod_tellGroup_184 hx hb hml hown hT hK hN hA hRc hRs hRf hRl hret hs_Mod_tellGroup hs_Mod_tellOne hDf hDl hrec10 n l1 l2 l3 l4 l5 x1846 H locs ls  hw hW hS (lv_sub hl [0, 1, 2, 3, 4, 5] rfl)
set_option maxRecDepth 100000 in
set_option maxHeartbeats 4000000 in
set_option maxRecDepth 100000 in
theorem t_Mod_tellGroup_164 {p : Program} {l : Launch} {e : Env} {R : Room} {s : State} {m : MethodId} {args : Array Value} {below : List Frame} {meth : Method} {c : Code} {cells slots : Nat} {Q : State → Prop} {dC : Nat → ClassId} {dI : Nat → Nat → Nat} {cI cB cJ cZ : ClassId} {A : Nat → Prop} {ad : Nat → Nat} {post : St → Prop} {self_Mod_tellGroup : (St → Prop) → Int32 → St → Prop} {self_Mod_tellOne : (St → Prop) → Int32 → Int32 → St → Prop} {fd ld : Nat} {rec10 : Int32 → Int32 → Int32 → St → Prop} (hx : p.tables.exec = Jvm.exec) (hb : c.code = b_Mod_tellGroup) (hml : c.maxLocals = 6) (hown : s.vm.findClass R_Mod = some m.cls) (hT : ∀ w ∈ TG, w.before args s = true) (hK : va_K (dC, dI) CL (TY cI cB cJ cZ) s) (hN : NW s) (hA : ∀ q : Nat, s.heap.size ≤ q → A q) (hRc : cells ≤ R.cells) (hRs : slots ≤ R.slots) (hRf : 4 ≤ R.frames) (hRl : 87 ≤ R.locals) (hret : ∀ (x : St) (H : Heap) (locs : List Loc) (pc : Nat) (ls : Array Slot), decode b_Mod_tellGroup pc = .ok (.return_, 1) → post x → Wd dC dI cI cB cJ cZ ad stM kcM 115 A x H → va_S A s.heap H locs → W p l e R s m args below meth c H locs cells slots Q (F0 m pc ls [])) (hs_Mod_tellGroup : ∀ (sz : Nat) (l1 : Int32) (x : St), ∀ (post : St → Prop), self_Mod_tellGroup post l1 x → Met l y_Mod_tellGroup (wsOf y_Mod_tellGroup b_Mod_tellGroup 6 (none)) ({ frames := fd, cells := 0, slots := 0, locals := ld }) (va_Pc [.ref (ad 0), .int l1] (PW dC dI cI cB cJ cZ ad stM kcM 115 sz x)) (va_Qv (fun (y : St) => post y) (fun y t => Wd dC dI cI cB cJ cZ ad stM kcM 115 (va_A (pic ad stM kcM 115 cI cB cJ cZ x) sz) y t.heap) (va_A (pic ad stM kcM 115 cI cB cJ cZ x) sz)) 0 0 (va_A (pic ad stM kcM 115 cI cB cJ cZ x) sz)) (hs_Mod_tellOne : ∀ (sz : Nat) (l1 : Int32) (l2 : Int32) (x : St), ∀ (post : St → Prop), self_Mod_tellOne post l1 l2 x → Met l y_Mod_tellOne (wsOf y_Mod_tellOne b_Mod_tellOne 3 (none)) ({ frames := fd, cells := 0, slots := 0, locals := ld }) (va_Pc [.ref (ad 0), .int l1, .int l2] (PW dC dI cI cB cJ cZ ad stM kcM 115 sz x)) (va_Qv (fun (y : St) => post y) (fun y t => Wd dC dI cI cB cJ cZ ad stM kcM 115 (va_A (pic ad stM kcM 115 cI cB cJ cZ x) sz) y t.heap) (va_A (pic ad stM kcM 115 cI cB cJ cZ x) sz)) 0 0 (va_A (pic ad stM kcM 115 cI cB cJ cZ x) sz)) (hDf : fd + 1 ≤ R.frames) (hDl : 25 + ld ≤ R.locals) (hrec10 : ∀ (l1 : Int32) (l2 : Int32) (l3 : Int32) (x : St) (H : Heap) (locs : List Loc) (ls : Array Slot), rec10 l1 l2 l3 x → Wd dC dI cI cB cJ cZ ad stM kcM 115 A x H → va_S A s.heap H locs → lv_has ls 6 [(0, .ref (ad 0)), (1, .int l1), (2, .int l2), (3, .int l3)] → W p l e R s m args below meth c H locs cells slots Q (F0 m 10 ls [])) : ∀ (l1 : Int32) (l2 : Int32) (l3 : Int32) (l4 : Int32) (l5 : Int32) (s0 : Int32) (x : St) (H : Heap) (locs : List Loc) (ls : Array Slot), j_Mod_tellGroup_164 post self_Mod_tellGroup self_Mod_tellOne rec10 l1 l2 l3 l4 l5 s0 x → Wd dC dI cI cB cJ cZ ad stM kcM 115 A x H → va_S A s.heap H locs → lv_has ls 6 [(0, .ref (ad 0)), (1, .int l1), (2, .int l2), (3, .int l3), (4, .int l4), (5, .int l5)] → W p l e R s m args below meth c H locs cells slots Q (F0 m 164 ls [.int s0]) := by
  intro l1 l2 l3 l4 l5 s0 x H locs ls  hw hW hS hl
  unfold j_Mod_tellGroup_164 at hw
  refine lv_istore (lv' := [(5, .int s0), (0, .ref (ad 0)), (1, .int l1), (2, .int l2), (3, .int l3), (4, .int l4)]) hx hb d_Mod_tellGroup_164 hl (by decide) rfl (fun ls hl => ?_)
  refine lv_iload hx hb d_Mod_tellGroup_166 (lv_at hl 0 rfl) ?_
  refine lv_if_eq (tgt := 177) hx hb d_Mod_tellGroup_168 (by decide) (fun c1847 => ?_) (fun c1847 => ?_)
  · have hw := hw.1 c1847
    exact t_Mod_tellGroup_177 hx hb hml hown hT hK hN hA hRc hRs hRf hRl hret hs_Mod_tellGroup hs_Mod_tellOne hDf hDl hrec10 l1 l2 l3 l4 s0 x H locs ls  hw hW hS (lv_sub hl [1, 2, 3, 4, 5, 0] rfl)
  · have hw := hw.2 c1847
    refine lv_aload_n hx hb d_Mod_tellGroup_171 rfl (lv_at hl 1 rfl) ?_
    refine lv_bipush (v := 91) hx hb d_Mod_tellGroup_172 (by decide) ?_
    have hF := hW.free hS hA
    refine va_callv (va_runV (C := R_Mod) (As := [.int 91]) (rest := []) ⟨hx, hb, hml, hown, hT⟩ (k_Mod_tell l dC dI cI cB cJ cZ ad H.size 91 x  hw) ⟨callB_of 1 hT (gwt_in w_13_70) rfl rfl rfl (hT _ w_1_15) (hT _ w_13_67) (by decide +kernel) ⟨Nat.le_trans (Nat.le_of_ble_eq_true rfl) hRf, Nat.le_trans (Nat.le_of_ble_eq_true rfl) hRl⟩, hT _ w_13_69, hT _ ws_227⟩ ⟨PW.blind, va_recv hK hW.1 (ci := 12) (q0 := 0) rfl (pic_obj ko_0.1 ko_0.2 (by decide)), PW.at _ hW hK hN⟩ rfl rfl hl.1 rfl (lv_room (Nat.le_of_ble_eq_true rfl)) d_Mod_tellGroup_174 ⟨hRc, hRs⟩) hS (fun q _ h => hF q h) hF (fun  x1848 t H locs ht hvm hw hB hz1 hk1 hS => ?_)
    have hW := Wd.back hB ht hF
    clear hB ht hF hz1 hk1 hvm
    exact t_Mod_tellGroup_177 hx hb hml hown hT hK hN hA hRc hRs hRf hRl hret hs_Mod_tellGroup hs_Mod_tellOne hDf hDl hrec10 l1 l2 l3 l4 s0 x1848 H locs ls  hw hW hS (lv_sub hl [1, 2, 3, 4, 5, 0] rfl)
set_option maxRecDepth 100000 in
set_option maxHeartbeats 4000000 in
set_option maxRecDepth 100000 in
theorem t_Mod_tellGroup_98 {p : Program} {l : Launch} {e : Env} {R : Room} {s : State} {m : MethodId} {args : Array Value} {below : List Frame} {meth : Method} {c : Code} {cells slots : Nat} {Q : State → Prop} {dC : Nat → ClassId} {dI : Nat → Nat → Nat} {cI cB cJ cZ : ClassId} {A : Nat → Prop} {ad : Nat → Nat} {post : St → Prop} {self_Mod_tellGroup : (St → Prop) → Int32 → St → Prop} {self_Mod_tellOne : (St → Prop) → Int32 → Int32 → St → Prop} {fd ld : Nat} {rec10 : Int32 → Int32 → Int32 → St → Prop} {rec98 : Int32 → Int32 → Int32 → Int32 → Int32 → St → Prop} (hx : p.tables.exec = Jvm.exec) (hb : c.code = b_Mod_tellGroup) (hml : c.maxLocals = 6) (hown : s.vm.findClass R_Mod = some m.cls) (hT : ∀ w ∈ TG, w.before args s = true) (hK : va_K (dC, dI) CL (TY cI cB cJ cZ) s) (hN : NW s) (hA : ∀ q : Nat, s.heap.size ≤ q → A q) (hRc : cells ≤ R.cells) (hRs : slots ≤ R.slots) (hRf : 4 ≤ R.frames) (hRl : 87 ≤ R.locals) (hret : ∀ (x : St) (H : Heap) (locs : List Loc) (pc : Nat) (ls : Array Slot), decode b_Mod_tellGroup pc = .ok (.return_, 1) → post x → Wd dC dI cI cB cJ cZ ad stM kcM 115 A x H → va_S A s.heap H locs → W p l e R s m args below meth c H locs cells slots Q (F0 m pc ls [])) (hs_Mod_tellGroup : ∀ (sz : Nat) (l1 : Int32) (x : St), ∀ (post : St → Prop), self_Mod_tellGroup post l1 x → Met l y_Mod_tellGroup (wsOf y_Mod_tellGroup b_Mod_tellGroup 6 (none)) ({ frames := fd, cells := 0, slots := 0, locals := ld }) (va_Pc [.ref (ad 0), .int l1] (PW dC dI cI cB cJ cZ ad stM kcM 115 sz x)) (va_Qv (fun (y : St) => post y) (fun y t => Wd dC dI cI cB cJ cZ ad stM kcM 115 (va_A (pic ad stM kcM 115 cI cB cJ cZ x) sz) y t.heap) (va_A (pic ad stM kcM 115 cI cB cJ cZ x) sz)) 0 0 (va_A (pic ad stM kcM 115 cI cB cJ cZ x) sz)) (hs_Mod_tellOne : ∀ (sz : Nat) (l1 : Int32) (l2 : Int32) (x : St), ∀ (post : St → Prop), self_Mod_tellOne post l1 l2 x → Met l y_Mod_tellOne (wsOf y_Mod_tellOne b_Mod_tellOne 3 (none)) ({ frames := fd, cells := 0, slots := 0, locals := ld }) (va_Pc [.ref (ad 0), .int l1, .int l2] (PW dC dI cI cB cJ cZ ad stM kcM 115 sz x)) (va_Qv (fun (y : St) => post y) (fun y t => Wd dC dI cI cB cJ cZ ad stM kcM 115 (va_A (pic ad stM kcM 115 cI cB cJ cZ x) sz) y t.heap) (va_A (pic ad stM kcM 115 cI cB cJ cZ x) sz)) 0 0 (va_A (pic ad stM kcM 115 cI cB cJ cZ x) sz)) (hDf : fd + 1 ≤ R.frames) (hDl : 25 + ld ≤ R.locals) (hrec10 : ∀ (l1 : Int32) (l2 : Int32) (l3 : Int32) (x : St) (H : Heap) (locs : List Loc) (ls : Array Slot), rec10 l1 l2 l3 x → Wd dC dI cI cB cJ cZ ad stM kcM 115 A x H → va_S A s.heap H locs → lv_has ls 6 [(0, .ref (ad 0)), (1, .int l1), (2, .int l2), (3, .int l3)] → W p l e R s m args below meth c H locs cells slots Q (F0 m 10 ls [])) (hrec98 : ∀ (l1 : Int32) (l2 : Int32) (l3 : Int32) (l4 : Int32) (l5 : Int32) (x : St) (H : Heap) (locs : List Loc) (ls : Array Slot), rec98 l1 l2 l3 l4 l5 x → Wd dC dI cI cB cJ cZ ad stM kcM 115 A x H → va_S A s.heap H locs → lv_has ls 6 [(0, .ref (ad 0)), (1, .int l1), (2, .int l2), (3, .int l3), (4, .int l4), (5, .int l5)] → W p l e R s m args below meth c H locs cells slots Q (F0 m 98 ls [])) : ∀ (l1 : Int32) (l2 : Int32) (l3 : Int32) (l4 : Int32) (l5 : Int32) (x : St) (H : Heap) (locs : List Loc) (ls : Array Slot), j_Mod_tellGroup_98 post self_Mod_tellGroup self_Mod_tellOne rec10 rec98 l1 l2 l3 l4 l5 x → Wd dC dI cI cB cJ cZ ad stM kcM 115 A x H → va_S A s.heap H locs → lv_has ls 6 [(0, .ref (ad 0)), (1, .int l1), (2, .int l2), (3, .int l3), (4, .int l4), (5, .int l5)] → W p l e R s m args below meth c H locs cells slots Q (F0 m 98 ls []) := by
  intro l1 l2 l3 l4 l5 x H locs ls  hw hW hS hl
  unfold j_Mod_tellGroup_98 at hw
  refine lv_iload hx hb d_Mod_tellGroup_98 (lv_at hl 5 rfl) ?_
  refine lv_aload_n hx hb d_Mod_tellGroup_100 rfl (lv_at hl 0 rfl) ?_
  refine w_getf (q := 7) (k := 9) (t := 12) (C := R_Mod) (T := F_Mod) (N := 167) hx hb hT hown hK hW ko_0.1 ko_0.2 (by decide) in_Mod rfl rfl (by decide) rfl fr_Mod_9 w_8_185 d_Mod_tellGroup_101 rfl ?_
  refine lv_iconst (v := 1) hx hb d_Mod_tellGroup_104 (by decide) ?_
  refine lv_iload_n hx hb d_Mod_tellGroup_105 rfl (lv_at hl 3 rfl) ?_
  have hF := hW.free hS hA
  refine va_calli (va_runS (As := [.int 1, .int l3]) (rest := [.ref (ad 7), .int l5]) ⟨hx, hb, hml, hown, hT⟩ (k_Mod_place l dC dI cI cB cJ cZ ad H.size 1 l3 x  hw) ⟨callB_of 2 hT (gwt_in w_11_30) rfl rfl rfl (hT _ w_1_15) (hT _ w_11_28) (by decide +kernel) ⟨Nat.le_trans (Nat.le_of_ble_eq_true rfl) hRf, Nat.le_trans (Nat.le_of_ble_eq_true rfl) hRl⟩, hT _ w_11_29⟩ ⟨PW.blind, PW.at _ hW hK hN⟩ rfl rfl hl.1 rfl (lv_room (Nat.le_of_ble_eq_true rfl)) d_Mod_tellGroup_106 ⟨hRc, hRs⟩) hS (fun q _ h => hF q h) hF (fun r1850 x1849 t H locs ht hvm hw hB hz1 hk1 hS => ?_)
  have hW := Wd.back hB ht hF
  clear hB ht hF hz1 hk1 hvm
  obtain ⟨hi, hw⟩ := hw
  refine w_iald (o := 7) hx hb hK hW ko_7.1 ko_7.2 hi d_Mod_tellGroup_109 ?_
  refine lv_icmp_ge (tgt := 139) hx hb d_Mod_tellGroup_110 (by decide) (fun c1851 => ?_) (fun c1851 => ?_)
  · have hw := hw.1 c1851
    refine lv_aload_n hx hb d_Mod_tellGroup_139 rfl (lv_at hl 0 rfl) ?_
    refine lv_bipush (v := 58) hx hb d_Mod_tellGroup_140 (by decide) ?_
    have hF := hW.free hS hA
    refine va_callv (va_runV (C := R_Mod) (As := [.int 58]) (rest := []) ⟨hx, hb, hml, hown, hT⟩ (k_Mod_tell l dC dI cI cB cJ cZ ad H.size 58 x1849  hw) ⟨callB_of 1 hT (gwt_in w_13_70) rfl rfl rfl (hT _ w_1_15) (hT _ w_13_67) (by decide +kernel) ⟨Nat.le_trans (Nat.le_of_ble_eq_true rfl) hRf, Nat.le_trans (Nat.le_of_ble_eq_true rfl) hRl⟩, hT _ w_13_69, hT _ ws_227⟩ ⟨PW.blind, va_recv hK hW.1 (ci := 12) (q0 := 0) rfl (pic_obj ko_0.1 ko_0.2 (by decide)), PW.at _ hW hK hN⟩ rfl rfl hl.1 rfl (lv_room (Nat.le_of_ble_eq_true rfl)) d_Mod_tellGroup_142 ⟨hRc, hRs⟩) hS (fun q _ h => hF q h) hF (fun  x1852 t H locs ht hvm hw hB hz1 hk1 hS => ?_)
    have hW := Wd.back hB ht hF
    clear hB ht hF hz1 hk1 hvm
    refine lv_aload_n hx hb d_Mod_tellGroup_145 rfl (lv_at hl 0 rfl) ?_
    refine w_getf (q := 3) (k := 5) (t := 12) (C := R_Mod) (T := F_Mod) (N := 167) hx hb hT hown hK hW ko_0.1 ko_0.2 (by decide) in_Mod rfl rfl (by decide) rfl fr_Mod_5 w_8_181 d_Mod_tellGroup_146 rfl ?_
    refine lv_iconst (v := 1) hx hb d_Mod_tellGroup_149 (by decide) ?_
    refine lv_iload_n hx hb d_Mod_tellGroup_150 rfl (lv_at hl 3 rfl) ?_
    have hF := hW.free hS hA
    refine va_calli (va_runS (As := [.int 1, .int l3]) (rest := [.ref (ad 3)]) ⟨hx, hb, hml, hown, hT⟩ (k_Mod_place l dC dI cI cB cJ cZ ad H.size 1 l3 x1852  hw) ⟨callB_of 2 hT (gwt_in w_11_30) rfl rfl rfl (hT _ w_1_15) (hT _ w_11_28) (by decide +kernel) ⟨Nat.le_trans (Nat.le_of_ble_eq_true rfl) hRf, Nat.le_trans (Nat.le_of_ble_eq_true rfl) hRl⟩, hT _ w_11_29⟩ ⟨PW.blind, PW.at _ hW hK hN⟩ rfl rfl hl.1 rfl (lv_room (Nat.le_of_ble_eq_true rfl)) d_Mod_tellGroup_151 ⟨hRc, hRs⟩) hS (fun q _ h => hF q h) hF (fun r1854 x1853 t H locs ht hvm hw hB hz1 hk1 hS => ?_)
    have hW := Wd.back hB ht hF
    clear hB ht hF hz1 hk1 hvm
    obtain ⟨hi, hw⟩ := hw
    refine w_iald (o := 3) hx hb hK hW ko_3.1 ko_3.2 hi d_Mod_tellGroup_154 ?_
    refine lv_iconst (v := 2) hx hb d_Mod_tellGroup_155 (by decide) ?_
    refine lv_icmp_ne (tgt := 163) hx hb d_Mod_tellGroup_156 (by decide) (fun c1855 => ?_) (fun c1855 => ?_)
    · have hw := hw.1 c1855
      refine lv_iconst (v := 0) hx hb d_Mod_tellGroup_163 (by decide) ?_
      exact t_Mod_tellGroup_164 hx hb hml hown hT hK hN hA hRc hRs hRf hRl hret hs_Mod_tellGroup hs_Mod_tellOne hDf hDl hrec10 l1 l2 l3 l4 l5 0 x1853 H locs ls  hw hW hS (lv_sub hl [0, 1, 2, 3, 4, 5] rfl)
    · have hw := hw.2 c1855
      refine lv_iconst (v := 1) hx hb d_Mod_tellGroup_159 (by decide) ?_
      refine lv_goto (tgt := 164) hx hb d_Mod_tellGroup_160 (by decide) ?_
      exact t_Mod_tellGroup_164 hx hb hml hown hT hK hN hA hRc hRs hRf hRl hret hs_Mod_tellGroup hs_Mod_tellOne hDf hDl hrec10 l1 l2 l3 l4 l5 1 x1853 H locs ls  hw hW hS (lv_sub hl [0, 1, 2, 3, 4, 5] rfl)
  · have hw := hw.2 c1851
    refine lv_aload_n hx hb d_Mod_tellGroup_113 rfl (lv_at hl 0 rfl) ?_
    refine lv_aload_n hx hb d_Mod_tellGroup_114 rfl (lv_at hl 0 rfl) ?_
    refine w_getf (q := 8) (k := 10) (t := 12) (C := R_Mod) (T := F_Mod) (N := 167) hx hb hT hown hK hW ko_0.1 ko_0.2 (by decide) in_Mod rfl rfl (by decide) rfl fr_Mod_10 w_8_186 d_Mod_tellGroup_115 rfl ?_
    refine lv_bipush (v := 16) hx hb d_Mod_tellGroup_118 (by decide) ?_
    refine lv_iconst (v := 1) hx hb d_Mod_tellGroup_120 (by decide) ?_
    refine lv_iload_n hx hb d_Mod_tellGroup_121 rfl (lv_at hl 3 rfl) ?_
    have hF := hW.free hS hA
    refine va_calli (va_runS (As := [.int 1, .int l3]) (rest := [.int 16, .ref (ad 8), .ref (ad 0)]) ⟨hx, hb, hml, hown, hT⟩ (k_Mod_place l dC dI cI cB cJ cZ ad H.size 1 l3 x1849  hw) ⟨callB_of 2 hT (gwt_in w_11_30) rfl rfl rfl (hT _ w_1_15) (hT _ w_11_28) (by decide +kernel) ⟨Nat.le_trans (Nat.le_of_ble_eq_true rfl) hRf, Nat.le_trans (Nat.le_of_ble_eq_true rfl) hRl⟩, hT _ w_11_29⟩ ⟨PW.blind, PW.at _ hW hK hN⟩ rfl rfl hl.1 rfl (lv_room (Nat.le_of_ble_eq_true rfl)) d_Mod_tellGroup_122 ⟨hRc, hRs⟩) hS (fun q _ h => hF q h) hF (fun r1857 x1856 t H locs ht hvm hw hB hz1 hk1 hS => ?_)
    have hW := Wd.back hB ht hF
    clear hB ht hF hz1 hk1 hvm
    refine lv_imul hx hb d_Mod_tellGroup_125 ?_
    refine lv_iload hx hb d_Mod_tellGroup_126 (lv_at hl 5 rfl) ?_
    refine lv_iadd hx hb d_Mod_tellGroup_128 ?_
    obtain ⟨hi, hw⟩ := hw
    refine w_iald (o := 8) hx hb hK hW ko_8.1 ko_8.2 hi d_Mod_tellGroup_129 ?_
    have hF := hW.free hS hA
    refine va_callv (va_runV (C := R_Mod) (As := [.int (rA x1856 8 ((16 * r1857) + l5))]) (rest := []) ⟨hx, hb, hml, hown, hT⟩ (k_Mod_tell l dC dI cI cB cJ cZ ad H.size (rA x1856 8 ((16 * r1857) + l5)) x1856  hw) ⟨callB_of 1 hT (gwt_in w_13_70) rfl rfl rfl (hT _ w_1_15) (hT _ w_13_67) (by decide +kernel) ⟨Nat.le_trans (Nat.le_of_ble_eq_true rfl) hRf, Nat.le_trans (Nat.le_of_ble_eq_true rfl) hRl⟩, hT _ w_13_69, hT _ ws_227⟩ ⟨PW.blind, va_recv hK hW.1 (ci := 12) (q0 := 0) rfl (pic_obj ko_0.1 ko_0.2 (by decide)), PW.at _ hW hK hN⟩ rfl rfl hl.1 rfl (lv_room (Nat.le_of_ble_eq_true rfl)) d_Mod_tellGroup_130 ⟨hRc, hRs⟩) hS (fun q _ h => hF q h) hF (fun  x1858 t H locs ht hvm hw hB hz1 hk1 hS => ?_)
    have hW := Wd.back hB ht hF
    clear hB ht hF hz1 hk1 hvm
    refine lv_iinc (v := (l5 + 1)) (lv' := [(5, .int (l5 + 1)), (0, .ref (ad 0)), (1, .int l1), (2, .int l2), (3, .int l3), (4, .int l4)]) hx hb d_Mod_tellGroup_133 hl (k := 5) rfl rfl (by decide) rfl (fun ls hl => ?_)
    refine lv_goto (tgt := 98) hx hb d_Mod_tellGroup_136 (by decide) ?_
    exact hrec98 l1 l2 l3 l4 (l5 + 1) x1858 H locs ls  hw hW hS (lv_sub hl [1, 2, 3, 4, 5, 0] rfl)
set_option maxHeartbeats 4000000 in
set_option maxRecDepth 100000 in
theorem tl_Mod_tellGroup_98 {p : Program} {l : Launch} {e : Env} {R : Room} {s : State} {m : MethodId} {args : Array Value} {below : List Frame} {meth : Method} {c : Code} {cells slots : Nat} {Q : State → Prop} {dC : Nat → ClassId} {dI : Nat → Nat → Nat} {cI cB cJ cZ : ClassId} {A : Nat → Prop} {ad : Nat → Nat} {post : St → Prop} {self_Mod_tellGroup : (St → Prop) → Int32 → St → Prop} {self_Mod_tellOne : (St → Prop) → Int32 → Int32 → St → Prop} {fd ld : Nat} {rec10 : Int32 → Int32 → Int32 → St → Prop} (hx : p.tables.exec = Jvm.exec) (hb : c.code = b_Mod_tellGroup) (hml : c.maxLocals = 6) (hown : s.vm.findClass R_Mod = some m.cls) (hT : ∀ w ∈ TG, w.before args s = true) (hK : va_K (dC, dI) CL (TY cI cB cJ cZ) s) (hN : NW s) (hA : ∀ q : Nat, s.heap.size ≤ q → A q) (hRc : cells ≤ R.cells) (hRs : slots ≤ R.slots) (hRf : 4 ≤ R.frames) (hRl : 87 ≤ R.locals) (hret : ∀ (x : St) (H : Heap) (locs : List Loc) (pc : Nat) (ls : Array Slot), decode b_Mod_tellGroup pc = .ok (.return_, 1) → post x → Wd dC dI cI cB cJ cZ ad stM kcM 115 A x H → va_S A s.heap H locs → W p l e R s m args below meth c H locs cells slots Q (F0 m pc ls [])) (hs_Mod_tellGroup : ∀ (sz : Nat) (l1 : Int32) (x : St), ∀ (post : St → Prop), self_Mod_tellGroup post l1 x → Met l y_Mod_tellGroup (wsOf y_Mod_tellGroup b_Mod_tellGroup 6 (none)) ({ frames := fd, cells := 0, slots := 0, locals := ld }) (va_Pc [.ref (ad 0), .int l1] (PW dC dI cI cB cJ cZ ad stM kcM 115 sz x)) (va_Qv (fun (y : St) => post y) (fun y t => Wd dC dI cI cB cJ cZ ad stM kcM 115 (va_A (pic ad stM kcM 115 cI cB cJ cZ x) sz) y t.heap) (va_A (pic ad stM kcM 115 cI cB cJ cZ x) sz)) 0 0 (va_A (pic ad stM kcM 115 cI cB cJ cZ x) sz)) (hs_Mod_tellOne : ∀ (sz : Nat) (l1 : Int32) (l2 : Int32) (x : St), ∀ (post : St → Prop), self_Mod_tellOne post l1 l2 x → Met l y_Mod_tellOne (wsOf y_Mod_tellOne b_Mod_tellOne 3 (none)) ({ frames := fd, cells := 0, slots := 0, locals := ld }) (va_Pc [.ref (ad 0), .int l1, .int l2] (PW dC dI cI cB cJ cZ ad stM kcM 115 sz x)) (va_Qv (fun (y : St) => post y) (fun y t => Wd dC dI cI cB cJ cZ ad stM kcM 115 (va_A (pic ad stM kcM 115 cI cB cJ cZ x) sz) y t.heap) (va_A (pic ad stM kcM 115 cI cB cJ cZ x) sz)) 0 0 (va_A (pic ad stM kcM 115 cI cB cJ cZ x) sz)) (hDf : fd + 1 ≤ R.frames) (hDl : 25 + ld ≤ R.locals) (hrec10 : ∀ (l1 : Int32) (l2 : Int32) (l3 : Int32) (x : St) (H : Heap) (locs : List Loc) (ls : Array Slot), rec10 l1 l2 l3 x → Wd dC dI cI cB cJ cZ ad stM kcM 115 A x H → va_S A s.heap H locs → lv_has ls 6 [(0, .ref (ad 0)), (1, .int l1), (2, .int l2), (3, .int l3)] → W p l e R s m args below meth c H locs cells slots Q (F0 m 10 ls [])) : ∀ n : Nat, ∀ (l1 : Int32) (l2 : Int32) (l3 : Int32) (l4 : Int32) (l5 : Int32) (x : St) (H : Heap) (locs : List Loc) (ls : Array Slot), wl_Mod_tellGroup_98 post self_Mod_tellGroup self_Mod_tellOne rec10 n l1 l2 l3 l4 l5 x → Wd dC dI cI cB cJ cZ ad stM kcM 115 A x H → va_S A s.heap H locs → lv_has ls 6 [(0, .ref (ad 0)), (1, .int l1), (2, .int l2), (3, .int l3), (4, .int l4), (5, .int l5)] → W p l e R s m args below meth c H locs cells slots Q (F0 m 98 ls []) := by
  intro n
  induction n with
  | zero => intro l1 l2 l3 l4 l5 x H locs ls  hw; exact hw.elim
  | succ n ih => intro l1 l2 l3 l4 l5 x H locs ls  hw hW hS hl; exact t_Mod_tellGroup_98 hx hb hml hown hT hK hN hA hRc hRs hRf hRl hret hs_Mod_tellGroup hs_Mod_tellOne hDf hDl hrec10 ih l1 l2 l3 l4 l5 x H locs ls  hw hW hS hl
set_option maxRecDepth 100000 in
set_option maxHeartbeats 4000000 in
set_option maxRecDepth 100000 in
theorem t_Mod_tellGroup_93 {p : Program} {l : Launch} {e : Env} {R : Room} {s : State} {m : MethodId} {args : Array Value} {below : List Frame} {meth : Method} {c : Code} {cells slots : Nat} {Q : State → Prop} {dC : Nat → ClassId} {dI : Nat → Nat → Nat} {cI cB cJ cZ : ClassId} {A : Nat → Prop} {ad : Nat → Nat} {post : St → Prop} {self_Mod_tellGroup : (St → Prop) → Int32 → St → Prop} {self_Mod_tellOne : (St → Prop) → Int32 → Int32 → St → Prop} {fd ld : Nat} {rec10 : Int32 → Int32 → Int32 → St → Prop} (hx : p.tables.exec = Jvm.exec) (hb : c.code = b_Mod_tellGroup) (hml : c.maxLocals = 6) (hown : s.vm.findClass R_Mod = some m.cls) (hT : ∀ w ∈ TG, w.before args s = true) (hK : va_K (dC, dI) CL (TY cI cB cJ cZ) s) (hN : NW s) (hA : ∀ q : Nat, s.heap.size ≤ q → A q) (hRc : cells ≤ R.cells) (hRs : slots ≤ R.slots) (hRf : 4 ≤ R.frames) (hRl : 87 ≤ R.locals) (hret : ∀ (x : St) (H : Heap) (locs : List Loc) (pc : Nat) (ls : Array Slot), decode b_Mod_tellGroup pc = .ok (.return_, 1) → post x → Wd dC dI cI cB cJ cZ ad stM kcM 115 A x H → va_S A s.heap H locs → W p l e R s m args below meth c H locs cells slots Q (F0 m pc ls [])) (hs_Mod_tellGroup : ∀ (sz : Nat) (l1 : Int32) (x : St), ∀ (post : St → Prop), self_Mod_tellGroup post l1 x → Met l y_Mod_tellGroup (wsOf y_Mod_tellGroup b_Mod_tellGroup 6 (none)) ({ frames := fd, cells := 0, slots := 0, locals := ld }) (va_Pc [.ref (ad 0), .int l1] (PW dC dI cI cB cJ cZ ad stM kcM 115 sz x)) (va_Qv (fun (y : St) => post y) (fun y t => Wd dC dI cI cB cJ cZ ad stM kcM 115 (va_A (pic ad stM kcM 115 cI cB cJ cZ x) sz) y t.heap) (va_A (pic ad stM kcM 115 cI cB cJ cZ x) sz)) 0 0 (va_A (pic ad stM kcM 115 cI cB cJ cZ x) sz)) (hs_Mod_tellOne : ∀ (sz : Nat) (l1 : Int32) (l2 : Int32) (x : St), ∀ (post : St → Prop), self_Mod_tellOne post l1 l2 x → Met l y_Mod_tellOne (wsOf y_Mod_tellOne b_Mod_tellOne 3 (none)) ({ frames := fd, cells := 0, slots := 0, locals := ld }) (va_Pc [.ref (ad 0), .int l1, .int l2] (PW dC dI cI cB cJ cZ ad stM kcM 115 sz x)) (va_Qv (fun (y : St) => post y) (fun y t => Wd dC dI cI cB cJ cZ ad stM kcM 115 (va_A (pic ad stM kcM 115 cI cB cJ cZ x) sz) y t.heap) (va_A (pic ad stM kcM 115 cI cB cJ cZ x) sz)) 0 0 (va_A (pic ad stM kcM 115 cI cB cJ cZ x) sz)) (hDf : fd + 1 ≤ R.frames) (hDl : 25 + ld ≤ R.locals) (hrec10 : ∀ (l1 : Int32) (l2 : Int32) (l3 : Int32) (x : St) (H : Heap) (locs : List Loc) (ls : Array Slot), rec10 l1 l2 l3 x → Wd dC dI cI cB cJ cZ ad stM kcM 115 A x H → va_S A s.heap H locs → lv_has ls 6 [(0, .ref (ad 0)), (1, .int l1), (2, .int l2), (3, .int l3)] → W p l e R s m args below meth c H locs cells slots Q (F0 m 10 ls [])) : ∀ (l1 : Int32) (l2 : Int32) (l3 : Int32) (l4 : Int32) (x : St) (H : Heap) (locs : List Loc) (ls : Array Slot), j_Mod_tellGroup_93 post self_Mod_tellGroup self_Mod_tellOne rec10 l1 l2 l3 l4 x → Wd dC dI cI cB cJ cZ ad stM kcM 115 A x H → va_S A s.heap H locs → lv_has ls 6 [(0, .ref (ad 0)), (1, .int l1), (2, .int l2), (3, .int l3), (4, .int l4)] → W p l e R s m args below meth c H locs cells slots Q (F0 m 93 ls []) := by
  intro l1 l2 l3 l4 x H locs ls  hw hW hS hl
  unfold j_Mod_tellGroup_93 at hw
  refine lv_iconst (v := 1) hx hb d_Mod_tellGroup_93 (by decide) ?_
  refine lv_istore_n (lv' := [(2, .int 1), (0, .ref (ad 0)), (1, .int l1), (3, .int l3), (4, .int l4)]) hx hb d_Mod_tellGroup_94 rfl hl (by decide) rfl (fun ls hl => ?_)
  refine lv_iconst (v := 0) hx hb d_Mod_tellGroup_95 (by decide) ?_
  refine lv_istore (lv' := [(5, .int 0), (2, .int 1), (0, .ref (ad 0)), (1, .int l1), (3, .int l3), (4, .int l4)]) hx hb d_Mod_tellGroup_96 hl (by decide) rfl (fun ls hl => ?_)
  obtain ⟨n, hw⟩ := hw
  exact tl_Mod_tellGroup_98 hx hb hml hown hT hK hN hA hRc hRs hRf hRl hret hs_Mod_tellGroup hs_Mod_tellOne hDf hDl hrec10 n l1 1 l3 l4 0 x H locs ls  hw hW hS (lv_sub hl [2, 3, 1, 4, 5, 0] rfl)
set_option maxRecDepth 100000 in
set_option maxHeartbeats 4000000 in
set_option maxRecDepth 100000 in
theorem t_Mod_tellGroup_10 {p : Program} {l : Launch} {e : Env} {R : Room} {s : State} {m : MethodId} {args : Array Value} {below : List Frame} {meth : Method} {c : Code} {cells slots : Nat} {Q : State → Prop} {dC : Nat → ClassId} {dI : Nat → Nat → Nat} {cI cB cJ cZ : ClassId} {A : Nat → Prop} {ad : Nat → Nat} {post : St → Prop} {self_Mod_tellGroup : (St → Prop) → Int32 → St → Prop} {self_Mod_tellOne : (St → Prop) → Int32 → Int32 → St → Prop} {fd ld : Nat} {rec10 : Int32 → Int32 → Int32 → St → Prop} (hx : p.tables.exec = Jvm.exec) (hb : c.code = b_Mod_tellGroup) (hml : c.maxLocals = 6) (hown : s.vm.findClass R_Mod = some m.cls) (hT : ∀ w ∈ TG, w.before args s = true) (hK : va_K (dC, dI) CL (TY cI cB cJ cZ) s) (hN : NW s) (hA : ∀ q : Nat, s.heap.size ≤ q → A q) (hRc : cells ≤ R.cells) (hRs : slots ≤ R.slots) (hRf : 4 ≤ R.frames) (hRl : 87 ≤ R.locals) (hret : ∀ (x : St) (H : Heap) (locs : List Loc) (pc : Nat) (ls : Array Slot), decode b_Mod_tellGroup pc = .ok (.return_, 1) → post x → Wd dC dI cI cB cJ cZ ad stM kcM 115 A x H → va_S A s.heap H locs → W p l e R s m args below meth c H locs cells slots Q (F0 m pc ls [])) (hs_Mod_tellGroup : ∀ (sz : Nat) (l1 : Int32) (x : St), ∀ (post : St → Prop), self_Mod_tellGroup post l1 x → Met l y_Mod_tellGroup (wsOf y_Mod_tellGroup b_Mod_tellGroup 6 (none)) ({ frames := fd, cells := 0, slots := 0, locals := ld }) (va_Pc [.ref (ad 0), .int l1] (PW dC dI cI cB cJ cZ ad stM kcM 115 sz x)) (va_Qv (fun (y : St) => post y) (fun y t => Wd dC dI cI cB cJ cZ ad stM kcM 115 (va_A (pic ad stM kcM 115 cI cB cJ cZ x) sz) y t.heap) (va_A (pic ad stM kcM 115 cI cB cJ cZ x) sz)) 0 0 (va_A (pic ad stM kcM 115 cI cB cJ cZ x) sz)) (hs_Mod_tellOne : ∀ (sz : Nat) (l1 : Int32) (l2 : Int32) (x : St), ∀ (post : St → Prop), self_Mod_tellOne post l1 l2 x → Met l y_Mod_tellOne (wsOf y_Mod_tellOne b_Mod_tellOne 3 (none)) ({ frames := fd, cells := 0, slots := 0, locals := ld }) (va_Pc [.ref (ad 0), .int l1, .int l2] (PW dC dI cI cB cJ cZ ad stM kcM 115 sz x)) (va_Qv (fun (y : St) => post y) (fun y t => Wd dC dI cI cB cJ cZ ad stM kcM 115 (va_A (pic ad stM kcM 115 cI cB cJ cZ x) sz) y t.heap) (va_A (pic ad stM kcM 115 cI cB cJ cZ x) sz)) 0 0 (va_A (pic ad stM kcM 115 cI cB cJ cZ x) sz)) (hDf : fd + 1 ≤ R.frames) (hDl : 25 + ld ≤ R.locals) (hrec10 : ∀ (l1 : Int32) (l2 : Int32) (l3 : Int32) (x : St) (H : Heap) (locs : List Loc) (ls : Array Slot), rec10 l1 l2 l3 x → Wd dC dI cI cB cJ cZ ad stM kcM 115 A x H → va_S A s.heap H locs → lv_has ls 6 [(0, .ref (ad 0)), (1, .int l1), (2, .int l2), (3, .int l3)] → W p l e R s m args below meth c H locs cells slots Q (F0 m 10 ls [])) : ∀ (l1 : Int32) (l2 : Int32) (l3 : Int32) (x : St) (H : Heap) (locs : List Loc) (ls : Array Slot), j_Mod_tellGroup_10 post self_Mod_tellGroup self_Mod_tellOne rec10 l1 l2 l3 x → Wd dC dI cI cB cJ cZ ad stM kcM 115 A x H → va_S A s.heap H locs → lv_has ls 6 [(0, .ref (ad 0)), (1, .int l1), (2, .int l2), (3, .int l3)] → W p l e R s m args below meth c H locs cells slots Q (F0 m 10 ls []) := by
  intro l1 l2 l3 x H locs ls  hw hW hS hl
  unfold j_Mod_tellGroup_10 at hw
  refine lv_iload_n hx hb d_Mod_tellGroup_10 rfl (lv_at hl 3 rfl) ?_
  refine lv_aload_n hx hb d_Mod_tellGroup_11 rfl (lv_at hl 0 rfl) ?_
  refine w_getf (q := 9) (k := 11) (t := 12) (C := R_Mod) (T := F_Mod) (N := 167) hx hb hT hown hK hW ko_0.1 ko_0.2 (by decide) in_Mod rfl rfl (by decide) rfl fr_Mod_11 w_8_187 d_Mod_tellGroup_12 rfl ?_
  refine lv_iconst (v := 1) hx hb d_Mod_tellGroup_15 (by decide) ?_
  obtain ⟨hi, hw⟩ := hw
  refine w_iald (o := 9) hx hb hK hW ko_9.1 ko_9.2 hi d_Mod_tellGroup_16 ?_
  refine lv_icmp_ge (tgt := 261) hx hb d_Mod_tellGroup_17 (by decide) (fun c1859 => ?_) (fun c1859 => ?_)
  · have hw := hw.1 c1859
    refine lv_aload_n hx hb d_Mod_tellGroup_261 rfl (lv_at hl 0 rfl) ?_
    refine lv_bipush (v := 125) hx hb d_Mod_tellGroup_262 (by decide) ?_
    have hF := hW.free hS hA
    refine va_callv (va_runV (C := R_Mod) (As := [.int 125]) (rest := []) ⟨hx, hb, hml, hown, hT⟩ (k_Mod_tell l dC dI cI cB cJ cZ ad H.size 125 x  hw) ⟨callB_of 1 hT (gwt_in w_13_70) rfl rfl rfl (hT _ w_1_15) (hT _ w_13_67) (by decide +kernel) ⟨Nat.le_trans (Nat.le_of_ble_eq_true rfl) hRf, Nat.le_trans (Nat.le_of_ble_eq_true rfl) hRl⟩, hT _ w_13_69, hT _ ws_227⟩ ⟨PW.blind, va_recv hK hW.1 (ci := 12) (q0 := 0) rfl (pic_obj ko_0.1 ko_0.2 (by decide)), PW.at _ hW hK hN⟩ rfl rfl hl.1 rfl (lv_room (Nat.le_of_ble_eq_true rfl)) d_Mod_tellGroup_264 ⟨hRc, hRs⟩) hS (fun q _ h => hF q h) hF (fun  x1860 t H locs ht hvm hw hB hz1 hk1 hS => ?_)
    have hW := Wd.back hB ht hF
    clear hB ht hF hz1 hk1 hvm
    exact hret x1860 H locs 267 ls d_Mod_tellGroup_267 hw hW hS
  · have hw := hw.2 c1859
    refine lv_aload_n hx hb d_Mod_tellGroup_20 rfl (lv_at hl 0 rfl) ?_
    refine w_getf (q := 5) (k := 7) (t := 12) (C := R_Mod) (T := F_Mod) (N := 167) hx hb hT hown hK hW ko_0.1 ko_0.2 (by decide) in_Mod rfl rfl (by decide) rfl fr_Mod_7 w_8_183 d_Mod_tellGroup_21 rfl ?_
    refine lv_iconst (v := 1) hx hb d_Mod_tellGroup_24 (by decide) ?_
    refine lv_iload_n hx hb d_Mod_tellGroup_25 rfl (lv_at hl 3 rfl) ?_
    have hF := hW.free hS hA
    refine va_calli (va_runS (As := [.int 1, .int l3]) (rest := [.ref (ad 5)]) ⟨hx, hb, hml, hown, hT⟩ (k_Mod_place l dC dI cI cB cJ cZ ad H.size 1 l3 x  hw) ⟨callB_of 2 hT (gwt_in w_11_30) rfl rfl rfl (hT _ w_1_15) (hT _ w_11_28) (by decide +kernel) ⟨Nat.le_trans (Nat.le_of_ble_eq_true rfl) hRf, Nat.le_trans (Nat.le_of_ble_eq_true rfl) hRl⟩, hT _ w_11_29⟩ ⟨PW.blind, PW.at _ hW hK hN⟩ rfl rfl hl.1 rfl (lv_room (Nat.le_of_ble_eq_true rfl)) d_Mod_tellGroup_26 ⟨hRc, hRs⟩) hS (fun q _ h => hF q h) hF (fun r1862 x1861 t H locs ht hvm hw hB hz1 hk1 hS => ?_)
    have hW := Wd.back hB ht hF
    clear hB ht hF hz1 hk1 hvm
    obtain ⟨hi, hw⟩ := hw
    refine w_iald (o := 5) hx hb hK hW ko_5.1 ko_5.2 hi d_Mod_tellGroup_29 ?_
    refine lv_iload_n hx hb d_Mod_tellGroup_30 rfl (lv_at hl 1 rfl) ?_
    refine lv_icmp_eq (tgt := 37) hx hb d_Mod_tellGroup_31 (by decide) (fun c1863 => ?_) (fun c1863 => ?_)
    · have hw := hw.1 c1863
      refine lv_aload_n hx hb d_Mod_tellGroup_37 rfl (lv_at hl 0 rfl) ?_
      refine lv_iload_n hx hb d_Mod_tellGroup_38 rfl (lv_at hl 3 rfl) ?_
      have hF := hW.free hS hA
      refine va_calli (va_runV (C := R_Mod) (As := [.int l3]) (rest := []) ⟨hx, hb, hml, hown, hT⟩ (k_Mod_columnIn l dC dI cI cB cJ cZ ad H.size l3 x1861  hw) ⟨callB_of 1 hT (gwt_in w_13_74) rfl rfl rfl (hT _ w_1_15) (hT _ w_13_71) (by decide +kernel) ⟨Nat.le_trans (Nat.le_of_ble_eq_true rfl) hRf, Nat.le_trans (Nat.le_of_ble_eq_true rfl) hRl⟩, hT _ w_13_73, hT _ ws_228⟩ ⟨PW.blind, va_recv hK hW.1 (ci := 12) (q0 := 0) rfl (pic_obj ko_0.1 ko_0.2 (by decide)), PW.at _ hW hK hN⟩ rfl rfl hl.1 rfl (lv_room (Nat.le_of_ble_eq_true rfl)) d_Mod_tellGroup_39 ⟨hRc, hRs⟩) hS (fun q _ h => hF q h) hF (fun r1865 x1864 t H locs ht hvm hw hB hz1 hk1 hS => ?_)
      have hW := Wd.back hB ht hF
      clear hB ht hF hz1 hk1 hvm
      refine lv_istore (lv' := [(4, .int r1865), (0, .ref (ad 0)), (1, .int l1), (2, .int l2), (3, .int l3)]) hx hb d_Mod_tellGroup_42 hl (by decide) rfl (fun ls hl => ?_)
      refine lv_iload hx hb d_Mod_tellGroup_44 (lv_at hl 0 rfl) ?_
      refine lv_iconst (v := (-1)) hx hb d_Mod_tellGroup_46 (by decide) ?_
      refine lv_icmp_ne (tgt := 53) hx hb d_Mod_tellGroup_47 (by decide) (fun c1866 => ?_) (fun c1866 => ?_)
      · have hw := hw.1 c1866
        refine lv_aload_n hx hb d_Mod_tellGroup_53 rfl (lv_at hl 1 rfl) ?_
        refine w_getf (q := 59) (k := 96) (t := 12) (C := R_Mod) (T := F_Mod) (N := 167) hx hb hT hown hK hW ko_0.1 ko_0.2 (by decide) in_Mod rfl rfl (by decide) rfl fr_Mod_96 w_9_32 d_Mod_tellGroup_54 rfl ?_
        refine lv_aload_n hx hb d_Mod_tellGroup_57 rfl (lv_at hl 1 rfl) ?_
        refine w_getf (q := 76) (k := 114) (t := 12) (C := R_Mod) (T := F_Mod) (N := 167) hx hb hT hown hK hW ko_0.1 ko_0.2 (by decide) in_Mod rfl rfl (by decide) rfl fr_Mod_114 w_9_50 d_Mod_tellGroup_58 rfl ?_
        refine lv_iload hx hb d_Mod_tellGroup_61 (lv_at hl 0 rfl) ?_
        obtain ⟨hi, hw⟩ := hw
        refine w_iald (o := 76) hx hb hK hW ko_76.1 ko_76.2 hi d_Mod_tellGroup_63 ?_
        obtain ⟨hi, hw⟩ := hw
        refine w_iald (o := 59) hx hb hK hW ko_59.1 ko_59.2 hi d_Mod_tellGroup_64 ?_
        refine lv_aload_n hx hb d_Mod_tellGroup_65 rfl (lv_at hl 1 rfl) ?_
        refine lv_iconst (v := 1) hx hb d_Mod_tellGroup_66 (by decide) ?_
        refine lv_iload_n hx hb d_Mod_tellGroup_67 rfl (lv_at hl 4 rfl) ?_
        refine lv_iconst (v := 0) hx hb d_Mod_tellGroup_68 (by decide) ?_
        have hF := hW.free hS hA
        refine va_calli (va_runV (C := R_Mod) (As := [.int 1, .int l3, .int 0]) (rest := [.int (rA x1864 59 (rA x1864 76 r1865))]) ⟨hx, hb, hml, hown, hT⟩ (k_Mod_level l dC dI cI cB cJ cZ ad H.size 1 l3 0 x1864  hw) ⟨callB_of 3 hT (gwt_in w_11_114) rfl rfl rfl (hT _ w_1_15) (hT _ w_11_111) (by decide +kernel) ⟨Nat.le_trans (Nat.le_of_ble_eq_true rfl) hRf, Nat.le_trans (Nat.le_of_ble_eq_true rfl) hRl⟩, hT _ w_11_113, hT _ ws_136⟩ ⟨PW.blind, va_recv hK hW.1 (ci := 12) (q0 := 0) rfl (pic_obj ko_0.1 ko_0.2 (by decide)), PW.at _ hW hK hN⟩ rfl rfl hl.1 rfl (lv_room (Nat.le_of_ble_eq_true rfl)) d_Mod_tellGroup_69 ⟨hRc, hRs⟩) hS (fun q _ h => hF q h) hF (fun r1868 x1867 t H locs ht hvm hw hB hz1 hk1 hS => ?_)
        have hW := Wd.back hB ht hF
        clear hB ht hF hz1 hk1 hvm
        refine lv_icmp_ge (tgt := 83) hx hb d_Mod_tellGroup_72 (by decide) (fun c1869 => ?_) (fun c1869 => ?_)
        · have hw := hw.1 c1869
          refine lv_iload_n hx hb d_Mod_tellGroup_83 rfl (lv_at hl 3 rfl) ?_
          refine lv_if_eq (tgt := 93) hx hb d_Mod_tellGroup_84 (by decide) (fun c1870 => ?_) (fun c1870 => ?_)
          · have hw := hw.1 c1870
            exact t_Mod_tellGroup_93 hx hb hml hown hT hK hN hA hRc hRs hRf hRl hret hs_Mod_tellGroup hs_Mod_tellOne hDf hDl hrec10 l1 l2 l3 r1865 x1867 H locs ls  hw hW hS (lv_sub hl [1, 2, 3, 4, 0] rfl)
          · have hw := hw.2 c1870
            refine lv_aload_n hx hb d_Mod_tellGroup_87 rfl (lv_at hl 1 rfl) ?_
            refine lv_bipush (v := 44) hx hb d_Mod_tellGroup_88 (by decide) ?_
            have hF := hW.free hS hA
            refine va_callv (va_runV (C := R_Mod) (As := [.int 44]) (rest := []) ⟨hx, hb, hml, hown, hT⟩ (k_Mod_tell l dC dI cI cB cJ cZ ad H.size 44 x1867  hw) ⟨callB_of 1 hT (gwt_in w_13_70) rfl rfl rfl (hT _ w_1_15) (hT _ w_13_67) (by decide +kernel) ⟨Nat.le_trans (Nat.le_of_ble_eq_true rfl) hRf, Nat.le_trans (Nat.le_of_ble_eq_true rfl) hRl⟩, hT _ w_13_69, hT _ ws_227⟩ ⟨PW.blind, va_recv hK hW.1 (ci := 12) (q0 := 0) rfl (pic_obj ko_0.1 ko_0.2 (by decide)), PW.at _ hW hK hN⟩ rfl rfl hl.1 rfl (lv_room (Nat.le_of_ble_eq_true rfl)) d_Mod_tellGroup_90 ⟨hRc, hRs⟩) hS (fun q _ h => hF q h) hF (fun  x1871 t H locs ht hvm hw hB hz1 hk1 hS => ?_)
            have hW := Wd.back hB ht hF
            clear hB ht hF hz1 hk1 hvm
            exact t_Mod_tellGroup_93 hx hb hml hown hT hK hN hA hRc hRs hRf hRl hret hs_Mod_tellGroup hs_Mod_tellOne hDf hDl hrec10 l1 l2 l3 r1865 x1871 H locs ls  hw hW hS (lv_sub hl [1, 2, 3, 4, 0] rfl)
        · have hw := hw.2 c1869
          refine lv_aload_n hx hb d_Mod_tellGroup_75 rfl (lv_at hl 1 rfl) ?_
          refine lv_iload_n hx hb d_Mod_tellGroup_76 rfl (lv_at hl 4 rfl) ?_
          have hF := hW.free hS hA
          refine va_callv (va_runV (C := R_Mod) (As := [.int l3]) (rest := []) ⟨hx, hb, hml, hown, hT⟩ (k_Mod_pass l dC dI cI cB cJ cZ ad H.size l3 x1867  hw) ⟨callB_of 1 hT (gwt_in w_13_82) rfl rfl rfl (hT _ w_1_15) (hT _ w_13_79) (by decide +kernel) ⟨Nat.le_trans (Nat.le_of_ble_eq_true rfl) hRf, Nat.le_trans (Nat.le_of_ble_eq_true rfl) hRl⟩, hT _ w_13_81, hT _ ws_230⟩ ⟨PW.blind, va_recv hK hW.1 (ci := 12) (q0 := 0) rfl (pic_obj ko_0.1 ko_0.2 (by decide)), PW.at _ hW hK hN⟩ rfl rfl hl.1 rfl (lv_room (Nat.le_of_ble_eq_true rfl)) d_Mod_tellGroup_77 ⟨hRc, hRs⟩) hS (fun q _ h => hF q h) hF (fun  x1872 t H locs ht hvm hw hB hz1 hk1 hS => ?_)
          have hW := Wd.back hB ht hF
          clear hB ht hF hz1 hk1 hvm
          refine lv_goto (tgt := 255) hx hb d_Mod_tellGroup_80 (by decide) ?_
          exact t_Mod_tellGroup_255 hx hb hml hown hT hK hN hA hRc hRs hRf hRl hret hs_Mod_tellGroup hs_Mod_tellOne hDf hDl hrec10 l1 l2 l3 x1872 H locs ls  hw hW hS (lv_sub hl [1, 2, 3, 4] rfl)
      · have hw := hw.2 c1866
        refine lv_goto (tgt := 255) hx hb d_Mod_tellGroup_50 (by decide) ?_
        exact t_Mod_tellGroup_255 hx hb hml hown hT hK hN hA hRc hRs hRf hRl hret hs_Mod_tellGroup hs_Mod_tellOne hDf hDl hrec10 l1 l2 l3 x1864 H locs ls  hw hW hS (lv_sub hl [1, 2, 3, 4] rfl)
    · have hw := hw.2 c1863
      refine lv_goto (tgt := 255) hx hb d_Mod_tellGroup_34 (by decide) ?_
      exact t_Mod_tellGroup_255 hx hb hml hown hT hK hN hA hRc hRs hRf hRl hret hs_Mod_tellGroup hs_Mod_tellOne hDf hDl hrec10 l1 l2 l3 x1861 H locs ls  hw hW hS (lv_sub hl [0, 1, 2, 3] rfl)
set_option maxHeartbeats 4000000 in
set_option maxRecDepth 100000 in
theorem tl_Mod_tellGroup_10 {p : Program} {l : Launch} {e : Env} {R : Room} {s : State} {m : MethodId} {args : Array Value} {below : List Frame} {meth : Method} {c : Code} {cells slots : Nat} {Q : State → Prop} {dC : Nat → ClassId} {dI : Nat → Nat → Nat} {cI cB cJ cZ : ClassId} {A : Nat → Prop} {ad : Nat → Nat} {post : St → Prop} {self_Mod_tellGroup : (St → Prop) → Int32 → St → Prop} {self_Mod_tellOne : (St → Prop) → Int32 → Int32 → St → Prop} {fd ld : Nat} (hx : p.tables.exec = Jvm.exec) (hb : c.code = b_Mod_tellGroup) (hml : c.maxLocals = 6) (hown : s.vm.findClass R_Mod = some m.cls) (hT : ∀ w ∈ TG, w.before args s = true) (hK : va_K (dC, dI) CL (TY cI cB cJ cZ) s) (hN : NW s) (hA : ∀ q : Nat, s.heap.size ≤ q → A q) (hRc : cells ≤ R.cells) (hRs : slots ≤ R.slots) (hRf : 4 ≤ R.frames) (hRl : 87 ≤ R.locals) (hret : ∀ (x : St) (H : Heap) (locs : List Loc) (pc : Nat) (ls : Array Slot), decode b_Mod_tellGroup pc = .ok (.return_, 1) → post x → Wd dC dI cI cB cJ cZ ad stM kcM 115 A x H → va_S A s.heap H locs → W p l e R s m args below meth c H locs cells slots Q (F0 m pc ls [])) (hs_Mod_tellGroup : ∀ (sz : Nat) (l1 : Int32) (x : St), ∀ (post : St → Prop), self_Mod_tellGroup post l1 x → Met l y_Mod_tellGroup (wsOf y_Mod_tellGroup b_Mod_tellGroup 6 (none)) ({ frames := fd, cells := 0, slots := 0, locals := ld }) (va_Pc [.ref (ad 0), .int l1] (PW dC dI cI cB cJ cZ ad stM kcM 115 sz x)) (va_Qv (fun (y : St) => post y) (fun y t => Wd dC dI cI cB cJ cZ ad stM kcM 115 (va_A (pic ad stM kcM 115 cI cB cJ cZ x) sz) y t.heap) (va_A (pic ad stM kcM 115 cI cB cJ cZ x) sz)) 0 0 (va_A (pic ad stM kcM 115 cI cB cJ cZ x) sz)) (hs_Mod_tellOne : ∀ (sz : Nat) (l1 : Int32) (l2 : Int32) (x : St), ∀ (post : St → Prop), self_Mod_tellOne post l1 l2 x → Met l y_Mod_tellOne (wsOf y_Mod_tellOne b_Mod_tellOne 3 (none)) ({ frames := fd, cells := 0, slots := 0, locals := ld }) (va_Pc [.ref (ad 0), .int l1, .int l2] (PW dC dI cI cB cJ cZ ad stM kcM 115 sz x)) (va_Qv (fun (y : St) => post y) (fun y t => Wd dC dI cI cB cJ cZ ad stM kcM 115 (va_A (pic ad stM kcM 115 cI cB cJ cZ x) sz) y t.heap) (va_A (pic ad stM kcM 115 cI cB cJ cZ x) sz)) 0 0 (va_A (pic ad stM kcM 115 cI cB cJ cZ x) sz)) (hDf : fd + 1 ≤ R.frames) (hDl : 25 + ld ≤ R.locals)  : ∀ n : Nat, ∀ (l1 : Int32) (l2 : Int32) (l3 : Int32) (x : St) (H : Heap) (locs : List Loc) (ls : Array Slot), wl_Mod_tellGroup_10 post self_Mod_tellGroup self_Mod_tellOne n l1 l2 l3 x → Wd dC dI cI cB cJ cZ ad stM kcM 115 A x H → va_S A s.heap H locs → lv_has ls 6 [(0, .ref (ad 0)), (1, .int l1), (2, .int l2), (3, .int l3)] → W p l e R s m args below meth c H locs cells slots Q (F0 m 10 ls []) := by
  intro n
  induction n with
  | zero => intro l1 l2 l3 x H locs ls  hw; exact hw.elim
  | succ n ih => intro l1 l2 l3 x H locs ls  hw hW hS hl; exact t_Mod_tellGroup_10 hx hb hml hown hT hK hN hA hRc hRs hRf hRl hret hs_Mod_tellGroup hs_Mod_tellOne hDf hDl  ih l1 l2 l3 x H locs ls  hw hW hS hl
set_option maxRecDepth 100000 in
set_option maxHeartbeats 4000000 in
set_option maxRecDepth 100000 in
theorem t_Mod_tellGroup_e {p : Program} {l : Launch} {e : Env} {R : Room} {s : State} {m : MethodId} {args : Array Value} {below : List Frame} {meth : Method} {c : Code} {cells slots : Nat} {Q : State → Prop} {dC : Nat → ClassId} {dI : Nat → Nat → Nat} {cI cB cJ cZ : ClassId} {A : Nat → Prop} {ad : Nat → Nat} {post : St → Prop} {self_Mod_tellGroup : (St → Prop) → Int32 → St → Prop} {self_Mod_tellOne : (St → Prop) → Int32 → Int32 → St → Prop} {fd ld : Nat} (hx : p.tables.exec = Jvm.exec) (hb : c.code = b_Mod_tellGroup) (hml : c.maxLocals = 6) (hown : s.vm.findClass R_Mod = some m.cls) (hT : ∀ w ∈ TG, w.before args s = true) (hK : va_K (dC, dI) CL (TY cI cB cJ cZ) s) (hN : NW s) (hA : ∀ q : Nat, s.heap.size ≤ q → A q) (hRc : cells ≤ R.cells) (hRs : slots ≤ R.slots) (hRf : 4 ≤ R.frames) (hRl : 87 ≤ R.locals) (hret : ∀ (x : St) (H : Heap) (locs : List Loc) (pc : Nat) (ls : Array Slot), decode b_Mod_tellGroup pc = .ok (.return_, 1) → post x → Wd dC dI cI cB cJ cZ ad stM kcM 115 A x H → va_S A s.heap H locs → W p l e R s m args below meth c H locs cells slots Q (F0 m pc ls [])) (hs_Mod_tellGroup : ∀ (sz : Nat) (l1 : Int32) (x : St), ∀ (post : St → Prop), self_Mod_tellGroup post l1 x → Met l y_Mod_tellGroup (wsOf y_Mod_tellGroup b_Mod_tellGroup 6 (none)) ({ frames := fd, cells := 0, slots := 0, locals := ld }) (va_Pc [.ref (ad 0), .int l1] (PW dC dI cI cB cJ cZ ad stM kcM 115 sz x)) (va_Qv (fun (y : St) => post y) (fun y t => Wd dC dI cI cB cJ cZ ad stM kcM 115 (va_A (pic ad stM kcM 115 cI cB cJ cZ x) sz) y t.heap) (va_A (pic ad stM kcM 115 cI cB cJ cZ x) sz)) 0 0 (va_A (pic ad stM kcM 115 cI cB cJ cZ x) sz)) (hs_Mod_tellOne : ∀ (sz : Nat) (l1 : Int32) (l2 : Int32) (x : St), ∀ (post : St → Prop), self_Mod_tellOne post l1 l2 x → Met l y_Mod_tellOne (wsOf y_Mod_tellOne b_Mod_tellOne 3 (none)) ({ frames := fd, cells := 0, slots := 0, locals := ld }) (va_Pc [.ref (ad 0), .int l1, .int l2] (PW dC dI cI cB cJ cZ ad stM kcM 115 sz x)) (va_Qv (fun (y : St) => post y) (fun y t => Wd dC dI cI cB cJ cZ ad stM kcM 115 (va_A (pic ad stM kcM 115 cI cB cJ cZ x) sz) y t.heap) (va_A (pic ad stM kcM 115 cI cB cJ cZ x) sz)) 0 0 (va_A (pic ad stM kcM 115 cI cB cJ cZ x) sz)) (hDf : fd + 1 ≤ R.frames) (hDl : 25 + ld ≤ R.locals) : ∀ (l1 : Int32) (x : St) (H : Heap) (locs : List Loc) (ls : Array Slot), wb_Mod_tellGroup post self_Mod_tellGroup self_Mod_tellOne l1 x → Wd dC dI cI cB cJ cZ ad stM kcM 115 A x H → va_S A s.heap H locs → lv_has ls 6 [(0, .ref (ad 0)), (1, .int l1)] → W p l e R s m args below meth c H locs cells slots Q (F0 m 0 ls []) := by
  intro l1 x H locs ls  hw hW hS hl
  unfold wb_Mod_tellGroup at hw
  refine lv_aload_n hx hb d_Mod_tellGroup_0 rfl (lv_at hl 0 rfl) ?_
  refine lv_bipush (v := 123) hx hb d_Mod_tellGroup_1 (by decide) ?_
  have hF := hW.free hS hA
  refine va_callv (va_runV (C := R_Mod) (As := [.int 123]) (rest := []) ⟨hx, hb, hml, hown, hT⟩ (k_Mod_tell l dC dI cI cB cJ cZ ad H.size 123 x  hw) ⟨callB_of 1 hT (gwt_in w_13_70) rfl rfl rfl (hT _ w_1_15) (hT _ w_13_67) (by decide +kernel) ⟨Nat.le_trans (Nat.le_of_ble_eq_true rfl) hRf, Nat.le_trans (Nat.le_of_ble_eq_true rfl) hRl⟩, hT _ w_13_69, hT _ ws_227⟩ ⟨PW.blind, va_recv hK hW.1 (ci := 12) (q0 := 0) rfl (pic_obj ko_0.1 ko_0.2 (by decide)), PW.at _ hW hK hN⟩ rfl rfl hl.1 rfl (lv_room (Nat.le_of_ble_eq_true rfl)) d_Mod_tellGroup_3 ⟨hRc, hRs⟩) hS (fun q _ h => hF q h) hF (fun  x1873 t H locs ht hvm hw hB hz1 hk1 hS => ?_)
  have hW := Wd.back hB ht hF
  clear hB ht hF hz1 hk1 hvm
  refine lv_iconst (v := 0) hx hb d_Mod_tellGroup_6 (by decide) ?_
  refine lv_istore_n (lv' := [(2, .int 0), (0, .ref (ad 0)), (1, .int l1)]) hx hb d_Mod_tellGroup_7 rfl hl (by decide) rfl (fun ls hl => ?_)
  refine lv_iconst (v := 0) hx hb d_Mod_tellGroup_8 (by decide) ?_
  refine lv_istore_n (lv' := [(3, .int 0), (2, .int 0), (0, .ref (ad 0)), (1, .int l1)]) hx hb d_Mod_tellGroup_9 rfl hl (by decide) rfl (fun ls hl => ?_)
  obtain ⟨n, hw⟩ := hw
  exact tl_Mod_tellGroup_10 hx hb hml hown hT hK hN hA hRc hRs hRf hRl hret hs_Mod_tellGroup hs_Mod_tellOne hDf hDl  n l1 0 0 x1873 H locs ls  hw hW hS (lv_sub hl [2, 3, 1, 0] rfl)
set_option maxRecDepth 100000 in
set_option maxHeartbeats 4000000 in
set_option maxRecDepth 100000 in
theorem t_Mod_tellOne_e {p : Program} {l : Launch} {e : Env} {R : Room} {s : State} {m : MethodId} {args : Array Value} {below : List Frame} {meth : Method} {c : Code} {cells slots : Nat} {Q : State → Prop} {dC : Nat → ClassId} {dI : Nat → Nat → Nat} {cI cB cJ cZ : ClassId} {A : Nat → Prop} {ad : Nat → Nat} {post : St → Prop} {self_Mod_tellGroup : (St → Prop) → Int32 → St → Prop} {self_Mod_tellOne : (St → Prop) → Int32 → Int32 → St → Prop} {fd ld : Nat} (hx : p.tables.exec = Jvm.exec) (hb : c.code = b_Mod_tellOne) (hml : c.maxLocals = 3) (hown : s.vm.findClass R_Mod = some m.cls) (hT : ∀ w ∈ TG, w.before args s = true) (hK : va_K (dC, dI) CL (TY cI cB cJ cZ) s) (hN : NW s) (hA : ∀ q : Nat, s.heap.size ≤ q → A q) (hRc : cells ≤ R.cells) (hRs : slots ≤ R.slots) (hRf : 4 ≤ R.frames) (hRl : 87 ≤ R.locals) (hret : ∀ (x : St) (H : Heap) (locs : List Loc) (pc : Nat) (ls : Array Slot), decode b_Mod_tellOne pc = .ok (.return_, 1) → post x → Wd dC dI cI cB cJ cZ ad stM kcM 115 A x H → va_S A s.heap H locs → W p l e R s m args below meth c H locs cells slots Q (F0 m pc ls [])) (hs_Mod_tellGroup : ∀ (sz : Nat) (l1 : Int32) (x : St), ∀ (post : St → Prop), self_Mod_tellGroup post l1 x → Met l y_Mod_tellGroup (wsOf y_Mod_tellGroup b_Mod_tellGroup 6 (none)) ({ frames := fd, cells := 0, slots := 0, locals := ld }) (va_Pc [.ref (ad 0), .int l1] (PW dC dI cI cB cJ cZ ad stM kcM 115 sz x)) (va_Qv (fun (y : St) => post y) (fun y t => Wd dC dI cI cB cJ cZ ad stM kcM 115 (va_A (pic ad stM kcM 115 cI cB cJ cZ x) sz) y t.heap) (va_A (pic ad stM kcM 115 cI cB cJ cZ x) sz)) 0 0 (va_A (pic ad stM kcM 115 cI cB cJ cZ x) sz)) (hs_Mod_tellOne : ∀ (sz : Nat) (l1 : Int32) (l2 : Int32) (x : St), ∀ (post : St → Prop), self_Mod_tellOne post l1 l2 x → Met l y_Mod_tellOne (wsOf y_Mod_tellOne b_Mod_tellOne 3 (none)) ({ frames := fd, cells := 0, slots := 0, locals := ld }) (va_Pc [.ref (ad 0), .int l1, .int l2] (PW dC dI cI cB cJ cZ ad stM kcM 115 sz x)) (va_Qv (fun (y : St) => post y) (fun y t => Wd dC dI cI cB cJ cZ ad stM kcM 115 (va_A (pic ad stM kcM 115 cI cB cJ cZ x) sz) y t.heap) (va_A (pic ad stM kcM 115 cI cB cJ cZ x) sz)) 0 0 (va_A (pic ad stM kcM 115 cI cB cJ cZ x) sz)) (hDf : fd + 1 ≤ R.frames) (hDl : 25 + ld ≤ R.locals) : ∀ (l1 : Int32) (l2 : Int32) (x : St) (H : Heap) (locs : List Loc) (ls : Array Slot), wb_Mod_tellOne post self_Mod_tellGroup self_Mod_tellOne l1 l2 x → Wd dC dI cI cB cJ cZ ad stM kcM 115 A x H → va_S A s.heap H locs → lv_has ls 3 [(0, .ref (ad 0)), (1, .int l1), (2, .int l2)] → W p l e R s m args below meth c H locs cells slots Q (F0 m 0 ls []) := by
  intro l1 l2 x H locs ls  hw hW hS hl
  unfold wb_Mod_tellOne at hw
  refine lv_aload_n hx hb d_Mod_tellOne_0 rfl (lv_at hl 0 rfl) ?_
  refine w_getf (q := 4) (k := 6) (t := 12) (C := R_Mod) (T := F_Mod) (N := 167) hx hb hT hown hK hW ko_0.1 ko_0.2 (by decide) in_Mod rfl rfl (by decide) rfl fr_Mod_6 w_8_182 d_Mod_tellOne_1 rfl ?_
  refine lv_iconst (v := 1) hx hb d_Mod_tellOne_4 (by decide) ?_
  refine lv_iload_n hx hb d_Mod_tellOne_5 rfl (lv_at hl 1 rfl) ?_
  have hF := hW.free hS hA
  refine va_calli (va_runS (As := [.int 1, .int l1]) (rest := [.ref (ad 4)]) ⟨hx, hb, hml, hown, hT⟩ (k_Mod_place l dC dI cI cB cJ cZ ad H.size 1 l1 x  hw) ⟨callB_of 2 hT (gwt_in w_11_30) rfl rfl rfl (hT _ w_1_15) (hT _ w_11_28) (by decide +kernel) ⟨Nat.le_trans (Nat.le_of_ble_eq_true rfl) hRf, Nat.le_trans (Nat.le_of_ble_eq_true rfl) hRl⟩, hT _ w_11_29⟩ ⟨PW.blind, PW.at _ hW hK hN⟩ rfl rfl hl.1 rfl (lv_room (Nat.le_of_ble_eq_true rfl)) d_Mod_tellOne_6 ⟨hRc, hRs⟩) hS (fun q _ h => hF q h) hF (fun r1875 x1874 t H locs ht hvm hw hB hz1 hk1 hS => ?_)
  have hW := Wd.back hB ht hF
  clear hB ht hF hz1 hk1 hvm
  obtain ⟨hi, hw⟩ := hw
  refine w_iald (o := 4) hx hb hK hW ko_4.1 ko_4.2 hi d_Mod_tellOne_9 ?_
  refine lv_iconst (v := 4) hx hb d_Mod_tellOne_10 (by decide) ?_
  refine lv_icmp_ne (tgt := 22) hx hb d_Mod_tellOne_11 (by decide) (fun c1876 => ?_) (fun c1876 => ?_)
  · have hw := hw.1 c1876
    refine lv_aload_n hx hb d_Mod_tellOne_22 rfl (lv_at hl 0 rfl) ?_
    refine lv_aload_n hx hb d_Mod_tellOne_23 rfl (lv_at hl 0 rfl) ?_
    refine w_getf (q := 4) (k := 6) (t := 12) (C := R_Mod) (T := F_Mod) (N := 167) hx hb hT hown hK hW ko_0.1 ko_0.2 (by decide) in_Mod rfl rfl (by decide) rfl fr_Mod_6 w_8_182 d_Mod_tellOne_24 rfl ?_
    refine lv_iconst (v := 1) hx hb d_Mod_tellOne_27 (by decide) ?_
    refine lv_iload_n hx hb d_Mod_tellOne_28 rfl (lv_at hl 1 rfl) ?_
    have hF := hW.free hS hA
    refine va_calli (va_runS (As := [.int 1, .int l1]) (rest := [.ref (ad 4), .ref (ad 0)]) ⟨hx, hb, hml, hown, hT⟩ (k_Mod_place l dC dI cI cB cJ cZ ad H.size 1 l1 x1874  hw) ⟨callB_of 2 hT (gwt_in w_11_30) rfl rfl rfl (hT _ w_1_15) (hT _ w_11_28) (by decide +kernel) ⟨Nat.le_trans (Nat.le_of_ble_eq_true rfl) hRf, Nat.le_trans (Nat.le_of_ble_eq_true rfl) hRl⟩, hT _ w_11_29⟩ ⟨PW.blind, PW.at _ hW hK hN⟩ rfl rfl hl.1 rfl (lv_room (Nat.le_of_ble_eq_true rfl)) d_Mod_tellOne_29 ⟨hRc, hRs⟩) hS (fun q _ h => hF q h) hF (fun r1878 x1877 t H locs ht hvm hw hB hz1 hk1 hS => ?_)
    have hW := Wd.back hB ht hF
    clear hB ht hF hz1 hk1 hvm
    obtain ⟨hi, hw⟩ := hw
    refine w_iald (o := 4) hx hb hK hW ko_4.1 ko_4.2 hi d_Mod_tellOne_32 ?_
    refine lv_aload_n hx hb d_Mod_tellOne_33 rfl (lv_at hl 0 rfl) ?_
    refine w_getf (q := 60) (k := 97) (t := 12) (C := R_Mod) (T := F_Mod) (N := 167) hx hb hT hown hK hW ko_0.1 ko_0.2 (by decide) in_Mod rfl rfl (by decide) rfl fr_Mod_97 w_9_33 d_Mod_tellOne_34 rfl ?_
    refine lv_aload_n hx hb d_Mod_tellOne_37 rfl (lv_at hl 0 rfl) ?_
    refine w_getf (q := 76) (k := 114) (t := 12) (C := R_Mod) (T := F_Mod) (N := 167) hx hb hT hown hK hW ko_0.1 ko_0.2 (by decide) in_Mod rfl rfl (by decide) rfl fr_Mod_114 w_9_50 d_Mod_tellOne_38 rfl ?_
    refine lv_iload_n hx hb d_Mod_tellOne_41 rfl (lv_at hl 2 rfl) ?_
    obtain ⟨hi, hw⟩ := hw
    refine w_iald (o := 76) hx hb hK hW ko_76.1 ko_76.2 hi d_Mod_tellOne_42 ?_
    obtain ⟨hi, hw⟩ := hw
    refine w_iald (o := 60) hx hb hK hW ko_60.1 ko_60.2 hi d_Mod_tellOne_43 ?_
    have hF := hW.free hS hA
    refine va_callv (va_runV (C := R_Mod) (As := [.int (rA x1877 4 r1878), .int (rA x1877 60 (rA x1877 76 l2))]) (rest := []) ⟨hx, hb, hml, hown, hT⟩ (k_Mod_tellValue l dC dI cI cB cJ cZ ad H.size (rA x1877 4 r1878) (rA x1877 60 (rA x1877 76 l2)) x1877  hw) ⟨callB_of 2 hT (gwt_in w_13_90) rfl rfl rfl (hT _ w_1_15) (hT _ w_13_87) (by decide +kernel) ⟨Nat.le_trans (Nat.le_of_ble_eq_true rfl) hRf, Nat.le_trans (Nat.le_of_ble_eq_true rfl) hRl⟩, hT _ w_13_89, hT _ ws_232⟩ ⟨PW.blind, va_recv hK hW.1 (ci := 12) (q0 := 0) rfl (pic_obj ko_0.1 ko_0.2 (by decide)), PW.at _ hW hK hN⟩ rfl rfl hl.1 rfl (lv_room (Nat.le_of_ble_eq_true rfl)) d_Mod_tellOne_44 ⟨hRc, hRs⟩) hS (fun q _ h => hF q h) hF (fun  x1879 t H locs ht hvm hw hB hz1 hk1 hS => ?_)
    have hW := Wd.back hB ht hF
    clear hB ht hF hz1 hk1 hvm
    refine lv_aload_n hx hb d_Mod_tellOne_47 rfl (lv_at hl 0 rfl) ?_
    refine w_getf (q := 76) (k := 114) (t := 12) (C := R_Mod) (T := F_Mod) (N := 167) hx hb hT hown hK hW ko_0.1 ko_0.2 (by decide) in_Mod rfl rfl (by decide) rfl fr_Mod_114 w_9_50 d_Mod_tellOne_48 rfl ?_
    refine lv_iload_n hx hb d_Mod_tellOne_51 rfl (lv_at hl 2 rfl) ?_
    refine lv_dup2_11 hx hb d_Mod_tellOne_52 rfl rfl ?_
    obtain ⟨hi, hw⟩ := hw
    refine w_iald (o := 76) hx hb hK hW ko_76.1 ko_76.2 hi d_Mod_tellOne_53 ?_
    refine lv_iconst (v := 1) hx hb d_Mod_tellOne_54 (by decide) ?_
    refine lv_iadd hx hb d_Mod_tellOne_55 ?_
    obtain ⟨hi, hw⟩ := hw
    refine w_iast (o := 76) hx hb hK hW hS ko_76.1 ko_76.2 hi d_Mod_tellOne_56 (fun H locs hW hS => ?_)
    obtain ⟨x1880, ex1880⟩ : ∃ y : St, y = setA x1879 76 l2 ((rA x1879 76 l2) + 1) := ⟨_, rfl⟩
    rw [← ex1880] at hW
    have hw := hw x1880 ex1880
    exact hret x1880 H locs 57 ls d_Mod_tellOne_57 hw hW hS
  · have hw := hw.2 c1876
    refine lv_aload_n hx hb d_Mod_tellOne_14 rfl (lv_at hl 0 rfl) ?_
    refine lv_iload_n hx hb d_Mod_tellOne_15 rfl (lv_at hl 1 rfl) ?_
    have hF := hW.free hS hA
    refine va_callv (va_runV (C := R_Mod) (As := [.int l1]) (rest := []) ⟨hx, hb, hml, hown, hT⟩ (hs_Mod_tellGroup H.size l1 x1874  _ hw) ⟨callB_of 1 hT (gwt_in w_13_66) rfl rfl rfl (hT _ w_1_15) (hT _ w_13_63) (by decide +kernel) ⟨hDf, Nat.le_trans (Nat.add_le_add_right (by decide) _) hDl⟩, hT _ w_13_65, hT _ ws_226⟩ ⟨PW.blind, va_recv hK hW.1 (ci := 12) (q0 := 0) rfl (pic_obj ko_0.1 ko_0.2 (by decide)), PW.at _ hW hK hN⟩ rfl rfl hl.1 rfl (lv_room (Nat.le_of_ble_eq_true rfl)) d_Mod_tellOne_16 ⟨hRc, hRs⟩) hS (fun q _ h => hF q h) hF (fun  x1881 t H locs ht hvm hw hB hz1 hk1 hS => ?_)
    have hW := Wd.back hB ht hF
    clear hB ht hF hz1 hk1 hvm
    refine lv_goto (tgt := 57) hx hb d_Mod_tellOne_19 (by decide) ?_
    exact hret x1881 H locs 57 ls d_Mod_tellOne_57 hw hW hS
set_option maxHeartbeats 4000000 in
set_option maxRecDepth 100000 in
theorem kr_Mod_tellGroup (l : Launch) (dC : Nat → ClassId) (dI : Nat → Nat → Nat) (cI cB cJ cZ : ClassId) (ad : Nat → Nat) : ∀ d : Nat, (∀ (sz : Nat) (l1 : Int32) (x : St), ∀ (post : St → Prop), ((wr_Mod_tellGroup d)).1 post l1 x → Met l y_Mod_tellGroup (wsOf y_Mod_tellGroup b_Mod_tellGroup 6 (none)) ({ frames := 4 + d, cells := 0, slots := 0, locals := 87 + d * 25 }) (va_Pc [.ref (ad 0), .int l1] (PW dC dI cI cB cJ cZ ad stM kcM 115 sz x)) (va_Qv (fun (y : St) => post y) (fun y t => Wd dC dI cI cB cJ cZ ad stM kcM 115 (va_A (pic ad stM kcM 115 cI cB cJ cZ x) sz) y t.heap) (va_A (pic ad stM kcM 115 cI cB cJ cZ x) sz)) 0 0 (va_A (pic ad stM kcM 115 cI cB cJ cZ x) sz)) ∧ (∀ (sz : Nat) (l1 : Int32) (l2 : Int32) (x : St), ∀ (post : St → Prop), ((wr_Mod_tellGroup d)).2 post l1 l2 x → Met l y_Mod_tellOne (wsOf y_Mod_tellOne b_Mod_tellOne 3 (none)) ({ frames := 4 + d, cells := 0, slots := 0, locals := 87 + d * 25 }) (va_Pc [.ref (ad 0), .int l1, .int l2] (PW dC dI cI cB cJ cZ ad stM kcM 115 sz x)) (va_Qv (fun (y : St) => post y) (fun y t => Wd dC dI cI cB cJ cZ ad stM kcM 115 (va_A (pic ad stM kcM 115 cI cB cJ cZ x) sz) y t.heap) (va_A (pic ad stM kcM 115 cI cB cJ cZ x) sz)) 0 0 (va_A (pic ad stM kcM 115 cI cB cJ cZ x) sz)) := by
  intro d
  induction d with
  | zero =>
    exact ⟨fun sz l1 x  post hw => hw.elim, fun sz l1 l2 x  post hw => hw.elim⟩
  | succ d ih =>
    refine ⟨?_, ?_⟩
    · intro sz l1 x  post hw
      have hw : wb_Mod_tellGroup post ((wr_Mod_tellGroup d)).1 ((wr_Mod_tellGroup d)).2 l1 x := hw
      refine Met.ofW (cc := b_Mod_tellGroup) (maxL := 6) (ret := none) (by decide) rfl ?_
      intro p e s m args below meth c s₁ B hml hv
      obtain ⟨rfl, hsz, hW0, hK, hN⟩ := hv
      have hx := B.exec
      have hb := B.bytes
      have hr := B.returns
      have hts := atoms_spec B.pre
      have hT : ∀ w ∈ TG, w.before _ s = true := fun w h => hts w (List.mem_cons_of_mem _ h)
      have hown : s.vm.findClass R_Mod = some m.cls := findClass_of_methodNamed B.named
      have hlocks := B.notSynchronized
      subst hsz
      have hW : Wd dC dI cI cB cJ cZ ad stM kcM 115 (va_A (pic ad stM kcM 115 cI cB cJ cZ x) s.heap.size) x s.heap := ⟨hW0.1, hW0.2.1.self (sz := s.heap.size), hW0.2.2⟩
      generalize hAe : va_A (pic ad stM kcM 115 cI cB cJ cZ x) s.heap.size = A at hW ⊢
      have hA : ∀ q : Nat, s.heap.size ≤ q → A q := fun q h => by rw [← hAe]; exact Or.inr h
      have hS : va_S A s.heap s.heap [] := va_S.rf
      have hl := lv_entry ([.ref (ad 0), .int l1]) (n := 6) (Nat.le_of_ble_eq_true rfl)
      rw [lg_entry_eq]
      generalize (lg_sl ([.ref (ad 0), .int l1]) ++ List.replicate (6 - (lg_sl ([.ref (ad 0), .int l1])).length) Slot.unset).toArray = ls at hl ⊢
      have hl : lv_has ls 6 [(0, .ref (ad 0)), (1, .int l1)] := hl
      exact t_Mod_tellGroup_e hx hb hml hown hT hK hN hA (Nat.le_refl 0) (Nat.le_refl 0) (Nat.le_add_right 4 (d + 1)) (Nat.le_add_right 87 ((d + 1) * 25)) (fun x H locs pc ls hd hp hW hS => W.vret hx hb hr (fun t ht hM => ⟨⟨x, rfl, hp, Wd.back hW ht.symm (fun _ z => z)⟩, hS.F ht⟩) hS.2.2 hd hlocks) (ih).1 (ih).2 (Nat.le_of_eq (Nat.add_assoc 4 d 1)) (by show 25 + (87 + d * 25) ≤ 87 + (d + 1) * 25; omega) l1 x _ _ ls  hw hW hS hl
    · intro sz l1 l2 x  post hw
      have hw : wb_Mod_tellOne post ((wr_Mod_tellGroup d)).1 ((wr_Mod_tellGroup d)).2 l1 l2 x := hw
      refine Met.ofW (cc := b_Mod_tellOne) (maxL := 3) (ret := none) (by decide) rfl ?_
      intro p e s m args below meth c s₁ B hml hv
      obtain ⟨rfl, hsz, hW0, hK, hN⟩ := hv
      have hx := B.exec
      have hb := B.bytes
      have hr := B.returns
      have hts := atoms_spec B.pre
      have hT : ∀ w ∈ TG, w.before _ s = true := fun w h => hts w (List.mem_cons_of_mem _ h)
      have hown : s.vm.findClass R_Mod = some m.cls := findClass_of_methodNamed B.named
      have hlocks := B.notSynchronized
      subst hsz
      have hW : Wd dC dI cI cB cJ cZ ad stM kcM 115 (va_A (pic ad stM kcM 115 cI cB cJ cZ x) s.heap.size) x s.heap := ⟨hW0.1, hW0.2.1.self (sz := s.heap.size), hW0.2.2⟩
      generalize hAe : va_A (pic ad stM kcM 115 cI cB cJ cZ x) s.heap.size = A at hW ⊢
      have hA : ∀ q : Nat, s.heap.size ≤ q → A q := fun q h => by rw [← hAe]; exact Or.inr h
      have hS : va_S A s.heap s.heap [] := va_S.rf
      have hl := lv_entry ([.ref (ad 0), .int l1, .int l2]) (n := 3) (Nat.le_of_ble_eq_true rfl)
      rw [lg_entry_eq]
      generalize (lg_sl ([.ref (ad 0), .int l1, .int l2]) ++ List.replicate (3 - (lg_sl ([.ref (ad 0), .int l1, .int l2])).length) Slot.unset).toArray = ls at hl ⊢
      have hl : lv_has ls 3 [(0, .ref (ad 0)), (1, .int l1), (2, .int l2)] := hl
      exact t_Mod_tellOne_e hx hb hml hown hT hK hN hA (Nat.le_refl 0) (Nat.le_refl 0) (Nat.le_add_right 4 (d + 1)) (Nat.le_add_right 87 ((d + 1) * 25)) (fun x H locs pc ls hd hp hW hS => W.vret hx hb hr (fun t ht hM => ⟨⟨x, rfl, hp, Wd.back hW ht.symm (fun _ z => z)⟩, hS.F ht⟩) hS.2.2 hd hlocks) (ih).1 (ih).2 (Nat.le_of_eq (Nat.add_assoc 4 d 1)) (by show 25 + (87 + d * 25) ≤ 87 + (d + 1) * 25; omega) l1 l2 x _ _ ls  hw hW hS hl

theorem k_Mod_tellGroup (l : Launch) (dC : Nat → ClassId) (dI : Nat → Nat → Nat) (cI cB cJ cZ : ClassId) (ad : Nat → Nat) (sz : Nat) (l1 : Int32) (x : St) {post : St → Prop} (hw : wp_Mod_tellGroup post l1 x) : Met l y_Mod_tellGroup (wsOf y_Mod_tellGroup b_Mod_tellGroup 6 (none)) ({ frames := 204, cells := 0, slots := 0, locals := 5087 }) (va_Pc [.ref (ad 0), .int l1] (PW dC dI cI cB cJ cZ ad stM kcM 115 sz x)) (va_Qv (fun (y : St) => post y) (fun y t => Wd dC dI cI cB cJ cZ ad stM kcM 115 (va_A (pic ad stM kcM 115 cI cB cJ cZ x) sz) y t.heap) (va_A (pic ad stM kcM 115 cI cB cJ cZ x) sz)) 0 0 (va_A (pic ad stM kcM 115 cI cB cJ cZ x) sz) := ((kr_Mod_tellGroup l dC dI cI cB cJ cZ ad 200)).1 sz l1 x  post hw
theorem k_Mod_tellOne (l : Launch) (dC : Nat → ClassId) (dI : Nat → Nat → Nat) (cI cB cJ cZ : ClassId) (ad : Nat → Nat) (sz : Nat) (l1 : Int32) (l2 : Int32) (x : St) {post : St → Prop} (hw : wp_Mod_tellOne post l1 l2 x) : Met l y_Mod_tellOne (wsOf y_Mod_tellOne b_Mod_tellOne 3 (none)) ({ frames := 204, cells := 0, slots := 0, locals := 5087 }) (va_Pc [.ref (ad 0), .int l1, .int l2] (PW dC dI cI cB cJ cZ ad stM kcM 115 sz x)) (va_Qv (fun (y : St) => post y) (fun y t => Wd dC dI cI cB cJ cZ ad stM kcM 115 (va_A (pic ad stM kcM 115 cI cB cJ cZ x) sz) y t.heap) (va_A (pic ad stM kcM 115 cI cB cJ cZ x) sz)) 0 0 (va_A (pic ad stM kcM 115 cI cB cJ cZ x) sz) := ((kr_Mod_tellGroup l dC dI cI cB cJ cZ ad 200)).2 sz l1 l2 x  post hw
end
