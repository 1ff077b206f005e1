theorem fr_Mod_43 : F_Mod 43 = (R_Mod, "pageCoding", "I", false) := rfl
theorem fr_Mod_44 : F_Mod 44 = (R_Mod, "bodySize", "I", false) := rfl
theorem w_11_171 : (Jvm.Cond.methodLink "StripedVaultModel" (754 : Nat) ({ cls := "StripedVaultModel", name := "codings", desc := "()I" } : Jvm.MethodName)) ∈ TG := tw_11 171 (by decide +kernel) (by decide +kernel)
theorem w_11_173 : (Jvm.Cond.instanceMethod ({ cls := "StripedVaultModel", name := "codings", desc := "()I" } : Jvm.MethodName)) ∈ TG := tw_11 173 (by decide +kernel) (by decide +kernel)
theorem w_11_174 : (Jvm.Cond.code ({ cls := "StripedVaultModel", name := "codings", desc := "()I" } : Jvm.MethodName) prog_14_method_76_code (1 : Nat) (Option.some Jvm.ClassFile.FieldType.int)) ∈ TG := tw_11 174 (by decide +kernel) (by decide +kernel)
theorem w_11_175 : (Jvm.Cond.methodLink "StripedVaultModel" (757 : Nat) ({ cls := "StripedVaultModel", name := "writeValues", desc := "(I)V" } : Jvm.MethodName)) ∈ TG := tw_11 175 (by decide +kernel) (by decide +kernel)
theorem w_11_177 : (Jvm.Cond.instanceMethod ({ cls := "StripedVaultModel", name := "writeValues", desc := "(I)V" } : Jvm.MethodName)) ∈ TG := tw_11 177 (by decide +kernel) (by decide +kernel)
theorem w_11_178 : (Jvm.Cond.code ({ cls := "StripedVaultModel", name := "writeValues", desc := "(I)V" } : Jvm.MethodName) prog_14_method_81_code (3 : Nat) (Option.none : Option Jvm.ClassFile.FieldType)) ∈ TG := tw_11 178 (by decide +kernel) (by decide +kernel)
theorem w_12_32 : (Jvm.Cond.methodLink "StripedVaultModel" (763 : Nat) ({ cls := "StripedVaultModel", name := "putLevels", desc := "([II)V" } : Jvm.MethodName)) ∈ TG := tw_12 32 (by decide +kernel) (by decide +kernel)
theorem w_12_34 : (Jvm.Cond.instanceMethod ({ cls := "StripedVaultModel", name := "putLevels", desc := "([II)V" } : Jvm.MethodName)) ∈ TG := tw_12 34 (by decide +kernel) (by decide +kernel)
theorem w_12_35 : (Jvm.Cond.code ({ cls := "StripedVaultModel", name := "putLevels", desc := "([II)V" } : Jvm.MethodName) prog_14_method_82_code (6 : Nat) (Option.none : Option Jvm.ClassFile.FieldType)) ∈ TG := tw_12 35 (by decide +kernel) (by decide +kernel)
theorem w_12_36 : (Jvm.Cond.methodLink "StripedVaultModel" (770 : Nat) ({ cls := "StripedVaultModel", name := "mostOf", desc := "(Z)I" } : Jvm.MethodName)) ∈ TG := tw_12 36 (by decide +kernel) (by decide +kernel)
theorem w_12_38 : (Jvm.Cond.instanceMethod ({ cls := "StripedVaultModel", name := "mostOf", desc := "(Z)I" } : Jvm.MethodName)) ∈ TG := tw_12 38 (by decide +kernel) (by decide +kernel)
theorem w_12_39 : (Jvm.Cond.code ({ cls := "StripedVaultModel", name := "mostOf", desc := "(Z)I" } : Jvm.MethodName) prog_14_method_84_code (5 : Nat) (Option.some Jvm.ClassFile.FieldType.int)) ∈ TG := tw_12 39 (by decide +kernel) (by decide +kernel)
theorem w_12_40 : (Jvm.Cond.methodLink "StripedVaultModel" (679 : Nat) ({ cls := "StripedVaultModel", name := "compareValues", desc := "(II)I" } : Jvm.MethodName)) ∈ TG := tw_12 40 (by decide +kernel) (by decide +kernel)
theorem w_12_42 : (Jvm.Cond.instanceMethod ({ cls := "StripedVaultModel", name := "compareValues", desc := "(II)I" } : Jvm.MethodName)) ∈ TG := tw_12 42 (by decide +kernel) (by decide +kernel)
theorem w_12_43 : (Jvm.Cond.code ({ cls := "StripedVaultModel", name := "compareValues", desc := "(II)I" } : Jvm.MethodName) prog_14_method_83_code (4 : Nat) (Option.some Jvm.ClassFile.FieldType.int)) ∈ TG := tw_12 43 (by decide +kernel) (by decide +kernel)
theorem w_12_44 : (Jvm.Cond.methodLink "StripedVaultModel" (774 : Nat) ({ cls := "StripedVaultModel", name := "putOne", desc := "(I)V" } : Jvm.MethodName)) ∈ TG := tw_12 44 (by decide +kernel) (by decide +kernel)
theorem w_12_46 : (Jvm.Cond.instanceMethod ({ cls := "StripedVaultModel", name := "putOne", desc := "(I)V" } : Jvm.MethodName)) ∈ TG := tw_12 46 (by decide +kernel) (by decide +kernel)
theorem w_12_47 : (Jvm.Cond.code ({ cls := "StripedVaultModel", name := "putOne", desc := "(I)V" } : Jvm.MethodName) prog_14_method_85_code (2 : Nat) (Option.none : Option Jvm.ClassFile.FieldType)) ∈ TG := tw_12 47 (by decide +kernel) (by decide +kernel)
theorem w_12_48 : (Jvm.Cond.methodLink "StripedVaultModel" (777 : Nat) ({ cls := "StripedVaultModel", name := "check", desc := "([III)I" } : Jvm.MethodName)) ∈ TG := tw_12 48 (by decide +kernel) (by decide +kernel)
theorem w_12_49 : (Jvm.Cond.static ({ cls := "StripedVaultModel", name := "check", desc := "([III)I" } : Jvm.MethodName)) ∈ TG := tw_12 49 (by decide +kernel) (by decide +kernel)
theorem w_12_50 : (Jvm.Cond.code ({ cls := "StripedVaultModel", name := "check", desc := "([III)I" } : Jvm.MethodName) prog_14_method_86_code (7 : Nat) (Option.some Jvm.ClassFile.FieldType.int)) ∈ TG := tw_12 50 (by decide +kernel) (by decide +kernel)
theorem w_12_51 : (Jvm.Cond.constant "StripedVaultModel" (682 : Nat) (-306674912 : Int32)) ∈ TG := tw_12 51 (by decide +kernel) (by decide +kernel)
theorem w_8_219 : (Jvm.Cond.fieldLink "StripedVaultModel" (760 : Nat) "StripedVaultModel" "pageCoding" "I") ∈ TG := tw_8 219 (by decide +kernel) (by decide +kernel)
theorem w_8_220 : (Jvm.Cond.fieldLink "StripedVaultModel" (767 : Nat) "StripedVaultModel" "bodySize" "I") ∈ TG := tw_8 220 (by decide +kernel) (by decide +kernel)
theorem ws_148 : Cond.selects R_Mod y_Mod_codings y_Mod_codings ∈ TG := tw_s 148 (by decide +kernel) (by decide +kernel)
theorem ws_149 : Cond.selects R_Mod y_Mod_writeValues y_Mod_writeValues ∈ TG := tw_s 149 (by decide +kernel) (by decide +kernel)
theorem ws_171 : Cond.selects R_Mod y_Mod_putLevels y_Mod_putLevels ∈ TG := tw_s 171 (by decide +kernel) (by decide +kernel)
theorem ws_172 : Cond.selects R_Mod y_Mod_mostOf y_Mod_mostOf ∈ TG := tw_s 172 (by decide +kernel) (by decide +kernel)
theorem ws_173 : Cond.selects R_Mod y_Mod_compareValues y_Mod_compareValues ∈ TG := tw_s 173 (by decide +kernel) (by decide +kernel)
theorem ws_174 : Cond.selects R_Mod y_Mod_putOne y_Mod_putOne ∈ TG := tw_s 174 (by decide +kernel) (by decide +kernel)
theorem d_Mod_mostOf_58 : decode b_Mod_mostOf 58 = .ok (.istore_n 2, 1) := by decide +kernel
theorem d_Mod_mostOf_59 : decode b_Mod_mostOf 59 = .ok (.iinc 3 1, 3) := by decide +kernel
theorem d_Mod_mostOf_62 : decode b_Mod_mostOf 62 = .ok (.goto (-47), 3) := by decide +kernel
theorem d_Mod_mostOf_15 : decode b_Mod_mostOf 15 = .ok (.iload_n 3, 1) := by decide +kernel
theorem d_Mod_mostOf_16 : decode b_Mod_mostOf 16 = .ok (.aload_n 0, 1) := by decide +kernel
theorem d_Mod_mostOf_17 : decode b_Mod_mostOf 17 = .ok (.getfield 632, 3) := by decide +kernel
theorem d_Mod_mostOf_20 : decode b_Mod_mostOf 20 = .ok (.if_icmp .ge 45, 3) := by decide +kernel
theorem d_Mod_mostOf_65 : decode b_Mod_mostOf 65 = .ok (.iload_n 2, 1) := by decide +kernel
theorem d_Mod_mostOf_66 : decode b_Mod_mostOf 66 = .ok (.ireturn, 1) := by decide +kernel
theorem d_Mod_mostOf_23 : decode b_Mod_mostOf 23 = .ok (.aload_n 0, 1) := by decide +kernel
theorem d_Mod_mostOf_24 : decode b_Mod_mostOf 24 = .ok (.iload_n 3, 1) := by decide +kernel
theorem d_Mod_mostOf_25 : decode b_Mod_mostOf 25 = .ok (.iload_n 2, 1) := by decide +kernel
theorem d_Mod_mostOf_26 : decode b_Mod_mostOf 26 = .ok (.invokevirtual 679, 3) := by decide +kernel
theorem d_Mod_mostOf_29 : decode b_Mod_mostOf 29 = .ok (.istore 4, 2) := by decide +kernel
theorem d_Mod_mostOf_31 : decode b_Mod_mostOf 31 = .ok (.iload_n 1, 1) := by decide +kernel
theorem d_Mod_mostOf_32 : decode b_Mod_mostOf 32 = .ok (.ifCond .eq 16, 3) := by decide +kernel
theorem d_Mod_mostOf_48 : decode b_Mod_mostOf 48 = .ok (.iload 4, 2) := by decide +kernel
theorem d_Mod_mostOf_50 : decode b_Mod_mostOf 50 = .ok (.ifCond .ge 7, 3) := by decide +kernel
theorem d_Mod_mostOf_57 : decode b_Mod_mostOf 57 = .ok (.iload_n 2, 1) := by decide +kernel
theorem d_Mod_mostOf_53 : decode b_Mod_mostOf 53 = .ok (.iload_n 3, 1) := by decide +kernel
theorem d_Mod_mostOf_54 : decode b_Mod_mostOf 54 = .ok (.goto 4, 3) := by decide +kernel
theorem d_Mod_mostOf_35 : decode b_Mod_mostOf 35 = .ok (.iload 4, 2) := by decide +kernel
theorem d_Mod_mostOf_37 : decode b_Mod_mostOf 37 = .ok (.ifCond .le 7, 3) := by decide +kernel
theorem d_Mod_mostOf_44 : decode b_Mod_mostOf 44 = .ok (.iload_n 2, 1) := by decide +kernel
theorem d_Mod_mostOf_45 : decode b_Mod_mostOf 45 = .ok (.goto 13, 3) := by decide +kernel
theorem d_Mod_mostOf_40 : decode b_Mod_mostOf 40 = .ok (.iload_n 3, 1) := by decide +kernel
theorem d_Mod_mostOf_41 : decode b_Mod_mostOf 41 = .ok (.goto 17, 3) := by decide +kernel
theorem d_Mod_mostOf_12 : decode b_Mod_mostOf 12 = .ok (.istore_n 2, 1) := by decide +kernel
theorem d_Mod_mostOf_13 : decode b_Mod_mostOf 13 = .ok (.iconst 1, 1) := by decide +kernel
theorem d_Mod_mostOf_14 : decode b_Mod_mostOf 14 = .ok (.istore_n 3, 1) := by decide +kernel
theorem d_Mod_mostOf_0 : decode b_Mod_mostOf 0 = .ok (.aload_n 0, 1) := by decide +kernel
theorem d_Mod_mostOf_1 : decode b_Mod_mostOf 1 = .ok (.getfield 632, 3) := by decide +kernel
theorem d_Mod_mostOf_4 : decode b_Mod_mostOf 4 = .ok (.ifCond .ne 7, 3) := by decide +kernel
theorem d_Mod_mostOf_11 : decode b_Mod_mostOf 11 = .ok (.iconst 0, 1) := by decide +kernel
theorem d_Mod_mostOf_7 : decode b_Mod_mostOf 7 = .ok (.iconst (-1), 1) := by decide +kernel
theorem d_Mod_mostOf_8 : decode b_Mod_mostOf 8 = .ok (.goto 4, 3) := by decide +kernel
theorem d_Mod_putOne_0 : decode b_Mod_putOne 0 = .ok (.aload_n 0, 1) := by decide +kernel
theorem d_Mod_putOne_1 : decode b_Mod_putOne 1 = .ok (.getfield 623, 3) := by decide +kernel
theorem d_Mod_putOne_4 : decode b_Mod_putOne 4 = .ok (.ifCond .ne 17, 3) := by decide +kernel
theorem d_Mod_putOne_21 : decode b_Mod_putOne 21 = .ok (.aload_n 0, 1) := by decide +kernel
theorem d_Mod_putOne_22 : decode b_Mod_putOne 22 = .ok (.getfield 623, 3) := by decide +kernel
theorem d_Mod_putOne_25 : decode b_Mod_putOne 25 = .ok (.iconst 3, 1) := by decide +kernel
theorem d_Mod_putOne_26 : decode b_Mod_putOne 26 = .ok (.if_icmp .ne 11, 3) := by decide +kernel
theorem d_Mod_putOne_37 : decode b_Mod_putOne 37 = .ok (.aload_n 0, 1) := by decide +kernel
theorem d_Mod_putOne_38 : decode b_Mod_putOne 38 = .ok (.aload_n 0, 1) := by decide +kernel
theorem d_Mod_putOne_39 : decode b_Mod_putOne 39 = .ok (.getfield 100, 3) := by decide +kernel
theorem d_Mod_putOne_42 : decode b_Mod_putOne 42 = .ok (.iload_n 1, 1) := by decide +kernel
theorem d_Mod_putOne_43 : decode b_Mod_putOne 43 = .ok (.laload, 1) := by decide +kernel
theorem d_Mod_putOne_44 : decode b_Mod_putOne 44 = .ok (.invokestatic 594, 3) := by decide +kernel
theorem d_Mod_putOne_47 : decode b_Mod_putOne 47 = .ok (.invokevirtual 567, 3) := by decide +kernel
theorem d_Mod_putOne_50 : decode b_Mod_putOne 50 = .ok (.return_, 1) := by decide +kernel
theorem d_Mod_putOne_29 : decode b_Mod_putOne 29 = .ok (.aload_n 0, 1) := by decide +kernel
theorem d_Mod_putOne_30 : decode b_Mod_putOne 30 = .ok (.iload_n 1, 1) := by decide +kernel
theorem d_Mod_putOne_31 : decode b_Mod_putOne 31 = .ok (.invokevirtual 644, 3) := by decide +kernel
theorem d_Mod_putOne_34 : decode b_Mod_putOne 34 = .ok (.goto 16, 3) := by decide +kernel
theorem d_Mod_putOne_7 : decode b_Mod_putOne 7 = .ok (.aload_n 0, 1) := by decide +kernel
theorem d_Mod_putOne_8 : decode b_Mod_putOne 8 = .ok (.aload_n 0, 1) := by decide +kernel
theorem d_Mod_putOne_9 : decode b_Mod_putOne 9 = .ok (.getfield 100, 3) := by decide +kernel
theorem d_Mod_putOne_12 : decode b_Mod_putOne 12 = .ok (.iload_n 1, 1) := by decide +kernel
theorem d_Mod_putOne_13 : decode b_Mod_putOne 13 = .ok (.laload, 1) := by decide +kernel
theorem d_Mod_putOne_14 : decode b_Mod_putOne 14 = .ok (.l2i, 1) := by decide +kernel
theorem d_Mod_putOne_15 : decode b_Mod_putOne 15 = .ok (.invokevirtual 558, 3) := by decide +kernel
theorem d_Mod_putOne_18 : decode b_Mod_putOne 18 = .ok (.goto 32, 3) := by decide +kernel
theorem d_Mod_check_58 : decode b_Mod_check 58 = .ok (.iinc 5 1, 3) := by decide +kernel
theorem d_Mod_check_61 : decode b_Mod_check 61 = .ok (.goto (-47), 3) := by decide +kernel
theorem d_Mod_check_41 : decode b_Mod_check 41 = .ok (.istore 6, 2) := by decide +kernel
theorem d_Mod_check_43 : decode b_Mod_check 43 = .ok (.iload_n 3, 1) := by decide +kernel
theorem d_Mod_check_44 : decode b_Mod_check 44 = .ok (.iconst 1, 1) := by decide +kernel
theorem d_Mod_check_45 : decode b_Mod_check 45 = .ok (.iushr, 1) := by decide +kernel
theorem d_Mod_check_46 : decode b_Mod_check 46 = .ok (.istore_n 3, 1) := by decide +kernel
theorem d_Mod_check_47 : decode b_Mod_check 47 = .ok (.iload 6, 2) := by decide +kernel
theorem d_Mod_check_49 : decode b_Mod_check 49 = .ok (.ifCond .eq 9, 3) := by decide +kernel
theorem d_Mod_check_52 : decode b_Mod_check 52 = .ok (.iload_n 3, 1) := by decide +kernel
theorem d_Mod_check_53 : decode b_Mod_check 53 = .ok (.ldc_w 682, 3) := by decide +kernel
theorem d_Mod_check_56 : decode b_Mod_check 56 = .ok (.ixor, 1) := by decide +kernel
theorem d_Mod_check_57 : decode b_Mod_check 57 = .ok (.istore_n 3, 1) := by decide +kernel
theorem d_Mod_check_14 : decode b_Mod_check 14 = .ok (.iload 5, 2) := by decide +kernel
theorem d_Mod_check_16 : decode b_Mod_check 16 = .ok (.bipush 8, 2) := by decide +kernel
theorem d_Mod_check_18 : decode b_Mod_check 18 = .ok (.if_icmp .ge 46, 3) := by decide +kernel
theorem d_Mod_check_64 : decode b_Mod_check 64 = .ok (.iinc 4 1, 3) := by decide +kernel
theorem d_Mod_check_67 : decode b_Mod_check 67 = .ok (.goto (-62), 3) := by decide +kernel
theorem d_Mod_check_21 : decode b_Mod_check 21 = .ok (.aload_n 0, 1) := by decide +kernel
theorem d_Mod_check_22 : decode b_Mod_check 22 = .ok (.iload 4, 2) := by decide +kernel
theorem d_Mod_check_24 : decode b_Mod_check 24 = .ok (.iaload, 1) := by decide +kernel
theorem d_Mod_check_25 : decode b_Mod_check 25 = .ok (.iload 5, 2) := by decide +kernel
theorem d_Mod_check_27 : decode b_Mod_check 27 = .ok (.ishr, 1) := by decide +kernel
theorem d_Mod_check_28 : decode b_Mod_check 28 = .ok (.iload_n 3, 1) := by decide +kernel
theorem d_Mod_check_29 : decode b_Mod_check 29 = .ok (.ixor, 1) := by decide +kernel
theorem d_Mod_check_30 : decode b_Mod_check 30 = .ok (.iconst 1, 1) := by decide +kernel
theorem d_Mod_check_31 : decode b_Mod_check 31 = .ok (.iand, 1) := by decide +kernel
theorem d_Mod_check_32 : decode b_Mod_check 32 = .ok (.iconst 1, 1) := by decide +kernel
theorem d_Mod_check_33 : decode b_Mod_check 33 = .ok (.if_icmp .ne 7, 3) := by decide +kernel
theorem d_Mod_check_40 : decode b_Mod_check 40 = .ok (.iconst 0, 1) := by decide +kernel
theorem d_Mod_check_36 : decode b_Mod_check 36 = .ok (.iconst 1, 1) := by decide +kernel
theorem d_Mod_check_37 : decode b_Mod_check 37 = .ok (.goto 4, 3) := by decide +kernel
theorem d_Mod_check_5 : decode b_Mod_check 5 = .ok (.iload 4, 2) := by decide +kernel
theorem d_Mod_check_7 : decode b_Mod_check 7 = .ok (.iload_n 2, 1) := by decide +kernel
theorem d_Mod_check_8 : decode b_Mod_check 8 = .ok (.if_icmp .ge 62, 3) := by decide +kernel
theorem d_Mod_check_70 : decode b_Mod_check 70 = .ok (.iload_n 3, 1) := by decide +kernel
theorem d_Mod_check_71 : decode b_Mod_check 71 = .ok (.iconst (-1), 1) := by decide +kernel
theorem d_Mod_check_72 : decode b_Mod_check 72 = .ok (.ixor, 1) := by decide +kernel
theorem d_Mod_check_73 : decode b_Mod_check 73 = .ok (.ireturn, 1) := by decide +kernel
theorem d_Mod_check_11 : decode b_Mod_check 11 = .ok (.iconst 0, 1) := by decide +kernel
theorem d_Mod_check_12 : decode b_Mod_check 12 = .ok (.istore 5, 2) := by decide +kernel
theorem d_Mod_check_0 : decode b_Mod_check 0 = .ok (.iconst (-1), 1) := by decide +kernel
theorem d_Mod_check_1 : decode b_Mod_check 1 = .ok (.istore_n 3, 1) := by decide +kernel
theorem d_Mod_check_2 : decode b_Mod_check 2 = .ok (.iload_n 1, 1) := by decide +kernel
theorem d_Mod_check_3 : decode b_Mod_check 3 = .ok (.istore 4, 2) := by decide +kernel
theorem d_Mod_writePage_217 : decode b_Mod_writePage 217 = .ok (.iload_n 2, 1) := by decide +kernel
theorem d_Mod_writePage_218 : decode b_Mod_writePage 218 = .ok (.aload_n 0, 1) := by decide +kernel
theorem d_Mod_writePage_219 : decode b_Mod_writePage 219 = .ok (.getfield 767, 3) := by decide +kernel
theorem d_Mod_writePage_222 : decode b_Mod_writePage 222 = .ok (.if_icmp .ge 19, 3) := by decide +kernel
theorem d_Mod_writePage_241 : decode b_Mod_writePage 241 = .ok (.return_, 1) := by decide +kernel
theorem d_Mod_writePage_225 : decode b_Mod_writePage 225 = .ok (.aload_n 0, 1) := by decide +kernel
theorem d_Mod_writePage_226 : decode b_Mod_writePage 226 = .ok (.aload_n 0, 1) := by decide +kernel
theorem d_Mod_writePage_227 : decode b_Mod_writePage 227 = .ok (.getfield 130, 3) := by decide +kernel
theorem d_Mod_writePage_230 : decode b_Mod_writePage 230 = .ok (.iload_n 2, 1) := by decide +kernel
theorem d_Mod_writePage_231 : decode b_Mod_writePage 231 = .ok (.iaload, 1) := by decide +kernel
theorem d_Mod_writePage_232 : decode b_Mod_writePage 232 = .ok (.invokevirtual 558, 3) := by decide +kernel
theorem d_Mod_writePage_235 : decode b_Mod_writePage 235 = .ok (.iinc 2 1, 3) := by decide +kernel
theorem d_Mod_writePage_238 : decode b_Mod_writePage 238 = .ok (.goto (-21), 3) := by decide +kernel
theorem d_Mod_writePage_188 : decode b_Mod_writePage 188 = .ok (.aload_n 0, 1) := by decide +kernel
theorem d_Mod_writePage_189 : decode b_Mod_writePage 189 = .ok (.aload_n 0, 1) := by decide +kernel
theorem d_Mod_writePage_190 : decode b_Mod_writePage 190 = .ok (.getfield 767, 3) := by decide +kernel
theorem d_Mod_writePage_193 : decode b_Mod_writePage 193 = .ok (.i2l, 1) := by decide +kernel
theorem d_Mod_writePage_194 : decode b_Mod_writePage 194 = .ok (.invokevirtual 567, 3) := by decide +kernel
theorem d_Mod_writePage_197 : decode b_Mod_writePage 197 = .ok (.aload_n 0, 1) := by decide +kernel
theorem d_Mod_writePage_198 : decode b_Mod_writePage 198 = .ok (.aload_n 0, 1) := by decide +kernel
theorem d_Mod_writePage_199 : decode b_Mod_writePage 199 = .ok (.getfield 130, 3) := by decide +kernel
theorem d_Mod_writePage_202 : decode b_Mod_writePage 202 = .ok (.iconst 0, 1) := by decide +kernel
theorem d_Mod_writePage_203 : decode b_Mod_writePage 203 = .ok (.aload_n 0, 1) := by decide +kernel
theorem d_Mod_writePage_204 : decode b_Mod_writePage 204 = .ok (.getfield 767, 3) := by decide +kernel
theorem d_Mod_writePage_207 : decode b_Mod_writePage 207 = .ok (.invokestatic 777, 3) := by decide +kernel
theorem d_Mod_writePage_210 : decode b_Mod_writePage 210 = .ok (.i2l, 1) := by decide +kernel
theorem d_Mod_writePage_211 : decode b_Mod_writePage 211 = .ok (.iconst 4, 1) := by decide +kernel
theorem d_Mod_writePage_212 : decode b_Mod_writePage 212 = .ok (.invokevirtual 654, 3) := by decide +kernel
theorem d_Mod_writePage_215 : decode b_Mod_writePage 215 = .ok (.iconst 0, 1) := by decide +kernel
theorem d_Mod_writePage_216 : decode b_Mod_writePage 216 = .ok (.istore_n 2, 1) := by decide +kernel
theorem d_Mod_writePage_101 : decode b_Mod_writePage 101 = .ok (.iload_n 2, 1) := by decide +kernel
theorem d_Mod_writePage_102 : decode b_Mod_writePage 102 = .ok (.aload_n 0, 1) := by decide +kernel
theorem d_Mod_writePage_103 : decode b_Mod_writePage 103 = .ok (.getfield 767, 3) := by decide +kernel
theorem d_Mod_writePage_106 : decode b_Mod_writePage 106 = .ok (.if_icmp .ge 21, 3) := by decide +kernel
theorem d_Mod_writePage_127 : decode b_Mod_writePage 127 = .ok (.aload_n 0, 1) := by decide +kernel
theorem d_Mod_writePage_128 : decode b_Mod_writePage 128 = .ok (.iconst 0, 1) := by decide +kernel
theorem d_Mod_writePage_129 : decode b_Mod_writePage 129 = .ok (.putfield 547, 3) := by decide +kernel
theorem d_Mod_writePage_132 : decode b_Mod_writePage 132 = .ok (.aload_n 0, 1) := by decide +kernel
theorem d_Mod_writePage_133 : decode b_Mod_writePage 133 = .ok (.aload_n 0, 1) := by decide +kernel
theorem d_Mod_writePage_134 : decode b_Mod_writePage 134 = .ok (.getfield 676, 3) := by decide +kernel
theorem d_Mod_writePage_137 : decode b_Mod_writePage 137 = .ok (.i2l, 1) := by decide +kernel
theorem d_Mod_writePage_138 : decode b_Mod_writePage 138 = .ok (.invokevirtual 567, 3) := by decide +kernel
theorem d_Mod_writePage_141 : decode b_Mod_writePage 141 = .ok (.aload_n 0, 1) := by decide +kernel
theorem d_Mod_writePage_142 : decode b_Mod_writePage 142 = .ok (.aload_n 0, 1) := by decide +kernel
theorem d_Mod_writePage_143 : decode b_Mod_writePage 143 = .ok (.getfield 676, 3) := by decide +kernel
theorem d_Mod_writePage_146 : decode b_Mod_writePage 146 = .ok (.aload_n 0, 1) := by decide +kernel
theorem d_Mod_writePage_147 : decode b_Mod_writePage 147 = .ok (.getfield 632, 3) := by decide +kernel
theorem d_Mod_writePage_150 : decode b_Mod_writePage 150 = .ok (.isub, 1) := by decide +kernel
theorem d_Mod_writePage_151 : decode b_Mod_writePage 151 = .ok (.i2l, 1) := by decide +kernel
theorem d_Mod_writePage_152 : decode b_Mod_writePage 152 = .ok (.invokevirtual 567, 3) := by decide +kernel
theorem d_Mod_writePage_155 : decode b_Mod_writePage 155 = .ok (.aload_n 0, 1) := by decide +kernel
theorem d_Mod_writePage_156 : decode b_Mod_writePage 156 = .ok (.aload_n 0, 1) := by decide +kernel
theorem d_Mod_writePage_157 : decode b_Mod_writePage 157 = .ok (.getfield 760, 3) := by decide +kernel
theorem d_Mod_writePage_160 : decode b_Mod_writePage 160 = .ok (.invokevirtual 558, 3) := by decide +kernel
theorem d_Mod_writePage_163 : decode b_Mod_writePage 163 = .ok (.aload_n 0, 1) := by decide +kernel
theorem d_Mod_writePage_164 : decode b_Mod_writePage 164 = .ok (.getfield 632, 3) := by decide +kernel
theorem d_Mod_writePage_167 : decode b_Mod_writePage 167 = .ok (.ifCond .le 21, 3) := by decide +kernel
theorem d_Mod_writePage_170 : decode b_Mod_writePage 170 = .ok (.aload_n 0, 1) := by decide +kernel
theorem d_Mod_writePage_171 : decode b_Mod_writePage 171 = .ok (.aload_n 0, 1) := by decide +kernel
theorem d_Mod_writePage_172 : decode b_Mod_writePage 172 = .ok (.iconst 0, 1) := by decide +kernel
theorem d_Mod_writePage_173 : decode b_Mod_writePage 173 = .ok (.invokevirtual 770, 3) := by decide +kernel
theorem d_Mod_writePage_176 : decode b_Mod_writePage 176 = .ok (.invokevirtual 774, 3) := by decide +kernel
theorem d_Mod_writePage_179 : decode b_Mod_writePage 179 = .ok (.aload_n 0, 1) := by decide +kernel
theorem d_Mod_writePage_180 : decode b_Mod_writePage 180 = .ok (.aload_n 0, 1) := by decide +kernel
theorem d_Mod_writePage_181 : decode b_Mod_writePage 181 = .ok (.iconst 1, 1) := by decide +kernel
theorem d_Mod_writePage_182 : decode b_Mod_writePage 182 = .ok (.invokevirtual 770, 3) := by decide +kernel
theorem d_Mod_writePage_185 : decode b_Mod_writePage 185 = .ok (.invokevirtual 774, 3) := by decide +kernel
theorem d_Mod_writePage_109 : decode b_Mod_writePage 109 = .ok (.aload_n 0, 1) := by decide +kernel
theorem d_Mod_writePage_110 : decode b_Mod_writePage 110 = .ok (.getfield 130, 3) := by decide +kernel
theorem d_Mod_writePage_113 : decode b_Mod_writePage 113 = .ok (.iload_n 2, 1) := by decide +kernel
theorem d_Mod_writePage_114 : decode b_Mod_writePage 114 = .ok (.aload_n 0, 1) := by decide +kernel
theorem d_Mod_writePage_115 : decode b_Mod_writePage 115 = .ok (.getfield 127, 3) := by decide +kernel
theorem d_Mod_writePage_118 : decode b_Mod_writePage 118 = .ok (.iload_n 2, 1) := by decide +kernel
theorem d_Mod_writePage_119 : decode b_Mod_writePage 119 = .ok (.iaload, 1) := by decide +kernel
theorem d_Mod_writePage_120 : decode b_Mod_writePage 120 = .ok (.iastore, 1) := by decide +kernel
theorem d_Mod_writePage_121 : decode b_Mod_writePage 121 = .ok (.iinc 2 1, 3) := by decide +kernel
theorem d_Mod_writePage_124 : decode b_Mod_writePage 124 = .ok (.goto (-23), 3) := by decide +kernel
theorem d_Mod_writePage_48 : decode b_Mod_writePage 48 = .ok (.iinc 2 1, 3) := by decide +kernel
theorem d_Mod_writePage_51 : decode b_Mod_writePage 51 = .ok (.goto (-47), 3) := by decide +kernel
theorem d_Mod_writePage_38 : decode b_Mod_writePage 38 = .ok (.aload_n 0, 1) := by decide +kernel
theorem d_Mod_writePage_39 : decode b_Mod_writePage 39 = .ok (.getfield 547, 3) := by decide +kernel
theorem d_Mod_writePage_42 : decode b_Mod_writePage 42 = .ok (.istore_n 1, 1) := by decide +kernel
theorem d_Mod_writePage_43 : decode b_Mod_writePage 43 = .ok (.aload_n 0, 1) := by decide +kernel
theorem d_Mod_writePage_44 : decode b_Mod_writePage 44 = .ok (.iload_n 2, 1) := by decide +kernel
theorem d_Mod_writePage_45 : decode b_Mod_writePage 45 = .ok (.putfield 760, 3) := by decide +kernel
theorem d_Mod_writePage_4 : decode b_Mod_writePage 4 = .ok (.iload_n 2, 1) := by decide +kernel
theorem d_Mod_writePage_5 : decode b_Mod_writePage 5 = .ok (.aload_n 0, 1) := by decide +kernel
theorem d_Mod_writePage_6 : decode b_Mod_writePage 6 = .ok (.invokevirtual 754, 3) := by decide +kernel
theorem d_Mod_writePage_9 : decode b_Mod_writePage 9 = .ok (.if_icmp .ge 45, 3) := by decide +kernel
theorem d_Mod_writePage_54 : decode b_Mod_writePage 54 = .ok (.aload_n 0, 1) := by decide +kernel
theorem d_Mod_writePage_55 : decode b_Mod_writePage 55 = .ok (.iconst 0, 1) := by decide +kernel
theorem d_Mod_writePage_56 : decode b_Mod_writePage 56 = .ok (.putfield 547, 3) := by decide +kernel
theorem d_Mod_writePage_59 : decode b_Mod_writePage 59 = .ok (.aload_n 0, 1) := by decide +kernel
theorem d_Mod_writePage_60 : decode b_Mod_writePage 60 = .ok (.aload_n 0, 1) := by decide +kernel
theorem d_Mod_writePage_61 : decode b_Mod_writePage 61 = .ok (.getfield 88, 3) := by decide +kernel
theorem d_Mod_writePage_64 : decode b_Mod_writePage 64 = .ok (.aload_n 0, 1) := by decide +kernel
theorem d_Mod_writePage_65 : decode b_Mod_writePage 65 = .ok (.getfield 733, 3) := by decide +kernel
theorem d_Mod_writePage_68 : decode b_Mod_writePage 68 = .ok (.invokevirtual 763, 3) := by decide +kernel
theorem d_Mod_writePage_71 : decode b_Mod_writePage 71 = .ok (.aload_n 0, 1) := by decide +kernel
theorem d_Mod_writePage_72 : decode b_Mod_writePage 72 = .ok (.aload_n 0, 1) := by decide +kernel
theorem d_Mod_writePage_73 : decode b_Mod_writePage 73 = .ok (.getfield 91, 3) := by decide +kernel
theorem d_Mod_writePage_76 : decode b_Mod_writePage 76 = .ok (.aload_n 0, 1) := by decide +kernel
theorem d_Mod_writePage_77 : decode b_Mod_writePage 77 = .ok (.getfield 739, 3) := by decide +kernel
theorem d_Mod_writePage_80 : decode b_Mod_writePage 80 = .ok (.invokevirtual 763, 3) := by decide +kernel
theorem d_Mod_writePage_83 : decode b_Mod_writePage 83 = .ok (.aload_n 0, 1) := by decide +kernel
theorem d_Mod_writePage_84 : decode b_Mod_writePage 84 = .ok (.aload_n 0, 1) := by decide +kernel
theorem d_Mod_writePage_85 : decode b_Mod_writePage 85 = .ok (.getfield 760, 3) := by decide +kernel
theorem d_Mod_writePage_88 : decode b_Mod_writePage 88 = .ok (.invokevirtual 757, 3) := by decide +kernel
theorem d_Mod_writePage_91 : decode b_Mod_writePage 91 = .ok (.aload_n 0, 1) := by decide +kernel
theorem d_Mod_writePage_92 : decode b_Mod_writePage 92 = .ok (.aload_n 0, 1) := by decide +kernel
theorem d_Mod_writePage_93 : decode b_Mod_writePage 93 = .ok (.getfield 547, 3) := by decide +kernel
theorem d_Mod_writePage_96 : decode b_Mod_writePage 96 = .ok (.putfield 767, 3) := by decide +kernel
theorem d_Mod_writePage_99 : decode b_Mod_writePage 99 = .ok (.iconst 0, 1) := by decide +kernel
theorem d_Mod_writePage_100 : decode b_Mod_writePage 100 = .ok (.istore_n 2, 1) := by decide +kernel
theorem d_Mod_writePage_12 : decode b_Mod_writePage 12 = .ok (.aload_n 0, 1) := by decide +kernel
theorem d_Mod_writePage_13 : decode b_Mod_writePage 13 = .ok (.iconst 0, 1) := by decide +kernel
theorem d_Mod_writePage_14 : decode b_Mod_writePage 14 = .ok (.putfield 547, 3) := by decide +kernel
theorem d_Mod_writePage_17 : decode b_Mod_writePage 17 = .ok (.aload_n 0, 1) := by decide +kernel
theorem d_Mod_writePage_18 : decode b_Mod_writePage 18 = .ok (.iload_n 2, 1) := by decide +kernel
theorem d_Mod_writePage_19 : decode b_Mod_writePage 19 = .ok (.invokevirtual 757, 3) := by decide +kernel
theorem d_Mod_writePage_22 : decode b_Mod_writePage 22 = .ok (.iload_n 1, 1) := by decide +kernel
theorem d_Mod_writePage_23 : decode b_Mod_writePage 23 = .ok (.iconst (-1), 1) := by decide +kernel
theorem d_Mod_writePage_24 : decode b_Mod_writePage 24 = .ok (.if_icmp .eq 14, 3) := by decide +kernel
theorem d_Mod_writePage_27 : decode b_Mod_writePage 27 = .ok (.aload_n 0, 1) := by decide +kernel
theorem d_Mod_writePage_28 : decode b_Mod_writePage 28 = .ok (.getfield 547, 3) := by decide +kernel
theorem d_Mod_writePage_31 : decode b_Mod_writePage 31 = .ok (.iload_n 1, 1) := by decide +kernel
theorem d_Mod_writePage_32 : decode b_Mod_writePage 32 = .ok (.if_icmp .lt 6, 3) := by decide +kernel
theorem d_Mod_writePage_35 : decode b_Mod_writePage 35 = .ok (.goto 13, 3) := by decide +kernel
theorem d_Mod_writePage_0 : decode b_Mod_writePage 0 = .ok (.iconst (-1), 1) := by decide +kernel
theorem d_Mod_writePage_1 : decode b_Mod_writePage 1 = .ok (.istore_n 1, 1) := by decide +kernel
theorem d_Mod_writePage_2 : decode b_Mod_writePage 2 = .ok (.iconst 0, 1) := by decide +kernel
theorem d_Mod_writePage_3 : decode b_Mod_writePage 3 = .ok (.istore_n 2, 1) := by decide +kernel
section
variable (l : Launch) (dC : Nat → ClassId) (dI : Nat → Nat → Nat) (cI cB cJ cZ : ClassId)
set_option maxRecDepth 100000 in
set_option maxHeartbeats 4000000 in
set_option maxRecDepth 100000 in
theorem t_Mod_mostOf_58 {p : Program} {l : Launch} {e : Env} {R : Room} {s : State} {m : MethodId} {args : Array Value} {below : List Frame} {meth : Method} {c : Code} {cells slots : Nat} {Q : State → Prop} {dC : Nat → ClassId} {dI : Nat → Nat → Nat} {cI cB cJ cZ : ClassId} {A : Nat → Prop} {ad : Nat → Nat} {post : Int32 → St → Prop} {rec15 : Int32 → Int32 → Int32 → St → Prop} (hx : p.tables.exec = Jvm.exec) (hb : c.code = b_Mod_mostOf) (hml : c.maxLocals = 5) (hown : s.vm.findClass R_Mod = some m.cls) (hT : ∀ w ∈ TG, w.before args s = true) (hK : va_K (dC, dI) CL (TY cI cB cJ cZ) s) (hN : NW s) (hA : ∀ q : Nat, s.heap.size ≤ q → A q) (hRc : cells ≤ R.cells) (hRs : slots ≤ R.slots) (hRf : 2 ≤ R.frames) (hRl : 44 ≤ R.locals) (hret : ∀ (r : Int32) (x : St) (H : Heap) (locs : List Loc) (pc : Nat) (ls : Array Slot), decode b_Mod_mostOf pc = .ok (.ireturn, 1) → post r x → Wd dC dI cI cB cJ cZ ad stM kcM 115 A x H → va_S A s.heap H locs → W p l e R s m args below meth c H locs cells slots Q (F0 m pc ls [.int r])) (hrec15 : ∀ (l1 : Int32) (l2 : Int32) (l3 : Int32) (x : St) (H : Heap) (locs : List Loc) (ls : Array Slot), rec15 l1 l2 l3 x → Wd dC dI cI cB cJ cZ ad stM kcM 115 A x H → va_S A s.heap H locs → lv_has ls 5 [(0, .ref (ad 0)), (1, .int l1), (2, .int l2), (3, .int l3)] → W p l e R s m args below meth c H locs cells slots Q (F0 m 15 ls [])) : ∀ (l1 : Int32) (l2 : Int32) (l3 : Int32) (l4 : Int32) (s0 : Int32) (x : St) (H : Heap) (locs : List Loc) (ls : Array Slot), j_Mod_mostOf_58 post rec15 l1 l2 l3 l4 s0 x → Wd dC dI cI cB cJ cZ ad stM kcM 115 A x H → va_S A s.heap H locs → lv_has ls 5 [(0, .ref (ad 0)), (1, .int l1), (2, .int l2), (3, .int l3), (4, .int l4)] → W p l e R s m args below meth c H locs cells slots Q (F0 m 58 ls [.int s0]) := by
  intro l1 l2 l3 l4 s0 x H locs ls  hw hW hS hl
  unfold j_Mod_mostOf_58 at hw
  refine lv_istore_n (lv' := [(2, .int s0), (0, .ref (ad 0)), (1, .int l1), (3, .int l3), (4, .int l4)]) hx hb d_Mod_mostOf_58 rfl hl (by decide) rfl (fun ls hl => ?_)
  refine lv_iinc (v := (l3 + 1)) (lv' := [(3, .int (l3 + 1)), (2, .int s0), (0, .ref (ad 0)), (1, .int l1), (4, .int l4)]) hx hb d_Mod_mostOf_59 hl (k := 3) rfl rfl (by decide) rfl (fun ls hl => ?_)
  refine lv_goto (tgt := 15) hx hb d_Mod_mostOf_62 (by decide) ?_
  exact hrec15 l1 s0 (l3 + 1) x H locs ls  hw hW hS (lv_sub hl [2, 3, 1, 0] rfl)
set_option maxRecDepth 100000 in
set_option maxHeartbeats 4000000 in
set_option maxRecDepth 100000 in
theorem t_Mod_mostOf_15 {p : Program} {l : Launch} {e : Env} {R : Room} {s : State} {m : MethodId} {args : Array Value} {below : List Frame} {meth : Method} {c : Code} {cells slots : Nat} {Q : State → Prop} {dC : Nat → ClassId} {dI : Nat → Nat → Nat} {cI cB cJ cZ : ClassId} {A : Nat → Prop} {ad : Nat → Nat} {post : Int32 → St → Prop} {rec15 : Int32 → Int32 → Int32 → St → Prop} (hx : p.tables.exec = Jvm.exec) (hb : c.code = b_Mod_mostOf) (hml : c.maxLocals = 5) (hown : s.vm.findClass R_Mod = some m.cls) (hT : ∀ w ∈ TG, w.before args s = true) (hK : va_K (dC, dI) CL (TY cI cB cJ cZ) s) (hN : NW s) (hA : ∀ q : Nat, s.heap.size ≤ q → A q) (hRc : cells ≤ R.cells) (hRs : slots ≤ R.slots) (hRf : 2 ≤ R.frames) (hRl : 44 ≤ R.locals) (hret : ∀ (r : Int32) (x : St) (H : Heap) (locs : List Loc) (pc : Nat) (ls : Array Slot), decode b_Mod_mostOf pc = .ok (.ireturn, 1) → post r x → Wd dC dI cI cB cJ cZ ad stM kcM 115 A x H → va_S A s.heap H locs → W p l e R s m args below meth c H locs cells slots Q (F0 m pc ls [.int r])) (hrec15 : ∀ (l1 : Int32) (l2 : Int32) (l3 : Int32) (x : St) (H : Heap) (locs : List Loc) (ls : Array Slot), rec15 l1 l2 l3 x → Wd dC dI cI cB cJ cZ ad stM kcM 115 A x H → va_S A s.heap H locs → lv_has ls 5 [(0, .ref (ad 0)), (1, .int l1), (2, .int l2), (3, .int l3)] → W p l e R s m args below meth c H locs cells slots Q (F0 m 15 ls [])) : ∀ (l1 : Int32) (l2 : Int32) (l3 : Int32) (x : St) (H : Heap) (locs : List Loc) (ls : Array Slot), j_Mod_mostOf_15 post rec15 l1 l2 l3 x → Wd dC dI cI cB cJ cZ ad stM kcM 115 A x H → va_S A s.heap H locs → lv_has ls 5 [(0, .ref (ad 0)), (1, .int l1), (2, .int l2), (3, .int l3)] → W p l e R s m args below meth c H locs cells slots Q (F0 m 15 ls []) := by
  intro l1 l2 l3 x H locs ls  hw hW hS hl
  unfold j_Mod_mostOf_15 at hw
  refine lv_iload_n hx hb d_Mod_mostOf_15 rfl (lv_at hl 3 rfl) ?_
  refine lv_aload_n hx hb d_Mod_mostOf_16 rfl (lv_at hl 0 rfl) ?_
  refine w_geti (k := 42) (t := 12) (C := R_Mod) (T := F_Mod) (N := 167) hx hb hT hown hK hW ko_0.1 ko_0.2 (by decide) in_Mod rfl rfl (by decide) rfl fr_Mod_42 w_8_218 d_Mod_mostOf_17 ?_
  refine lv_icmp_ge (tgt := 65) hx hb d_Mod_mostOf_20 (by decide) (fun c723 => ?_) (fun c723 => ?_)
  · have hw := hw.1 c723
    refine lv_iload_n hx hb d_Mod_mostOf_65 rfl (lv_at hl 2 rfl) ?_
    exact hret l2 x H locs 66 ls d_Mod_mostOf_66 hw hW hS
  · have hw := hw.2 c723
    refine lv_aload_n hx hb d_Mod_mostOf_23 rfl (lv_at hl 0 rfl) ?_
    refine lv_iload_n hx hb d_Mod_mostOf_24 rfl (lv_at hl 3 rfl) ?_
    refine lv_iload_n hx hb d_Mod_mostOf_25 rfl (lv_at hl 2 rfl) ?_
    have hF := hW.free hS hA
    refine va_calli (va_runV (C := R_Mod) (As := [.int l3, .int l2]) (rest := []) ⟨hx, hb, hml, hown, hT⟩ (k_Mod_compareValues l dC dI cI cB cJ cZ ad H.size l3 l2 x  hw) ⟨callB_of 2 hT (gwt_in w_12_43) rfl rfl rfl (hT _ w_1_15) (hT _ w_12_40) (by decide +kernel) ⟨Nat.le_trans (Nat.le_of_ble_eq_true rfl) hRf, Nat.le_trans (Nat.le_of_ble_eq_true rfl) hRl⟩, hT _ w_12_42, hT _ ws_173⟩ ⟨PW.blind, va_recv hK hW.1 (ci := 12) (q0 := 0) rfl (pic_obj ko_0.1 ko_0.2 (by decide)), PW.at _ hW hK hN⟩ rfl rfl hl.1 rfl (lv_room (Nat.le_of_ble_eq_true rfl)) d_Mod_mostOf_26 ⟨hRc, hRs⟩) hS (fun q _ h => hF q h) hF (fun r725 x724 t H locs ht hvm hw hB hz1 hk1 hS => ?_)
    have hW := Wd.back hB ht hF
    clear hB ht hF hz1 hk1 hvm
    refine lv_istore (lv' := [(4, .int r725), (0, .ref (ad 0)), (1, .int l1), (2, .int l2), (3, .int l3)]) hx hb d_Mod_mostOf_29 hl (by decide) rfl (fun ls hl => ?_)
    refine lv_iload_n hx hb d_Mod_mostOf_31 rfl (lv_at hl 2 rfl) ?_
    refine lv_if_eq (tgt := 48) hx hb d_Mod_mostOf_32 (by decide) (fun c726 => ?_) (fun c726 => ?_)
    · have hw := hw.1 c726
      refine lv_iload hx hb d_Mod_mostOf_48 (lv_at hl 0 rfl) ?_
      refine lv_if_ge (tgt := 57) hx hb d_Mod_mostOf_50 (by decide) (fun c727 => ?_) (fun c727 => ?_)
      · have hw := hw.1 c727
        refine lv_iload_n hx hb d_Mod_mostOf_57 rfl (lv_at hl 3 rfl) ?_
        exact t_Mod_mostOf_58 hx hb hml hown hT hK hN hA hRc hRs hRf hRl hret hrec15 l1 l2 l3 r725 l2 x724 H locs ls  hw hW hS (lv_sub hl [1, 2, 3, 4, 0] rfl)
      · have hw := hw.2 c727
        refine lv_iload_n hx hb d_Mod_mostOf_53 rfl (lv_at hl 4 rfl) ?_
        refine lv_goto (tgt := 58) hx hb d_Mod_mostOf_54 (by decide) ?_
        exact t_Mod_mostOf_58 hx hb hml hown hT hK hN hA hRc hRs hRf hRl hret hrec15 l1 l2 l3 r725 l3 x724 H locs ls  hw hW hS (lv_sub hl [1, 2, 3, 4, 0] rfl)
    · have hw := hw.2 c726
      refine lv_iload hx hb d_Mod_mostOf_35 (lv_at hl 0 rfl) ?_
      refine lv_if_le (tgt := 44) hx hb d_Mod_mostOf_37 (by decide) (fun c728 => ?_) (fun c728 => ?_)
      · have hw := hw.1 c728
        refine lv_iload_n hx hb d_Mod_mostOf_44 rfl (lv_at hl 3 rfl) ?_
        refine lv_goto (tgt := 58) hx hb d_Mod_mostOf_45 (by decide) ?_
        exact t_Mod_mostOf_58 hx hb hml hown hT hK hN hA hRc hRs hRf hRl hret hrec15 l1 l2 l3 r725 l2 x724 H locs ls  hw hW hS (lv_sub hl [1, 2, 3, 4, 0] rfl)
      · have hw := hw.2 c728
        refine lv_iload_n hx hb d_Mod_mostOf_40 rfl (lv_at hl 4 rfl) ?_
        refine lv_goto (tgt := 58) hx hb d_Mod_mostOf_41 (by decide) ?_
        exact t_Mod_mostOf_58 hx hb hml hown hT hK hN hA hRc hRs hRf hRl hret hrec15 l1 l2 l3 r725 l3 x724 H locs ls  hw hW hS (lv_sub hl [1, 2, 3, 4, 0] rfl)
set_option maxHeartbeats 4000000 in
set_option maxRecDepth 100000 in
theorem tl_Mod_mostOf_15 {p : Program} {l : Launch} {e : Env} {R : Room} {s : State} {m : MethodId} {args : Array Value} {below : List Frame} {meth : Method} {c : Code} {cells slots : Nat} {Q : State → Prop} {dC : Nat → ClassId} {dI : Nat → Nat → Nat} {cI cB cJ cZ : ClassId} {A : Nat → Prop} {ad : Nat → Nat} {post : Int32 → St → Prop} (hx : p.tables.exec = Jvm.exec) (hb : c.code = b_Mod_mostOf) (hml : c.maxLocals = 5) (hown : s.vm.findClass R_Mod = some m.cls) (hT : ∀ w ∈ TG, w.before args s = true) (hK : va_K (dC, dI) CL (TY cI cB cJ cZ) s) (hN : NW s) (hA : ∀ q : Nat, s.heap.size ≤ q → A q) (hRc : cells ≤ R.cells) (hRs : slots ≤ R.slots) (hRf : 2 ≤ R.frames) (hRl : 44 ≤ R.locals) (hret : ∀ (r : Int32) (x : St) (H : Heap) (locs : List Loc) (pc : Nat) (ls : Array Slot), decode b_Mod_mostOf pc = .ok (.ireturn, 1) → post r x → Wd dC dI cI cB cJ cZ ad stM kcM 115 A x H → va_S A s.heap H locs → W p l e R s m args below meth c H locs cells slots Q (F0 m pc ls [.int r]))  : ∀ n : Nat, ∀ (l1 : Int32) (l2 : Int32) (l3 : Int32) (x : St) (H : Heap) (locs : List Loc) (ls : Array Slot), wl_Mod_mostOf_15 post n l1 l2 l3 x → Wd dC dI cI cB cJ cZ ad stM kcM 115 A x H → va_S A s.heap H locs → lv_has ls 5 [(0, .ref (ad 0)), (1, .int l1), (2, .int l2), (3, .int l3)] → W p l e R s m args below meth c H locs cells slots Q (F0 m 15 ls []) := by
  intro n
  induction n with
  | zero => intro l1 l2 l3 x H locs ls  hw; exact hw.elim
  | succ n ih => intro l1 l2 l3 x H locs ls  hw hW hS hl; exact t_Mod_mostOf_15 hx hb hml hown hT hK hN hA hRc hRs hRf hRl hret  ih l1 l2 l3 x H locs ls  hw hW hS hl
set_option maxRecDepth 100000 in
set_option maxHeartbeats 4000000 in
set_option maxRecDepth 100000 in
theorem t_Mod_mostOf_12 {p : Program} {l : Launch} {e : Env} {R : Room} {s : State} {m : MethodId} {args : Array Value} {below : List Frame} {meth : Method} {c : Code} {cells slots : Nat} {Q : State → Prop} {dC : Nat → ClassId} {dI : Nat → Nat → Nat} {cI cB cJ cZ : ClassId} {A : Nat → Prop} {ad : Nat → Nat} {post : Int32 → St → Prop} (hx : p.tables.exec = Jvm.exec) (hb : c.code = b_Mod_mostOf) (hml : c.maxLocals = 5) (hown : s.vm.findClass R_Mod = some m.cls) (hT : ∀ w ∈ TG, w.before args s = true) (hK : va_K (dC, dI) CL (TY cI cB cJ cZ) s) (hN : NW s) (hA : ∀ q : Nat, s.heap.size ≤ q → A q) (hRc : cells ≤ R.cells) (hRs : slots ≤ R.slots) (hRf : 2 ≤ R.frames) (hRl : 44 ≤ R.locals) (hret : ∀ (r : Int32) (x : St) (H : Heap) (locs : List Loc) (pc : Nat) (ls : Array Slot), decode b_Mod_mostOf pc = .ok (.ireturn, 1) → post r x → Wd dC dI cI cB cJ cZ ad stM kcM 115 A x H → va_S A s.heap H locs → W p l e R s m args below meth c H locs cells slots Q (F0 m pc ls [.int r]))  : ∀ (l1 : Int32) (s0 : Int32) (x : St) (H : Heap) (locs : List Loc) (ls : Array Slot), j_Mod_mostOf_12 post l1 s0 x → Wd dC dI cI cB cJ cZ ad stM kcM 115 A x H → va_S A s.heap H locs → lv_has ls 5 [(0, .ref (ad 0)), (1, .int l1)] → W p l e R s m args below meth c H locs cells slots Q (F0 m 12 ls [.int s0]) := by
  intro l1 s0 x H locs ls  hw hW hS hl
  unfold j_Mod_mostOf_12 at hw
  refine lv_istore_n (lv' := [(2, .int s0), (0, .ref (ad 0)), (1, .int l1)]) hx hb d_Mod_mostOf_12 rfl hl (by decide) rfl (fun ls hl => ?_)
  refine lv_iconst (v := 1) hx hb d_Mod_mostOf_13 (by decide) ?_
  refine lv_istore_n (lv' := [(3, .int 1), (2, .int s0), (0, .ref (ad 0)), (1, .int l1)]) hx hb d_Mod_mostOf_14 rfl hl (by decide) rfl (fun ls hl => ?_)
  obtain ⟨n, hw⟩ := hw
  exact tl_Mod_mostOf_15 hx hb hml hown hT hK hN hA hRc hRs hRf hRl hret  n l1 s0 1 x H locs ls  hw hW hS (lv_sub hl [2, 3, 1, 0] rfl)
set_option maxRecDepth 100000 in
set_option maxHeartbeats 4000000 in
set_option maxRecDepth 100000 in
theorem t_Mod_mostOf_e {p : Program} {l : Launch} {e : Env} {R : Room} {s : State} {m : MethodId} {args : Array Value} {below : List Frame} {meth : Method} {c : Code} {cells slots : Nat} {Q : State → Prop} {dC : Nat → ClassId} {dI : Nat → Nat → Nat} {cI cB cJ cZ : ClassId} {A : Nat → Prop} {ad : Nat → Nat} {post : Int32 → St → Prop} (hx : p.tables.exec = Jvm.exec) (hb : c.code = b_Mod_mostOf) (hml : c.maxLocals = 5) (hown : s.vm.findClass R_Mod = some m.cls) (hT : ∀ w ∈ TG, w.before args s = true) (hK : va_K (dC, dI) CL (TY cI cB cJ cZ) s) (hN : NW s) (hA : ∀ q : Nat, s.heap.size ≤ q → A q) (hRc : cells ≤ R.cells) (hRs : slots ≤ R.slots) (hRf : 2 ≤ R.frames) (hRl : 44 ≤ R.locals) (hret : ∀ (r : Int32) (x : St) (H : Heap) (locs : List Loc) (pc : Nat) (ls : Array Slot), decode b_Mod_mostOf pc = .ok (.ireturn, 1) → post r x → Wd dC dI cI cB cJ cZ ad stM kcM 115 A x H → va_S A s.heap H locs → W p l e R s m args below meth c H locs cells slots Q (F0 m pc ls [.int r])) : ∀ (l1 : Int32) (x : St) (H : Heap) (locs : List Loc) (ls : Array Slot), wp_Mod_mostOf post l1 x → Wd dC dI cI cB cJ cZ ad stM kcM 115 A x H → va_S A s.heap H locs → lv_has ls 5 [(0, .ref (ad 0)), (1, .int l1)] → W p l e R s m args below meth c H locs cells slots Q (F0 m 0 ls []) := by
  intro l1 x H locs ls  hw hW hS hl
  unfold wp_Mod_mostOf at hw
  refine lv_aload_n hx hb d_Mod_mostOf_0 rfl (lv_at hl 0 rfl) ?_
  refine w_geti (k := 42) (t := 12) (C := R_Mod) (T := F_Mod) (N := 167) hx hb hT hown hK hW ko_0.1 ko_0.2 (by decide) in_Mod rfl rfl (by decide) rfl fr_Mod_42 w_8_218 d_Mod_mostOf_1 ?_
  refine lv_if_ne (tgt := 11) hx hb d_Mod_mostOf_4 (by decide) (fun c729 => ?_) (fun c729 => ?_)
  · have hw := hw.1 c729
    refine lv_iconst (v := 0) hx hb d_Mod_mostOf_11 (by decide) ?_
    exact t_Mod_mostOf_12 hx hb hml hown hT hK hN hA hRc hRs hRf hRl hret  l1 0 x H locs ls  hw hW hS (lv_sub hl [0, 1] rfl)
  · have hw := hw.2 c729
    refine lv_iconst (v := (-1)) hx hb d_Mod_mostOf_7 (by decide) ?_
    refine lv_goto (tgt := 12) hx hb d_Mod_mostOf_8 (by decide) ?_
    exact t_Mod_mostOf_12 hx hb hml hown hT hK hN hA hRc hRs hRf hRl hret  l1 (-1) x H locs ls  hw hW hS (lv_sub hl [0, 1] rfl)
set_option maxHeartbeats 4000000 in
set_option maxRecDepth 100000 in
theorem k_Mod_mostOf (l : Launch) (dC : Nat → ClassId) (dI : Nat → Nat → Nat) (cI cB cJ cZ : ClassId) (ad : Nat → Nat) (sz : Nat) (l1 : Int32) (x : St) {post : Int32 → St → Prop} (hw : wp_Mod_mostOf post l1 x) : Met l y_Mod_mostOf (wsOf y_Mod_mostOf b_Mod_mostOf 5 (some (.int))) ({ frames := 2, cells := 0, slots := 0, locals := 44 }) (va_Pc [.ref (ad 0), .int l1] (PW dC dI cI cB cJ cZ ad stM kcM 115 sz x)) (va_Qi (fun (r : Int32) (y : St) => post r y) (fun y t => Wd dC dI cI cB cJ cZ ad stM kcM 115 (va_A (pic ad stM kcM 115 cI cB cJ cZ x) sz) y t.heap) (va_A (pic ad stM kcM 115 cI cB cJ cZ x) sz)) 0 0 (va_A (pic ad stM kcM 115 cI cB cJ cZ x) sz) := by
  refine Met.ofW (cc := b_Mod_mostOf) (maxL := 5) (ret := some (.int)) (by decide) rfl ?_
  intro p e s m args below meth c s₁ B hml hv
  obtain ⟨rfl, hsz, hW0, hK, hN⟩ := hv
  have hx := B.exec
  have hb := B.bytes
  have hr := B.returns
  have hts := atoms_spec B.pre
  have hT : ∀ w ∈ TG, w.before _ s = true := fun w h => hts w (List.mem_cons_of_mem _ h)
  have hown : s.vm.findClass R_Mod = some m.cls := findClass_of_methodNamed B.named
  have hlocks := B.notSynchronized
  subst hsz
  have hW : Wd dC dI cI cB cJ cZ ad stM kcM 115 (va_A (pic ad stM kcM 115 cI cB cJ cZ x) s.heap.size) x s.heap := ⟨hW0.1, hW0.2.1.self (sz := s.heap.size), hW0.2.2⟩
  generalize hAe : va_A (pic ad stM kcM 115 cI cB cJ cZ x) s.heap.size = A at hW ⊢
  have hA : ∀ q : Nat, s.heap.size ≤ q → A q := fun q h => by rw [← hAe]; exact Or.inr h
  have hS : va_S A s.heap s.heap [] := va_S.rf
  have hl := lv_entry ([.ref (ad 0), .int l1]) (n := 5) (Nat.le_of_ble_eq_true rfl)
  rw [lg_entry_eq]
  generalize (lg_sl ([.ref (ad 0), .int l1]) ++ List.replicate (5 - (lg_sl ([.ref (ad 0), .int l1])).length) Slot.unset).toArray = ls at hl ⊢
  have hl : lv_has ls 5 [(0, .ref (ad 0)), (1, .int l1)] := hl
  exact t_Mod_mostOf_e hx hb hml hown hT hK hN hA (Nat.le_refl 0) (Nat.le_refl 0) (Nat.le_refl 2) (Nat.le_refl 44) (fun r x H locs pc ls hd hp hW hS => W.iret (v := r) hx hb hr (fun t ht hM => ⟨⟨r, x, rfl, hp, Wd.back hW ht.symm (fun _ z => z)⟩, hS.F ht⟩) hS.2.2 hd hlocks)  l1 x _ _ ls  hw hW hS hl
set_option maxRecDepth 100000 in
set_option maxHeartbeats 4000000 in
set_option maxRecDepth 100000 in
theorem t_Mod_putOne_e {p : Program} {l : Launch} {e : Env} {R : Room} {s : State} {m : MethodId} {args : Array Value} {below : List Frame} {meth : Method} {c : Code} {cells slots : Nat} {Q : State → Prop} {dC : Nat → ClassId} {dI : Nat → Nat → Nat} {cI cB cJ cZ : ClassId} {A : Nat → Prop} {ad : Nat → Nat} {post : St → Prop} (hx : p.tables.exec = Jvm.exec) (hb : c.code = b_Mod_putOne) (hml : c.maxLocals = 2) (hown : s.vm.findClass R_Mod = some m.cls) (hT : ∀ w ∈ TG, w.before args s = true) (hK : va_K (dC, dI) CL (TY cI cB cJ cZ) s) (hN : NW s) (hA : ∀ q : Nat, s.heap.size ≤ q → A q) (hRc : cells ≤ R.cells) (hRs : slots ≤ R.slots) (hRf : 3 ≤ R.frames) (hRl : 67 ≤ R.locals) (hret : ∀ (x : St) (H : Heap) (locs : List Loc) (pc : Nat) (ls : Array Slot), decode b_Mod_putOne pc = .ok (.return_, 1) → post x → Wd dC dI cI cB cJ cZ ad stM kcM 115 A x H → va_S A s.heap H locs → W p l e R s m args below meth c H locs cells slots Q (F0 m pc ls [])) : ∀ (l1 : Int32) (x : St) (H : Heap) (locs : List Loc) (ls : Array Slot), wp_Mod_putOne post l1 x → Wd dC dI cI cB cJ cZ ad stM kcM 115 A x H → va_S A s.heap H locs → lv_has ls 2 [(0, .ref (ad 0)), (1, .int l1)] → W p l e R s m args below meth c H locs cells slots Q (F0 m 0 ls []) := by
  intro l1 x H locs ls  hw hW hS hl
  unfold wp_Mod_putOne at hw
  refine lv_aload_n hx hb d_Mod_putOne_0 rfl (lv_at hl 0 rfl) ?_
  refine w_geti (k := 38) (t := 12) (C := R_Mod) (T := F_Mod) (N := 167) hx hb hT hown hK hW ko_0.1 ko_0.2 (by decide) in_Mod rfl rfl (by decide) rfl fr_Mod_38 w_8_214 d_Mod_putOne_1 ?_
  refine lv_if_ne (tgt := 21) hx hb d_Mod_putOne_4 (by decide) (fun c730 => ?_) (fun c730 => ?_)
  · have hw := hw.1 c730
    refine lv_aload_n hx hb d_Mod_putOne_21 rfl (lv_at hl 0 rfl) ?_
    refine w_geti (k := 38) (t := 12) (C := R_Mod) (T := F_Mod) (N := 167) hx hb hT hown hK hW ko_0.1 ko_0.2 (by decide) in_Mod rfl rfl (by decide) rfl fr_Mod_38 w_8_214 d_Mod_putOne_22 ?_
    refine lv_iconst (v := 3) hx hb d_Mod_putOne_25 (by decide) ?_
    refine lv_icmp_ne (tgt := 37) hx hb d_Mod_putOne_26 (by decide) (fun c731 => ?_) (fun c731 => ?_)
    · have hw := hw.1 c731
      refine lv_aload_n hx hb d_Mod_putOne_37 rfl (lv_at hl 0 rfl) ?_
      refine lv_aload_n hx hb d_Mod_putOne_38 rfl (lv_at hl 0 rfl) ?_
      refine w_getf (q := 30) (k := 49) (t := 12) (C := R_Mod) (T := F_Mod) (N := 167) hx hb hT hown hK hW ko_0.1 ko_0.2 (by decide) in_Mod rfl rfl (by decide) rfl fr_Mod_49 w_8_225 d_Mod_putOne_39 rfl ?_
      refine lv_iload_n hx hb d_Mod_putOne_42 rfl (lv_at hl 1 rfl) ?_
      obtain ⟨hi, hw⟩ := hw
      refine w_lald (o := 30) hx hb hK hW ko_30.1 ko_30.2 hi d_Mod_putOne_43 ?_
      have hF := hW.free hS hA
      refine va_calll (va_runS (As := [.long (rL x 30 l1)]) (rest := [.ref (ad 0)]) ⟨hx, hb, hml, hown, hT⟩ (k_Mod_zigzag l dC dI cI cB cJ cZ ad H.size (rL x 30 l1) x  hw) ⟨callB_of 1 hT (gwt_in w_11_218) rfl rfl rfl (hT _ w_1_15) (hT _ w_11_216) (by decide +kernel) ⟨Nat.le_trans (Nat.le_of_ble_eq_true rfl) hRf, Nat.le_trans (Nat.le_of_ble_eq_true rfl) hRl⟩, hT _ w_11_217⟩ ⟨PW.blind, PW.at _ hW hK hN⟩ rfl rfl hl.1 rfl (lv_room (Nat.le_of_ble_eq_true rfl)) d_Mod_putOne_44 ⟨hRc, hRs⟩) hS (fun q _ h => hF q h) hF (fun r733 x732 t H locs ht hvm hw hB hz1 hk1 hS => ?_)
      have hW := Wd.back hB ht hF
      clear hB ht hF hz1 hk1 hvm
      have hF := hW.free hS hA
      refine va_callv (va_runV (C := R_Mod) (As := [.long r733]) (rest := []) ⟨hx, hb, hml, hown, hT⟩ (k_Mod_putVarint l dC dI cI cB cJ cZ ad H.size r733 x732  hw) ⟨callB_of 1 hT (gwt_in w_11_194) rfl rfl rfl (hT _ w_1_15) (hT _ w_11_191) (by decide +kernel) ⟨Nat.le_trans (Nat.le_of_ble_eq_true rfl) hRf, Nat.le_trans (Nat.le_of_ble_eq_true rfl) hRl⟩, hT _ w_11_193, hT _ ws_152⟩ ⟨PW.blind, va_recv hK hW.1 (ci := 12) (q0 := 0) rfl (pic_obj ko_0.1 ko_0.2 (by decide)), PW.at _ hW hK hN⟩ rfl rfl hl.1 rfl (lv_room (Nat.le_of_ble_eq_true rfl)) d_Mod_putOne_47 ⟨hRc, hRs⟩) hS (fun q _ h => hF q h) hF (fun  x734 t H locs ht hvm hw hB hz1 hk1 hS => ?_)
      have hW := Wd.back hB ht hF
      clear hB ht hF hz1 hk1 hvm
      exact hret x734 H locs 50 ls d_Mod_putOne_50 hw hW hS
    · have hw := hw.2 c731
      refine lv_aload_n hx hb d_Mod_putOne_29 rfl (lv_at hl 0 rfl) ?_
      refine lv_iload_n hx hb d_Mod_putOne_30 rfl (lv_at hl 1 rfl) ?_
      have hF := hW.free hS hA
      refine va_callv (va_runV (C := R_Mod) (As := [.int l1]) (rest := []) ⟨hx, hb, hml, hown, hT⟩ (k_Mod_putText l dC dI cI cB cJ cZ ad H.size l1 x  hw) ⟨callB_of 1 hT (gwt_in w_12_31) rfl rfl rfl (hT _ w_1_15) (hT _ w_12_28) (by decide +kernel) ⟨Nat.le_trans (Nat.le_of_ble_eq_true rfl) hRf, Nat.le_trans (Nat.le_of_ble_eq_true rfl) hRl⟩, hT _ w_12_30, hT _ ws_170⟩ ⟨PW.blind, va_recv hK hW.1 (ci := 12) (q0 := 0) rfl (pic_obj ko_0.1 ko_0.2 (by decide)), PW.at _ hW hK hN⟩ rfl rfl hl.1 rfl (lv_room (Nat.le_of_ble_eq_true rfl)) d_Mod_putOne_31 ⟨hRc, hRs⟩) hS (fun q _ h => hF q h) hF (fun  x735 t H locs ht hvm hw hB hz1 hk1 hS => ?_)
      have hW := Wd.back hB ht hF
      clear hB ht hF hz1 hk1 hvm
      refine lv_goto (tgt := 50) hx hb d_Mod_putOne_34 (by decide) ?_
      exact hret x735 H locs 50 ls d_Mod_putOne_50 hw hW hS
  · have hw := hw.2 c730
    refine lv_aload_n hx hb d_Mod_putOne_7 rfl (lv_at hl 0 rfl) ?_
    refine lv_aload_n hx hb d_Mod_putOne_8 rfl (lv_at hl 0 rfl) ?_
    refine w_getf (q := 30) (k := 49) (t := 12) (C := R_Mod) (T := F_Mod) (N := 167) hx hb hT hown hK hW ko_0.1 ko_0.2 (by decide) in_Mod rfl rfl (by decide) rfl fr_Mod_49 w_8_225 d_Mod_putOne_9 rfl ?_
    refine lv_iload_n hx hb d_Mod_putOne_12 rfl (lv_at hl 1 rfl) ?_
    obtain ⟨hi, hw⟩ := hw
    refine w_lald (o := 30) hx hb hK hW ko_30.1 ko_30.2 hi d_Mod_putOne_13 ?_
    refine lv_l2i hx hb d_Mod_putOne_14 rfl ?_
    have hF := hW.free hS hA
    refine va_callv (va_runV (C := R_Mod) (As := [.int ((rL x 30 l1) : Int64).toInt32]) (rest := []) ⟨hx, hb, hml, hown, hT⟩ (k_Mod_put l dC dI cI cB cJ cZ ad H.size ((rL x 30 l1) : Int64).toInt32 x  hw) ⟨callB_of 1 hT (gwt_in w_11_199) rfl rfl rfl (hT _ w_1_15) (hT _ w_11_196) (by decide +kernel) ⟨Nat.le_trans (Nat.le_of_ble_eq_true rfl) hRf, Nat.le_trans (Nat.le_of_ble_eq_true rfl) hRl⟩, hT _ w_11_198, hT _ ws_153⟩ ⟨PW.blind, va_recv hK hW.1 (ci := 12) (q0 := 0) rfl (pic_obj ko_0.1 ko_0.2 (by decide)), PW.at _ hW hK hN⟩ rfl rfl hl.1 rfl (lv_room (Nat.le_of_ble_eq_true rfl)) d_Mod_putOne_15 ⟨hRc, hRs⟩) hS (fun q _ h => hF q h) hF (fun  x736 t H locs ht hvm hw hB hz1 hk1 hS => ?_)
    have hW := Wd.back hB ht hF
    clear hB ht hF hz1 hk1 hvm
    refine lv_goto (tgt := 50) hx hb d_Mod_putOne_18 (by decide) ?_
    exact hret x736 H locs 50 ls d_Mod_putOne_50 hw hW hS
set_option maxHeartbeats 4000000 in
set_option maxRecDepth 100000 in
theorem k_Mod_putOne (l : Launch) (dC : Nat → ClassId) (dI : Nat → Nat → Nat) (cI cB cJ cZ : ClassId) (ad : Nat → Nat) (sz : Nat) (l1 : Int32) (x : St) {post : St → Prop} (hw : wp_Mod_putOne post l1 x) : Met l y_Mod_putOne (wsOf y_Mod_putOne b_Mod_putOne 2 (none)) ({ frames := 3, cells := 0, slots := 0, locals := 67 }) (va_Pc [.ref (ad 0), .int l1] (PW dC dI cI cB cJ cZ ad stM kcM 115 sz x)) (va_Qv (fun (y : St) => post y) (fun y t => Wd dC dI cI cB cJ cZ ad stM kcM 115 (va_A (pic ad stM kcM 115 cI cB cJ cZ x) sz) y t.heap) (va_A (pic ad stM kcM 115 cI cB cJ cZ x) sz)) 0 0 (va_A (pic ad stM kcM 115 cI cB cJ cZ x) sz) := by
  refine Met.ofW (cc := b_Mod_putOne) (maxL := 2) (ret := none) (by decide) rfl ?_
  intro p e s m args below meth c s₁ B hml hv
  obtain ⟨rfl, hsz, hW0, hK, hN⟩ := hv
  have hx := B.exec
  have hb := B.bytes
  have hr := B.returns
  have hts := atoms_spec B.pre
  have hT : ∀ w ∈ TG, w.before _ s = true := fun w h => hts w (List.mem_cons_of_mem _ h)
  have hown : s.vm.findClass R_Mod = some m.cls := findClass_of_methodNamed B.named
  have hlocks := B.notSynchronized
  subst hsz
  have hW : Wd dC dI cI cB cJ cZ ad stM kcM 115 (va_A (pic ad stM kcM 115 cI cB cJ cZ x) s.heap.size) x s.heap := ⟨hW0.1, hW0.2.1.self (sz := s.heap.size), hW0.2.2⟩
  generalize hAe : va_A (pic ad stM kcM 115 cI cB cJ cZ x) s.heap.size = A at hW ⊢
  have hA : ∀ q : Nat, s.heap.size ≤ q → A q := fun q h => by rw [← hAe]; exact Or.inr h
  have hS : va_S A s.heap s.heap [] := va_S.rf
  have hl := lv_entry ([.ref (ad 0), .int l1]) (n := 2) (Nat.le_of_ble_eq_true rfl)
  rw [lg_entry_eq]
  generalize (lg_sl ([.ref (ad 0), .int l1]) ++ List.replicate (2 - (lg_sl ([.ref (ad 0), .int l1])).length) Slot.unset).toArray = ls at hl ⊢
  have hl : lv_has ls 2 [(0, .ref (ad 0)), (1, .int l1)] := hl
  exact t_Mod_putOne_e hx hb hml hown hT hK hN hA (Nat.le_refl 0) (Nat.le_refl 0) (Nat.le_refl 3) (Nat.le_refl 67) (fun x H locs pc ls hd hp hW hS => W.vret hx hb hr (fun t ht hM => ⟨⟨x, rfl, hp, Wd.back hW ht.symm (fun _ z => z)⟩, hS.F ht⟩) hS.2.2 hd hlocks)  l1 x _ _ ls  hw hW hS hl
set_option maxRecDepth 100000 in
set_option maxHeartbeats 4000000 in
set_option maxRecDepth 100000 in
theorem t_Mod_check_58 {p : Program} {l : Launch} {e : Env} {R : Room} {s : State} {m : MethodId} {args : Array Value} {below : List Frame} {meth : Method} {c : Code} {cells slots : Nat} {Q : State → Prop} {dC : Nat → ClassId} {dI : Nat → Nat → Nat} {cI cB cJ cZ : ClassId} {A : Nat → Prop} {ad : Nat → Nat} {post : Int32 → St → Prop} {rec5 : Nat → Int32 → Int32 → Int32 → Int32 → St → Prop} {rec14 : Nat → Int32 → Int32 → Int32 → Int32 → Int32 → St → Prop} (hx : p.tables.exec = Jvm.exec) (hb : c.code = b_Mod_check) (hml : c.maxLocals = 7) (hown : s.vm.findClass R_Mod = some m.cls) (hT : ∀ w ∈ TG, w.before args s = true) (hK : va_K (dC, dI) CL (TY cI cB cJ cZ) s) (hN : NW s) (hA : ∀ q : Nat, s.heap.size ≤ q → A q) (hRc : cells ≤ R.cells) (hRs : slots ≤ R.slots) (hRf : 0 ≤ R.frames) (hRl : 0 ≤ R.locals) (hret : ∀ (r : Int32) (x : St) (H : Heap) (locs : List Loc) (pc : Nat) (ls : Array Slot), decode b_Mod_check pc = .ok (.ireturn, 1) → post r x → Wd dC dI cI cB cJ cZ ad stM kcM 115 A x H → va_S A s.heap H locs → W p l e R s m args below meth c H locs cells slots Q (F0 m pc ls [.int r])) (hrec5 : ∀ (l0 : Nat) (l1 : Int32) (l2 : Int32) (l3 : Int32) (l4 : Int32) (x : St) (H : Heap) (locs : List Loc) (ls : Array Slot), (l0 < 115 ∧ kcM l0 = 20) → rec5 l0 l1 l2 l3 l4 x → Wd dC dI cI cB cJ cZ ad stM kcM 115 A x H → va_S A s.heap H locs → lv_has ls 7 [(0, .ref (ad l0)), (1, .int l1), (2, .int l2), (3, .int l3), (4, .int l4)] → W p l e R s m args below meth c H locs cells slots Q (F0 m 5 ls [])) (hrec14 : ∀ (l0 : Nat) (l1 : Int32) (l2 : Int32) (l3 : Int32) (l4 : Int32) (l5 : Int32) (x : St) (H : Heap) (locs : List Loc) (ls : Array Slot), (l0 < 115 ∧ kcM l0 = 20) → rec14 l0 l1 l2 l3 l4 l5 x → Wd dC dI cI cB cJ cZ ad stM kcM 115 A x H → va_S A s.heap H locs → lv_has ls 7 [(0, .ref (ad l0)), (1, .int l1), (2, .int l2), (3, .int l3), (4, .int l4), (5, .int l5)] → W p l e R s m args below meth c H locs cells slots Q (F0 m 14 ls [])) : ∀ (l0 : Nat) (l1 : Int32) (l2 : Int32) (l3 : Int32) (l4 : Int32) (l5 : Int32) (l6 : Int32) (x : St) (H : Heap) (locs : List Loc) (ls : Array Slot), (l0 < 115 ∧ kcM l0 = 20) → j_Mod_check_58 post rec5 rec14 l0 l1 l2 l3 l4 l5 l6 x → Wd dC dI cI cB cJ cZ ad stM kcM 115 A x H → va_S A s.heap H locs → lv_has ls 7 [(0, .ref (ad l0)), (1, .int l1), (2, .int l2), (3, .int l3), (4, .int l4), (5, .int l5), (6, .int l6)] → W p l e R s m args below meth c H locs cells slots Q (F0 m 58 ls []) := by
  intro l0 l1 l2 l3 l4 l5 l6 x H locs ls fl0 hw hW hS hl
  unfold j_Mod_check_58 at hw
  refine lv_iinc (v := (l5 + 1)) (lv' := [(5, .int (l5 + 1)), (0, .ref (ad l0)), (1, .int l1), (2, .int l2), (3, .int l3), (4, .int l4), (6, .int l6)]) hx hb d_Mod_check_58 hl (k := 5) rfl rfl (by decide) rfl (fun ls hl => ?_)
  refine lv_goto (tgt := 14) hx hb d_Mod_check_61 (by decide) ?_
  exact hrec14 l0 l1 l2 l3 l4 (l5 + 1) x H locs ls fl0 hw hW hS (lv_sub hl [1, 2, 3, 4, 5, 0] rfl)
set_option maxRecDepth 100000 in
set_option maxHeartbeats 4000000 in
set_option maxRecDepth 100000 in
theorem t_Mod_check_41 {p : Program} {l : Launch} {e : Env} {R : Room} {s : State} {m : MethodId} {args : Array Value} {below : List Frame} {meth : Method} {c : Code} {cells slots : Nat} {Q : State → Prop} {dC : Nat → ClassId} {dI : Nat → Nat → Nat} {cI cB cJ cZ : ClassId} {A : Nat → Prop} {ad : Nat → Nat} {post : Int32 → St → Prop} {rec5 : Nat → Int32 → Int32 → Int32 → Int32 → St → Prop} {rec14 : Nat → Int32 → Int32 → Int32 → Int32 → Int32 → St → Prop} (hx : p.tables.exec = Jvm.exec) (hb : c.code = b_Mod_check) (hml : c.maxLocals = 7) (hown : s.vm.findClass R_Mod = some m.cls) (hT : ∀ w ∈ TG, w.before args s = true) (hK : va_K (dC, dI) CL (TY cI cB cJ cZ) s) (hN : NW s) (hA : ∀ q : Nat, s.heap.size ≤ q → A q) (hRc : cells ≤ R.cells) (hRs : slots ≤ R.slots) (hRf : 0 ≤ R.frames) (hRl : 0 ≤ R.locals) (hret : ∀ (r : Int32) (x : St) (H : Heap) (locs : List Loc) (pc : Nat) (ls : Array Slot), decode b_Mod_check pc = .ok (.ireturn, 1) → post r x → Wd dC dI cI cB cJ cZ ad stM kcM 115 A x H → va_S A s.heap H locs → W p l e R s m args below meth c H locs cells slots Q (F0 m pc ls [.int r])) (hrec5 : ∀ (l0 : Nat) (l1 : Int32) (l2 : Int32) (l3 : Int32) (l4 : Int32) (x : St) (H : Heap) (locs : List Loc) (ls : Array Slot), (l0 < 115 ∧ kcM l0 = 20) → rec5 l0 l1 l2 l3 l4 x → Wd dC dI cI cB cJ cZ ad stM kcM 115 A x H → va_S A s.heap H locs → lv_has ls 7 [(0, .ref (ad l0)), (1, .int l1), (2, .int l2), (3, .int l3), (4, .int l4)] → W p l e R s m args below meth c H locs cells slots Q (F0 m 5 ls [])) (hrec14 : ∀ (l0 : Nat) (l1 : Int32) (l2 : Int32) (l3 : Int32) (l4 : Int32) (l5 : Int32) (x : St) (H : Heap) (locs : List Loc) (ls : Array Slot), (l0 < 115 ∧ kcM l0 = 20) → rec14 l0 l1 l2 l3 l4 l5 x → Wd dC dI cI cB cJ cZ ad stM kcM 115 A x H → va_S A s.heap H locs → lv_has ls 7 [(0, .ref (ad l0)), (1, .int l1), (2, .int l2), (3, .int l3), (4, .int l4), (5, .int l5)] → W p l e R s m args below meth c H locs cells slots Q (F0 m 14 ls [])) : ∀ (l0 : Nat) (l1 : Int32) (l2 : Int32) (l3 : Int32) (l4 : Int32) (l5 : Int32) (s0 : Int32) (x : St) (H : Heap) (locs : List Loc) (ls : Array Slot), (l0 < 115 ∧ kcM l0 = 20) → j_Mod_check_41 post rec5 rec14 l0 l1 l2 l3 l4 l5 s0 x → Wd dC dI cI cB cJ cZ ad stM kcM 115 A x H → va_S A s.heap H locs → lv_has ls 7 [(0, .ref (ad l0)), (1, .int l1), (2, .int l2), (3, .int l3), (4, .int l4), (5, .int l5)] → W p l e R s m args below meth c H locs cells slots Q (F0 m 41 ls [.int s0]) := by
  intro l0 l1 l2 l3 l4 l5 s0 x H locs ls fl0 hw hW hS hl
  unfold j_Mod_check_41 at hw
  refine lv_istore (lv' := [(6, .int s0), (0, .ref (ad l0)), (1, .int l1), (2, .int l2), (3, .int l3), (4, .int l4), (5, .int l5)]) hx hb d_Mod_check_41 hl (by decide) rfl (fun ls hl => ?_)
  refine lv_iload_n hx hb d_Mod_check_43 rfl (lv_at hl 4 rfl) ?_
  refine lv_iconst (v := 1) hx hb d_Mod_check_44 (by decide) ?_
  refine lv_iushr hx hb d_Mod_check_45 rfl ?_
  refine lv_topi (fun v737 ev737 => ?_)
  have hw := hw v737 ev737
  refine lv_istore_n (lv' := [(3, .int v737), (6, .int s0), (0, .ref (ad l0)), (1, .int l1), (2, .int l2), (4, .int l4), (5, .int l5)]) hx hb d_Mod_check_46 rfl hl (by decide) rfl (fun ls hl => ?_)
  refine lv_iload hx hb d_Mod_check_47 (lv_at hl 1 rfl) ?_
  refine lv_if_eq (tgt := 58) hx hb d_Mod_check_49 (by decide) (fun c738 => ?_) (fun c738 => ?_)
  · have hw := hw.1 c738
    exact t_Mod_check_58 hx hb hml hown hT hK hN hA hRc hRs hRf hRl hret hrec5 hrec14 l0 l1 l2 v737 l4 l5 s0 x H locs ls fl0 hw hW hS (lv_sub hl [2, 3, 4, 0, 5, 6, 1] rfl)
  · have hw := hw.2 c738
    refine lv_iload_n hx hb d_Mod_check_52 rfl (lv_at hl 0 rfl) ?_
    refine lv_ldcw hx hb hown (hT _ w_12_51) d_Mod_check_53 ?_
    refine lv_ixor hx hb d_Mod_check_56 ?_
    refine lv_topi (fun v739 ev739 => ?_)
    have hw := hw v739 ev739
    refine lv_istore_n (lv' := [(3, .int v739), (6, .int s0), (0, .ref (ad l0)), (1, .int l1), (2, .int l2), (4, .int l4), (5, .int l5)]) hx hb d_Mod_check_57 rfl hl (by decide) rfl (fun ls hl => ?_)
    exact t_Mod_check_58 hx hb hml hown hT hK hN hA hRc hRs hRf hRl hret hrec5 hrec14 l0 l1 l2 v739 l4 l5 s0 x H locs ls fl0 hw hW hS (lv_sub hl [2, 3, 4, 0, 5, 6, 1] rfl)
set_option maxRecDepth 100000 in
set_option maxHeartbeats 4000000 in
set_option maxRecDepth 100000 in
theorem t_Mod_check_14 {p : Program} {l : Launch} {e : Env} {R : Room} {s : State} {m : MethodId} {args : Array Value} {below : List Frame} {meth : Method} {c : Code} {cells slots : Nat} {Q : State → Prop} {dC : Nat → ClassId} {dI : Nat → Nat → Nat} {cI cB cJ cZ : ClassId} {A : Nat → Prop} {ad : Nat → Nat} {post : Int32 → St → Prop} {rec5 : Nat → Int32 → Int32 → Int32 → Int32 → St → Prop} {rec14 : Nat → Int32 → Int32 → Int32 → Int32 → Int32 → St → Prop} (hx : p.tables.exec = Jvm.exec) (hb : c.code = b_Mod_check) (hml : c.maxLocals = 7) (hown : s.vm.findClass R_Mod = some m.cls) (hT : ∀ w ∈ TG, w.before args s = true) (hK : va_K (dC, dI) CL (TY cI cB cJ cZ) s) (hN : NW s) (hA : ∀ q : Nat, s.heap.size ≤ q → A q) (hRc : cells ≤ R.cells) (hRs : slots ≤ R.slots) (hRf : 0 ≤ R.frames) (hRl : 0 ≤ R.locals) (hret : ∀ (r : Int32) (x : St) (H : Heap) (locs : List Loc) (pc : Nat) (ls : Array Slot), decode b_Mod_check pc = .ok (.ireturn, 1) → post r x → Wd dC dI cI cB cJ cZ ad stM kcM 115 A x H → va_S A s.heap H locs → W p l e R s m args below meth c H locs cells slots Q (F0 m pc ls [.int r])) (hrec5 : ∀ (l0 : Nat) (l1 : Int32) (l2 : Int32) (l3 : Int32) (l4 : Int32) (x : St) (H : Heap) (locs : List Loc) (ls : Array Slot), (l0 < 115 ∧ kcM l0 = 20) → rec5 l0 l1 l2 l3 l4 x → Wd dC dI cI cB cJ cZ ad stM kcM 115 A x H → va_S A s.heap H locs → lv_has ls 7 [(0, .ref (ad l0)), (1, .int l1), (2, .int l2), (3, .int l3), (4, .int l4)] → W p l e R s m args below meth c H locs cells slots Q (F0 m 5 ls [])) (hrec14 : ∀ (l0 : Nat) (l1 : Int32) (l2 : Int32) (l3 : Int32) (l4 : Int32) (l5 : Int32) (x : St) (H : Heap) (locs : List Loc) (ls : Array Slot), (l0 < 115 ∧ kcM l0 = 20) → rec14 l0 l1 l2 l3 l4 l5 x → Wd dC dI cI cB cJ cZ ad stM kcM 115 A x H → va_S A s.heap H locs → lv_has ls 7 [(0, .ref (ad l0)), (1, .int l1), (2, .int l2), (3, .int l3), (4, .int l4), (5, .int l5)] → W p l e R s m args below meth c H locs cells slots Q (F0 m 14 ls [])) : ∀ (l0 : Nat) (l1 : Int32) (l2 : Int32) (l3 : Int32) (l4 : Int32) (l5 : Int32) (x : St) (H : Heap) (locs : List Loc) (ls : Array Slot), (l0 < 115 ∧ kcM l0 = 20) → j_Mod_check_14 post rec5 rec14 l0 l1 l2 l3 l4 l5 x → Wd dC dI cI cB cJ cZ ad stM kcM 115 A x H → va_S A s.heap H locs → lv_has ls 7 [(0, .ref (ad l0)), (1, .int l1), (2, .int l2), (3, .int l3), (4, .int l4), (5, .int l5)] → W p l e R s m args below meth c H locs cells slots Q (F0 m 14 ls []) := by
  intro l0 l1 l2 l3 l4 l5 x H locs ls fl0 hw hW hS hl
  unfold j_Mod_check_14 at hw
  refine lv_iload hx hb d_Mod_check_14 (lv_at hl 5 rfl) ?_
  refine lv_bipush (v := 8) hx hb d_Mod_check_16 (by decide) ?_
  refine lv_icmp_ge (tgt := 64) hx hb d_Mod_check_18 (by decide) (fun c740 => ?_) (fun c740 => ?_)
  · have hw := hw.1 c740
    refine lv_iinc (v := (l4 + 1)) (lv' := [(4, .int (l4 + 1)), (0, .ref (ad l0)), (1, .int l1), (2, .int l2), (3, .int l3), (5, .int l5)]) hx hb d_Mod_check_64 hl (k := 4) rfl rfl (by decide) rfl (fun ls hl => ?_)
    refine lv_goto (tgt := 5) hx hb d_Mod_check_67 (by decide) ?_
    exact hrec5 l0 l1 l2 l3 (l4 + 1) x H locs ls fl0 hw hW hS (lv_sub hl [1, 2, 3, 4, 0] rfl)
  · have hw := hw.2 c740
    refine lv_aload_n hx hb d_Mod_check_21 rfl (lv_at hl 0 rfl) ?_
    refine lv_iload hx hb d_Mod_check_22 (lv_at hl 4 rfl) ?_
    obtain ⟨hi, hw⟩ := hw
    refine w_iald (o := l0) hx hb hK hW fl0.1 fl0.2 hi d_Mod_check_24 ?_
    refine lv_iload hx hb d_Mod_check_25 (lv_at hl 5 rfl) ?_
    refine lv_ishr hx hb d_Mod_check_27 ?_
    refine lv_iload_n hx hb d_Mod_check_28 rfl (lv_at hl 3 rfl) ?_
    refine lv_ixor hx hb d_Mod_check_29 ?_
    refine lv_iconst (v := 1) hx hb d_Mod_check_30 (by decide) ?_
    refine lv_iand hx hb d_Mod_check_31 ?_
    refine lv_iconst (v := 1) hx hb d_Mod_check_32 (by decide) ?_
    refine lv_icmp_ne (tgt := 40) hx hb d_Mod_check_33 (by decide) (fun c741 => ?_) (fun c741 => ?_)
    · have hw := hw.1 c741
      refine lv_iconst (v := 0) hx hb d_Mod_check_40 (by decide) ?_
      exact t_Mod_check_41 hx hb hml hown hT hK hN hA hRc hRs hRf hRl hret hrec5 hrec14 l0 l1 l2 l3 l4 l5 0 x H locs ls fl0 hw hW hS (lv_sub hl [0, 1, 2, 3, 4, 5] rfl)
    · have hw := hw.2 c741
      refine lv_iconst (v := 1) hx hb d_Mod_check_36 (by decide) ?_
      refine lv_goto (tgt := 41) hx hb d_Mod_check_37 (by decide) ?_
      exact t_Mod_check_41 hx hb hml hown hT hK hN hA hRc hRs hRf hRl hret hrec5 hrec14 l0 l1 l2 l3 l4 l5 1 x H locs ls fl0 hw hW hS (lv_sub hl [0, 1, 2, 3, 4, 5] rfl)
set_option maxHeartbeats 4000000 in
set_option maxRecDepth 100000 in
theorem tl_Mod_check_14 {p : Program} {l : Launch} {e : Env} {R : Room} {s : State} {m : MethodId} {args : Array Value} {below : List Frame} {meth : Method} {c : Code} {cells slots : Nat} {Q : State → Prop} {dC : Nat → ClassId} {dI : Nat → Nat → Nat} {cI cB cJ cZ : ClassId} {A : Nat → Prop} {ad : Nat → Nat} {post : Int32 → St → Prop} {rec5 : Nat → Int32 → Int32 → Int32 → Int32 → St → Prop} (hx : p.tables.exec = Jvm.exec) (hb : c.code = b_Mod_check) (hml : c.maxLocals = 7) (hown : s.vm.findClass R_Mod = some m.cls) (hT : ∀ w ∈ TG, w.before args s = true) (hK : va_K (dC, dI) CL (TY cI cB cJ cZ) s) (hN : NW s) (hA : ∀ q : Nat, s.heap.size ≤ q → A q) (hRc : cells ≤ R.cells) (hRs : slots ≤ R.slots) (hRf : 0 ≤ R.frames) (hRl : 0 ≤ R.locals) (hret : ∀ (r : Int32) (x : St) (H : Heap) (locs : List Loc) (pc : Nat) (ls : Array Slot), decode b_Mod_check pc = .ok (.ireturn, 1) → post r x → Wd dC dI cI cB cJ cZ ad stM kcM 115 A x H → va_S A s.heap H locs → W p l e R s m args below meth c H locs cells slots Q (F0 m pc ls [.int r])) (hrec5 : ∀ (l0 : Nat) (l1 : Int32) (l2 : Int32) (l3 : Int32) (l4 : Int32) (x : St) (H : Heap) (locs : List Loc) (ls : Array Slot), (l0 < 115 ∧ kcM l0 = 20) → rec5 l0 l1 l2 l3 l4 x → Wd dC dI cI cB cJ cZ ad stM kcM 115 A x H → va_S A s.heap H locs → lv_has ls 7 [(0, .ref (ad l0)), (1, .int l1), (2, .int l2), (3, .int l3), (4, .int l4)] → W p l e R s m args below meth c H locs cells slots Q (F0 m 5 ls [])) : ∀ n : Nat, ∀ (l0 : Nat) (l1 : Int32) (l2 : Int32) (l3 : Int32) (l4 : Int32) (l5 : Int32) (x : St) (H : Heap) (locs : List Loc) (ls : Array Slot), (l0 < 115 ∧ kcM l0 = 20) → wl_Mod_check_14 post rec5 n l0 l1 l2 l3 l4 l5 x → Wd dC dI cI cB cJ cZ ad stM kcM 115 A x H → va_S A s.heap H locs → lv_has ls 7 [(0, .ref (ad l0)), (1, .int l1), (2, .int l2), (3, .int l3), (4, .int l4), (5, .int l5)] → W p l e R s m args below meth c H locs cells slots Q (F0 m 14 ls []) := by
  intro n
  induction n with
  | zero => intro l0 l1 l2 l3 l4 l5 x H locs ls fl0 hw; exact hw.elim
  | succ n ih => intro l0 l1 l2 l3 l4 l5 x H locs ls fl0 hw hW hS hl; exact t_Mod_check_14 hx hb hml hown hT hK hN hA hRc hRs hRf hRl hret hrec5 ih l0 l1 l2 l3 l4 l5 x H locs ls fl0 hw hW hS hl
set_option maxRecDepth 100000 in
set_option maxHeartbeats 4000000 in
set_option maxRecDepth 100000 in
theorem t_Mod_check_5 {p : Program} {l : Launch} {e : Env} {R : Room} {s : State} {m : MethodId} {args : Array Value} {below : List Frame} {meth : Method} {c : Code} {cells slots : Nat} {Q : State → Prop} {dC : Nat → ClassId} {dI : Nat → Nat → Nat} {cI cB cJ cZ : ClassId} {A : Nat → Prop} {ad : Nat → Nat} {post : Int32 → St → Prop} {rec5 : Nat → Int32 → Int32 → Int32 → Int32 → St → Prop} (hx : p.tables.exec = Jvm.exec) (hb : c.code = b_Mod_check) (hml : c.maxLocals = 7) (hown : s.vm.findClass R_Mod = some m.cls) (hT : ∀ w ∈ TG, w.before args s = true) (hK : va_K (dC, dI) CL (TY cI cB cJ cZ) s) (hN : NW s) (hA : ∀ q : Nat, s.heap.size ≤ q → A q) (hRc : cells ≤ R.cells) (hRs : slots ≤ R.slots) (hRf : 0 ≤ R.frames) (hRl : 0 ≤ R.locals) (hret : ∀ (r : Int32) (x : St) (H : Heap) (locs : List Loc) (pc : Nat) (ls : Array Slot), decode b_Mod_check pc = .ok (.ireturn, 1) → post r x → Wd dC dI cI cB cJ cZ ad stM kcM 115 A x H → va_S A s.heap H locs → W p l e R s m args below meth c H locs cells slots Q (F0 m pc ls [.int r])) (hrec5 : ∀ (l0 : Nat) (l1 : Int32) (l2 : Int32) (l3 : Int32) (l4 : Int32) (x : St) (H : Heap) (locs : List Loc) (ls : Array Slot), (l0 < 115 ∧ kcM l0 = 20) → rec5 l0 l1 l2 l3 l4 x → Wd dC dI cI cB cJ cZ ad stM kcM 115 A x H → va_S A s.heap H locs → lv_has ls 7 [(0, .ref (ad l0)), (1, .int l1), (2, .int l2), (3, .int l3), (4, .int l4)] → W p l e R s m args below meth c H locs cells slots Q (F0 m 5 ls [])) : ∀ (l0 : Nat) (l1 : Int32) (l2 : Int32) (l3 : Int32) (l4 : Int32) (x : St) (H : Heap) (locs : List Loc) (ls : Array Slot), (l0 < 115 ∧ kcM l0 = 20) → j_Mod_check_5 post rec5 l0 l1 l2 l3 l4 x → Wd dC dI cI cB cJ cZ ad stM kcM 115 A x H → va_S A s.heap H locs → lv_has ls 7 [(0, .ref (ad l0)), (1, .int l1), (2, .int l2), (3, .int l3), (4, .int l4)] → W p l e R s m args below meth c H locs cells slots Q (F0 m 5 ls []) := by
  intro l0 l1 l2 l3 l4 x H locs ls fl0 hw hW hS hl
  unfold j_Mod_check_5 at hw
  refine lv_iload hx hb d_Mod_check_5 (lv_at hl 4 rfl) ?_
  refine lv_iload_n hx hb d_Mod_check_7 rfl (lv_at hl 2 rfl) ?_
  refine lv_icmp_ge (tgt := 70) hx hb d_Mod_check_8 (by decide) (fun c742 => ?_) (fun c742 => ?_)
  · have hw := hw.1 c742
    refine lv_iload_n hx hb d_Mod_check_70 rfl (lv_at hl 3 rfl) ?_
    refine lv_iconst (v := (-1)) hx hb d_Mod_check_71 (by decide) ?_
    refine lv_ixor hx hb d_Mod_check_72 ?_
    exact hret (l3 ^^^ (-1)) x H locs 73 ls d_Mod_check_73 hw hW hS
  · have hw := hw.2 c742
    refine lv_iconst (v := 0) hx hb d_Mod_check_11 (by decide) ?_
    refine lv_istore (lv' := [(5, .int 0), (0, .ref (ad l0)), (1, .int l1), (2, .int l2), (3, .int l3), (4, .int l4)]) hx hb d_Mod_check_12 hl (by decide) rfl (fun ls hl => ?_)
    obtain ⟨n, hw⟩ := hw
    exact tl_Mod_check_14 hx hb hml hown hT hK hN hA hRc hRs hRf hRl hret hrec5 n l0 l1 l2 l3 l4 0 x H locs ls fl0 hw hW hS (lv_sub hl [1, 2, 3, 4, 5, 0] rfl)
set_option maxHeartbeats 4000000 in
set_option maxRecDepth 100000 in
theorem tl_Mod_check_5 {p : Program} {l : Launch} {e : Env} {R : Room} {s : State} {m : MethodId} {args : Array Value} {below : List Frame} {meth : Method} {c : Code} {cells slots : Nat} {Q : State → Prop} {dC : Nat → ClassId} {dI : Nat → Nat → Nat} {cI cB cJ cZ : ClassId} {A : Nat → Prop} {ad : Nat → Nat} {post : Int32 → St → Prop} (hx : p.tables.exec = Jvm.exec) (hb : c.code = b_Mod_check) (hml : c.maxLocals = 7) (hown : s.vm.findClass R_Mod = some m.cls) (hT : ∀ w ∈ TG, w.before args s = true) (hK : va_K (dC, dI) CL (TY cI cB cJ cZ) s) (hN : NW s) (hA : ∀ q : Nat, s.heap.size ≤ q → A q) (hRc : cells ≤ R.cells) (hRs : slots ≤ R.slots) (hRf : 0 ≤ R.frames) (hRl : 0 ≤ R.locals) (hret : ∀ (r : Int32) (x : St) (H : Heap) (locs : List Loc) (pc : Nat) (ls : Array Slot), decode b_Mod_check pc = .ok (.ireturn, 1) → post r x → Wd dC dI cI cB cJ cZ ad stM kcM 115 A x H → va_S A s.heap H locs → W p l e R s m args below meth c H locs cells slots Q (F0 m pc ls [.int r]))  : ∀ n : Nat, ∀ (l0 : Nat) (l1 : Int32) (l2 : Int32) (l3 : Int32) (l4 : Int32) (x : St) (H : Heap) (locs : List Loc) (ls : Array Slot), (l0 < 115 ∧ kcM l0 = 20) → wl_Mod_check_5 post n l0 l1 l2 l3 l4 x → Wd dC dI cI cB cJ cZ ad stM kcM 115 A x H → va_S A s.heap H locs → lv_has ls 7 [(0, .ref (ad l0)), (1, .int l1), (2, .int l2), (3, .int l3), (4, .int l4)] → W p l e R s m args below meth c H locs cells slots Q (F0 m 5 ls []) := by
  intro n
  induction n with
  | zero => intro l0 l1 l2 l3 l4 x H locs ls fl0 hw; exact hw.elim
  | succ n ih => intro l0 l1 l2 l3 l4 x H locs ls fl0 hw hW hS hl; exact t_Mod_check_5 hx hb hml hown hT hK hN hA hRc hRs hRf hRl hret  ih l0 l1 l2 l3 l4 x H locs ls fl0 hw hW hS hl
set_option maxRecDepth 100000 in
set_option maxHeartbeats 4000000 in
set_option maxRecDepth 100000 in
theorem t_Mod_check_e {p : Program} {l : Launch} {e : Env} {R : Room} {s : State} {m : MethodId} {args : Array Value} {below : List Frame} {meth : Method} {c : Code} {cells slots : Nat} {Q : State → Prop} {dC : Nat → ClassId} {dI : Nat → Nat → Nat} {cI cB cJ cZ : ClassId} {A : Nat → Prop} {ad : Nat → Nat} {post : Int32 → St → Prop} (hx : p.tables.exec = Jvm.exec) (hb : c.code = b_Mod_check) (hml : c.maxLocals = 7) (hown : s.vm.findClass R_Mod = some m.cls) (hT : ∀ w ∈ TG, w.before args s = true) (hK : va_K (dC, dI) CL (TY cI cB cJ cZ) s) (hN : NW s) (hA : ∀ q : Nat, s.heap.size ≤ q → A q) (hRc : cells ≤ R.cells) (hRs : slots ≤ R.slots) (hRf : 0 ≤ R.frames) (hRl : 0 ≤ R.locals) (hret : ∀ (r : Int32) (x : St) (H : Heap) (locs : List Loc) (pc : Nat) (ls : Array Slot), decode b_Mod_check pc = .ok (.ireturn, 1) → post r x → Wd dC dI cI cB cJ cZ ad stM kcM 115 A x H → va_S A s.heap H locs → W p l e R s m args below meth c H locs cells slots Q (F0 m pc ls [.int r])) : ∀ (l0 : Nat) (l1 : Int32) (l2 : Int32) (x : St) (H : Heap) (locs : List Loc) (ls : Array Slot), (l0 < 115 ∧ kcM l0 = 20) → wp_Mod_check post l0 l1 l2 x → Wd dC dI cI cB cJ cZ ad stM kcM 115 A x H → va_S A s.heap H locs → lv_has ls 7 [(0, .ref (ad l0)), (1, .int l1), (2, .int l2)] → W p l e R s m args below meth c H locs cells slots Q (F0 m 0 ls []) := by
  intro l0 l1 l2 x H locs ls fl0 hw hW hS hl
  unfold wp_Mod_check at hw
  refine lv_iconst (v := (-1)) hx hb d_Mod_check_0 (by decide) ?_
  refine lv_istore_n (lv' := [(3, .int (-1)), (0, .ref (ad l0)), (1, .int l1), (2, .int l2)]) hx hb d_Mod_check_1 rfl hl (by decide) rfl (fun ls hl => ?_)
  refine lv_iload_n hx hb d_Mod_check_2 rfl (lv_at hl 2 rfl) ?_
  refine lv_istore (lv' := [(4, .int l1), (3, .int (-1)), (0, .ref (ad l0)), (1, .int l1), (2, .int l2)]) hx hb d_Mod_check_3 hl (by decide) rfl (fun ls hl => ?_)
  obtain ⟨n, hw⟩ := hw
  exact tl_Mod_check_5 hx hb hml hown hT hK hN hA hRc hRs hRf hRl hret  n l0 l1 l2 (-1) l1 x H locs ls fl0 hw hW hS (lv_sub hl [2, 3, 4, 1, 0] rfl)
set_option maxHeartbeats 4000000 in
set_option maxRecDepth 100000 in
theorem k_Mod_check (l : Launch) (dC : Nat → ClassId) (dI : Nat → Nat → Nat) (cI cB cJ cZ : ClassId) (ad : Nat → Nat) (sz : Nat) (l0 : Nat) (l1 : Int32) (l2 : Int32) (x : St) (fl0 : l0 < 115 ∧ kcM l0 = 20) {post : Int32 → St → Prop} (hw : wp_Mod_check post l0 l1 l2 x) : Met l y_Mod_check (wsOf y_Mod_check b_Mod_check 7 (some (.int))) ({ frames := 0, cells := 0, slots := 0, locals := 0 }) (va_Pc [.ref (ad l0), .int l1, .int l2] (PW dC dI cI cB cJ cZ ad stM kcM 115 sz x)) (va_Qi (fun (r : Int32) (y : St) => post r y) (fun y t => Wd dC dI cI cB cJ cZ ad stM kcM 115 (va_A (pic ad stM kcM 115 cI cB cJ cZ x) sz) y t.heap) (va_A (pic ad stM kcM 115 cI cB cJ cZ x) sz)) 0 0 (va_A (pic ad stM kcM 115 cI cB cJ cZ x) sz) := by
  refine Met.ofW (cc := b_Mod_check) (maxL := 7) (ret := some (.int)) (by decide) rfl ?_
  intro p e s m args below meth c s₁ B hml hv
  obtain ⟨rfl, hsz, hW0, hK, hN⟩ := hv
  have hx := B.exec
  have hb := B.bytes
  have hr := B.returns
  have hts := atoms_spec B.pre
  have hT : ∀ w ∈ TG, w.before _ s = true := fun w h => hts w (List.mem_cons_of_mem _ h)
  have hown : s.vm.findClass R_Mod = some m.cls := findClass_of_methodNamed B.named
  have hlocks := B.notSynchronized
  subst hsz
  have hW : Wd dC dI cI cB cJ cZ ad stM kcM 115 (va_A (pic ad stM kcM 115 cI cB cJ cZ x) s.heap.size) x s.heap := ⟨hW0.1, hW0.2.1.self (sz := s.heap.size), hW0.2.2⟩
  generalize hAe : va_A (pic ad stM kcM 115 cI cB cJ cZ x) s.heap.size = A at hW ⊢
  have hA : ∀ q : Nat, s.heap.size ≤ q → A q := fun q h => by rw [← hAe]; exact Or.inr h
  have hS : va_S A s.heap s.heap [] := va_S.rf
  have hl := lv_entry ([.ref (ad l0), .int l1, .int l2]) (n := 7) (Nat.le_of_ble_eq_true rfl)
  rw [lg_entry_eq]
  generalize (lg_sl ([.ref (ad l0), .int l1, .int l2]) ++ List.replicate (7 - (lg_sl ([.ref (ad l0), .int l1, .int l2])).length) Slot.unset).toArray = ls at hl ⊢
  have hl : lv_has ls 7 [(0, .ref (ad l0)), (1, .int l1), (2, .int l2)] := hl
  exact t_Mod_check_e hx hb hml hown hT hK hN hA (Nat.le_refl 0) (Nat.le_refl 0) (Nat.le_refl 0) (Nat.le_refl 0) (fun r x H locs pc ls hd hp hW hS => W.iret (v := r) hx hb hr (fun t ht hM => ⟨⟨r, x, rfl, hp, Wd.back hW ht.symm (fun _ z => z)⟩, hS.F ht⟩) hS.2.2 hd hlocks)  l0 l1 l2 x _ _ ls fl0 hw hW hS hl
set_option maxRecDepth 100000 in
set_option maxHeartbeats 4000000 in
set_option maxRecDepth 100000 in
theorem t_Mod_writePage_217 {p : Program} {l : Launch} {e : Env} {R : Room} {s : State} {m : MethodId} {args : Array Value} {below : List Frame} {meth : Method} {c : Code} {cells slots : Nat} {Q : State → Prop} {dC : Nat → ClassId} {dI : Nat → Nat → Nat} {cI cB cJ cZ : ClassId} {A : Nat → Prop} {ad : Nat → Nat} {post : St → Prop} {rec217 : Int32 → Int32 → St → Prop} (hx : p.tables.exec = Jvm.exec) (hb : c.code = b_Mod_writePage) (hml : c.maxLocals = 3) (hown : s.vm.findClass R_Mod = some m.cls) (hT : ∀ w ∈ TG, w.before args s = true) (hK : va_K (dC, dI) CL (TY cI cB cJ cZ) s) (hN : NW s) (hA : ∀ q : Nat, s.heap.size ≤ q → A q) (hRc : cells ≤ R.cells) (hRs : slots ≤ R.slots) (hRf : 6 ≤ R.frames) (hRl : 141 ≤ R.locals) (hret : ∀ (x : St) (H : Heap) (locs : List Loc) (pc : Nat) (ls : Array Slot), decode b_Mod_writePage pc = .ok (.return_, 1) → post x → Wd dC dI cI cB cJ cZ ad stM kcM 115 A x H → va_S A s.heap H locs → W p l e R s m args below meth c H locs cells slots Q (F0 m pc ls [])) (hrec217 : ∀ (l1 : Int32) (l2 : Int32) (x : St) (H : Heap) (locs : List Loc) (ls : Array Slot), rec217 l1 l2 x → Wd dC dI cI cB cJ cZ ad stM kcM 115 A x H → va_S A s.heap H locs → lv_has ls 3 [(0, .ref (ad 0)), (1, .int l1), (2, .int l2)] → W p l e R s m args below meth c H locs cells slots Q (F0 m 217 ls [])) : ∀ (l1 : Int32) (l2 : Int32) (x : St) (H : Heap) (locs : List Loc) (ls : Array Slot), j_Mod_writePage_217 post rec217 l1 l2 x → Wd dC dI cI cB cJ cZ ad stM kcM 115 A x H → va_S A s.heap H locs → lv_has ls 3 [(0, .ref (ad 0)), (1, .int l1), (2, .int l2)] → W p l e R s m args below meth c H locs cells slots Q (F0 m 217 ls []) := by
  intro l1 l2 x H locs ls  hw hW hS hl
  unfold j_Mod_writePage_217 at hw
  refine lv_iload_n hx hb d_Mod_writePage_217 rfl (lv_at hl 2 rfl) ?_
  refine lv_aload_n hx hb d_Mod_writePage_218 rfl (lv_at hl 0 rfl) ?_
  refine w_geti (k := 44) (t := 12) (C := R_Mod) (T := F_Mod) (N := 167) hx hb hT hown hK hW ko_0.1 ko_0.2 (by decide) in_Mod rfl rfl (by decide) rfl fr_Mod_44 w_8_220 d_Mod_writePage_219 ?_
  refine lv_icmp_ge (tgt := 241) hx hb d_Mod_writePage_222 (by decide) (fun c743 => ?_) (fun c743 => ?_)
  · have hw := hw.1 c743
    exact hret x H locs 241 ls d_Mod_writePage_241 hw hW hS
  · have hw := hw.2 c743
    refine lv_aload_n hx hb d_Mod_writePage_225 rfl (lv_at hl 0 rfl) ?_
    refine lv_aload_n hx hb d_Mod_writePage_226 rfl (lv_at hl 0 rfl) ?_
    refine w_getf (q := 40) (k := 61) (t := 12) (C := R_Mod) (T := F_Mod) (N := 167) hx hb hT hown hK hW ko_0.1 ko_0.2 (by decide) in_Mod rfl rfl (by decide) rfl fr_Mod_61 w_8_237 d_Mod_writePage_227 rfl ?_
    refine lv_iload_n hx hb d_Mod_writePage_230 rfl (lv_at hl 2 rfl) ?_
    obtain ⟨hi, hw⟩ := hw
    refine w_iald (o := 40) hx hb hK hW ko_40.1 ko_40.2 hi d_Mod_writePage_231 ?_
    have hF := hW.free hS hA
    refine va_callv (va_runV (C := R_Mod) (As := [.int (rA x 40 l2)]) (rest := []) ⟨hx, hb, hml, hown, hT⟩ (k_Mod_put l dC dI cI cB cJ cZ ad H.size (rA x 40 l2) x  hw) ⟨callB_of 1 hT (gwt_in w_11_199) rfl rfl rfl (hT _ w_1_15) (hT _ w_11_196) (by decide +kernel) ⟨Nat.le_trans (Nat.le_of_ble_eq_true rfl) hRf, Nat.le_trans (Nat.le_of_ble_eq_true rfl) hRl⟩, hT _ w_11_198, hT _ ws_153⟩ ⟨PW.blind, va_recv hK hW.1 (ci := 12) (q0 := 0) rfl (pic_obj ko_0.1 ko_0.2 (by decide)), PW.at _ hW hK hN⟩ rfl rfl hl.1 rfl (lv_room (Nat.le_of_ble_eq_true rfl)) d_Mod_writePage_232 ⟨hRc, hRs⟩) hS (fun q _ h => hF q h) hF (fun  x744 t H locs ht hvm hw hB hz1 hk1 hS => ?_)
    have hW := Wd.back hB ht hF
    clear hB ht hF hz1 hk1 hvm
    refine lv_iinc (v := (l2 + 1)) (lv' := [(2, .int (l2 + 1)), (0, .ref (ad 0)), (1, .int l1)]) hx hb d_Mod_writePage_235 hl (k := 2) rfl rfl (by decide) rfl (fun ls hl => ?_)
    refine lv_goto (tgt := 217) hx hb d_Mod_writePage_238 (by decide) ?_
    exact hrec217 l1 (l2 + 1) x744 H locs ls  hw hW hS (lv_sub hl [1, 2, 0] rfl)
set_option maxHeartbeats 4000000 in
set_option maxRecDepth 100000 in
theorem tl_Mod_writePage_217 {p : Program} {l : Launch} {e : Env} {R : Room} {s : State} {m : MethodId} {args : Array Value} {below : List Frame} {meth : Method} {c : Code} {cells slots : Nat} {Q : State → Prop} {dC : Nat → ClassId} {dI : Nat → Nat → Nat} {cI cB cJ cZ : ClassId} {A : Nat → Prop} {ad : Nat → Nat} {post : St → Prop} (hx : p.tables.exec = Jvm.exec) (hb : c.code = b_Mod_writePage) (hml : c.maxLocals = 3) (hown : s.vm.findClass R_Mod = some m.cls) (hT : ∀ w ∈ TG, w.before args s = true) (hK : va_K (dC, dI) CL (TY cI cB cJ cZ) s) (hN : NW s) (hA : ∀ q : Nat, s.heap.size ≤ q → A q) (hRc : cells ≤ R.cells) (hRs : slots ≤ R.slots) (hRf : 6 ≤ R.frames) (hRl : 141 ≤ R.locals) (hret : ∀ (x : St) (H : Heap) (locs : List Loc) (pc : Nat) (ls : Array Slot), decode b_Mod_writePage pc = .ok (.return_, 1) → post x → Wd dC dI cI cB cJ cZ ad stM kcM 115 A x H → va_S A s.heap H locs → W p l e R s m args below meth c H locs cells slots Q (F0 m pc ls []))  : ∀ n : Nat, ∀ (l1 : Int32) (l2 : Int32) (x : St) (H : Heap) (locs : List Loc) (ls : Array Slot), wl_Mod_writePage_217 post n l1 l2 x → Wd dC dI cI cB cJ cZ ad stM kcM 115 A x H → va_S A s.heap H locs → lv_has ls 3 [(0, .ref (ad 0)), (1, .int l1), (2, .int l2)] → W p l e R s m args below meth c H locs cells slots Q (F0 m 217 ls []) := by
  intro n
  induction n with
  | zero => intro l1 l2 x H locs ls  hw; exact hw.elim
  | succ n ih => intro l1 l2 x H locs ls  hw hW hS hl; exact t_Mod_writePage_217 hx hb hml hown hT hK hN hA hRc hRs hRf hRl hret  ih l1 l2 x H locs ls  hw hW hS hl
set_option maxRecDepth 100000 in
set_option maxHeartbeats 4000000 in
set_option maxRecDepth 100000 in
theorem t_Mod_writePage_188 {p : Program} {l : Launch} {e : Env} {R : Room} {s : State} {m : MethodId} {args : Array Value} {below : List Frame} {meth : Method} {c : Code} {cells slots : Nat} {Q : State → Prop} {dC : Nat → ClassId} {dI : Nat → Nat → Nat} {cI cB cJ cZ : ClassId} {A : Nat → Prop} {ad : Nat → Nat} {post : St → Prop} (hx : p.tables.exec = Jvm.exec) (hb : c.code = b_Mod_writePage) (hml : c.maxLocals = 3) (hown : s.vm.findClass R_Mod = some m.cls) (hT : ∀ w ∈ TG, w.before args s = true) (hK : va_K (dC, dI) CL (TY cI cB cJ cZ) s) (hN : NW s) (hA : ∀ q : Nat, s.heap.size ≤ q → A q) (hRc : cells ≤ R.cells) (hRs : slots ≤ R.slots) (hRf : 6 ≤ R.frames) (hRl : 141 ≤ R.locals) (hret : ∀ (x : St) (H : Heap) (locs : List Loc) (pc : Nat) (ls : Array Slot), decode b_Mod_writePage pc = .ok (.return_, 1) → post x → Wd dC dI cI cB cJ cZ ad stM kcM 115 A x H → va_S A s.heap H locs → W p l e R s m args below meth c H locs cells slots Q (F0 m pc ls []))  : ∀ (l1 : Int32) (l2 : Int32) (x : St) (H : Heap) (locs : List Loc) (ls : Array Slot), j_Mod_writePage_188 post l1 l2 x → Wd dC dI cI cB cJ cZ ad stM kcM 115 A x H → va_S A s.heap H locs → lv_has ls 3 [(0, .ref (ad 0)), (1, .int l1), (2, .int l2)] → W p l e R s m args below meth c H locs cells slots Q (F0 m 188 ls []) := by
  intro l1 l2 x H locs ls  hw hW hS hl
  unfold j_Mod_writePage_188 at hw
  refine lv_aload_n hx hb d_Mod_writePage_188 rfl (lv_at hl 0 rfl) ?_
  refine lv_aload_n hx hb d_Mod_writePage_189 rfl (lv_at hl 0 rfl) ?_
  refine w_geti (k := 44) (t := 12) (C := R_Mod) (T := F_Mod) (N := 167) hx hb hT hown hK hW ko_0.1 ko_0.2 (by decide) in_Mod rfl rfl (by decide) rfl fr_Mod_44 w_8_220 d_Mod_writePage_190 ?_
  refine lv_i2l hx hb d_Mod_writePage_193 rfl ?_
  have hF := hW.free hS hA
  refine va_callv (va_runV (C := R_Mod) (As := [.long ((fI x 0 44) : Int32).toInt64]) (rest := []) ⟨hx, hb, hml, hown, hT⟩ (k_Mod_putVarint l dC dI cI cB cJ cZ ad H.size ((fI x 0 44) : Int32).toInt64 x  hw) ⟨callB_of 1 hT (gwt_in w_11_194) rfl rfl rfl (hT _ w_1_15) (hT _ w_11_191) (by decide +kernel) ⟨Nat.le_trans (Nat.le_of_ble_eq_true rfl) hRf, Nat.le_trans (Nat.le_of_ble_eq_true rfl) hRl⟩, hT _ w_11_193, hT _ ws_152⟩ ⟨PW.blind, va_recv hK hW.1 (ci := 12) (q0 := 0) rfl (pic_obj ko_0.1 ko_0.2 (by decide)), PW.at _ hW hK hN⟩ rfl rfl hl.1 rfl (lv_room (Nat.le_of_ble_eq_true rfl)) d_Mod_writePage_194 ⟨hRc, hRs⟩) hS (fun q _ h => hF q h) hF (fun  x745 t H locs ht hvm hw hB hz1 hk1 hS => ?_)
  have hW := Wd.back hB ht hF
  clear hB ht hF hz1 hk1 hvm
  refine lv_aload_n hx hb d_Mod_writePage_197 rfl (lv_at hl 0 rfl) ?_
  refine lv_aload_n hx hb d_Mod_writePage_198 rfl (lv_at hl 0 rfl) ?_
  refine w_getf (q := 40) (k := 61) (t := 12) (C := R_Mod) (T := F_Mod) (N := 167) hx hb hT hown hK hW ko_0.1 ko_0.2 (by decide) in_Mod rfl rfl (by decide) rfl fr_Mod_61 w_8_237 d_Mod_writePage_199 rfl ?_
  refine lv_iconst (v := 0) hx hb d_Mod_writePage_202 (by decide) ?_
  refine lv_aload_n hx hb d_Mod_writePage_203 rfl (lv_at hl 0 rfl) ?_
  refine w_geti (k := 44) (t := 12) (C := R_Mod) (T := F_Mod) (N := 167) hx hb hT hown hK hW ko_0.1 ko_0.2 (by decide) in_Mod rfl rfl (by decide) rfl fr_Mod_44 w_8_220 d_Mod_writePage_204 ?_
  have hF := hW.free hS hA
  refine va_calli (va_runS (As := [.ref (ad 40), .int 0, .int (fI x745 0 44)]) (rest := [.ref (ad 0)]) ⟨hx, hb, hml, hown, hT⟩ (k_Mod_check l dC dI cI cB cJ cZ ad H.size 40 0 (fI x745 0 44) x745 ko_40 hw) ⟨callB_of 3 hT (gwt_in w_12_50) rfl rfl rfl (hT _ w_1_15) (hT _ w_12_48) (by decide +kernel) ⟨Nat.le_trans (Nat.le_of_ble_eq_true rfl) hRf, Nat.le_trans (Nat.le_of_ble_eq_true rfl) hRl⟩, hT _ w_12_49⟩ ⟨PW.blind, PW.at _ hW hK hN⟩ rfl rfl hl.1 rfl (lv_room (Nat.le_of_ble_eq_true rfl)) d_Mod_writePage_207 ⟨hRc, hRs⟩) hS (fun q _ h => hF q h) hF (fun r747 x746 t H locs ht hvm hw hB hz1 hk1 hS => ?_)
  have hW := Wd.back hB ht hF
  clear hB ht hF hz1 hk1 hvm
  refine lv_i2l hx hb d_Mod_writePage_210 rfl ?_
  refine lv_iconst (v := 4) hx hb d_Mod_writePage_211 (by decide) ?_
  have hF := hW.free hS hA
  refine va_callv (va_runV (C := R_Mod) (As := [.long (r747 : Int32).toInt64, .int 4]) (rest := []) ⟨hx, hb, hml, hown, hT⟩ (k_Mod_putFixed l dC dI cI cB cJ cZ ad H.size (r747 : Int32).toInt64 4 x746  hw) ⟨callB_of 2 hT (gwt_in w_11_211) rfl rfl rfl (hT _ w_1_15) (hT _ w_11_208) (by decide +kernel) ⟨Nat.le_trans (Nat.le_of_ble_eq_true rfl) hRf, Nat.le_trans (Nat.le_of_ble_eq_true rfl) hRl⟩, hT _ w_11_210, hT _ ws_156⟩ ⟨PW.blind, va_recv hK hW.1 (ci := 12) (q0 := 0) rfl (pic_obj ko_0.1 ko_0.2 (by decide)), PW.at _ hW hK hN⟩ rfl rfl hl.1 rfl (lv_room (Nat.le_of_ble_eq_true rfl)) d_Mod_writePage_212 ⟨hRc, hRs⟩) hS (fun q _ h => hF q h) hF (fun  x748 t H locs ht hvm hw hB hz1 hk1 hS => ?_)
  have hW := Wd.back hB ht hF
  clear hB ht hF hz1 hk1 hvm
  refine lv_iconst (v := 0) hx hb d_Mod_writePage_215 (by decide) ?_
  refine lv_istore_n (lv' := [(2, .int 0), (0, .ref (ad 0)), (1, .int l1)]) hx hb d_Mod_writePage_216 rfl hl (by decide) rfl (fun ls hl => ?_)
  obtain ⟨n, hw⟩ := hw
  exact tl_Mod_writePage_217 hx hb hml hown hT hK hN hA hRc hRs hRf hRl hret  n l1 0 x748 H locs ls  hw hW hS (lv_sub hl [1, 2, 0] rfl)
set_option maxRecDepth 100000 in
set_option maxHeartbeats 4000000 in
set_option maxRecDepth 100000 in
theorem t_Mod_writePage_101 {p : Program} {l : Launch} {e : Env} {R : Room} {s : State} {m : MethodId} {args : Array Value} {below : List Frame} {meth : Method} {c : Code} {cells slots : Nat} {Q : State → Prop} {dC : Nat → ClassId} {dI : Nat → Nat → Nat} {cI cB cJ cZ : ClassId} {A : Nat → Prop} {ad : Nat → Nat} {post : St → Prop} {rec101 : Int32 → Int32 → St → Prop} (hx : p.tables.exec = Jvm.exec) (hb : c.code = b_Mod_writePage) (hml : c.maxLocals = 3) (hown : s.vm.findClass R_Mod = some m.cls) (hT : ∀ w ∈ TG, w.before args s = true) (hK : va_K (dC, dI) CL (TY cI cB cJ cZ) s) (hN : NW s) (hA : ∀ q : Nat, s.heap.size ≤ q → A q) (hRc : cells ≤ R.cells) (hRs : slots ≤ R.slots) (hRf : 6 ≤ R.frames) (hRl : 141 ≤ R.locals) (hret : ∀ (x : St) (H : Heap) (locs : List Loc) (pc : Nat) (ls : Array Slot), decode b_Mod_writePage pc = .ok (.return_, 1) → post x → Wd dC dI cI cB cJ cZ ad stM kcM 115 A x H → va_S A s.heap H locs → W p l e R s m args below meth c H locs cells slots Q (F0 m pc ls [])) (hrec101 : ∀ (l1 : Int32) (l2 : Int32) (x : St) (H : Heap) (locs : List Loc) (ls : Array Slot), rec101 l1 l2 x → Wd dC dI cI cB cJ cZ ad stM kcM 115 A x H → va_S A s.heap H locs → lv_has ls 3 [(0, .ref (ad 0)), (1, .int l1), (2, .int l2)] → W p l e R s m args below meth c H locs cells slots Q (F0 m 101 ls [])) : ∀ (l1 : Int32) (l2 : Int32) (x : St) (H : Heap) (locs : List Loc) (ls : Array Slot), j_Mod_writePage_101 post rec101 l1 l2 x → Wd dC dI cI cB cJ cZ ad stM kcM 115 A x H → va_S A s.heap H locs → lv_has ls 3 [(0, .ref (ad 0)), (1, .int l1), (2, .int l2)] → W p l e R s m args below meth c H locs cells slots Q (F0 m 101 ls []) := by
  intro l1 l2 x H locs ls  hw hW hS hl
  unfold j_Mod_writePage_101 at hw
  refine lv_iload_n hx hb d_Mod_writePage_101 rfl (lv_at hl 2 rfl) ?_
  refine lv_aload_n hx hb d_Mod_writePage_102 rfl (lv_at hl 0 rfl) ?_
  refine w_geti (k := 44) (t := 12) (C := R_Mod) (T := F_Mod) (N := 167) hx hb hT hown hK hW ko_0.1 ko_0.2 (by decide) in_Mod rfl rfl (by decide) rfl fr_Mod_44 w_8_220 d_Mod_writePage_103 ?_
  refine lv_icmp_ge (tgt := 127) hx hb d_Mod_writePage_106 (by decide) (fun c749 => ?_) (fun c749 => ?_)
  · have hw := hw.1 c749
    refine lv_aload_n hx hb d_Mod_writePage_127 rfl (lv_at hl 0 rfl) ?_
    refine lv_iconst (v := 0) hx hb d_Mod_writePage_128 (by decide) ?_
    refine w_puti (ty := .int) (k := 64) (t := 12) (C := R_Mod) (T := F_Mod) (N := 167) hx hb hT hown hK hW hS ko_0.1 ko_0.2 (by decide) in_Mod t_Mod t_Mod_ok n_Mod rfl rfl (by decide) rfl fr_Mod_64 w_9_0 (by decide +kernel) rfl rfl d_Mod_writePage_129 (fun H locs hW hS => ?_)
    obtain ⟨x750, ex750⟩ : ∃ y : St, y = setI x 0 64 0 := ⟨_, rfl⟩
    rw [← ex750] at hW
    have hw := hw x750 ex750
    refine lv_aload_n hx hb d_Mod_writePage_132 rfl (lv_at hl 0 rfl) ?_
    refine lv_aload_n hx hb d_Mod_writePage_133 rfl (lv_at hl 0 rfl) ?_
    refine w_geti (k := 41) (t := 12) (C := R_Mod) (T := F_Mod) (N := 167) hx hb hT hown hK hW ko_0.1 ko_0.2 (by decide) in_Mod rfl rfl (by decide) rfl fr_Mod_41 w_8_217 d_Mod_writePage_134 ?_
    refine lv_i2l hx hb d_Mod_writePage_137 rfl ?_
    have hF := hW.free hS hA
    refine va_callv (va_runV (C := R_Mod) (As := [.long ((fI x750 0 41) : Int32).toInt64]) (rest := []) ⟨hx, hb, hml, hown, hT⟩ (k_Mod_putVarint l dC dI cI cB cJ cZ ad H.size ((fI x750 0 41) : Int32).toInt64 x750  hw) ⟨callB_of 1 hT (gwt_in w_11_194) rfl rfl rfl (hT _ w_1_15) (hT _ w_11_191) (by decide +kernel) ⟨Nat.le_trans (Nat.le_of_ble_eq_true rfl) hRf, Nat.le_trans (Nat.le_of_ble_eq_true rfl) hRl⟩, hT _ w_11_193, hT _ ws_152⟩ ⟨PW.blind, va_recv hK hW.1 (ci := 12) (q0 := 0) rfl (pic_obj ko_0.1 ko_0.2 (by decide)), PW.at _ hW hK hN⟩ rfl rfl hl.1 rfl (lv_room (Nat.le_of_ble_eq_true rfl)) d_Mod_writePage_138 ⟨hRc, hRs⟩) hS (fun q _ h => hF q h) hF (fun  x751 t H locs ht hvm hw hB hz1 hk1 hS => ?_)
    have hW := Wd.back hB ht hF
    clear hB ht hF hz1 hk1 hvm
    refine lv_aload_n hx hb d_Mod_writePage_141 rfl (lv_at hl 0 rfl) ?_
    refine lv_aload_n hx hb d_Mod_writePage_142 rfl (lv_at hl 0 rfl) ?_
    refine w_geti (k := 41) (t := 12) (C := R_Mod) (T := F_Mod) (N := 167) hx hb hT hown hK hW ko_0.1 ko_0.2 (by decide) in_Mod rfl rfl (by decide) rfl fr_Mod_41 w_8_217 d_Mod_writePage_143 ?_
    refine lv_aload_n hx hb d_Mod_writePage_146 rfl (lv_at hl 0 rfl) ?_
    refine w_geti (k := 42) (t := 12) (C := R_Mod) (T := F_Mod) (N := 167) hx hb hT hown hK hW ko_0.1 ko_0.2 (by decide) in_Mod rfl rfl (by decide) rfl fr_Mod_42 w_8_218 d_Mod_writePage_147 ?_
    refine lv_isub hx hb d_Mod_writePage_150 ?_
    refine lv_i2l hx hb d_Mod_writePage_151 rfl ?_
    have hF := hW.free hS hA
    refine va_callv (va_runV (C := R_Mod) (As := [.long (((fI x751 0 41) - (fI x751 0 42)) : Int32).toInt64]) (rest := []) ⟨hx, hb, hml, hown, hT⟩ (k_Mod_putVarint l dC dI cI cB cJ cZ ad H.size (((fI x751 0 41) - (fI x751 0 42)) : Int32).toInt64 x751  hw) ⟨callB_of 1 hT (gwt_in w_11_194) rfl rfl rfl (hT _ w_1_15) (hT _ w_11_191) (by decide +kernel) ⟨Nat.le_trans (Nat.le_of_ble_eq_true rfl) hRf, Nat.le_trans (Nat.le_of_ble_eq_true rfl) hRl⟩, hT _ w_11_193, hT _ ws_152⟩ ⟨PW.blind, va_recv hK hW.1 (ci := 12) (q0 := 0) rfl (pic_obj ko_0.1 ko_0.2 (by decide)), PW.at _ hW hK hN⟩ rfl rfl hl.1 rfl (lv_room (Nat.le_of_ble_eq_true rfl)) d_Mod_writePage_152 ⟨hRc, hRs⟩) hS (fun q _ h => hF q h) hF (fun  x752 t H locs ht hvm hw hB hz1 hk1 hS => ?_)
    have hW := Wd.back hB ht hF
    clear hB ht hF hz1 hk1 hvm
    refine lv_aload_n hx hb d_Mod_writePage_155 rfl (lv_at hl 0 rfl) ?_
    refine lv_aload_n hx hb d_Mod_writePage_156 rfl (lv_at hl 0 rfl) ?_
    refine w_geti (k := 43) (t := 12) (C := R_Mod) (T := F_Mod) (N := 167) hx hb hT hown hK hW ko_0.1 ko_0.2 (by decide) in_Mod rfl rfl (by decide) rfl fr_Mod_43 w_8_219 d_Mod_writePage_157 ?_
    have hF := hW.free hS hA
    refine va_callv (va_runV (C := R_Mod) (As := [.int (fI x752 0 43)]) (rest := []) ⟨hx, hb, hml, hown, hT⟩ (k_Mod_put l dC dI cI cB cJ cZ ad H.size (fI x752 0 43) x752  hw) ⟨callB_of 1 hT (gwt_in w_11_199) rfl rfl rfl (hT _ w_1_15) (hT _ w_11_196) (by decide +kernel) ⟨Nat.le_trans (Nat.le_of_ble_eq_true rfl) hRf, Nat.le_trans (Nat.le_of_ble_eq_true rfl) hRl⟩, hT _ w_11_198, hT _ ws_153⟩ ⟨PW.blind, va_recv hK hW.1 (ci := 12) (q0 := 0) rfl (pic_obj ko_0.1 ko_0.2 (by decide)), PW.at _ hW hK hN⟩ rfl rfl hl.1 rfl (lv_room (Nat.le_of_ble_eq_true rfl)) d_Mod_writePage_160 ⟨hRc, hRs⟩) hS (fun q _ h => hF q h) hF (fun  x753 t H locs ht hvm hw hB hz1 hk1 hS => ?_)
    have hW := Wd.back hB ht hF
    clear hB ht hF hz1 hk1 hvm
    refine lv_aload_n hx hb d_Mod_writePage_163 rfl (lv_at hl 0 rfl) ?_
    refine w_geti (k := 42) (t := 12) (C := R_Mod) (T := F_Mod) (N := 167) hx hb hT hown hK hW ko_0.1 ko_0.2 (by decide) in_Mod rfl rfl (by decide) rfl fr_Mod_42 w_8_218 d_Mod_writePage_164 ?_
    refine lv_if_le (tgt := 188) hx hb d_Mod_writePage_167 (by decide) (fun c754 => ?_) (fun c754 => ?_)
    · have hw := hw.1 c754
      exact t_Mod_writePage_188 hx hb hml hown hT hK hN hA hRc hRs hRf hRl hret  l1 l2 x753 H locs ls  hw hW hS (lv_sub hl [0, 1, 2] rfl)
    · have hw := hw.2 c754
      refine lv_aload_n hx hb d_Mod_writePage_170 rfl (lv_at hl 0 rfl) ?_
      refine lv_aload_n hx hb d_Mod_writePage_171 rfl (lv_at hl 0 rfl) ?_
      refine lv_iconst (v := 0) hx hb d_Mod_writePage_172 (by decide) ?_
      have hF := hW.free hS hA
      refine va_calli (va_runV (C := R_Mod) (As := [.int 0]) (rest := [.ref (ad 0)]) ⟨hx, hb, hml, hown, hT⟩ (k_Mod_mostOf l dC dI cI cB cJ cZ ad H.size 0 x753  hw) ⟨callB_of 1 hT (gwt_in w_12_39) rfl rfl rfl (hT _ w_1_15) (hT _ w_12_36) (by decide +kernel) ⟨Nat.le_trans (Nat.le_of_ble_eq_true rfl) hRf, Nat.le_trans (Nat.le_of_ble_eq_true rfl) hRl⟩, hT _ w_12_38, hT _ ws_172⟩ ⟨PW.blind, va_recv hK hW.1 (ci := 12) (q0 := 0) rfl (pic_obj ko_0.1 ko_0.2 (by decide)), PW.at _ hW hK hN⟩ rfl rfl hl.1 rfl (lv_room (Nat.le_of_ble_eq_true rfl)) d_Mod_writePage_173 ⟨hRc, hRs⟩) hS (fun q _ h => hF q h) hF (fun r756 x755 t H locs ht hvm hw hB hz1 hk1 hS => ?_)
      have hW := Wd.back hB ht hF
      clear hB ht hF hz1 hk1 hvm
      have hF := hW.free hS hA
      refine va_callv (va_runV (C := R_Mod) (As := [.int r756]) (rest := []) ⟨hx, hb, hml, hown, hT⟩ (k_Mod_putOne l dC dI cI cB cJ cZ ad H.size r756 x755  hw) ⟨callB_of 1 hT (gwt_in w_12_47) rfl rfl rfl (hT _ w_1_15) (hT _ w_12_44) (by decide +kernel) ⟨Nat.le_trans (Nat.le_of_ble_eq_true rfl) hRf, Nat.le_trans (Nat.le_of_ble_eq_true rfl) hRl⟩, hT _ w_12_46, hT _ ws_174⟩ ⟨PW.blind, va_recv hK hW.1 (ci := 12) (q0 := 0) rfl (pic_obj ko_0.1 ko_0.2 (by decide)), PW.at _ hW hK hN⟩ rfl rfl hl.1 rfl (lv_room (Nat.le_of_ble_eq_true rfl)) d_Mod_writePage_176 ⟨hRc, hRs⟩) hS (fun q _ h => hF q h) hF (fun  x757 t H locs ht hvm hw hB hz1 hk1 hS => ?_)
      have hW := Wd.back hB ht hF
      clear hB ht hF hz1 hk1 hvm
      refine lv_aload_n hx hb d_Mod_writePage_179 rfl (lv_at hl 0 rfl) ?_
      refine lv_aload_n hx hb d_Mod_writePage_180 rfl (lv_at hl 0 rfl) ?_
      refine lv_iconst (v := 1) hx hb d_Mod_writePage_181 (by decide) ?_
      have hF := hW.free hS hA
      refine va_calli (va_runV (C := R_Mod) (As := [.int 1]) (rest := [.ref (ad 0)]) ⟨hx, hb, hml, hown, hT⟩ (k_Mod_mostOf l dC dI cI cB cJ cZ ad H.size 1 x757  hw) ⟨callB_of 1 hT (gwt_in w_12_39) rfl rfl rfl (hT _ w_1_15) (hT _ w_12_36) (by decide +kernel) ⟨Nat.le_trans (Nat.le_of_ble_eq_true rfl) hRf, Nat.le_trans (Nat.le_of_ble_eq_true rfl) hRl⟩, hT _ w_12_38, hT _ ws_172⟩ ⟨PW.blind, va_recv hK hW.1 (ci := 12) (q0 := 0) rfl (pic_obj ko_0.1 ko_0.2 (by decide)), PW.at _ hW hK hN⟩ rfl rfl hl.1 rfl (lv_room (Nat.le_of_ble_eq_true rfl)) d_Mod_writePage_182 ⟨hRc, hRs⟩) hS (fun q _ h => hF q h) hF (fun r759 x758 t H locs ht hvm hw hB hz1 hk1 hS => ?_)
      have hW := Wd.back hB ht hF
      clear hB ht hF hz1 hk1 hvm
      have hF := hW.free hS hA
      refine va_callv (va_runV (C := R_Mod) (As := [.int r759]) (rest := []) ⟨hx, hb, hml, hown, hT⟩ (k_Mod_putOne l dC dI cI cB cJ cZ ad H.size r759 x758  hw) ⟨callB_of 1 hT (gwt_in w_12_47) rfl rfl rfl (hT _ w_1_15) (hT _ w_12_44) (by decide +kernel) ⟨Nat.le_trans (Nat.le_of_ble_eq_true rfl) hRf, Nat.le_trans (Nat.le_of_ble_eq_true rfl) hRl⟩, hT _ w_12_46, hT _ ws_174⟩ ⟨PW.blind, va_recv hK hW.1 (ci := 12) (q0 := 0) rfl (pic_obj ko_0.1 ko_0.2 (by decide)), PW.at _ hW hK hN⟩ rfl rfl hl.1 rfl (lv_room (Nat.le_of_ble_eq_true rfl)) d_Mod_writePage_185 ⟨hRc, hRs⟩) hS (fun q _ h => hF q h) hF (fun  x760 t H locs ht hvm hw hB hz1 hk1 hS => ?_)
      have hW := Wd.back hB ht hF
      clear hB ht hF hz1 hk1 hvm
      exact t_Mod_writePage_188 hx hb hml hown hT hK hN hA hRc hRs hRf hRl hret  l1 l2 x760 H locs ls  hw hW hS (lv_sub hl [0, 1, 2] rfl)
  · have hw := hw.2 c749
    refine lv_aload_n hx hb d_Mod_writePage_109 rfl (lv_at hl 0 rfl) ?_
    refine w_getf (q := 40) (k := 61) (t := 12) (C := R_Mod) (T := F_Mod) (N := 167) hx hb hT hown hK hW ko_0.1 ko_0.2 (by decide) in_Mod rfl rfl (by decide) rfl fr_Mod_61 w_8_237 d_Mod_writePage_110 rfl ?_
    refine lv_iload_n hx hb d_Mod_writePage_113 rfl (lv_at hl 2 rfl) ?_
    refine lv_aload_n hx hb d_Mod_writePage_114 rfl (lv_at hl 0 rfl) ?_
    refine w_getf (q := 39) (k := 60) (t := 12) (C := R_Mod) (T := F_Mod) (N := 167) hx hb hT hown hK hW ko_0.1 ko_0.2 (by decide) in_Mod rfl rfl (by decide) rfl fr_Mod_60 w_8_236 d_Mod_writePage_115 rfl ?_
    refine lv_iload_n hx hb d_Mod_writePage_118 rfl (lv_at hl 2 rfl) ?_
    obtain ⟨hi, hw⟩ := hw
    refine w_iald (o := 39) hx hb hK hW ko_39.1 ko_39.2 hi d_Mod_writePage_119 ?_
    obtain ⟨hi, hw⟩ := hw
    refine w_iast (o := 40) hx hb hK hW hS ko_40.1 ko_40.2 hi d_Mod_writePage_120 (fun H locs hW hS => ?_)
    obtain ⟨x761, ex761⟩ : ∃ y : St, y = setA x 40 l2 (rA x 39 l2) := ⟨_, rfl⟩
    rw [← ex761] at hW
    have hw := hw x761 ex761
    refine lv_iinc (v := (l2 + 1)) (lv' := [(2, .int (l2 + 1)), (0, .ref (ad 0)), (1, .int l1)]) hx hb d_Mod_writePage_121 hl (k := 2) rfl rfl (by decide) rfl (fun ls hl => ?_)
    refine lv_goto (tgt := 101) hx hb d_Mod_writePage_124 (by decide) ?_
    exact hrec101 l1 (l2 + 1) x761 H locs ls  hw hW hS (lv_sub hl [1, 2, 0] rfl)
set_option maxHeartbeats 4000000 in
set_option maxRecDepth 100000 in
theorem tl_Mod_writePage_101 {p : Program} {l : Launch} {e : Env} {R : Room} {s : State} {m : MethodId} {args : Array Value} {below : List Frame} {meth : Method} {c : Code} {cells slots : Nat} {Q : State → Prop} {dC : Nat → ClassId} {dI : Nat → Nat → Nat} {cI cB cJ cZ : ClassId} {A : Nat → Prop} {ad : Nat → Nat} {post : St → Prop} (hx : p.tables.exec = Jvm.exec) (hb : c.code = b_Mod_writePage) (hml : c.maxLocals = 3) (hown : s.vm.findClass R_Mod = some m.cls) (hT : ∀ w ∈ TG, w.before args s = true) (hK : va_K (dC, dI) CL (TY cI cB cJ cZ) s) (hN : NW s) (hA : ∀ q : Nat, s.heap.size ≤ q → A q) (hRc : cells ≤ R.cells) (hRs : slots ≤ R.slots) (hRf : 6 ≤ R.frames) (hRl : 141 ≤ R.locals) (hret : ∀ (x : St) (H : Heap) (locs : List Loc) (pc : Nat) (ls : Array Slot), decode b_Mod_writePage pc = .ok (.return_, 1) → post x → Wd dC dI cI cB cJ cZ ad stM kcM 115 A x H → va_S A s.heap H locs → W p l e R s m args below meth c H locs cells slots Q (F0 m pc ls []))  : ∀ n : Nat, ∀ (l1 : Int32) (l2 : Int32) (x : St) (H : Heap) (locs : List Loc) (ls : Array Slot), wl_Mod_writePage_101 post n l1 l2 x → Wd dC dI cI cB cJ cZ ad stM kcM 115 A x H → va_S A s.heap H locs → lv_has ls 3 [(0, .ref (ad 0)), (1, .int l1), (2, .int l2)] → W p l e R s m args below meth c H locs cells slots Q (F0 m 101 ls []) := by
  intro n
  induction n with
  | zero => intro l1 l2 x H locs ls  hw; exact hw.elim
  | succ n ih => intro l1 l2 x H locs ls  hw hW hS hl; exact t_Mod_writePage_101 hx hb hml hown hT hK hN hA hRc hRs hRf hRl hret  ih l1 l2 x H locs ls  hw hW hS hl
set_option maxRecDepth 100000 in
set_option maxHeartbeats 4000000 in
set_option maxRecDepth 100000 in
theorem t_Mod_writePage_48 {p : Program} {l : Launch} {e : Env} {R : Room} {s : State} {m : MethodId} {args : Array Value} {below : List Frame} {meth : Method} {c : Code} {cells slots : Nat} {Q : State → Prop} {dC : Nat → ClassId} {dI : Nat → Nat → Nat} {cI cB cJ cZ : ClassId} {A : Nat → Prop} {ad : Nat → Nat} {post : St → Prop} {rec4 : Int32 → Int32 → St → Prop} (hx : p.tables.exec = Jvm.exec) (hb : c.code = b_Mod_writePage) (hml : c.maxLocals = 3) (hown : s.vm.findClass R_Mod = some m.cls) (hT : ∀ w ∈ TG, w.before args s = true) (hK : va_K (dC, dI) CL (TY cI cB cJ cZ) s) (hN : NW s) (hA : ∀ q : Nat, s.heap.size ≤ q → A q) (hRc : cells ≤ R.cells) (hRs : slots ≤ R.slots) (hRf : 6 ≤ R.frames) (hRl : 141 ≤ R.locals) (hret : ∀ (x : St) (H : Heap) (locs : List Loc) (pc : Nat) (ls : Array Slot), decode b_Mod_writePage pc = .ok (.return_, 1) → post x → Wd dC dI cI cB cJ cZ ad stM kcM 115 A x H → va_S A s.heap H locs → W p l e R s m args below meth c H locs cells slots Q (F0 m pc ls [])) (hrec4 : ∀ (l1 : Int32) (l2 : Int32) (x : St) (H : Heap) (locs : List Loc) (ls : Array Slot), rec4 l1 l2 x → Wd dC dI cI cB cJ cZ ad stM kcM 115 A x H → va_S A s.heap H locs → lv_has ls 3 [(0, .ref (ad 0)), (1, .int l1), (2, .int l2)] → W p l e R s m args below meth c H locs cells slots Q (F0 m 4 ls [])) : ∀ (l1 : Int32) (l2 : Int32) (x : St) (H : Heap) (locs : List Loc) (ls : Array Slot), j_Mod_writePage_48 post rec4 l1 l2 x → Wd dC dI cI cB cJ cZ ad stM kcM 115 A x H → va_S A s.heap H locs → lv_has ls 3 [(0, .ref (ad 0)), (1, .int l1), (2, .int l2)] → W p l e R s m args below meth c H locs cells slots Q (F0 m 48 ls []) := by
  intro l1 l2 x H locs ls  hw hW hS hl
  unfold j_Mod_writePage_48 at hw
  refine lv_iinc (v := (l2 + 1)) (lv' := [(2, .int (l2 + 1)), (0, .ref (ad 0)), (1, .int l1)]) hx hb d_Mod_writePage_48 hl (k := 2) rfl rfl (by decide) rfl (fun ls hl => ?_)
  refine lv_goto (tgt := 4) hx hb d_Mod_writePage_51 (by decide) ?_
  exact hrec4 l1 (l2 + 1) x H locs ls  hw hW hS (lv_sub hl [1, 2, 0] rfl)
set_option maxRecDepth 100000 in
set_option maxHeartbeats 4000000 in
set_option maxRecDepth 100000 in
theorem t_Mod_writePage_38 {p : Program} {l : Launch} {e : Env} {R : Room} {s : State} {m : MethodId} {args : Array Value} {below : List Frame} {meth : Method} {c : Code} {cells slots : Nat} {Q : State → Prop} {dC : Nat → ClassId} {dI : Nat → Nat → Nat} {cI cB cJ cZ : ClassId} {A : Nat → Prop} {ad : Nat → Nat} {post : St → Prop} {rec4 : Int32 → Int32 → St → Prop} (hx : p.tables.exec = Jvm.exec) (hb : c.code = b_Mod_writePage) (hml : c.maxLocals = 3) (hown : s.vm.findClass R_Mod = some m.cls) (hT : ∀ w ∈ TG, w.before args s = true) (hK : va_K (dC, dI) CL (TY cI cB cJ cZ) s) (hN : NW s) (hA : ∀ q : Nat, s.heap.size ≤ q → A q) (hRc : cells ≤ R.cells) (hRs : slots ≤ R.slots) (hRf : 6 ≤ R.frames) (hRl : 141 ≤ R.locals) (hret : ∀ (x : St) (H : Heap) (locs : List Loc) (pc : Nat) (ls : Array Slot), decode b_Mod_writePage pc = .ok (.return_, 1) → post x → Wd dC dI cI cB cJ cZ ad stM kcM 115 A x H → va_S A s.heap H locs → W p l e R s m args below meth c H locs cells slots Q (F0 m pc ls [])) (hrec4 : ∀ (l1 : Int32) (l2 : Int32) (x : St) (H : Heap) (locs : List Loc) (ls : Array Slot), rec4 l1 l2 x → Wd dC dI cI cB cJ cZ ad stM kcM 115 A x H → va_S A s.heap H locs → lv_has ls 3 [(0, .ref (ad 0)), (1, .int l1), (2, .int l2)] → W p l e R s m args below meth c H locs cells slots Q (F0 m 4 ls [])) : ∀ (l1 : Int32) (l2 : Int32) (x : St) (H : Heap) (locs : List Loc) (ls : Array Slot), j_Mod_writePage_38 post rec4 l1 l2 x → Wd dC dI cI cB cJ cZ ad stM kcM 115 A x H → va_S A s.heap H locs → lv_has ls 3 [(0, .ref (ad 0)), (1, .int l1), (2, .int l2)] → W p l e R s m args below meth c H locs cells slots Q (F0 m 38 ls []) := by
  intro l1 l2 x H locs ls  hw hW hS hl
  unfold j_Mod_writePage_38 at hw
  refine lv_aload_n hx hb d_Mod_writePage_38 rfl (lv_at hl 0 rfl) ?_
  refine w_geti (k := 64) (t := 12) (C := R_Mod) (T := F_Mod) (N := 167) hx hb hT hown hK hW ko_0.1 ko_0.2 (by decide) in_Mod rfl rfl (by decide) rfl fr_Mod_64 w_9_0 d_Mod_writePage_39 ?_
  refine lv_topi (fun v762 ev762 => ?_)
  have hw := hw v762 ev762
  refine lv_istore_n (lv' := [(1, .int v762), (0, .ref (ad 0)), (2, .int l2)]) hx hb d_Mod_writePage_42 rfl hl (by decide) rfl (fun ls hl => ?_)
  refine lv_aload_n hx hb d_Mod_writePage_43 rfl (lv_at hl 1 rfl) ?_
  refine lv_iload_n hx hb d_Mod_writePage_44 rfl (lv_at hl 2 rfl) ?_
  refine w_puti (ty := .int) (k := 43) (t := 12) (C := R_Mod) (T := F_Mod) (N := 167) hx hb hT hown hK hW hS ko_0.1 ko_0.2 (by decide) in_Mod t_Mod t_Mod_ok n_Mod rfl rfl (by decide) rfl fr_Mod_43 w_8_219 (by decide +kernel) rfl rfl d_Mod_writePage_45 (fun H locs hW hS => ?_)
  obtain ⟨x763, ex763⟩ : ∃ y : St, y = setI x 0 43 l2 := ⟨_, rfl⟩
  rw [← ex763] at hW
  have hw := hw x763 ex763
  exact t_Mod_writePage_48 hx hb hml hown hT hK hN hA hRc hRs hRf hRl hret hrec4 v762 l2 x763 H locs ls  hw hW hS (lv_sub hl [1, 0, 2] rfl)
set_option maxRecDepth 100000 in
set_option maxHeartbeats 4000000 in
set_option maxRecDepth 100000 in
theorem t_Mod_writePage_4 {p : Program} {l : Launch} {e : Env} {R : Room} {s : State} {m : MethodId} {args : Array Value} {below : List Frame} {meth : Method} {c : Code} {cells slots : Nat} {Q : State → Prop} {dC : Nat → ClassId} {dI : Nat → Nat → Nat} {cI cB cJ cZ : ClassId} {A : Nat → Prop} {ad : Nat → Nat} {post : St → Prop} {rec4 : Int32 → Int32 → St → Prop} (hx : p.tables.exec = Jvm.exec) (hb : c.code = b_Mod_writePage) (hml : c.maxLocals = 3) (hown : s.vm.findClass R_Mod = some m.cls) (hT : ∀ w ∈ TG, w.before args s = true) (hK : va_K (dC, dI) CL (TY cI cB cJ cZ) s) (hN : NW s) (hA : ∀ q : Nat, s.heap.size ≤ q → A q) (hRc : cells ≤ R.cells) (hRs : slots ≤ R.slots) (hRf : 6 ≤ R.frames) (hRl : 141 ≤ R.locals) (hret : ∀ (x : St) (H : Heap) (locs : List Loc) (pc : Nat) (ls : Array Slot), decode b_Mod_writePage pc = .ok (.return_, 1) → post x → Wd dC dI cI cB cJ cZ ad stM kcM 115 A x H → va_S A s.heap H locs → W p l e R s m args below meth c H locs cells slots Q (F0 m pc ls [])) (hrec4 : ∀ (l1 : Int32) (l2 : Int32) (x : St) (H : Heap) (locs : List Loc) (ls : Array Slot), rec4 l1 l2 x → Wd dC dI cI cB cJ cZ ad stM kcM 115 A x H → va_S A s.heap H locs → lv_has ls 3 [(0, .ref (ad 0)), (1, .int l1), (2, .int l2)] → W p l e R s m args below meth c H locs cells slots Q (F0 m 4 ls [])) : ∀ (l1 : Int32) (l2 : Int32) (x : St) (H : Heap) (locs : List Loc) (ls : Array Slot), j_Mod_writePage_4 post rec4 l1 l2 x → Wd dC dI cI cB cJ cZ ad stM kcM 115 A x H → va_S A s.heap H locs → lv_has ls 3 [(0, .ref (ad 0)), (1, .int l1), (2, .int l2)] → W p l e R s m args below meth c H locs cells slots Q (F0 m 4 ls []) := by
  intro l1 l2 x H locs ls  hw hW hS hl
  unfold j_Mod_writePage_4 at hw
  refine lv_iload_n hx hb d_Mod_writePage_4 rfl (lv_at hl 2 rfl) ?_
  refine lv_aload_n hx hb d_Mod_writePage_5 rfl (lv_at hl 0 rfl) ?_
  have hF := hW.free hS hA
  refine va_calli (va_runV (C := R_Mod) (As := []) (rest := [.int l2]) ⟨hx, hb, hml, hown, hT⟩ (k_Mod_codings l dC dI cI cB cJ cZ ad H.size  x  hw) ⟨callB_of 0 hT (gwt_in w_11_174) rfl rfl rfl (hT _ w_1_15) (hT _ w_11_171) (by decide +kernel) ⟨Nat.le_trans (Nat.le_of_ble_eq_true rfl) hRf, Nat.le_trans (Nat.le_of_ble_eq_true rfl) hRl⟩, hT _ w_11_173, hT _ ws_148⟩ ⟨PW.blind, va_recv hK hW.1 (ci := 12) (q0 := 0) rfl (pic_obj ko_0.1 ko_0.2 (by decide)), PW.at _ hW hK hN⟩ rfl rfl hl.1 rfl (lv_room (Nat.le_of_ble_eq_true rfl)) d_Mod_writePage_6 ⟨hRc, hRs⟩) hS (fun q _ h => hF q h) hF (fun r765 x764 t H locs ht hvm hw hB hz1 hk1 hS => ?_)
  have hW := Wd.back hB ht hF
  clear hB ht hF hz1 hk1 hvm
  refine lv_icmp_ge (tgt := 54) hx hb d_Mod_writePage_9 (by decide) (fun c766 => ?_) (fun c766 => ?_)
  · have hw := hw.1 c766
    refine lv_aload_n hx hb d_Mod_writePage_54 rfl (lv_at hl 0 rfl) ?_
    refine lv_iconst (v := 0) hx hb d_Mod_writePage_55 (by decide) ?_
    refine w_puti (ty := .int) (k := 64) (t := 12) (C := R_Mod) (T := F_Mod) (N := 167) hx hb hT hown hK hW hS ko_0.1 ko_0.2 (by decide) in_Mod t_Mod t_Mod_ok n_Mod rfl rfl (by decide) rfl fr_Mod_64 w_9_0 (by decide +kernel) rfl rfl d_Mod_writePage_56 (fun H locs hW hS => ?_)
    obtain ⟨x767, ex767⟩ : ∃ y : St, y = setI x764 0 64 0 := ⟨_, rfl⟩
    rw [← ex767] at hW
    have hw := hw x767 ex767
    refine lv_aload_n hx hb d_Mod_writePage_59 rfl (lv_at hl 0 rfl) ?_
    refine lv_aload_n hx hb d_Mod_writePage_60 rfl (lv_at hl 0 rfl) ?_
    refine w_getf (q := 26) (k := 45) (t := 12) (C := R_Mod) (T := F_Mod) (N := 167) hx hb hT hown hK hW ko_0.1 ko_0.2 (by decide) in_Mod rfl rfl (by decide) rfl fr_Mod_45 w_8_221 d_Mod_writePage_61 rfl ?_
    refine lv_aload_n hx hb d_Mod_writePage_64 rfl (lv_at hl 0 rfl) ?_
    refine w_geti (k := 39) (t := 12) (C := R_Mod) (T := F_Mod) (N := 167) hx hb hT hown hK hW ko_0.1 ko_0.2 (by decide) in_Mod rfl rfl (by decide) rfl fr_Mod_39 w_8_215 d_Mod_writePage_65 ?_
    have hF := hW.free hS hA
    refine va_callv (va_runV (C := R_Mod) (As := [.ref (ad 26), .int (fI x767 0 39)]) (rest := []) ⟨hx, hb, hml, hown, hT⟩ (k_Mod_putLevels l dC dI cI cB cJ cZ ad H.size 26 (fI x767 0 39) x767 ko_26 hw) ⟨callB_of 2 hT (gwt_in w_12_35) rfl rfl rfl (hT _ w_1_15) (hT _ w_12_32) (by decide +kernel) ⟨Nat.le_trans (Nat.le_of_ble_eq_true rfl) hRf, Nat.le_trans (Nat.le_of_ble_eq_true rfl) hRl⟩, hT _ w_12_34, hT _ ws_171⟩ ⟨PW.blind, va_recv hK hW.1 (ci := 12) (q0 := 0) rfl (pic_obj ko_0.1 ko_0.2 (by decide)), PW.at _ hW hK hN⟩ rfl rfl hl.1 rfl (lv_room (Nat.le_of_ble_eq_true rfl)) d_Mod_writePage_68 ⟨hRc, hRs⟩) hS (fun q _ h => hF q h) hF (fun  x768 t H locs ht hvm hw hB hz1 hk1 hS => ?_)
    have hW := Wd.back hB ht hF
    clear hB ht hF hz1 hk1 hvm
    refine lv_aload_n hx hb d_Mod_writePage_71 rfl (lv_at hl 0 rfl) ?_
    refine lv_aload_n hx hb d_Mod_writePage_72 rfl (lv_at hl 0 rfl) ?_
    refine w_getf (q := 27) (k := 46) (t := 12) (C := R_Mod) (T := F_Mod) (N := 167) hx hb hT hown hK hW ko_0.1 ko_0.2 (by decide) in_Mod rfl rfl (by decide) rfl fr_Mod_46 w_8_222 d_Mod_writePage_73 rfl ?_
    refine lv_aload_n hx hb d_Mod_writePage_76 rfl (lv_at hl 0 rfl) ?_
    refine w_geti (k := 40) (t := 12) (C := R_Mod) (T := F_Mod) (N := 167) hx hb hT hown hK hW ko_0.1 ko_0.2 (by decide) in_Mod rfl rfl (by decide) rfl fr_Mod_40 w_8_216 d_Mod_writePage_77 ?_
    have hF := hW.free hS hA
    refine va_callv (va_runV (C := R_Mod) (As := [.ref (ad 27), .int (fI x768 0 40)]) (rest := []) ⟨hx, hb, hml, hown, hT⟩ (k_Mod_putLevels l dC dI cI cB cJ cZ ad H.size 27 (fI x768 0 40) x768 ko_27 hw) ⟨callB_of 2 hT (gwt_in w_12_35) rfl rfl rfl (hT _ w_1_15) (hT _ w_12_32) (by decide +kernel) ⟨Nat.le_trans (Nat.le_of_ble_eq_true rfl) hRf, Nat.le_trans (Nat.le_of_ble_eq_true rfl) hRl⟩, hT _ w_12_34, hT _ ws_171⟩ ⟨PW.blind, va_recv hK hW.1 (ci := 12) (q0 := 0) rfl (pic_obj ko_0.1 ko_0.2 (by decide)), PW.at _ hW hK hN⟩ rfl rfl hl.1 rfl (lv_room (Nat.le_of_ble_eq_true rfl)) d_Mod_writePage_80 ⟨hRc, hRs⟩) hS (fun q _ h => hF q h) hF (fun  x769 t H locs ht hvm hw hB hz1 hk1 hS => ?_)
    have hW := Wd.back hB ht hF
    clear hB ht hF hz1 hk1 hvm
    refine lv_aload_n hx hb d_Mod_writePage_83 rfl (lv_at hl 0 rfl) ?_
    refine lv_aload_n hx hb d_Mod_writePage_84 rfl (lv_at hl 0 rfl) ?_
    refine w_geti (k := 43) (t := 12) (C := R_Mod) (T := F_Mod) (N := 167) hx hb hT hown hK hW ko_0.1 ko_0.2 (by decide) in_Mod rfl rfl (by decide) rfl fr_Mod_43 w_8_219 d_Mod_writePage_85 ?_
    have hF := hW.free hS hA
    refine va_callv (va_runV (C := R_Mod) (As := [.int (fI x769 0 43)]) (rest := []) ⟨hx, hb, hml, hown, hT⟩ (k_Mod_writeValues l dC dI cI cB cJ cZ ad H.size (fI x769 0 43) x769  hw) ⟨callB_of 1 hT (gwt_in w_11_178) rfl rfl rfl (hT _ w_1_15) (hT _ w_11_175) (by decide +kernel) ⟨Nat.le_trans (Nat.le_of_ble_eq_true rfl) hRf, Nat.le_trans (Nat.le_of_ble_eq_true rfl) hRl⟩, hT _ w_11_177, hT _ ws_149⟩ ⟨PW.blind, va_recv hK hW.1 (ci := 12) (q0 := 0) rfl (pic_obj ko_0.1 ko_0.2 (by decide)), PW.at _ hW hK hN⟩ rfl rfl hl.1 rfl (lv_room (Nat.le_of_ble_eq_true rfl)) d_Mod_writePage_88 ⟨hRc, hRs⟩) hS (fun q _ h => hF q h) hF (fun  x770 t H locs ht hvm hw hB hz1 hk1 hS => ?_)
    have hW := Wd.back hB ht hF
    clear hB ht hF hz1 hk1 hvm
    refine lv_aload_n hx hb d_Mod_writePage_91 rfl (lv_at hl 0 rfl) ?_
    refine lv_aload_n hx hb d_Mod_writePage_92 rfl (lv_at hl 0 rfl) ?_
    refine w_geti (k := 64) (t := 12) (C := R_Mod) (T := F_Mod) (N := 167) hx hb hT hown hK hW ko_0.1 ko_0.2 (by decide) in_Mod rfl rfl (by decide) rfl fr_Mod_64 w_9_0 d_Mod_writePage_93 ?_
    refine w_puti (ty := .int) (k := 44) (t := 12) (C := R_Mod) (T := F_Mod) (N := 167) hx hb hT hown hK hW hS ko_0.1 ko_0.2 (by decide) in_Mod t_Mod t_Mod_ok n_Mod rfl rfl (by decide) rfl fr_Mod_44 w_8_220 (by decide +kernel) rfl rfl d_Mod_writePage_96 (fun H locs hW hS => ?_)
    obtain ⟨x771, ex771⟩ : ∃ y : St, y = setI x770 0 44 (fI x770 0 64) := ⟨_, rfl⟩
    rw [← ex771] at hW
    have hw := hw x771 ex771
    refine lv_iconst (v := 0) hx hb d_Mod_writePage_99 (by decide) ?_
    refine lv_istore_n (lv' := [(2, .int 0), (0, .ref (ad 0)), (1, .int l1)]) hx hb d_Mod_writePage_100 rfl hl (by decide) rfl (fun ls hl => ?_)
    obtain ⟨n, hw⟩ := hw
    exact tl_Mod_writePage_101 hx hb hml hown hT hK hN hA hRc hRs hRf hRl hret  n l1 0 x771 H locs ls  hw hW hS (lv_sub hl [1, 2, 0] rfl)
  · have hw := hw.2 c766
    refine lv_aload_n hx hb d_Mod_writePage_12 rfl (lv_at hl 0 rfl) ?_
    refine lv_iconst (v := 0) hx hb d_Mod_writePage_13 (by decide) ?_
    refine w_puti (ty := .int) (k := 64) (t := 12) (C := R_Mod) (T := F_Mod) (N := 167) hx hb hT hown hK hW hS ko_0.1 ko_0.2 (by decide) in_Mod t_Mod t_Mod_ok n_Mod rfl rfl (by decide) rfl fr_Mod_64 w_9_0 (by decide +kernel) rfl rfl d_Mod_writePage_14 (fun H locs hW hS => ?_)
    obtain ⟨x772, ex772⟩ : ∃ y : St, y = setI x764 0 64 0 := ⟨_, rfl⟩
    rw [← ex772] at hW
    have hw := hw x772 ex772
    refine lv_aload_n hx hb d_Mod_writePage_17 rfl (lv_at hl 0 rfl) ?_
    refine lv_iload_n hx hb d_Mod_writePage_18 rfl (lv_at hl 2 rfl) ?_
    have hF := hW.free hS hA
    refine va_callv (va_runV (C := R_Mod) (As := [.int l2]) (rest := []) ⟨hx, hb, hml, hown, hT⟩ (k_Mod_writeValues l dC dI cI cB cJ cZ ad H.size l2 x772  hw) ⟨callB_of 1 hT (gwt_in w_11_178) rfl rfl rfl (hT _ w_1_15) (hT _ w_11_175) (by decide +kernel) ⟨Nat.le_trans (Nat.le_of_ble_eq_true rfl) hRf, Nat.le_trans (Nat.le_of_ble_eq_true rfl) hRl⟩, hT _ w_11_177, hT _ ws_149⟩ ⟨PW.blind, va_recv hK hW.1 (ci := 12) (q0 := 0) rfl (pic_obj ko_0.1 ko_0.2 (by decide)), PW.at _ hW hK hN⟩ rfl rfl hl.1 rfl (lv_room (Nat.le_of_ble_eq_true rfl)) d_Mod_writePage_19 ⟨hRc, hRs⟩) hS (fun q _ h => hF q h) hF (fun  x773 t H locs ht hvm hw hB hz1 hk1 hS => ?_)
    have hW := Wd.back hB ht hF
    clear hB ht hF hz1 hk1 hvm
    refine lv_iload_n hx hb d_Mod_writePage_22 rfl (lv_at hl 1 rfl) ?_
    refine lv_iconst (v := (-1)) hx hb d_Mod_writePage_23 (by decide) ?_
    refine lv_icmp_eq (tgt := 38) hx hb d_Mod_writePage_24 (by decide) (fun c774 => ?_) (fun c774 => ?_)
    · have hw := hw.1 c774
      exact t_Mod_writePage_38 hx hb hml hown hT hK hN hA hRc hRs hRf hRl hret hrec4 l1 l2 x773 H locs ls  hw hW hS (lv_sub hl [0, 1, 2] rfl)
    · have hw := hw.2 c774
      refine lv_aload_n hx hb d_Mod_writePage_27 rfl (lv_at hl 0 rfl) ?_
      refine w_geti (k := 64) (t := 12) (C := R_Mod) (T := F_Mod) (N := 167) hx hb hT hown hK hW ko_0.1 ko_0.2 (by decide) in_Mod rfl rfl (by decide) rfl fr_Mod_64 w_9_0 d_Mod_writePage_28 ?_
      refine lv_iload_n hx hb d_Mod_writePage_31 rfl (lv_at hl 1 rfl) ?_
      refine lv_icmp_lt (tgt := 38) hx hb d_Mod_writePage_32 (by decide) (fun c775 => ?_) (fun c775 => ?_)
      · have hw := hw.1 c775
        exact t_Mod_writePage_38 hx hb hml hown hT hK hN hA hRc hRs hRf hRl hret hrec4 l1 l2 x773 H locs ls  hw hW hS (lv_sub hl [0, 1, 2] rfl)
      · have hw := hw.2 c775
        refine lv_goto (tgt := 48) hx hb d_Mod_writePage_35 (by decide) ?_
        exact t_Mod_writePage_48 hx hb hml hown hT hK hN hA hRc hRs hRf hRl hret hrec4 l1 l2 x773 H locs ls  hw hW hS (lv_sub hl [0, 1, 2] rfl)
set_option maxHeartbeats 4000000 in
set_option maxRecDepth 100000 in
theorem tl_Mod_writePage_4 {p : Program} {l : Launch} {e : Env} {R : Room} {s : State} {m : MethodId} {args : Array Value} {below : List Frame} {meth : Method} {c : Code} {cells slots : Nat} {Q : State → Prop} {dC : Nat → ClassId} {dI : Nat → Nat → Nat} {cI cB cJ cZ : ClassId} {A : Nat → Prop} {ad : Nat → Nat} {post : St → Prop} (hx : p.tables.exec = Jvm.exec) (hb : c.code = b_Mod_writePage) (hml : c.maxLocals = 3) (hown : s.vm.findClass R_Mod = some m.cls) (hT : ∀ w ∈ TG, w.before args s = true) (hK : va_K (dC, dI) CL (TY cI cB cJ cZ) s) (hN : NW s) (hA : ∀ q : Nat, s.heap.size ≤ q → A q) (hRc : cells ≤ R.cells) (hRs : slots ≤ R.slots) (hRf : 6 ≤ R.frames) (hRl : 141 ≤ R.locals) (hret : ∀ (x : St) (H : Heap) (locs : List Loc) (pc : Nat) (ls : Array Slot), decode b_Mod_writePage pc = .ok (.return_, 1) → post x → Wd dC dI cI cB cJ cZ ad stM kcM 115 A x H → va_S A s.heap H locs → W p l e R s m args below meth c H locs cells slots Q (F0 m pc ls []))  : ∀ n : Nat, ∀ (l1 : Int32) (l2 : Int32) (x : St) (H : Heap) (locs : List Loc) (ls : Array Slot), wl_Mod_writePage_4 post n l1 l2 x → Wd dC dI cI cB cJ cZ ad stM kcM 115 A x H → va_S A s.heap H locs → lv_has ls 3 [(0, .ref (ad 0)), (1, .int l1), (2, .int l2)] → W p l e R s m args below meth c H locs cells slots Q (F0 m 4 ls []) := by
  intro n
  induction n with
  | zero => intro l1 l2 x H locs ls  hw; exact hw.elim
  | succ n ih => intro l1 l2 x H locs ls  hw hW hS hl; exact t_Mod_writePage_4 hx hb hml hown hT hK hN hA hRc hRs hRf hRl hret  ih l1 l2 x H locs ls  hw hW hS hl
set_option maxRecDepth 100000 in
set_option maxHeartbeats 4000000 in
set_option maxRecDepth 100000 in
theorem t_Mod_writePage_e {p : Program} {l : Launch} {e : Env} {R : Room} {s : State} {m : MethodId} {args : Array Value} {below : List Frame} {meth : Method} {c : Code} {cells slots : Nat} {Q : State → Prop} {dC : Nat → ClassId} {dI : Nat → Nat → Nat} {cI cB cJ cZ : ClassId} {A : Nat → Prop} {ad : Nat → Nat} {post : St → Prop} (hx : p.tables.exec = Jvm.exec) (hb : c.code = b_Mod_writePage) (hml : c.maxLocals = 3) (hown : s.vm.findClass R_Mod = some m.cls) (hT : ∀ w ∈ TG, w.before args s = true) (hK : va_K (dC, dI) CL (TY cI cB cJ cZ) s) (hN : NW s) (hA : ∀ q : Nat, s.heap.size ≤ q → A q) (hRc : cells ≤ R.cells) (hRs : slots ≤ R.slots) (hRf : 6 ≤ R.frames) (hRl : 141 ≤ R.locals) (hret : ∀ (x : St) (H : Heap) (locs : List Loc) (pc : Nat) (ls : Array Slot), decode b_Mod_writePage pc = .ok (.return_, 1) → post x → Wd dC dI cI cB cJ cZ ad stM kcM 115 A x H → va_S A s.heap H locs → W p l e R s m args below meth c H locs cells slots Q (F0 m pc ls [])) : ∀  (x : St) (H : Heap) (locs : List Loc) (ls : Array Slot), wp_Mod_writePage post  x → Wd dC dI cI cB cJ cZ ad stM kcM 115 A x H → va_S A s.heap H locs → lv_has ls 3 [(0, .ref (ad 0))] → W p l e R s m args below meth c H locs cells slots Q (F0 m 0 ls []) := by
  intro  x H locs ls  hw hW hS hl
  unfold wp_Mod_writePage at hw
  refine lv_iconst (v := (-1)) hx hb d_Mod_writePage_0 (by decide) ?_
  refine lv_istore_n (lv' := [(1, .int (-1)), (0, .ref (ad 0))]) hx hb d_Mod_writePage_1 rfl hl (by decide) rfl (fun ls hl => ?_)
  refine lv_iconst (v := 0) hx hb d_Mod_writePage_2 (by decide) ?_
  refine lv_istore_n (lv' := [(2, .int 0), (1, .int (-1)), (0, .ref (ad 0))]) hx hb d_Mod_writePage_3 rfl hl (by decide) rfl (fun ls hl => ?_)
  obtain ⟨n, hw⟩ := hw
  exact tl_Mod_writePage_4 hx hb hml hown hT hK hN hA hRc hRs hRf hRl hret  n (-1) 0 x H locs ls  hw hW hS (lv_sub hl [2, 1, 0] rfl)
set_option maxHeartbeats 4000000 in
set_option maxRecDepth 100000 in
theorem k_Mod_writePage (l : Launch) (dC : Nat → ClassId) (dI : Nat → Nat → Nat) (cI cB cJ cZ : ClassId) (ad : Nat → Nat) (sz : Nat)  (x : St) {post : St → Prop} (hw : wp_Mod_writePage post  x) : Met l y_Mod_writePage (wsOf y_Mod_writePage b_Mod_writePage 3 (none)) ({ frames := 6, cells := 0, slots := 0, locals := 141 }) (va_Pc [.ref (ad 0)] (PW dC dI cI cB cJ cZ ad stM kcM 115 sz x)) (va_Qv (fun (y : St) => post y) (fun y t => Wd dC dI cI cB cJ cZ ad stM kcM 115 (va_A (pic ad stM kcM 115 cI cB cJ cZ x) sz) y t.heap) (va_A (pic ad stM kcM 115 cI cB cJ cZ x) sz)) 0 0 (va_A (pic ad stM kcM 115 cI cB cJ cZ x) sz) := by
  refine Met.ofW (cc := b_Mod_writePage) (maxL := 3) (ret := none) (by decide) rfl ?_
  intro p e s m args below meth c s₁ B hml hv
  obtain ⟨rfl, hsz, hW0, hK, hN⟩ := hv
  have hx := B.exec
  have hb := B.bytes
  have hr := B.returns
  have hts := atoms_spec B.pre
  have hT : ∀ w ∈ TG, w.before _ s = true := fun w h => hts w (List.mem_cons_of_mem _ h)
  have hown : s.vm.findClass R_Mod = some m.cls := findClass_of_methodNamed B.named
  have hlocks := B.notSynchronized
  subst hsz
  have hW : Wd dC dI cI cB cJ cZ ad stM kcM 115 (va_A (pic ad stM kcM 115 cI cB cJ cZ x) s.heap.size) x s.heap := ⟨hW0.1, hW0.2.1.self (sz := s.heap.size), hW0.2.2⟩
  generalize hAe : va_A (pic ad stM kcM 115 cI cB cJ cZ x) s.heap.size = A at hW ⊢
  have hA : ∀ q : Nat, s.heap.size ≤ q → A q := fun q h => by rw [← hAe]; exact Or.inr h
  have hS : va_S A s.heap s.heap [] := va_S.rf
  have hl := lv_entry ([.ref (ad 0)]) (n := 3) (Nat.le_of_ble_eq_true rfl)
  rw [lg_entry_eq]
  generalize (lg_sl ([.ref (ad 0)]) ++ List.replicate (3 - (lg_sl ([.ref (ad 0)])).length) Slot.unset).toArray = ls at hl ⊢
  have hl : lv_has ls 3 [(0, .ref (ad 0))] := hl
  exact t_Mod_writePage_e hx hb hml hown hT hK hN hA (Nat.le_refl 0) (Nat.le_refl 0) (Nat.le_refl 6) (Nat.le_refl 141) (fun x H locs pc ls hd hp hW hS => W.vret hx hb hr (fun t ht hM => ⟨⟨x, rfl, hp, Wd.back hW ht.symm (fun _ z => z)⟩, hS.F ht⟩) hS.2.2 hd hlocks)   x _ _ ls  hw hW hS hl
end
