theorem w_2_143 : (Jvm.Cond.fieldLink "StripedVault" (228 : Nat) "StripedVault$Vault" "pool" "[B") ∈ TG := tw_2 143 (by decide +kernel) (by decide +kernel)
theorem w_3_160 : (Jvm.Cond.fieldLink "StripedVault" (233 : Nat) "StripedVault$Answer" "skippedGroups" "I") ∈ TG := tw_3 160 (by decide +kernel) (by decide +kernel)
theorem w_3_162 : (Jvm.Cond.fieldLink "StripedVault" (236 : Nat) "StripedVault$Answer" "skippedStretches" "I") ∈ TG := tw_3 162 (by decide +kernel) (by decide +kernel)
theorem w_3_169 : (Jvm.Cond.fieldLink "StripedVault" (217 : Nat) "StripedVault$Answer" "forms" "[B") ∈ TG := tw_3 169 (by decide +kernel) (by decide +kernel)
theorem w_3_171 : (Jvm.Cond.fieldLink "StripedVault" (220 : Nat) "StripedVault$Answer" "results" "[J") ∈ TG := tw_3 171 (by decide +kernel) (by decide +kernel)
theorem w_3_222 : (Jvm.Cond.fieldLink "StripedVault" (239 : Nat) "StripedVault$Assembler" "out" "LStripedVault$Sink;") ∈ TG := tw_3 222 (by decide +kernel) (by decide +kernel)
theorem w_8_131 : (Jvm.Cond.methodLink "StripedVault" (206 : Nat) ({ cls := "StripedVault$Answer", name := "rowAt", desc := "(I)I" } : Jvm.MethodName)) ∈ TG := tw_8 131 (by decide +kernel) (by decide +kernel)
theorem w_8_132 : (Jvm.Cond.instanceMethod ({ cls := "StripedVault$Answer", name := "rowAt", desc := "(I)I" } : Jvm.MethodName)) ∈ TG := tw_8 132 (by decide +kernel) (by decide +kernel)
theorem w_8_133 : (Jvm.Cond.selects "StripedVault$Answer" ({ cls := "StripedVault$Answer", name := "rowAt", desc := "(I)I" } : Jvm.MethodName) ({ cls := "StripedVault$Answer", name := "rowAt", desc := "(I)I" } : Jvm.MethodName)) ∈ TG := tw_8 133 (by decide +kernel) (by decide +kernel)
theorem w_8_134 : (Jvm.Cond.code ({ cls := "StripedVault$Answer", name := "rowAt", desc := "(I)I" } : Jvm.MethodName) prog_2_method_2_code (2 : Nat) (Option.some Jvm.ClassFile.FieldType.int)) ∈ TG := tw_8 134 (by decide +kernel) (by decide +kernel)
theorem w_8_143 : (Jvm.Cond.methodLink "StripedVault" (214 : Nat) ({ cls := "StripedVault$Answer", name := "placeOf", desc := "(II)I" } : Jvm.MethodName)) ∈ TG := tw_8 143 (by decide +kernel) (by decide +kernel)
theorem w_8_144 : (Jvm.Cond.instanceMethod ({ cls := "StripedVault$Answer", name := "placeOf", desc := "(II)I" } : Jvm.MethodName)) ∈ TG := tw_8 144 (by decide +kernel) (by decide +kernel)
theorem w_8_145 : (Jvm.Cond.selects "StripedVault$Answer" ({ cls := "StripedVault$Answer", name := "placeOf", desc := "(II)I" } : Jvm.MethodName) ({ cls := "StripedVault$Answer", name := "placeOf", desc := "(II)I" } : Jvm.MethodName)) ∈ TG := tw_8 145 (by decide +kernel) (by decide +kernel)
theorem w_8_146 : (Jvm.Cond.code ({ cls := "StripedVault$Answer", name := "placeOf", desc := "(II)I" } : Jvm.MethodName) prog_2_method_3_code (4 : Nat) (Option.some Jvm.ClassFile.FieldType.int)) ∈ TG := tw_8 146 (by decide +kernel) (by decide +kernel)
theorem w_8_155 : (Jvm.Cond.methodLink "StripedVault" (224 : Nat) ({ cls := "StripedVault", name := "sizeOf", desc := "(J)I" } : Jvm.MethodName)) ∈ TG := tw_8 155 (by decide +kernel) (by decide +kernel)
theorem w_8_156 : (Jvm.Cond.methodLink "StripedVault" (231 : Nat) ({ cls := "StripedVault", name := "placeOf", desc := "(J)I" } : Jvm.MethodName)) ∈ TG := tw_8 156 (by decide +kernel) (by decide +kernel)
theorem d_Ans_rowAt_26 : decode b_Ans_rowAt 26 = .ok (.iconst (-1), 1) := by decide +kernel
theorem d_Ans_rowAt_27 : decode b_Ans_rowAt 27 = .ok (.goto 9, 3) := by decide +kernel
theorem d_Ans_rowAt_36 : decode b_Ans_rowAt 36 = .ok (.ireturn, 1) := by decide +kernel
theorem d_Ans_rowAt_0 : decode b_Ans_rowAt 0 = .ok (.aload_n 0, 1) := by decide +kernel
theorem d_Ans_rowAt_1 : decode b_Ans_rowAt 1 = .ok (.getfield 39, 3) := by decide +kernel
theorem d_Ans_rowAt_4 : decode b_Ans_rowAt 4 = .ok (.ifCond .eq 22, 3) := by decide +kernel
theorem d_Ans_rowAt_7 : decode b_Ans_rowAt 7 = .ok (.aload_n 0, 1) := by decide +kernel
theorem d_Ans_rowAt_8 : decode b_Ans_rowAt 8 = .ok (.getfield 43, 3) := by decide +kernel
theorem d_Ans_rowAt_11 : decode b_Ans_rowAt 11 = .ok (.ifCond .ne 15, 3) := by decide +kernel
theorem d_Ans_rowAt_14 : decode b_Ans_rowAt 14 = .ok (.iload_n 1, 1) := by decide +kernel
theorem d_Ans_rowAt_15 : decode b_Ans_rowAt 15 = .ok (.ifCond .lt 11, 3) := by decide +kernel
theorem d_Ans_rowAt_18 : decode b_Ans_rowAt 18 = .ok (.iload_n 1, 1) := by decide +kernel
theorem d_Ans_rowAt_19 : decode b_Ans_rowAt 19 = .ok (.aload_n 0, 1) := by decide +kernel
theorem d_Ans_rowAt_20 : decode b_Ans_rowAt 20 = .ok (.getfield 46, 3) := by decide +kernel
theorem d_Ans_rowAt_23 : decode b_Ans_rowAt 23 = .ok (.if_icmp .lt 7, 3) := by decide +kernel
theorem d_Ans_rowAt_30 : decode b_Ans_rowAt 30 = .ok (.aload_n 0, 1) := by decide +kernel
theorem d_Ans_rowAt_31 : decode b_Ans_rowAt 31 = .ok (.getfield 15, 3) := by decide +kernel
theorem d_Ans_rowAt_34 : decode b_Ans_rowAt 34 = .ok (.iload_n 1, 1) := by decide +kernel
theorem d_Ans_rowAt_35 : decode b_Ans_rowAt 35 = .ok (.iaload, 1) := by decide +kernel
theorem d_V_row_0 : decode b_V_row 0 = .ok (.aload_n 0, 1) := by decide +kernel
theorem d_V_row_1 : decode b_V_row 1 = .ok (.getfield 85, 3) := by decide +kernel
theorem d_V_row_4 : decode b_V_row 4 = .ok (.iload_n 1, 1) := by decide +kernel
theorem d_V_row_5 : decode b_V_row 5 = .ok (.invokevirtual 206, 3) := by decide +kernel
theorem d_V_row_8 : decode b_V_row 8 = .ok (.ireturn, 1) := by decide +kernel
theorem d_Ans_placeOf_43 : decode b_Ans_placeOf 43 = .ok (.istore_n 3, 1) := by decide +kernel
theorem d_Ans_placeOf_44 : decode b_Ans_placeOf 44 = .ok (.iload_n 3, 1) := by decide +kernel
theorem d_Ans_placeOf_45 : decode b_Ans_placeOf 45 = .ok (.ifCond .eq 12, 3) := by decide +kernel
theorem d_Ans_placeOf_57 : decode b_Ans_placeOf 57 = .ok (.iconst (-1), 1) := by decide +kernel
theorem d_Ans_placeOf_58 : decode b_Ans_placeOf 58 = .ok (.ireturn, 1) := by decide +kernel
theorem d_Ans_placeOf_48 : decode b_Ans_placeOf 48 = .ok (.iload_n 1, 1) := by decide +kernel
theorem d_Ans_placeOf_49 : decode b_Ans_placeOf 49 = .ok (.bipush 16, 2) := by decide +kernel
theorem d_Ans_placeOf_51 : decode b_Ans_placeOf 51 = .ok (.imul, 1) := by decide +kernel
theorem d_Ans_placeOf_52 : decode b_Ans_placeOf 52 = .ok (.iload_n 2, 1) := by decide +kernel
theorem d_Ans_placeOf_53 : decode b_Ans_placeOf 53 = .ok (.iadd, 1) := by decide +kernel
theorem d_Ans_placeOf_54 : decode b_Ans_placeOf 54 = .ok (.goto 4, 3) := by decide +kernel
theorem d_Ans_placeOf_42 : decode b_Ans_placeOf 42 = .ok (.iconst 0, 1) := by decide +kernel
theorem d_Ans_placeOf_0 : decode b_Ans_placeOf 0 = .ok (.aload_n 0, 1) := by decide +kernel
theorem d_Ans_placeOf_1 : decode b_Ans_placeOf 1 = .ok (.getfield 39, 3) := by decide +kernel
theorem d_Ans_placeOf_4 : decode b_Ans_placeOf 4 = .ok (.ifCond .eq 38, 3) := by decide +kernel
theorem d_Ans_placeOf_7 : decode b_Ans_placeOf 7 = .ok (.aload_n 0, 1) := by decide +kernel
theorem d_Ans_placeOf_8 : decode b_Ans_placeOf 8 = .ok (.getfield 43, 3) := by decide +kernel
theorem d_Ans_placeOf_11 : decode b_Ans_placeOf 11 = .ok (.ifCond .eq 31, 3) := by decide +kernel
theorem d_Ans_placeOf_14 : decode b_Ans_placeOf 14 = .ok (.iload_n 1, 1) := by decide +kernel
theorem d_Ans_placeOf_15 : decode b_Ans_placeOf 15 = .ok (.ifCond .lt 27, 3) := by decide +kernel
theorem d_Ans_placeOf_18 : decode b_Ans_placeOf 18 = .ok (.iload_n 1, 1) := by decide +kernel
theorem d_Ans_placeOf_19 : decode b_Ans_placeOf 19 = .ok (.aload_n 0, 1) := by decide +kernel
theorem d_Ans_placeOf_20 : decode b_Ans_placeOf 20 = .ok (.getfield 46, 3) := by decide +kernel
theorem d_Ans_placeOf_23 : decode b_Ans_placeOf 23 = .ok (.if_icmp .ge 19, 3) := by decide +kernel
theorem d_Ans_placeOf_26 : decode b_Ans_placeOf 26 = .ok (.iload_n 2, 1) := by decide +kernel
theorem d_Ans_placeOf_27 : decode b_Ans_placeOf 27 = .ok (.ifCond .lt 15, 3) := by decide +kernel
theorem d_Ans_placeOf_30 : decode b_Ans_placeOf 30 = .ok (.iload_n 2, 1) := by decide +kernel
theorem d_Ans_placeOf_31 : decode b_Ans_placeOf 31 = .ok (.aload_n 0, 1) := by decide +kernel
theorem d_Ans_placeOf_32 : decode b_Ans_placeOf 32 = .ok (.getfield 50, 3) := by decide +kernel
theorem d_Ans_placeOf_35 : decode b_Ans_placeOf 35 = .ok (.if_icmp .ge 7, 3) := by decide +kernel
theorem d_Ans_placeOf_38 : decode b_Ans_placeOf 38 = .ok (.iconst 1, 1) := by decide +kernel
theorem d_Ans_placeOf_39 : decode b_Ans_placeOf 39 = .ok (.goto 4, 3) := by decide +kernel
theorem d_V_kind_0 : decode b_V_kind 0 = .ok (.aload_n 0, 1) := by decide +kernel
theorem d_V_kind_1 : decode b_V_kind 1 = .ok (.getfield 85, 3) := by decide +kernel
theorem d_V_kind_4 : decode b_V_kind 4 = .ok (.iload_n 1, 1) := by decide +kernel
theorem d_V_kind_5 : decode b_V_kind 5 = .ok (.iload_n 2, 1) := by decide +kernel
theorem d_V_kind_6 : decode b_V_kind 6 = .ok (.invokevirtual 214, 3) := by decide +kernel
theorem d_V_kind_9 : decode b_V_kind 9 = .ok (.istore_n 3, 1) := by decide +kernel
theorem d_V_kind_10 : decode b_V_kind 10 = .ok (.iload_n 3, 1) := by decide +kernel
theorem d_V_kind_11 : decode b_V_kind 11 = .ok (.iconst (-1), 1) := by decide +kernel
theorem d_V_kind_12 : decode b_V_kind 12 = .ok (.if_icmp .ne 7, 3) := by decide +kernel
theorem d_V_kind_19 : decode b_V_kind 19 = .ok (.aload_n 0, 1) := by decide +kernel
theorem d_V_kind_20 : decode b_V_kind 20 = .ok (.getfield 85, 3) := by decide +kernel
theorem d_V_kind_23 : decode b_V_kind 23 = .ok (.getfield 217, 3) := by decide +kernel
theorem d_V_kind_26 : decode b_V_kind 26 = .ok (.iload_n 3, 1) := by decide +kernel
theorem d_V_kind_27 : decode b_V_kind 27 = .ok (.baload, 1) := by decide +kernel
theorem d_V_kind_28 : decode b_V_kind 28 = .ok (.ireturn, 1) := by decide +kernel
theorem d_V_kind_15 : decode b_V_kind 15 = .ok (.iconst (-1), 1) := by decide +kernel
theorem d_V_kind_16 : decode b_V_kind 16 = .ok (.goto 12, 3) := by decide +kernel
theorem d_V_value_40 : decode b_V_value 40 = .ok (.lconst 0, 1) := by decide +kernel
theorem d_V_value_41 : decode b_V_value 41 = .ok (.goto 12, 3) := by decide +kernel
theorem d_V_value_53 : decode b_V_value 53 = .ok (.lreturn, 1) := by decide +kernel
theorem d_V_value_0 : decode b_V_value 0 = .ok (.aload_n 0, 1) := by decide +kernel
theorem d_V_value_1 : decode b_V_value 1 = .ok (.getfield 85, 3) := by decide +kernel
theorem d_V_value_4 : decode b_V_value 4 = .ok (.iload_n 1, 1) := by decide +kernel
theorem d_V_value_5 : decode b_V_value 5 = .ok (.iload_n 2, 1) := by decide +kernel
theorem d_V_value_6 : decode b_V_value 6 = .ok (.invokevirtual 214, 3) := by decide +kernel
theorem d_V_value_9 : decode b_V_value 9 = .ok (.istore_n 3, 1) := by decide +kernel
theorem d_V_value_10 : decode b_V_value 10 = .ok (.iload_n 3, 1) := by decide +kernel
theorem d_V_value_11 : decode b_V_value 11 = .ok (.iconst (-1), 1) := by decide +kernel
theorem d_V_value_12 : decode b_V_value 12 = .ok (.if_icmp .eq 28, 3) := by decide +kernel
theorem d_V_value_15 : decode b_V_value 15 = .ok (.aload_n 0, 1) := by decide +kernel
theorem d_V_value_16 : decode b_V_value 16 = .ok (.getfield 85, 3) := by decide +kernel
theorem d_V_value_19 : decode b_V_value 19 = .ok (.getfield 217, 3) := by decide +kernel
theorem d_V_value_22 : decode b_V_value 22 = .ok (.iload_n 3, 1) := by decide +kernel
theorem d_V_value_23 : decode b_V_value 23 = .ok (.baload, 1) := by decide +kernel
theorem d_V_value_24 : decode b_V_value 24 = .ok (.ifCond .eq 16, 3) := by decide +kernel
theorem d_V_value_27 : decode b_V_value 27 = .ok (.aload_n 0, 1) := by decide +kernel
theorem d_V_value_28 : decode b_V_value 28 = .ok (.getfield 85, 3) := by decide +kernel
theorem d_V_value_31 : decode b_V_value 31 = .ok (.getfield 217, 3) := by decide +kernel
theorem d_V_value_34 : decode b_V_value 34 = .ok (.iload_n 3, 1) := by decide +kernel
theorem d_V_value_35 : decode b_V_value 35 = .ok (.baload, 1) := by decide +kernel
theorem d_V_value_36 : decode b_V_value 36 = .ok (.iconst 3, 1) := by decide +kernel
theorem d_V_value_37 : decode b_V_value 37 = .ok (.if_icmp .ne 7, 3) := by decide +kernel
theorem d_V_value_44 : decode b_V_value 44 = .ok (.aload_n 0, 1) := by decide +kernel
theorem d_V_value_45 : decode b_V_value 45 = .ok (.getfield 85, 3) := by decide +kernel
theorem d_V_value_48 : decode b_V_value 48 = .ok (.getfield 220, 3) := by decide +kernel
theorem d_V_value_51 : decode b_V_value 51 = .ok (.iload_n 3, 1) := by decide +kernel
theorem d_V_value_52 : decode b_V_value 52 = .ok (.laload, 1) := by decide +kernel
theorem d_V_letter_52 : decode b_V_letter 52 = .ok (.iconst (-1), 1) := by decide +kernel
theorem d_V_letter_53 : decode b_V_letter 53 = .ok (.ireturn, 1) := by decide +kernel
theorem d_V_letter_0 : decode b_V_letter 0 = .ok (.aload_n 0, 1) := by decide +kernel
theorem d_V_letter_1 : decode b_V_letter 1 = .ok (.getfield 85, 3) := by decide +kernel
theorem d_V_letter_4 : decode b_V_letter 4 = .ok (.iload_n 1, 1) := by decide +kernel
theorem d_V_letter_5 : decode b_V_letter 5 = .ok (.iload_n 2, 1) := by decide +kernel
theorem d_V_letter_6 : decode b_V_letter 6 = .ok (.invokevirtual 214, 3) := by decide +kernel
theorem d_V_letter_9 : decode b_V_letter 9 = .ok (.istore 4, 2) := by decide +kernel
theorem d_V_letter_11 : decode b_V_letter 11 = .ok (.iload 4, 2) := by decide +kernel
theorem d_V_letter_13 : decode b_V_letter 13 = .ok (.iconst (-1), 1) := by decide +kernel
theorem d_V_letter_14 : decode b_V_letter 14 = .ok (.if_icmp .eq 38, 3) := by decide +kernel
theorem d_V_letter_17 : decode b_V_letter 17 = .ok (.aload_n 0, 1) := by decide +kernel
theorem d_V_letter_18 : decode b_V_letter 18 = .ok (.getfield 85, 3) := by decide +kernel
theorem d_V_letter_21 : decode b_V_letter 21 = .ok (.getfield 217, 3) := by decide +kernel
theorem d_V_letter_24 : decode b_V_letter 24 = .ok (.iload 4, 2) := by decide +kernel
theorem d_V_letter_26 : decode b_V_letter 26 = .ok (.baload, 1) := by decide +kernel
theorem d_V_letter_27 : decode b_V_letter 27 = .ok (.iconst 3, 1) := by decide +kernel
theorem d_V_letter_28 : decode b_V_letter 28 = .ok (.if_icmp .ne 24, 3) := by decide +kernel
theorem d_V_letter_31 : decode b_V_letter 31 = .ok (.iload_n 3, 1) := by decide +kernel
theorem d_V_letter_32 : decode b_V_letter 32 = .ok (.ifCond .lt 20, 3) := by decide +kernel
theorem d_V_letter_35 : decode b_V_letter 35 = .ok (.iload_n 3, 1) := by decide +kernel
theorem d_V_letter_36 : decode b_V_letter 36 = .ok (.aload_n 0, 1) := by decide +kernel
theorem d_V_letter_37 : decode b_V_letter 37 = .ok (.getfield 85, 3) := by decide +kernel
theorem d_V_letter_40 : decode b_V_letter 40 = .ok (.getfield 220, 3) := by decide +kernel
theorem d_V_letter_43 : decode b_V_letter 43 = .ok (.iload 4, 2) := by decide +kernel
theorem d_V_letter_45 : decode b_V_letter 45 = .ok (.laload, 1) := by decide +kernel
theorem d_V_letter_46 : decode b_V_letter 46 = .ok (.invokestatic 224, 3) := by decide +kernel
theorem d_V_letter_49 : decode b_V_letter 49 = .ok (.if_icmp .lt 5, 3) := by decide +kernel
theorem d_V_letter_54 : decode b_V_letter 54 = .ok (.aload_n 0, 1) := by decide +kernel
theorem d_V_letter_55 : decode b_V_letter 55 = .ok (.getfield 59, 3) := by decide +kernel
theorem d_V_letter_58 : decode b_V_letter 58 = .ok (.getfield 228, 3) := by decide +kernel
theorem d_V_letter_61 : decode b_V_letter 61 = .ok (.aload_n 0, 1) := by decide +kernel
theorem d_V_letter_62 : decode b_V_letter 62 = .ok (.getfield 85, 3) := by decide +kernel
theorem d_V_letter_65 : decode b_V_letter 65 = .ok (.getfield 220, 3) := by decide +kernel
theorem d_V_letter_68 : decode b_V_letter 68 = .ok (.iload 4, 2) := by decide +kernel
theorem d_V_letter_70 : decode b_V_letter 70 = .ok (.laload, 1) := by decide +kernel
theorem d_V_letter_71 : decode b_V_letter 71 = .ok (.invokestatic 231, 3) := by decide +kernel
theorem d_V_letter_74 : decode b_V_letter 74 = .ok (.iload_n 3, 1) := by decide +kernel
theorem d_V_letter_75 : decode b_V_letter 75 = .ok (.iadd, 1) := by decide +kernel
theorem d_V_letter_76 : decode b_V_letter 76 = .ok (.baload, 1) := by decide +kernel
theorem d_V_letter_77 : decode b_V_letter 77 = .ok (.sipush 255, 3) := by decide +kernel
theorem d_V_letter_80 : decode b_V_letter 80 = .ok (.iand, 1) := by decide +kernel
theorem d_V_letter_81 : decode b_V_letter 81 = .ok (.ireturn, 1) := by decide +kernel
theorem d_V_skipped_11 : decode b_V_skipped 11 = .ok (.aload_n 0, 1) := by decide +kernel
theorem d_V_skipped_12 : decode b_V_skipped 12 = .ok (.getfield 85, 3) := by decide +kernel
theorem d_V_skipped_15 : decode b_V_skipped 15 = .ok (.getfield 168, 3) := by decide +kernel
theorem d_V_skipped_18 : decode b_V_skipped 18 = .ok (.ifCond .ne 5, 3) := by decide +kernel
theorem d_V_skipped_23 : decode b_V_skipped 23 = .ok (.iload_n 1, 1) := by decide +kernel
theorem d_V_skipped_24 : decode b_V_skipped 24 = .ok (.ifCond .ne 13, 3) := by decide +kernel
theorem d_V_skipped_37 : decode b_V_skipped 37 = .ok (.aload_n 0, 1) := by decide +kernel
theorem d_V_skipped_38 : decode b_V_skipped 38 = .ok (.getfield 85, 3) := by decide +kernel
theorem d_V_skipped_41 : decode b_V_skipped 41 = .ok (.getfield 236, 3) := by decide +kernel
theorem d_V_skipped_44 : decode b_V_skipped 44 = .ok (.ireturn, 1) := by decide +kernel
theorem d_V_skipped_27 : decode b_V_skipped 27 = .ok (.aload_n 0, 1) := by decide +kernel
theorem d_V_skipped_28 : decode b_V_skipped 28 = .ok (.getfield 85, 3) := by decide +kernel
theorem d_V_skipped_31 : decode b_V_skipped 31 = .ok (.getfield 233, 3) := by decide +kernel
theorem d_V_skipped_34 : decode b_V_skipped 34 = .ok (.goto 10, 3) := by decide +kernel
theorem d_V_skipped_21 : decode b_V_skipped 21 = .ok (.iconst 0, 1) := by decide +kernel
theorem d_V_skipped_22 : decode b_V_skipped 22 = .ok (.ireturn, 1) := by decide +kernel
theorem d_V_skipped_0 : decode b_V_skipped 0 = .ok (.iload_n 1, 1) := by decide +kernel
theorem d_V_skipped_1 : decode b_V_skipped 1 = .ok (.ifCond .eq 10, 3) := by decide +kernel
theorem d_V_skipped_4 : decode b_V_skipped 4 = .ok (.iload_n 1, 1) := by decide +kernel
theorem d_V_skipped_5 : decode b_V_skipped 5 = .ok (.iconst 1, 1) := by decide +kernel
theorem d_V_skipped_6 : decode b_V_skipped 6 = .ok (.if_icmp .eq 5, 3) := by decide +kernel
theorem d_V_skipped_9 : decode b_V_skipped 9 = .ok (.iconst (-1), 1) := by decide +kernel
theorem d_V_skipped_10 : decode b_V_skipped 10 = .ok (.ireturn, 1) := by decide +kernel
theorem d_V_output_18 : decode b_V_output 18 = .ok (.iconst (-1), 1) := by decide +kernel
theorem d_V_output_19 : decode b_V_output 19 = .ok (.goto 19, 3) := by decide +kernel
theorem d_V_output_38 : decode b_V_output 38 = .ok (.ireturn, 1) := by decide +kernel
theorem d_V_output_0 : decode b_V_output 0 = .ok (.iload_n 1, 1) := by decide +kernel
theorem d_V_output_1 : decode b_V_output 1 = .ok (.ifCond .lt 17, 3) := by decide +kernel
theorem d_V_output_4 : decode b_V_output 4 = .ok (.iload_n 1, 1) := by decide +kernel
theorem d_V_output_5 : decode b_V_output 5 = .ok (.aload_n 0, 1) := by decide +kernel
theorem d_V_output_6 : decode b_V_output 6 = .ok (.getfield 95, 3) := by decide +kernel
theorem d_V_output_9 : decode b_V_output 9 = .ok (.getfield 239, 3) := by decide +kernel
theorem d_V_output_12 : decode b_V_output 12 = .ok (.getfield 99, 3) := by decide +kernel
theorem d_V_output_15 : decode b_V_output 15 = .ok (.if_icmp .lt 7, 3) := by decide +kernel
theorem d_V_output_22 : decode b_V_output 22 = .ok (.aload_n 0, 1) := by decide +kernel
theorem d_V_output_23 : decode b_V_output 23 = .ok (.getfield 95, 3) := by decide +kernel
theorem d_V_output_26 : decode b_V_output 26 = .ok (.getfield 239, 3) := by decide +kernel
theorem d_V_output_29 : decode b_V_output 29 = .ok (.getfield 116, 3) := by decide +kernel
theorem d_V_output_32 : decode b_V_output 32 = .ok (.iload_n 1, 1) := by decide +kernel
theorem d_V_output_33 : decode b_V_output 33 = .ok (.baload, 1) := by decide +kernel
theorem d_V_output_34 : decode b_V_output 34 = .ok (.sipush 255, 3) := by decide +kernel
theorem d_V_output_37 : decode b_V_output 37 = .ok (.iand, 1) := by decide +kernel
section
variable (l : Launch) (dC : Nat → ClassId) (dI : Nat → Nat → Nat) (cI cB cJ cZ : ClassId)
set_option maxRecDepth 100000 in
set_option maxHeartbeats 4000000 in
set_option maxRecDepth 100000 in
theorem t_Ans_rowAt_26 {p : Program} {l : Launch} {e : Env} {R : Room} {s : State} {m : MethodId} {args : Array Value} {below : List Frame} {meth : Method} {c : Code} {cells slots : Nat} {Q : State → Prop} {dC : Nat → ClassId} {dI : Nat → Nat → Nat} {cI cB cJ cZ : ClassId} {A : Nat → Prop} {ad : Nat → Nat} {NN : Nat} {E : Heap} {tM tC : Nat} {kK kV : Nat → Nat} {post : Int32 → St → Prop} (hx : p.tables.exec = Jvm.exec) (hb : c.code = b_Ans_rowAt) (hml : c.maxLocals = 2) (hown : s.vm.findClass R_Ans = some m.cls) (hT : ∀ w ∈ TG, w.before args s = true) (hK : va_K (dC, dI) CL (TY cI cB cJ cZ) s) (hN : NW s) (hA : ∀ q : Nat, s.heap.size ≤ q → A q) (hRc : cells ≤ R.cells) (hRs : slots ≤ R.slots) (hRf : 0 ≤ R.frames) (hRl : 0 ≤ R.locals) (hNN : 152 ≤ NN) (hE : CE E tM tC kK kV A s) (hret : ∀ (r : Int32) (x : St) (H : Heap) (locs : List Loc) (pc : Nat) (ls : Array Slot), decode b_Ans_rowAt pc = .ok (.ireturn, 1) → post r x → Wd dC dI cI cB cJ cZ ad stC kcC NN A x H → va_S A s.heap H locs → W p l e R s m args below meth c H locs cells slots Q (F0 m pc ls [.int r]))  : ∀ (o : Nat) (l1 : Int32) (x : St) (H : Heap) (locs : List Loc) (ls : Array Slot), (o < NN ∧ kcC o = 10) → j_Ans_rowAt_26 post o l1 x → Wd dC dI cI cB cJ cZ ad stC kcC NN A x H → va_S A s.heap H locs → lv_has ls 2 [(0, .ref (ad o)), (1, .int l1)] → W p l e R s m args below meth c H locs cells slots Q (F0 m 26 ls []) := by
  intro o l1 x H locs ls fo hw hW hS hl
  unfold j_Ans_rowAt_26 at hw
  refine lv_iconst (v := (-1)) hx hb d_Ans_rowAt_26 (by decide) ?_
  refine lv_goto (tgt := 36) hx hb d_Ans_rowAt_27 (by decide) ?_
  exact hret (-1) x H locs 36 ls d_Ans_rowAt_36 hw hW hS
set_option maxRecDepth 100000 in
set_option maxHeartbeats 4000000 in
set_option maxRecDepth 100000 in
theorem t_Ans_rowAt_e {p : Program} {l : Launch} {e : Env} {R : Room} {s : State} {m : MethodId} {args : Array Value} {below : List Frame} {meth : Method} {c : Code} {cells slots : Nat} {Q : State → Prop} {dC : Nat → ClassId} {dI : Nat → Nat → Nat} {cI cB cJ cZ : ClassId} {A : Nat → Prop} {ad : Nat → Nat} {NN : Nat} {E : Heap} {tM tC : Nat} {kK kV : Nat → Nat} {post : Int32 → St → Prop} (hx : p.tables.exec = Jvm.exec) (hb : c.code = b_Ans_rowAt) (hml : c.maxLocals = 2) (hown : s.vm.findClass R_Ans = some m.cls) (hT : ∀ w ∈ TG, w.before args s = true) (hK : va_K (dC, dI) CL (TY cI cB cJ cZ) s) (hN : NW s) (hA : ∀ q : Nat, s.heap.size ≤ q → A q) (hRc : cells ≤ R.cells) (hRs : slots ≤ R.slots) (hRf : 0 ≤ R.frames) (hRl : 0 ≤ R.locals) (hNN : 152 ≤ NN) (hE : CE E tM tC kK kV A s) (hret : ∀ (r : Int32) (x : St) (H : Heap) (locs : List Loc) (pc : Nat) (ls : Array Slot), decode b_Ans_rowAt pc = .ok (.ireturn, 1) → post r x → Wd dC dI cI cB cJ cZ ad stC kcC NN A x H → va_S A s.heap H locs → W p l e R s m args below meth c H locs cells slots Q (F0 m pc ls [.int r])) : ∀ (o : Nat) (l1 : Int32) (x : St) (H : Heap) (locs : List Loc) (ls : Array Slot), (o < NN ∧ kcC o = 10) → wp_Ans_rowAt post o l1 x → Wd dC dI cI cB cJ cZ ad stC kcC NN A x H → va_S A s.heap H locs → lv_has ls 2 [(0, .ref (ad o)), (1, .int l1)] → W p l e R s m args below meth c H locs cells slots Q (F0 m 0 ls []) := by
  intro o l1 x H locs ls fo hw hW hS hl
  unfold wp_Ans_rowAt at hw
  refine lv_aload_n hx hb d_Ans_rowAt_0 rfl (lv_at hl 0 rfl) ?_
  refine w_geti (k := 0) (t := 10) (C := R_Ans) (T := F_Ans) (N := 16) hx hb hT hown hK hW fo.1 fo.2 (by decide) in_Ans rfl rfl (by decide) rfl fr_Ans_0 w_3_155 d_Ans_rowAt_1 ?_
  refine lv_if_eq (tgt := 26) hx hb d_Ans_rowAt_4 (by decide) (fun c1 => ?_) (fun c1 => ?_)
  · have hw := hw.1 c1
    exact t_Ans_rowAt_26 hx hb hml hown hT hK hN hA hRc hRs hRf hRl hNN hE hret  o l1 x H locs ls fo hw hW hS (lv_sub hl [0, 1] rfl)
  · have hw := hw.2 c1
    refine lv_aload_n hx hb d_Ans_rowAt_7 rfl (lv_at hl 0 rfl) ?_
    refine w_geti (k := 6) (t := 10) (C := R_Ans) (T := F_Ans) (N := 16) hx hb hT hown hK hW fo.1 fo.2 (by decide) in_Ans rfl rfl (by decide) rfl fr_Ans_6 w_3_166 d_Ans_rowAt_8 ?_
    refine lv_if_ne (tgt := 26) hx hb d_Ans_rowAt_11 (by decide) (fun c2 => ?_) (fun c2 => ?_)
    · have hw := hw.1 c2
      exact t_Ans_rowAt_26 hx hb hml hown hT hK hN hA hRc hRs hRf hRl hNN hE hret  o l1 x H locs ls fo hw hW hS (lv_sub hl [0, 1] rfl)
    · have hw := hw.2 c2
      refine lv_iload_n hx hb d_Ans_rowAt_14 rfl (lv_at hl 1 rfl) ?_
      refine lv_if_lt (tgt := 26) hx hb d_Ans_rowAt_15 (by decide) (fun c3 => ?_) (fun c3 => ?_)
      · have hw := hw.1 c3
        exact t_Ans_rowAt_26 hx hb hml hown hT hK hN hA hRc hRs hRf hRl hNN hE hret  o l1 x H locs ls fo hw hW hS (lv_sub hl [0, 1] rfl)
      · have hw := hw.2 c3
        refine lv_iload_n hx hb d_Ans_rowAt_18 rfl (lv_at hl 1 rfl) ?_
        refine lv_aload_n hx hb d_Ans_rowAt_19 rfl (lv_at hl 0 rfl) ?_
        refine w_geti (k := 1) (t := 10) (C := R_Ans) (T := F_Ans) (N := 16) hx hb hT hown hK hW fo.1 fo.2 (by decide) in_Ans rfl rfl (by decide) rfl fr_Ans_1 w_3_157 d_Ans_rowAt_20 ?_
        refine lv_icmp_lt (tgt := 30) hx hb d_Ans_rowAt_23 (by decide) (fun c4 => ?_) (fun c4 => ?_)
        · have hw := hw.1 c4
          refine lv_aload_n hx hb d_Ans_rowAt_30 rfl (lv_at hl 0 rfl) ?_
          refine w_getf (q := (stC o 5)) (k := 5) (t := 10) (C := R_Ans) (T := F_Ans) (N := 16) hx hb hT hown hK hW fo.1 fo.2 (by decide) in_Ans rfl rfl (by decide) rfl fr_Ans_5 w_3_165 d_Ans_rowAt_31 rfl ?_
          refine lv_iload_n hx hb d_Ans_rowAt_34 rfl (lv_at hl 1 rfl) ?_
          obtain ⟨hi, hw⟩ := hw
          refine w_iald (o := (stC o 5)) hx hb hK hW (st_ty hNN fo.1 fo.2 rfl).1 (st_ty hNN fo.1 fo.2 rfl).2 hi d_Ans_rowAt_35 ?_
          exact hret (rA x (stC o 5) l1) x H locs 36 ls d_Ans_rowAt_36 hw hW hS
        · have hw := hw.2 c4
          exact t_Ans_rowAt_26 hx hb hml hown hT hK hN hA hRc hRs hRf hRl hNN hE hret  o l1 x H locs ls fo hw hW hS (lv_sub hl [0, 1] rfl)
set_option maxHeartbeats 4000000 in
set_option maxRecDepth 100000 in
theorem k_Ans_rowAt (l : Launch) (dC : Nat → ClassId) (dI : Nat → Nat → Nat) (cI cB cJ cZ : ClassId) (ad : Nat → Nat) (NN : Nat) (E : Heap) (tM tC : Nat) (kK kV : Nat → Nat) (hNN : 152 ≤ NN) (sz : Nat) (o : Nat) (l1 : Int32) (x : St) (fo : o < NN ∧ kcC o = 10) {post : Int32 → St → Prop} (hw : wp_Ans_rowAt post o l1 x) : Met l y_Ans_rowAt (wsOf y_Ans_rowAt b_Ans_rowAt 2 (some (.int))) ({ frames := 0, cells := 0, slots := 0, locals := 0 }) (va_Pc [.ref (ad o), .int l1] (PVc dC dI cI cB cJ cZ ad stC kcC NN E tM tC kK kV sz x)) (va_Qi (fun (r : Int32) (y : St) => post r y) (fun y t => Wd dC dI cI cB cJ cZ ad stC kcC NN (va_A (pic ad stC kcC NN cI cB cJ cZ x) sz) y t.heap) (va_A (pic ad stC kcC NN cI cB cJ cZ x) sz)) 0 0 (va_A (pic ad stC kcC NN cI cB cJ cZ x) sz) := by
  refine Met.ofW (cc := b_Ans_rowAt) (maxL := 2) (ret := some (.int)) (by decide) rfl ?_
  intro p e s m args below meth c s₁ B hml hv
  obtain ⟨rfl, ⟨hsz, hW0, hK, hN⟩, hE⟩ := hv
  have hx := B.exec
  have hb := B.bytes
  have hr := B.returns
  have hts := atoms_spec B.pre
  have hT : ∀ w ∈ TG, w.before _ s = true := fun w h => hts w (List.mem_cons_of_mem _ h)
  have hown : s.vm.findClass R_Ans = some m.cls := findClass_of_methodNamed B.named
  have hlocks := B.notSynchronized
  subst hsz
  have hW : Wd dC dI cI cB cJ cZ ad stC kcC NN (va_A (pic ad stC kcC NN cI cB cJ cZ x) s.heap.size) x s.heap := ⟨hW0.1, hW0.2.1.self (sz := s.heap.size), hW0.2.2⟩
  generalize hAe : va_A (pic ad stC kcC NN cI cB cJ cZ x) s.heap.size = A at hW hE ⊢
  have hA : ∀ q : Nat, s.heap.size ≤ q → A q := fun q h => by rw [← hAe]; exact Or.inr h
  have hS : va_S A s.heap s.heap [] := va_S.rf
  have hl := lv_entry ([.ref (ad o), .int l1]) (n := 2) (Nat.le_of_ble_eq_true rfl)
  rw [lg_entry_eq]
  generalize (lg_sl ([.ref (ad o), .int l1]) ++ List.replicate (2 - (lg_sl ([.ref (ad o), .int l1])).length) Slot.unset).toArray = ls at hl ⊢
  have hl : lv_has ls 2 [(0, .ref (ad o)), (1, .int l1)] := hl
  exact t_Ans_rowAt_e hx hb hml hown hT hK hN hA (Nat.le_refl 0) (Nat.le_refl 0) (Nat.le_refl 0) (Nat.le_refl 0) hNN hE (fun r x H locs pc ls hd hp hW hS => W.iret (v := r) hx hb hr (fun t ht hM => ⟨⟨r, x, rfl, hp, Wd.back hW ht.symm (fun _ z => z)⟩, hS.F ht⟩) hS.2.2 hd hlocks)  o l1 x _ _ ls fo hw hW hS hl
set_option maxRecDepth 100000 in
set_option maxHeartbeats 4000000 in
set_option maxRecDepth 100000 in
theorem t_V_row_e {p : Program} {l : Launch} {e : Env} {R : Room} {s : State} {m : MethodId} {args : Array Value} {below : List Frame} {meth : Method} {c : Code} {cells slots : Nat} {Q : State → Prop} {dC : Nat → ClassId} {dI : Nat → Nat → Nat} {cI cB cJ cZ : ClassId} {A : Nat → Prop} {ad : Nat → Nat} {NN : Nat} {E : Heap} {tM tC : Nat} {kK kV : Nat → Nat} {post : Int32 → St → Prop} (hx : p.tables.exec = Jvm.exec) (hb : c.code = b_V_row) (hml : c.maxLocals = 2) (hown : s.vm.findClass R_V = some m.cls) (hT : ∀ w ∈ TG, w.before args s = true) (hK : va_K (dC, dI) CL (TY cI cB cJ cZ) s) (hN : NW s) (hA : ∀ q : Nat, s.heap.size ≤ q → A q) (hRc : cells ≤ R.cells) (hRs : slots ≤ R.slots) (hRf : 1 ≤ R.frames) (hRl : 21 ≤ R.locals) (hNN : 152 ≤ NN) (hE : CE E tM tC kK kV A s) (hret : ∀ (r : Int32) (x : St) (H : Heap) (locs : List Loc) (pc : Nat) (ls : Array Slot), decode b_V_row pc = .ok (.ireturn, 1) → post r x → Wd dC dI cI cB cJ cZ ad stC kcC NN A x H → va_S A s.heap H locs → W p l e R s m args below meth c H locs cells slots Q (F0 m pc ls [.int r])) : ∀ (o : Nat) (l1 : Int32) (x : St) (H : Heap) (locs : List Loc) (ls : Array Slot), (o < NN ∧ kcC o = 0) → wp_V_row post o l1 x → Wd dC dI cI cB cJ cZ ad stC kcC NN A x H → va_S A s.heap H locs → lv_has ls 2 [(0, .ref (ad o)), (1, .int l1)] → W p l e R s m args below meth c H locs cells slots Q (F0 m 0 ls []) := by
  intro o l1 x H locs ls fo hw hW hS hl
  unfold wp_V_row at hw
  refine lv_aload_n hx hb d_V_row_0 rfl (lv_at hl 0 rfl) ?_
  obtain ⟨q1, hq1, hw⟩ := hw
  refine w_getr (q := q1) (k := 12) (t := 0) (C := R_V) (T := F_V) (N := 15) hx hb hT hown hK hW fo.1 fo.2 (by decide) in_V rfl rfl (by decide) rfl fr_V_12 w_4_7 d_V_row_1 hq1 (fun aq1 bq1 => ?_)
  have fq1 : q1 < NN ∧ kcC q1 = 10 := ⟨aq1, bq1⟩
  refine lv_iload_n hx hb d_V_row_4 rfl (lv_at hl 1 rfl) ?_
  have hF := hW.free hS hA
  refine va_calli (va_runV (C := R_Ans) (As := [.int l1]) (rest := []) ⟨hx, hb, hml, hown, hT⟩ (k_Ans_rowAt l dC dI cI cB cJ cZ ad NN E tM tC kK kV hNN H.size q1 l1 x fq1 hw) ⟨callB_of 1 hT (gwt_in w_8_134) rfl rfl rfl (hT _ w_1_13) (hT _ w_8_131) (by decide +kernel) ⟨Nat.le_trans (Nat.le_of_ble_eq_true rfl) hRf, Nat.le_trans (Nat.le_of_ble_eq_true rfl) hRl⟩, hT _ w_8_132, hT _ w_8_133⟩ ⟨PVc.blind, va_recv hK hW.1 (ci := 10) (q0 := q1) rfl (pic_obj fq1.1 fq1.2 (by decide)), PVc.at _ hW hK hN hE hS hF⟩ rfl rfl hl.1 rfl (lv_room (Nat.le_of_ble_eq_true rfl)) d_V_row_5 ⟨hRc, hRs⟩) hS (fun q _ h => hF q h) hF (fun r3 x2 t H locs ht hvm hw hB hz1 hk1 hS => ?_)
  have hW := Wd.back hB ht hF
  clear hB ht hF hz1 hk1 hvm
  exact hret r3 x2 H locs 8 ls d_V_row_8 hw hW hS
set_option maxHeartbeats 4000000 in
set_option maxRecDepth 100000 in
theorem k_V_row (l : Launch) (dC : Nat → ClassId) (dI : Nat → Nat → Nat) (cI cB cJ cZ : ClassId) (ad : Nat → Nat) (NN : Nat) (E : Heap) (tM tC : Nat) (kK kV : Nat → Nat) (hNN : 152 ≤ NN) (sz : Nat) (o : Nat) (l1 : Int32) (x : St) (fo : o < NN ∧ kcC o = 0) {post : Int32 → St → Prop} (hw : wp_V_row post o l1 x) : Met l y_V_row (wsOf y_V_row b_V_row 2 (some (.int))) ({ frames := 1, cells := 0, slots := 0, locals := 21 }) (va_Pc [.ref (ad o), .int l1] (PVc dC dI cI cB cJ cZ ad stC kcC NN E tM tC kK kV sz x)) (va_Qi (fun (r : Int32) (y : St) => post r y) (fun y t => Wd dC dI cI cB cJ cZ ad stC kcC NN (va_A (pic ad stC kcC NN cI cB cJ cZ x) sz) y t.heap) (va_A (pic ad stC kcC NN cI cB cJ cZ x) sz)) 0 0 (va_A (pic ad stC kcC NN cI cB cJ cZ x) sz) := by
  refine Met.ofW (cc := b_V_row) (maxL := 2) (ret := some (.int)) (by decide) rfl ?_
  intro p e s m args below meth c s₁ B hml hv
  obtain ⟨rfl, ⟨hsz, hW0, hK, hN⟩, hE⟩ := hv
  have hx := B.exec
  have hb := B.bytes
  have hr := B.returns
  have hts := atoms_spec B.pre
  have hT : ∀ w ∈ TG, w.before _ s = true := fun w h => hts w (List.mem_cons_of_mem _ h)
  have hown : s.vm.findClass R_V = some m.cls := findClass_of_methodNamed B.named
  have hlocks := B.notSynchronized
  subst hsz
  have hW : Wd dC dI cI cB cJ cZ ad stC kcC NN (va_A (pic ad stC kcC NN cI cB cJ cZ x) s.heap.size) x s.heap := ⟨hW0.1, hW0.2.1.self (sz := s.heap.size), hW0.2.2⟩
  generalize hAe : va_A (pic ad stC kcC NN cI cB cJ cZ x) s.heap.size = A at hW hE ⊢
  have hA : ∀ q : Nat, s.heap.size ≤ q → A q := fun q h => by rw [← hAe]; exact Or.inr h
  have hS : va_S A s.heap s.heap [] := va_S.rf
  have hl := lv_entry ([.ref (ad o), .int l1]) (n := 2) (Nat.le_of_ble_eq_true rfl)
  rw [lg_entry_eq]
  generalize (lg_sl ([.ref (ad o), .int l1]) ++ List.replicate (2 - (lg_sl ([.ref (ad o), .int l1])).length) Slot.unset).toArray = ls at hl ⊢
  have hl : lv_has ls 2 [(0, .ref (ad o)), (1, .int l1)] := hl
  exact t_V_row_e hx hb hml hown hT hK hN hA (Nat.le_refl 0) (Nat.le_refl 0) (Nat.le_refl 1) (Nat.le_refl 21) hNN hE (fun r x H locs pc ls hd hp hW hS => W.iret (v := r) hx hb hr (fun t ht hM => ⟨⟨r, x, rfl, hp, Wd.back hW ht.symm (fun _ z => z)⟩, hS.F ht⟩) hS.2.2 hd hlocks)  o l1 x _ _ ls fo hw hW hS hl
set_option maxRecDepth 100000 in
set_option maxHeartbeats 4000000 in
set_option maxRecDepth 100000 in
theorem t_Ans_placeOf_43 {p : Program} {l : Launch} {e : Env} {R : Room} {s : State} {m : MethodId} {args : Array Value} {below : List Frame} {meth : Method} {c : Code} {cells slots : Nat} {Q : State → Prop} {dC : Nat → ClassId} {dI : Nat → Nat → Nat} {cI cB cJ cZ : ClassId} {A : Nat → Prop} {ad : Nat → Nat} {NN : Nat} {E : Heap} {tM tC : Nat} {kK kV : Nat → Nat} {post : Int32 → St → Prop} (hx : p.tables.exec = Jvm.exec) (hb : c.code = b_Ans_placeOf) (hml : c.maxLocals = 4) (hown : s.vm.findClass R_Ans = some m.cls) (hT : ∀ w ∈ TG, w.before args s = true) (hK : va_K (dC, dI) CL (TY cI cB cJ cZ) s) (hN : NW s) (hA : ∀ q : Nat, s.heap.size ≤ q → A q) (hRc : cells ≤ R.cells) (hRs : slots ≤ R.slots) (hRf : 0 ≤ R.frames) (hRl : 0 ≤ R.locals) (hNN : 152 ≤ NN) (hE : CE E tM tC kK kV A s) (hret : ∀ (r : Int32) (x : St) (H : Heap) (locs : List Loc) (pc : Nat) (ls : Array Slot), decode b_Ans_placeOf pc = .ok (.ireturn, 1) → post r x → Wd dC dI cI cB cJ cZ ad stC kcC NN A x H → va_S A s.heap H locs → W p l e R s m args below meth c H locs cells slots Q (F0 m pc ls [.int r]))  : ∀ (o : Nat) (l1 : Int32) (l2 : Int32) (s0 : Int32) (x : St) (H : Heap) (locs : List Loc) (ls : Array Slot), (o < NN ∧ kcC o = 10) → j_Ans_placeOf_43 post o l1 l2 s0 x → Wd dC dI cI cB cJ cZ ad stC kcC NN A x H → va_S A s.heap H locs → lv_has ls 4 [(0, .ref (ad o)), (1, .int l1), (2, .int l2)] → W p l e R s m args below meth c H locs cells slots Q (F0 m 43 ls [.int s0]) := by
  intro o l1 l2 s0 x H locs ls fo hw hW hS hl
  unfold j_Ans_placeOf_43 at hw
  refine lv_istore_n (lv' := [(3, .int s0), (0, .ref (ad o)), (1, .int l1), (2, .int l2)]) hx hb d_Ans_placeOf_43 rfl hl (by decide) rfl (fun ls hl => ?_)
  refine lv_iload_n hx hb d_Ans_placeOf_44 rfl (lv_at hl 0 rfl) ?_
  refine lv_if_eq (tgt := 57) hx hb d_Ans_placeOf_45 (by decide) (fun c1 => ?_) (fun c1 => ?_)
  · have hw := hw.1 c1
    refine lv_iconst (v := (-1)) hx hb d_Ans_placeOf_57 (by decide) ?_
    exact hret (-1) x H locs 58 ls d_Ans_placeOf_58 hw hW hS
  · have hw := hw.2 c1
    refine lv_iload_n hx hb d_Ans_placeOf_48 rfl (lv_at hl 2 rfl) ?_
    refine lv_bipush (v := 16) hx hb d_Ans_placeOf_49 (by decide) ?_
    refine lv_imul hx hb d_Ans_placeOf_51 ?_
    refine lv_iload_n hx hb d_Ans_placeOf_52 rfl (lv_at hl 3 rfl) ?_
    refine lv_iadd hx hb d_Ans_placeOf_53 ?_
    refine lv_goto (tgt := 58) hx hb d_Ans_placeOf_54 (by decide) ?_
    exact hret ((l1 * 16) + l2) x H locs 58 ls d_Ans_placeOf_58 hw hW hS
set_option maxRecDepth 100000 in
set_option maxHeartbeats 4000000 in
set_option maxRecDepth 100000 in
theorem t_Ans_placeOf_42 {p : Program} {l : Launch} {e : Env} {R : Room} {s : State} {m : MethodId} {args : Array Value} {below : List Frame} {meth : Method} {c : Code} {cells slots : Nat} {Q : State → Prop} {dC : Nat → ClassId} {dI : Nat → Nat → Nat} {cI cB cJ cZ : ClassId} {A : Nat → Prop} {ad : Nat → Nat} {NN : Nat} {E : Heap} {tM tC : Nat} {kK kV : Nat → Nat} {post : Int32 → St → Prop} (hx : p.tables.exec = Jvm.exec) (hb : c.code = b_Ans_placeOf) (hml : c.maxLocals = 4) (hown : s.vm.findClass R_Ans = some m.cls) (hT : ∀ w ∈ TG, w.before args s = true) (hK : va_K (dC, dI) CL (TY cI cB cJ cZ) s) (hN : NW s) (hA : ∀ q : Nat, s.heap.size ≤ q → A q) (hRc : cells ≤ R.cells) (hRs : slots ≤ R.slots) (hRf : 0 ≤ R.frames) (hRl : 0 ≤ R.locals) (hNN : 152 ≤ NN) (hE : CE E tM tC kK kV A s) (hret : ∀ (r : Int32) (x : St) (H : Heap) (locs : List Loc) (pc : Nat) (ls : Array Slot), decode b_Ans_placeOf pc = .ok (.ireturn, 1) → post r x → Wd dC dI cI cB cJ cZ ad stC kcC NN A x H → va_S A s.heap H locs → W p l e R s m args below meth c H locs cells slots Q (F0 m pc ls [.int r]))  : ∀ (o : Nat) (l1 : Int32) (l2 : Int32) (x : St) (H : Heap) (locs : List Loc) (ls : Array Slot), (o < NN ∧ kcC o = 10) → j_Ans_placeOf_42 post o l1 l2 x → Wd dC dI cI cB cJ cZ ad stC kcC NN A x H → va_S A s.heap H locs → lv_has ls 4 [(0, .ref (ad o)), (1, .int l1), (2, .int l2)] → W p l e R s m args below meth c H locs cells slots Q (F0 m 42 ls []) := by
  intro o l1 l2 x H locs ls fo hw hW hS hl
  unfold j_Ans_placeOf_42 at hw
  refine lv_iconst (v := 0) hx hb d_Ans_placeOf_42 (by decide) ?_
  exact t_Ans_placeOf_43 hx hb hml hown hT hK hN hA hRc hRs hRf hRl hNN hE hret  o l1 l2 0 x H locs ls fo hw hW hS (lv_sub hl [0, 1, 2] rfl)
set_option maxRecDepth 100000 in
set_option maxHeartbeats 4000000 in
set_option maxRecDepth 100000 in
theorem t_Ans_placeOf_e {p : Program} {l : Launch} {e : Env} {R : Room} {s : State} {m : MethodId} {args : Array Value} {below : List Frame} {meth : Method} {c : Code} {cells slots : Nat} {Q : State → Prop} {dC : Nat → ClassId} {dI : Nat → Nat → Nat} {cI cB cJ cZ : ClassId} {A : Nat → Prop} {ad : Nat → Nat} {NN : Nat} {E : Heap} {tM tC : Nat} {kK kV : Nat → Nat} {post : Int32 → St → Prop} (hx : p.tables.exec = Jvm.exec) (hb : c.code = b_Ans_placeOf) (hml : c.maxLocals = 4) (hown : s.vm.findClass R_Ans = some m.cls) (hT : ∀ w ∈ TG, w.before args s = true) (hK : va_K (dC, dI) CL (TY cI cB cJ cZ) s) (hN : NW s) (hA : ∀ q : Nat, s.heap.size ≤ q → A q) (hRc : cells ≤ R.cells) (hRs : slots ≤ R.slots) (hRf : 0 ≤ R.frames) (hRl : 0 ≤ R.locals) (hNN : 152 ≤ NN) (hE : CE E tM tC kK kV A s) (hret : ∀ (r : Int32) (x : St) (H : Heap) (locs : List Loc) (pc : Nat) (ls : Array Slot), decode b_Ans_placeOf pc = .ok (.ireturn, 1) → post r x → Wd dC dI cI cB cJ cZ ad stC kcC NN A x H → va_S A s.heap H locs → W p l e R s m args below meth c H locs cells slots Q (F0 m pc ls [.int r])) : ∀ (o : Nat) (l1 : Int32) (l2 : Int32) (x : St) (H : Heap) (locs : List Loc) (ls : Array Slot), (o < NN ∧ kcC o = 10) → wp_Ans_placeOf post o l1 l2 x → Wd dC dI cI cB cJ cZ ad stC kcC NN A x H → va_S A s.heap H locs → lv_has ls 4 [(0, .ref (ad o)), (1, .int l1), (2, .int l2)] → W p l e R s m args below meth c H locs cells slots Q (F0 m 0 ls []) := by
  intro o l1 l2 x H locs ls fo hw hW hS hl
  unfold wp_Ans_placeOf at hw
  refine lv_aload_n hx hb d_Ans_placeOf_0 rfl (lv_at hl 0 rfl) ?_
  refine w_geti (k := 0) (t := 10) (C := R_Ans) (T := F_Ans) (N := 16) hx hb hT hown hK hW fo.1 fo.2 (by decide) in_Ans rfl rfl (by decide) rfl fr_Ans_0 w_3_155 d_Ans_placeOf_1 ?_
  refine lv_if_eq (tgt := 42) hx hb d_Ans_placeOf_4 (by decide) (fun c2 => ?_) (fun c2 => ?_)
  · have hw := hw.1 c2
    exact t_Ans_placeOf_42 hx hb hml hown hT hK hN hA hRc hRs hRf hRl hNN hE hret  o l1 l2 x H locs ls fo hw hW hS (lv_sub hl [0, 1, 2] rfl)
  · have hw := hw.2 c2
    refine lv_aload_n hx hb d_Ans_placeOf_7 rfl (lv_at hl 0 rfl) ?_
    refine w_geti (k := 6) (t := 10) (C := R_Ans) (T := F_Ans) (N := 16) hx hb hT hown hK hW fo.1 fo.2 (by decide) in_Ans rfl rfl (by decide) rfl fr_Ans_6 w_3_166 d_Ans_placeOf_8 ?_
    refine lv_if_eq (tgt := 42) hx hb d_Ans_placeOf_11 (by decide) (fun c3 => ?_) (fun c3 => ?_)
    · have hw := hw.1 c3
      exact t_Ans_placeOf_42 hx hb hml hown hT hK hN hA hRc hRs hRf hRl hNN hE hret  o l1 l2 x H locs ls fo hw hW hS (lv_sub hl [0, 1, 2] rfl)
    · have hw := hw.2 c3
      refine lv_iload_n hx hb d_Ans_placeOf_14 rfl (lv_at hl 1 rfl) ?_
      refine lv_if_lt (tgt := 42) hx hb d_Ans_placeOf_15 (by decide) (fun c4 => ?_) (fun c4 => ?_)
      · have hw := hw.1 c4
        exact t_Ans_placeOf_42 hx hb hml hown hT hK hN hA hRc hRs hRf hRl hNN hE hret  o l1 l2 x H locs ls fo hw hW hS (lv_sub hl [0, 1, 2] rfl)
      · have hw := hw.2 c4
        refine lv_iload_n hx hb d_Ans_placeOf_18 rfl (lv_at hl 1 rfl) ?_
        refine lv_aload_n hx hb d_Ans_placeOf_19 rfl (lv_at hl 0 rfl) ?_
        refine w_geti (k := 1) (t := 10) (C := R_Ans) (T := F_Ans) (N := 16) hx hb hT hown hK hW fo.1 fo.2 (by decide) in_Ans rfl rfl (by decide) rfl fr_Ans_1 w_3_157 d_Ans_placeOf_20 ?_
        refine lv_icmp_ge (tgt := 42) hx hb d_Ans_placeOf_23 (by decide) (fun c5 => ?_) (fun c5 => ?_)
        · have hw := hw.1 c5
          exact t_Ans_placeOf_42 hx hb hml hown hT hK hN hA hRc hRs hRf hRl hNN hE hret  o l1 l2 x H locs ls fo hw hW hS (lv_sub hl [0, 1, 2] rfl)
        · have hw := hw.2 c5
          refine lv_iload_n hx hb d_Ans_placeOf_26 rfl (lv_at hl 2 rfl) ?_
          refine lv_if_lt (tgt := 42) hx hb d_Ans_placeOf_27 (by decide) (fun c6 => ?_) (fun c6 => ?_)
          · have hw := hw.1 c6
            exact t_Ans_placeOf_42 hx hb hml hown hT hK hN hA hRc hRs hRf hRl hNN hE hret  o l1 l2 x H locs ls fo hw hW hS (lv_sub hl [0, 1, 2] rfl)
          · have hw := hw.2 c6
            refine lv_iload_n hx hb d_Ans_placeOf_30 rfl (lv_at hl 2 rfl) ?_
            refine lv_aload_n hx hb d_Ans_placeOf_31 rfl (lv_at hl 0 rfl) ?_
            refine w_geti (k := 7) (t := 10) (C := R_Ans) (T := F_Ans) (N := 16) hx hb hT hown hK hW fo.1 fo.2 (by decide) in_Ans rfl rfl (by decide) rfl fr_Ans_7 w_3_167 d_Ans_placeOf_32 ?_
            refine lv_icmp_ge (tgt := 42) hx hb d_Ans_placeOf_35 (by decide) (fun c7 => ?_) (fun c7 => ?_)
            · have hw := hw.1 c7
              exact t_Ans_placeOf_42 hx hb hml hown hT hK hN hA hRc hRs hRf hRl hNN hE hret  o l1 l2 x H locs ls fo hw hW hS (lv_sub hl [0, 1, 2] rfl)
            · have hw := hw.2 c7
              refine lv_iconst (v := 1) hx hb d_Ans_placeOf_38 (by decide) ?_
              refine lv_goto (tgt := 43) hx hb d_Ans_placeOf_39 (by decide) ?_
              exact t_Ans_placeOf_43 hx hb hml hown hT hK hN hA hRc hRs hRf hRl hNN hE hret  o l1 l2 1 x H locs ls fo hw hW hS (lv_sub hl [0, 1, 2] rfl)
set_option maxHeartbeats 4000000 in
set_option maxRecDepth 100000 in
theorem k_Ans_placeOf (l : Launch) (dC : Nat → ClassId) (dI : Nat → Nat → Nat) (cI cB cJ cZ : ClassId) (ad : Nat → Nat) (NN : Nat) (E : Heap) (tM tC : Nat) (kK kV : Nat → Nat) (hNN : 152 ≤ NN) (sz : Nat) (o : Nat) (l1 : Int32) (l2 : Int32) (x : St) (fo : o < NN ∧ kcC o = 10) {post : Int32 → St → Prop} (hw : wp_Ans_placeOf post o l1 l2 x) : Met l y_Ans_placeOf (wsOf y_Ans_placeOf b_Ans_placeOf 4 (some (.int))) ({ frames := 0, cells := 0, slots := 0, locals := 0 }) (va_Pc [.ref (ad o), .int l1, .int l2] (PVc dC dI cI cB cJ cZ ad stC kcC NN E tM tC kK kV sz x)) (va_Qi (fun (r : Int32) (y : St) => post r y) (fun y t => Wd dC dI cI cB cJ cZ ad stC kcC NN (va_A (pic ad stC kcC NN cI cB cJ cZ x) sz) y t.heap) (va_A (pic ad stC kcC NN cI cB cJ cZ x) sz)) 0 0 (va_A (pic ad stC kcC NN cI cB cJ cZ x) sz) := by
  refine Met.ofW (cc := b_Ans_placeOf) (maxL := 4) (ret := some (.int)) (by decide) rfl ?_
  intro p e s m args below meth c s₁ B hml hv
  obtain ⟨rfl, ⟨hsz, hW0, hK, hN⟩, hE⟩ := hv
  have hx := B.exec
  have hb := B.bytes
  have hr := B.returns
  have hts := atoms_spec B.pre
  have hT : ∀ w ∈ TG, w.before _ s = true := fun w h => hts w (List.mem_cons_of_mem _ h)
  have hown : s.vm.findClass R_Ans = some m.cls := findClass_of_methodNamed B.named
  have hlocks := B.notSynchronized
  subst hsz
  have hW : Wd dC dI cI cB cJ cZ ad stC kcC NN (va_A (pic ad stC kcC NN cI cB cJ cZ x) s.heap.size) x s.heap := ⟨hW0.1, hW0.2.1.self (sz := s.heap.size), hW0.2.2⟩
  generalize hAe : va_A (pic ad stC kcC NN cI cB cJ cZ x) s.heap.size = A at hW hE ⊢
  have hA : ∀ q : Nat, s.heap.size ≤ q → A q := fun q h => by rw [← hAe]; exact Or.inr h
  have hS : va_S A s.heap s.heap [] := va_S.rf
  have hl := lv_entry ([.ref (ad o), .int l1, .int l2]) (n := 4) (Nat.le_of_ble_eq_true rfl)
  rw [lg_entry_eq]
  generalize (lg_sl ([.ref (ad o), .int l1, .int l2]) ++ List.replicate (4 - (lg_sl ([.ref (ad o), .int l1, .int l2])).length) Slot.unset).toArray = ls at hl ⊢
  have hl : lv_has ls 4 [(0, .ref (ad o)), (1, .int l1), (2, .int l2)] := hl
  exact t_Ans_placeOf_e hx hb hml hown hT hK hN hA (Nat.le_refl 0) (Nat.le_refl 0) (Nat.le_refl 0) (Nat.le_refl 0) hNN hE (fun r x H locs pc ls hd hp hW hS => W.iret (v := r) hx hb hr (fun t ht hM => ⟨⟨r, x, rfl, hp, Wd.back hW ht.symm (fun _ z => z)⟩, hS.F ht⟩) hS.2.2 hd hlocks)  o l1 l2 x _ _ ls fo hw hW hS hl
set_option maxRecDepth 100000 in
set_option maxHeartbeats 4000000 in
set_option maxRecDepth 100000 in
theorem t_V_kind_e {p : Program} {l : Launch} {e : Env} {R : Room} {s : State} {m : MethodId} {args : Array Value} {below : List Frame} {meth : Method} {c : Code} {cells slots : Nat} {Q : State → Prop} {dC : Nat → ClassId} {dI : Nat → Nat → Nat} {cI cB cJ cZ : ClassId} {A : Nat → Prop} {ad : Nat → Nat} {NN : Nat} {E : Heap} {tM tC : Nat} {kK kV : Nat → Nat} {post : Int32 → St → Prop} (hx : p.tables.exec = Jvm.exec) (hb : c.code = b_V_kind) (hml : c.maxLocals = 4) (hown : s.vm.findClass R_V = some m.cls) (hT : ∀ w ∈ TG, w.before args s = true) (hK : va_K (dC, dI) CL (TY cI cB cJ cZ) s) (hN : NW s) (hA : ∀ q : Nat, s.heap.size ≤ q → A q) (hRc : cells ≤ R.cells) (hRs : slots ≤ R.slots) (hRf : 1 ≤ R.frames) (hRl : 23 ≤ R.locals) (hNN : 152 ≤ NN) (hE : CE E tM tC kK kV A s) (hret : ∀ (r : Int32) (x : St) (H : Heap) (locs : List Loc) (pc : Nat) (ls : Array Slot), decode b_V_kind pc = .ok (.ireturn, 1) → post r x → Wd dC dI cI cB cJ cZ ad stC kcC NN A x H → va_S A s.heap H locs → W p l e R s m args below meth c H locs cells slots Q (F0 m pc ls [.int r])) : ∀ (o : Nat) (l1 : Int32) (l2 : Int32) (x : St) (H : Heap) (locs : List Loc) (ls : Array Slot), (o < NN ∧ kcC o = 0) → wp_V_kind post o l1 l2 x → Wd dC dI cI cB cJ cZ ad stC kcC NN A x H → va_S A s.heap H locs → lv_has ls 4 [(0, .ref (ad o)), (1, .int l1), (2, .int l2)] → W p l e R s m args below meth c H locs cells slots Q (F0 m 0 ls []) := by
  intro o l1 l2 x H locs ls fo hw hW hS hl
  unfold wp_V_kind at hw
  refine lv_aload_n hx hb d_V_kind_0 rfl (lv_at hl 0 rfl) ?_
  obtain ⟨q1, hq1, hw⟩ := hw
  refine w_getr (q := q1) (k := 12) (t := 0) (C := R_V) (T := F_V) (N := 15) hx hb hT hown hK hW fo.1 fo.2 (by decide) in_V rfl rfl (by decide) rfl fr_V_12 w_4_7 d_V_kind_1 hq1 (fun aq1 bq1 => ?_)
  have fq1 : q1 < NN ∧ kcC q1 = 10 := ⟨aq1, bq1⟩
  refine lv_iload_n hx hb d_V_kind_4 rfl (lv_at hl 1 rfl) ?_
  refine lv_iload_n hx hb d_V_kind_5 rfl (lv_at hl 2 rfl) ?_
  have hF := hW.free hS hA
  refine va_calli (va_runV (C := R_Ans) (As := [.int l1, .int l2]) (rest := []) ⟨hx, hb, hml, hown, hT⟩ (k_Ans_placeOf l dC dI cI cB cJ cZ ad NN E tM tC kK kV hNN H.size q1 l1 l2 x fq1 hw) ⟨callB_of 2 hT (gwt_in w_8_146) rfl rfl rfl (hT _ w_1_13) (hT _ w_8_143) (by decide +kernel) ⟨Nat.le_trans (Nat.le_of_ble_eq_true rfl) hRf, Nat.le_trans (Nat.le_of_ble_eq_true rfl) hRl⟩, hT _ w_8_144, hT _ w_8_145⟩ ⟨PVc.blind, va_recv hK hW.1 (ci := 10) (q0 := q1) rfl (pic_obj fq1.1 fq1.2 (by decide)), PVc.at _ hW hK hN hE hS hF⟩ rfl rfl hl.1 rfl (lv_room (Nat.le_of_ble_eq_true rfl)) d_V_kind_6 ⟨hRc, hRs⟩) hS (fun q _ h => hF q h) hF (fun r3 x2 t H locs ht hvm hw hB hz1 hk1 hS => ?_)
  have hW := Wd.back hB ht hF
  clear hB ht hF hz1 hk1 hvm
  refine lv_istore_n (lv' := [(3, .int r3), (0, .ref (ad o)), (1, .int l1), (2, .int l2)]) hx hb d_V_kind_9 rfl hl (by decide) rfl (fun ls hl => ?_)
  refine lv_iload_n hx hb d_V_kind_10 rfl (lv_at hl 0 rfl) ?_
  refine lv_iconst (v := (-1)) hx hb d_V_kind_11 (by decide) ?_
  refine lv_icmp_ne (tgt := 19) hx hb d_V_kind_12 (by decide) (fun c4 => ?_) (fun c4 => ?_)
  · have hw := hw.1 c4
    refine lv_aload_n hx hb d_V_kind_19 rfl (lv_at hl 1 rfl) ?_
    obtain ⟨q5, hq5, hw⟩ := hw
    refine w_getr (q := q5) (k := 12) (t := 0) (C := R_V) (T := F_V) (N := 15) hx hb hT hown hK hW fo.1 fo.2 (by decide) in_V rfl rfl (by decide) rfl fr_V_12 w_4_7 d_V_kind_20 hq5 (fun aq5 bq5 => ?_)
    have fq5 : q5 < NN ∧ kcC q5 = 10 := ⟨aq5, bq5⟩
    refine w_getf (q := (stC q5 8)) (k := 8) (t := 10) (C := R_Ans) (T := F_Ans) (N := 16) hx hb hT hown hK hW fq5.1 fq5.2 (by decide) in_Ans rfl rfl (by decide) rfl fr_Ans_8 w_3_169 d_V_kind_23 rfl ?_
    refine lv_iload_n hx hb d_V_kind_26 rfl (lv_at hl 0 rfl) ?_
    obtain ⟨hi, hw⟩ := hw
    refine w_bald (o := (stC q5 8)) hx hb hK hW (st_ty hNN fq5.1 fq5.2 rfl).1 (st_ty hNN fq5.1 fq5.2 rfl).2 hi d_V_kind_27 ?_
    exact hret (rA x2 (stC q5 8) r3) x2 H locs 28 ls d_V_kind_28 hw hW hS
  · have hw := hw.2 c4
    refine lv_iconst (v := (-1)) hx hb d_V_kind_15 (by decide) ?_
    refine lv_goto (tgt := 28) hx hb d_V_kind_16 (by decide) ?_
    exact hret (-1) x2 H locs 28 ls d_V_kind_28 hw hW hS
set_option maxHeartbeats 4000000 in
set_option maxRecDepth 100000 in
theorem k_V_kind (l : Launch) (dC : Nat → ClassId) (dI : Nat → Nat → Nat) (cI cB cJ cZ : ClassId) (ad : Nat → Nat) (NN : Nat) (E : Heap) (tM tC : Nat) (kK kV : Nat → Nat) (hNN : 152 ≤ NN) (sz : Nat) (o : Nat) (l1 : Int32) (l2 : Int32) (x : St) (fo : o < NN ∧ kcC o = 0) {post : Int32 → St → Prop} (hw : wp_V_kind post o l1 l2 x) : Met l y_V_kind (wsOf y_V_kind b_V_kind 4 (some (.int))) ({ frames := 1, cells := 0, slots := 0, locals := 23 }) (va_Pc [.ref (ad o), .int l1, .int l2] (PVc dC dI cI cB cJ cZ ad stC kcC NN E tM tC kK kV sz x)) (va_Qi (fun (r : Int32) (y : St) => post r y) (fun y t => Wd dC dI cI cB cJ cZ ad stC kcC NN (va_A (pic ad stC kcC NN cI cB cJ cZ x) sz) y t.heap) (va_A (pic ad stC kcC NN cI cB cJ cZ x) sz)) 0 0 (va_A (pic ad stC kcC NN cI cB cJ cZ x) sz) := by
  refine Met.ofW (cc := b_V_kind) (maxL := 4) (ret := some (.int)) (by decide) rfl ?_
  intro p e s m args below meth c s₁ B hml hv
  obtain ⟨rfl, ⟨hsz, hW0, hK, hN⟩, hE⟩ := hv
  have hx := B.exec
  have hb := B.bytes
  have hr := B.returns
  have hts := atoms_spec B.pre
  have hT : ∀ w ∈ TG, w.before _ s = true := fun w h => hts w (List.mem_cons_of_mem _ h)
  have hown : s.vm.findClass R_V = some m.cls := findClass_of_methodNamed B.named
  have hlocks := B.notSynchronized
  subst hsz
  have hW : Wd dC dI cI cB cJ cZ ad stC kcC NN (va_A (pic ad stC kcC NN cI cB cJ cZ x) s.heap.size) x s.heap := ⟨hW0.1, hW0.2.1.self (sz := s.heap.size), hW0.2.2⟩
  generalize hAe : va_A (pic ad stC kcC NN cI cB cJ cZ x) s.heap.size = A at hW hE ⊢
  have hA : ∀ q : Nat, s.heap.size ≤ q → A q := fun q h => by rw [← hAe]; exact Or.inr h
  have hS : va_S A s.heap s.heap [] := va_S.rf
  have hl := lv_entry ([.ref (ad o), .int l1, .int l2]) (n := 4) (Nat.le_of_ble_eq_true rfl)
  rw [lg_entry_eq]
  generalize (lg_sl ([.ref (ad o), .int l1, .int l2]) ++ List.replicate (4 - (lg_sl ([.ref (ad o), .int l1, .int l2])).length) Slot.unset).toArray = ls at hl ⊢
  have hl : lv_has ls 4 [(0, .ref (ad o)), (1, .int l1), (2, .int l2)] := hl
  exact t_V_kind_e hx hb hml hown hT hK hN hA (Nat.le_refl 0) (Nat.le_refl 0) (Nat.le_refl 1) (Nat.le_refl 23) hNN hE (fun r x H locs pc ls hd hp hW hS => W.iret (v := r) hx hb hr (fun t ht hM => ⟨⟨r, x, rfl, hp, Wd.back hW ht.symm (fun _ z => z)⟩, hS.F ht⟩) hS.2.2 hd hlocks)  o l1 l2 x _ _ ls fo hw hW hS hl
set_option maxRecDepth 100000 in
set_option maxHeartbeats 4000000 in
set_option maxRecDepth 100000 in
theorem t_V_value_40 {p : Program} {l : Launch} {e : Env} {R : Room} {s : State} {m : MethodId} {args : Array Value} {below : List Frame} {meth : Method} {c : Code} {cells slots : Nat} {Q : State → Prop} {dC : Nat → ClassId} {dI : Nat → Nat → Nat} {cI cB cJ cZ : ClassId} {A : Nat → Prop} {ad : Nat → Nat} {NN : Nat} {E : Heap} {tM tC : Nat} {kK kV : Nat → Nat} {post : Int64 → St → Prop} (hx : p.tables.exec = Jvm.exec) (hb : c.code = b_V_value) (hml : c.maxLocals = 4) (hown : s.vm.findClass R_V = some m.cls) (hT : ∀ w ∈ TG, w.before args s = true) (hK : va_K (dC, dI) CL (TY cI cB cJ cZ) s) (hN : NW s) (hA : ∀ q : Nat, s.heap.size ≤ q → A q) (hRc : cells ≤ R.cells) (hRs : slots ≤ R.slots) (hRf : 1 ≤ R.frames) (hRl : 23 ≤ R.locals) (hNN : 152 ≤ NN) (hE : CE E tM tC kK kV A s) (hret : ∀ (r : Int64) (x : St) (H : Heap) (locs : List Loc) (pc : Nat) (ls : Array Slot), decode b_V_value pc = .ok (.lreturn, 1) → post r x → Wd dC dI cI cB cJ cZ ad stC kcC NN A x H → va_S A s.heap H locs → W p l e R s m args below meth c H locs cells slots Q (F0 m pc ls [.long r]))  : ∀ (o : Nat) (l1 : Int32) (l2 : Int32) (l3 : Int32) (x : St) (H : Heap) (locs : List Loc) (ls : Array Slot), (o < NN ∧ kcC o = 0) → j_V_value_40 post o l1 l2 l3 x → Wd dC dI cI cB cJ cZ ad stC kcC NN A x H → va_S A s.heap H locs → lv_has ls 4 [(0, .ref (ad o)), (1, .int l1), (2, .int l2), (3, .int l3)] → W p l e R s m args below meth c H locs cells slots Q (F0 m 40 ls []) := by
  intro o l1 l2 l3 x H locs ls fo hw hW hS hl
  unfold j_V_value_40 at hw
  refine lv_lconst (v := 0) hx hb d_V_value_40 (by decide) ?_
  refine lv_goto (tgt := 53) hx hb d_V_value_41 (by decide) ?_
  exact hret 0 x H locs 53 ls d_V_value_53 hw hW hS
set_option maxRecDepth 100000 in
set_option maxHeartbeats 4000000 in
set_option maxRecDepth 100000 in
theorem t_V_value_e {p : Program} {l : Launch} {e : Env} {R : Room} {s : State} {m : MethodId} {args : Array Value} {below : List Frame} {meth : Method} {c : Code} {cells slots : Nat} {Q : State → Prop} {dC : Nat → ClassId} {dI : Nat → Nat → Nat} {cI cB cJ cZ : ClassId} {A : Nat → Prop} {ad : Nat → Nat} {NN : Nat} {E : Heap} {tM tC : Nat} {kK kV : Nat → Nat} {post : Int64 → St → Prop} (hx : p.tables.exec = Jvm.exec) (hb : c.code = b_V_value) (hml : c.maxLocals = 4) (hown : s.vm.findClass R_V = some m.cls) (hT : ∀ w ∈ TG, w.before args s = true) (hK : va_K (dC, dI) CL (TY cI cB cJ cZ) s) (hN : NW s) (hA : ∀ q : Nat, s.heap.size ≤ q → A q) (hRc : cells ≤ R.cells) (hRs : slots ≤ R.slots) (hRf : 1 ≤ R.frames) (hRl : 23 ≤ R.locals) (hNN : 152 ≤ NN) (hE : CE E tM tC kK kV A s) (hret : ∀ (r : Int64) (x : St) (H : Heap) (locs : List Loc) (pc : Nat) (ls : Array Slot), decode b_V_value pc = .ok (.lreturn, 1) → post r x → Wd dC dI cI cB cJ cZ ad stC kcC NN A x H → va_S A s.heap H locs → W p l e R s m args below meth c H locs cells slots Q (F0 m pc ls [.long r])) : ∀ (o : Nat) (l1 : Int32) (l2 : Int32) (x : St) (H : Heap) (locs : List Loc) (ls : Array Slot), (o < NN ∧ kcC o = 0) → wp_V_value post o l1 l2 x → Wd dC dI cI cB cJ cZ ad stC kcC NN A x H → va_S A s.heap H locs → lv_has ls 4 [(0, .ref (ad o)), (1, .int l1), (2, .int l2)] → W p l e R s m args below meth c H locs cells slots Q (F0 m 0 ls []) := by
  intro o l1 l2 x H locs ls fo hw hW hS hl
  unfold wp_V_value at hw
  refine lv_aload_n hx hb d_V_value_0 rfl (lv_at hl 0 rfl) ?_
  obtain ⟨q1, hq1, hw⟩ := hw
  refine w_getr (q := q1) (k := 12) (t := 0) (C := R_V) (T := F_V) (N := 15) hx hb hT hown hK hW fo.1 fo.2 (by decide) in_V rfl rfl (by decide) rfl fr_V_12 w_4_7 d_V_value_1 hq1 (fun aq1 bq1 => ?_)
  have fq1 : q1 < NN ∧ kcC q1 = 10 := ⟨aq1, bq1⟩
  refine lv_iload_n hx hb d_V_value_4 rfl (lv_at hl 1 rfl) ?_
  refine lv_iload_n hx hb d_V_value_5 rfl (lv_at hl 2 rfl) ?_
  have hF := hW.free hS hA
  refine va_calli (va_runV (C := R_Ans) (As := [.int l1, .int l2]) (rest := []) ⟨hx, hb, hml, hown, hT⟩ (k_Ans_placeOf l dC dI cI cB cJ cZ ad NN E tM tC kK kV hNN H.size q1 l1 l2 x fq1 hw) ⟨callB_of 2 hT (gwt_in w_8_146) rfl rfl rfl (hT _ w_1_13) (hT _ w_8_143) (by decide +kernel) ⟨Nat.le_trans (Nat.le_of_ble_eq_true rfl) hRf, Nat.le_trans (Nat.le_of_ble_eq_true rfl) hRl⟩, hT _ w_8_144, hT _ w_8_145⟩ ⟨PVc.blind, va_recv hK hW.1 (ci := 10) (q0 := q1) rfl (pic_obj fq1.1 fq1.2 (by decide)), PVc.at _ hW hK hN hE hS hF⟩ rfl rfl hl.1 rfl (lv_room (Nat.le_of_ble_eq_true rfl)) d_V_value_6 ⟨hRc, hRs⟩) hS (fun q _ h => hF q h) hF (fun r3 x2 t H locs ht hvm hw hB hz1 hk1 hS => ?_)
  have hW := Wd.back hB ht hF
  clear hB ht hF hz1 hk1 hvm
  refine lv_istore_n (lv' := [(3, .int r3), (0, .ref (ad o)), (1, .int l1), (2, .int l2)]) hx hb d_V_value_9 rfl hl (by decide) rfl (fun ls hl => ?_)
  refine lv_iload_n hx hb d_V_value_10 rfl (lv_at hl 0 rfl) ?_
  refine lv_iconst (v := (-1)) hx hb d_V_value_11 (by decide) ?_
  refine lv_icmp_eq (tgt := 40) hx hb d_V_value_12 (by decide) (fun c4 => ?_) (fun c4 => ?_)
  · have hw := hw.1 c4
    exact t_V_value_40 hx hb hml hown hT hK hN hA hRc hRs hRf hRl hNN hE hret  o l1 l2 r3 x2 H locs ls fo hw hW hS (lv_sub hl [1, 2, 3, 0] rfl)
  · have hw := hw.2 c4
    refine lv_aload_n hx hb d_V_value_15 rfl (lv_at hl 1 rfl) ?_
    obtain ⟨q5, hq5, hw⟩ := hw
    refine w_getr (q := q5) (k := 12) (t := 0) (C := R_V) (T := F_V) (N := 15) hx hb hT hown hK hW fo.1 fo.2 (by decide) in_V rfl rfl (by decide) rfl fr_V_12 w_4_7 d_V_value_16 hq5 (fun aq5 bq5 => ?_)
    have fq5 : q5 < NN ∧ kcC q5 = 10 := ⟨aq5, bq5⟩
    refine w_getf (q := (stC q5 8)) (k := 8) (t := 10) (C := R_Ans) (T := F_Ans) (N := 16) hx hb hT hown hK hW fq5.1 fq5.2 (by decide) in_Ans rfl rfl (by decide) rfl fr_Ans_8 w_3_169 d_V_value_19 rfl ?_
    refine lv_iload_n hx hb d_V_value_22 rfl (lv_at hl 0 rfl) ?_
    obtain ⟨hi, hw⟩ := hw
    refine w_bald (o := (stC q5 8)) hx hb hK hW (st_ty hNN fq5.1 fq5.2 rfl).1 (st_ty hNN fq5.1 fq5.2 rfl).2 hi d_V_value_23 ?_
    refine lv_if_eq (tgt := 40) hx hb d_V_value_24 (by decide) (fun c6 => ?_) (fun c6 => ?_)
    · have hw := hw.1 c6
      exact t_V_value_40 hx hb hml hown hT hK hN hA hRc hRs hRf hRl hNN hE hret  o l1 l2 r3 x2 H locs ls fo hw hW hS (lv_sub hl [1, 2, 3, 0] rfl)
    · have hw := hw.2 c6
      refine lv_aload_n hx hb d_V_value_27 rfl (lv_at hl 1 rfl) ?_
      obtain ⟨q7, hq7, hw⟩ := hw
      refine w_getr (q := q7) (k := 12) (t := 0) (C := R_V) (T := F_V) (N := 15) hx hb hT hown hK hW fo.1 fo.2 (by decide) in_V rfl rfl (by decide) rfl fr_V_12 w_4_7 d_V_value_28 hq7 (fun aq7 bq7 => ?_)
      have fq7 : q7 < NN ∧ kcC q7 = 10 := ⟨aq7, bq7⟩
      refine w_getf (q := (stC q7 8)) (k := 8) (t := 10) (C := R_Ans) (T := F_Ans) (N := 16) hx hb hT hown hK hW fq7.1 fq7.2 (by decide) in_Ans rfl rfl (by decide) rfl fr_Ans_8 w_3_169 d_V_value_31 rfl ?_
      refine lv_iload_n hx hb d_V_value_34 rfl (lv_at hl 0 rfl) ?_
      obtain ⟨hi, hw⟩ := hw
      refine w_bald (o := (stC q7 8)) hx hb hK hW (st_ty hNN fq7.1 fq7.2 rfl).1 (st_ty hNN fq7.1 fq7.2 rfl).2 hi d_V_value_35 ?_
      refine lv_iconst (v := 3) hx hb d_V_value_36 (by decide) ?_
      refine lv_icmp_ne (tgt := 44) hx hb d_V_value_37 (by decide) (fun c8 => ?_) (fun c8 => ?_)
      · have hw := hw.1 c8
        refine lv_aload_n hx hb d_V_value_44 rfl (lv_at hl 1 rfl) ?_
        obtain ⟨q9, hq9, hw⟩ := hw
        refine w_getr (q := q9) (k := 12) (t := 0) (C := R_V) (T := F_V) (N := 15) hx hb hT hown hK hW fo.1 fo.2 (by decide) in_V rfl rfl (by decide) rfl fr_V_12 w_4_7 d_V_value_45 hq9 (fun aq9 bq9 => ?_)
        have fq9 : q9 < NN ∧ kcC q9 = 10 := ⟨aq9, bq9⟩
        refine w_getf (q := (stC q9 9)) (k := 9) (t := 10) (C := R_Ans) (T := F_Ans) (N := 16) hx hb hT hown hK hW fq9.1 fq9.2 (by decide) in_Ans rfl rfl (by decide) rfl fr_Ans_9 w_3_171 d_V_value_48 rfl ?_
        refine lv_iload_n hx hb d_V_value_51 rfl (lv_at hl 0 rfl) ?_
        obtain ⟨hi, hw⟩ := hw
        refine w_lald (o := (stC q9 9)) hx hb hK hW (st_ty hNN fq9.1 fq9.2 rfl).1 (st_ty hNN fq9.1 fq9.2 rfl).2 hi d_V_value_52 ?_
        exact hret (rL x2 (stC q9 9) r3) x2 H locs 53 ls d_V_value_53 hw hW hS
      · have hw := hw.2 c8
        exact t_V_value_40 hx hb hml hown hT hK hN hA hRc hRs hRf hRl hNN hE hret  o l1 l2 r3 x2 H locs ls fo hw hW hS (lv_sub hl [1, 2, 3, 0] rfl)
set_option maxHeartbeats 4000000 in
set_option maxRecDepth 100000 in
theorem k_V_value (l : Launch) (dC : Nat → ClassId) (dI : Nat → Nat → Nat) (cI cB cJ cZ : ClassId) (ad : Nat → Nat) (NN : Nat) (E : Heap) (tM tC : Nat) (kK kV : Nat → Nat) (hNN : 152 ≤ NN) (sz : Nat) (o : Nat) (l1 : Int32) (l2 : Int32) (x : St) (fo : o < NN ∧ kcC o = 0) {post : Int64 → St → Prop} (hw : wp_V_value post o l1 l2 x) : Met l y_V_value (wsOf y_V_value b_V_value 4 (some (.long))) ({ frames := 1, cells := 0, slots := 0, locals := 23 }) (va_Pc [.ref (ad o), .int l1, .int l2] (PVc dC dI cI cB cJ cZ ad stC kcC NN E tM tC kK kV sz x)) (va_Ql (fun (r : Int64) (y : St) => post r y) (fun y t => Wd dC dI cI cB cJ cZ ad stC kcC NN (va_A (pic ad stC kcC NN cI cB cJ cZ x) sz) y t.heap) (va_A (pic ad stC kcC NN cI cB cJ cZ x) sz)) 0 0 (va_A (pic ad stC kcC NN cI cB cJ cZ x) sz) := by
  refine Met.ofW (cc := b_V_value) (maxL := 4) (ret := some (.long)) (by decide) rfl ?_
  intro p e s m args below meth c s₁ B hml hv
  obtain ⟨rfl, ⟨hsz, hW0, hK, hN⟩, hE⟩ := hv
  have hx := B.exec
  have hb := B.bytes
  have hr := B.returns
  have hts := atoms_spec B.pre
  have hT : ∀ w ∈ TG, w.before _ s = true := fun w h => hts w (List.mem_cons_of_mem _ h)
  have hown : s.vm.findClass R_V = some m.cls := findClass_of_methodNamed B.named
  have hlocks := B.notSynchronized
  subst hsz
  have hW : Wd dC dI cI cB cJ cZ ad stC kcC NN (va_A (pic ad stC kcC NN cI cB cJ cZ x) s.heap.size) x s.heap := ⟨hW0.1, hW0.2.1.self (sz := s.heap.size), hW0.2.2⟩
  generalize hAe : va_A (pic ad stC kcC NN cI cB cJ cZ x) s.heap.size = A at hW hE ⊢
  have hA : ∀ q : Nat, s.heap.size ≤ q → A q := fun q h => by rw [← hAe]; exact Or.inr h
  have hS : va_S A s.heap s.heap [] := va_S.rf
  have hl := lv_entry ([.ref (ad o), .int l1, .int l2]) (n := 4) (Nat.le_of_ble_eq_true rfl)
  rw [lg_entry_eq]
  generalize (lg_sl ([.ref (ad o), .int l1, .int l2]) ++ List.replicate (4 - (lg_sl ([.ref (ad o), .int l1, .int l2])).length) Slot.unset).toArray = ls at hl ⊢
  have hl : lv_has ls 4 [(0, .ref (ad o)), (1, .int l1), (2, .int l2)] := hl
  exact t_V_value_e hx hb hml hown hT hK hN hA (Nat.le_refl 0) (Nat.le_refl 0) (Nat.le_refl 1) (Nat.le_refl 23) hNN hE (fun r x H locs pc ls hd hp hW hS => W.lret (v := r) hx hb hr (fun t ht hM => ⟨⟨r, x, rfl, hp, Wd.back hW ht.symm (fun _ z => z)⟩, hS.F ht⟩) hS.2.2 hd hlocks)  o l1 l2 x _ _ ls fo hw hW hS hl
set_option maxRecDepth 100000 in
set_option maxHeartbeats 4000000 in
set_option maxRecDepth 100000 in
theorem t_V_letter_52 {p : Program} {l : Launch} {e : Env} {R : Room} {s : State} {m : MethodId} {args : Array Value} {below : List Frame} {meth : Method} {c : Code} {cells slots : Nat} {Q : State → Prop} {dC : Nat → ClassId} {dI : Nat → Nat → Nat} {cI cB cJ cZ : ClassId} {A : Nat → Prop} {ad : Nat → Nat} {NN : Nat} {E : Heap} {tM tC : Nat} {kK kV : Nat → Nat} {post : Int32 → St → Prop} (hx : p.tables.exec = Jvm.exec) (hb : c.code = b_V_letter) (hml : c.maxLocals = 5) (hown : s.vm.findClass R_V = some m.cls) (hT : ∀ w ∈ TG, w.before args s = true) (hK : va_K (dC, dI) CL (TY cI cB cJ cZ) s) (hN : NW s) (hA : ∀ q : Nat, s.heap.size ≤ q → A q) (hRc : cells ≤ R.cells) (hRs : slots ≤ R.slots) (hRf : 1 ≤ R.frames) (hRl : 23 ≤ R.locals) (hNN : 152 ≤ NN) (hE : CE E tM tC kK kV A s) (hret : ∀ (r : Int32) (x : St) (H : Heap) (locs : List Loc) (pc : Nat) (ls : Array Slot), decode b_V_letter pc = .ok (.ireturn, 1) → post r x → Wd dC dI cI cB cJ cZ ad stC kcC NN A x H → va_S A s.heap H locs → W p l e R s m args below meth c H locs cells slots Q (F0 m pc ls [.int r]))  : ∀ (o : Nat) (l1 : Int32) (l2 : Int32) (l3 : Int32) (l4 : Int32) (x : St) (H : Heap) (locs : List Loc) (ls : Array Slot), (o < NN ∧ kcC o = 0) → j_V_letter_52 post o l1 l2 l3 l4 x → Wd dC dI cI cB cJ cZ ad stC kcC NN A x H → va_S A s.heap H locs → lv_has ls 5 [(0, .ref (ad o)), (1, .int l1), (2, .int l2), (3, .int l3), (4, .int l4)] → W p l e R s m args below meth c H locs cells slots Q (F0 m 52 ls []) := by
  intro o l1 l2 l3 l4 x H locs ls fo hw hW hS hl
  unfold j_V_letter_52 at hw
  refine lv_iconst (v := (-1)) hx hb d_V_letter_52 (by decide) ?_
  exact hret (-1) x H locs 53 ls d_V_letter_53 hw hW hS
set_option maxRecDepth 100000 in
set_option maxHeartbeats 4000000 in
set_option maxRecDepth 100000 in
theorem t_V_letter_e {p : Program} {l : Launch} {e : Env} {R : Room} {s : State} {m : MethodId} {args : Array Value} {below : List Frame} {meth : Method} {c : Code} {cells slots : Nat} {Q : State → Prop} {dC : Nat → ClassId} {dI : Nat → Nat → Nat} {cI cB cJ cZ : ClassId} {A : Nat → Prop} {ad : Nat → Nat} {NN : Nat} {E : Heap} {tM tC : Nat} {kK kV : Nat → Nat} {post : Int32 → St → Prop} (hx : p.tables.exec = Jvm.exec) (hb : c.code = b_V_letter) (hml : c.maxLocals = 5) (hown : s.vm.findClass R_V = some m.cls) (hT : ∀ w ∈ TG, w.before args s = true) (hK : va_K (dC, dI) CL (TY cI cB cJ cZ) s) (hN : NW s) (hA : ∀ q : Nat, s.heap.size ≤ q → A q) (hRc : cells ≤ R.cells) (hRs : slots ≤ R.slots) (hRf : 1 ≤ R.frames) (hRl : 23 ≤ R.locals) (hNN : 152 ≤ NN) (hE : CE E tM tC kK kV A s) (hret : ∀ (r : Int32) (x : St) (H : Heap) (locs : List Loc) (pc : Nat) (ls : Array Slot), decode b_V_letter pc = .ok (.ireturn, 1) → post r x → Wd dC dI cI cB cJ cZ ad stC kcC NN A x H → va_S A s.heap H locs → W p l e R s m args below meth c H locs cells slots Q (F0 m pc ls [.int r])) : ∀ (o : Nat) (l1 : Int32) (l2 : Int32) (l3 : Int32) (x : St) (H : Heap) (locs : List Loc) (ls : Array Slot), (o < NN ∧ kcC o = 0) → wp_V_letter post o l1 l2 l3 x → Wd dC dI cI cB cJ cZ ad stC kcC NN A x H → va_S A s.heap H locs → lv_has ls 5 [(0, .ref (ad o)), (1, .int l1), (2, .int l2), (3, .int l3)] → W p l e R s m args below meth c H locs cells slots Q (F0 m 0 ls []) := by
  intro o l1 l2 l3 x H locs ls fo hw hW hS hl
  unfold wp_V_letter at hw
  refine lv_aload_n hx hb d_V_letter_0 rfl (lv_at hl 0 rfl) ?_
  obtain ⟨q1, hq1, hw⟩ := hw
  refine w_getr (q := q1) (k := 12) (t := 0) (C := R_V) (T := F_V) (N := 15) hx hb hT hown hK hW fo.1 fo.2 (by decide) in_V rfl rfl (by decide) rfl fr_V_12 w_4_7 d_V_letter_1 hq1 (fun aq1 bq1 => ?_)
  have fq1 : q1 < NN ∧ kcC q1 = 10 := ⟨aq1, bq1⟩
  refine lv_iload_n hx hb d_V_letter_4 rfl (lv_at hl 1 rfl) ?_
  refine lv_iload_n hx hb d_V_letter_5 rfl (lv_at hl 2 rfl) ?_
  have hF := hW.free hS hA
  refine va_calli (va_runV (C := R_Ans) (As := [.int l1, .int l2]) (rest := []) ⟨hx, hb, hml, hown, hT⟩ (k_Ans_placeOf l dC dI cI cB cJ cZ ad NN E tM tC kK kV hNN H.size q1 l1 l2 x fq1 hw) ⟨callB_of 2 hT (gwt_in w_8_146) rfl rfl rfl (hT _ w_1_13) (hT _ w_8_143) (by decide +kernel) ⟨Nat.le_trans (Nat.le_of_ble_eq_true rfl) hRf, Nat.le_trans (Nat.le_of_ble_eq_true rfl) hRl⟩, hT _ w_8_144, hT _ w_8_145⟩ ⟨PVc.blind, va_recv hK hW.1 (ci := 10) (q0 := q1) rfl (pic_obj fq1.1 fq1.2 (by decide)), PVc.at _ hW hK hN hE hS hF⟩ rfl rfl hl.1 rfl (lv_room (Nat.le_of_ble_eq_true rfl)) d_V_letter_6 ⟨hRc, hRs⟩) hS (fun q _ h => hF q h) hF (fun r3 x2 t H locs ht hvm hw hB hz1 hk1 hS => ?_)
  have hW := Wd.back hB ht hF
  clear hB ht hF hz1 hk1 hvm
  refine lv_istore (lv' := [(4, .int r3), (0, .ref (ad o)), (1, .int l1), (2, .int l2), (3, .int l3)]) hx hb d_V_letter_9 hl (by decide) rfl (fun ls hl => ?_)
  refine lv_iload hx hb d_V_letter_11 (lv_at hl 0 rfl) ?_
  refine lv_iconst (v := (-1)) hx hb d_V_letter_13 (by decide) ?_
  refine lv_icmp_eq (tgt := 52) hx hb d_V_letter_14 (by decide) (fun c4 => ?_) (fun c4 => ?_)
  · have hw := hw.1 c4
    exact t_V_letter_52 hx hb hml hown hT hK hN hA hRc hRs hRf hRl hNN hE hret  o l1 l2 l3 r3 x2 H locs ls fo hw hW hS (lv_sub hl [1, 2, 3, 4, 0] rfl)
  · have hw := hw.2 c4
    refine lv_aload_n hx hb d_V_letter_17 rfl (lv_at hl 1 rfl) ?_
    obtain ⟨q5, hq5, hw⟩ := hw
    refine w_getr (q := q5) (k := 12) (t := 0) (C := R_V) (T := F_V) (N := 15) hx hb hT hown hK hW fo.1 fo.2 (by decide) in_V rfl rfl (by decide) rfl fr_V_12 w_4_7 d_V_letter_18 hq5 (fun aq5 bq5 => ?_)
    have fq5 : q5 < NN ∧ kcC q5 = 10 := ⟨aq5, bq5⟩
    refine w_getf (q := (stC q5 8)) (k := 8) (t := 10) (C := R_Ans) (T := F_Ans) (N := 16) hx hb hT hown hK hW fq5.1 fq5.2 (by decide) in_Ans rfl rfl (by decide) rfl fr_Ans_8 w_3_169 d_V_letter_21 rfl ?_
    refine lv_iload hx hb d_V_letter_24 (lv_at hl 0 rfl) ?_
    obtain ⟨hi, hw⟩ := hw
    refine w_bald (o := (stC q5 8)) hx hb hK hW (st_ty hNN fq5.1 fq5.2 rfl).1 (st_ty hNN fq5.1 fq5.2 rfl).2 hi d_V_letter_26 ?_
    refine lv_iconst (v := 3) hx hb d_V_letter_27 (by decide) ?_
    refine lv_icmp_ne (tgt := 52) hx hb d_V_letter_28 (by decide) (fun c6 => ?_) (fun c6 => ?_)
    · have hw := hw.1 c6
      exact t_V_letter_52 hx hb hml hown hT hK hN hA hRc hRs hRf hRl hNN hE hret  o l1 l2 l3 r3 x2 H locs ls fo hw hW hS (lv_sub hl [1, 2, 3, 4, 0] rfl)
    · have hw := hw.2 c6
      refine lv_iload_n hx hb d_V_letter_31 rfl (lv_at hl 4 rfl) ?_
      refine lv_if_lt (tgt := 52) hx hb d_V_letter_32 (by decide) (fun c7 => ?_) (fun c7 => ?_)
      · have hw := hw.1 c7
        exact t_V_letter_52 hx hb hml hown hT hK hN hA hRc hRs hRf hRl hNN hE hret  o l1 l2 l3 r3 x2 H locs ls fo hw hW hS (lv_sub hl [1, 2, 3, 4, 0] rfl)
      · have hw := hw.2 c7
        refine lv_iload_n hx hb d_V_letter_35 rfl (lv_at hl 4 rfl) ?_
        refine lv_aload_n hx hb d_V_letter_36 rfl (lv_at hl 1 rfl) ?_
        obtain ⟨q8, hq8, hw⟩ := hw
        refine w_getr (q := q8) (k := 12) (t := 0) (C := R_V) (T := F_V) (N := 15) hx hb hT hown hK hW fo.1 fo.2 (by decide) in_V rfl rfl (by decide) rfl fr_V_12 w_4_7 d_V_letter_37 hq8 (fun aq8 bq8 => ?_)
        have fq8 : q8 < NN ∧ kcC q8 = 10 := ⟨aq8, bq8⟩
        refine w_getf (q := (stC q8 9)) (k := 9) (t := 10) (C := R_Ans) (T := F_Ans) (N := 16) hx hb hT hown hK hW fq8.1 fq8.2 (by decide) in_Ans rfl rfl (by decide) rfl fr_Ans_9 w_3_171 d_V_letter_40 rfl ?_
        refine lv_iload hx hb d_V_letter_43 (lv_at hl 0 rfl) ?_
        obtain ⟨hi, hw⟩ := hw
        refine w_lald (o := (stC q8 9)) hx hb hK hW (st_ty hNN fq8.1 fq8.2 rfl).1 (st_ty hNN fq8.1 fq8.2 rfl).2 hi d_V_letter_45 ?_
        have hF := hW.free hS hA
        refine va_calli (va_runS (As := [.long (rL x2 (stC q8 9) r3)]) (rest := [.int l3]) ⟨hx, hb, hml, hown, hT⟩ (k_V_sizeOf l dC dI cI cB cJ cZ ad NN E tM tC kK kV hNN H.size (rL x2 (stC q8 9) r3) x2  hw) ⟨callB_of 1 hT (gwt_in w_5_161) rfl rfl rfl (hT _ w_1_1) (hT _ w_8_155) (by decide +kernel) ⟨Nat.le_trans (Nat.le_of_ble_eq_true rfl) hRf, Nat.le_trans (Nat.le_of_ble_eq_true rfl) hRl⟩, hT _ w_5_160⟩ ⟨PVc.blind, PVc.at _ hW hK hN hE hS hF⟩ rfl rfl hl.1 rfl (lv_room (Nat.le_of_ble_eq_true rfl)) d_V_letter_46 ⟨hRc, hRs⟩) hS (fun q _ h => hF q h) hF (fun r10 x9 t H locs ht hvm hw hB hz1 hk1 hS => ?_)
        have hW := Wd.back hB ht hF
        clear hB ht hF hz1 hk1 hvm
        refine lv_icmp_lt (tgt := 54) hx hb d_V_letter_49 (by decide) (fun c11 => ?_) (fun c11 => ?_)
        · have hw := hw.1 c11
          refine lv_aload_n hx hb d_V_letter_54 rfl (lv_at hl 1 rfl) ?_
          refine w_getf (q := (stC o 8)) (k := 8) (t := 0) (C := R_V) (T := F_V) (N := 15) hx hb hT hown hK hW fo.1 fo.2 (by decide) in_V rfl rfl (by decide) rfl fr_V_8 w_4_3 d_V_letter_55 rfl ?_
          refine w_getf (q := (stC (stC o 8) 6)) (k := 6) (t := 6) (C := R_Vlt) (T := F_Vlt) (N := 20) hx hb hT hown hK hW (st_ty hNN fo.1 fo.2 rfl).1 (st_ty hNN fo.1 fo.2 rfl).2 (by decide) in_Vlt rfl rfl (by decide) rfl fr_Vlt_6 w_2_143 d_V_letter_58 rfl ?_
          refine lv_aload_n hx hb d_V_letter_61 rfl (lv_at hl 1 rfl) ?_
          obtain ⟨q12, hq12, hw⟩ := hw
          refine w_getr (q := q12) (k := 12) (t := 0) (C := R_V) (T := F_V) (N := 15) hx hb hT hown hK hW fo.1 fo.2 (by decide) in_V rfl rfl (by decide) rfl fr_V_12 w_4_7 d_V_letter_62 hq12 (fun aq12 bq12 => ?_)
          have fq12 : q12 < NN ∧ kcC q12 = 10 := ⟨aq12, bq12⟩
          refine w_getf (q := (stC q12 9)) (k := 9) (t := 10) (C := R_Ans) (T := F_Ans) (N := 16) hx hb hT hown hK hW fq12.1 fq12.2 (by decide) in_Ans rfl rfl (by decide) rfl fr_Ans_9 w_3_171 d_V_letter_65 rfl ?_
          refine lv_iload hx hb d_V_letter_68 (lv_at hl 0 rfl) ?_
          obtain ⟨hi, hw⟩ := hw
          refine w_lald (o := (stC q12 9)) hx hb hK hW (st_ty hNN fq12.1 fq12.2 rfl).1 (st_ty hNN fq12.1 fq12.2 rfl).2 hi d_V_letter_70 ?_
          have hF := hW.free hS hA
          refine va_calli (va_runS (As := [.long (rL x9 (stC q12 9) r3)]) (rest := [.ref (ad (stC (stC o 8) 6))]) ⟨hx, hb, hml, hown, hT⟩ (k_V_placeOf l dC dI cI cB cJ cZ ad NN E tM tC kK kV hNN H.size (rL x9 (stC q12 9) r3) x9  hw) ⟨callB_of 1 hT (gwt_in w_5_183) rfl rfl rfl (hT _ w_1_1) (hT _ w_8_156) (by decide +kernel) ⟨Nat.le_trans (Nat.le_of_ble_eq_true rfl) hRf, Nat.le_trans (Nat.le_of_ble_eq_true rfl) hRl⟩, hT _ w_5_182⟩ ⟨PVc.blind, PVc.at _ hW hK hN hE hS hF⟩ rfl rfl hl.1 rfl (lv_room (Nat.le_of_ble_eq_true rfl)) d_V_letter_71 ⟨hRc, hRs⟩) hS (fun q _ h => hF q h) hF (fun r14 x13 t H locs ht hvm hw hB hz1 hk1 hS => ?_)
          have hW := Wd.back hB ht hF
          clear hB ht hF hz1 hk1 hvm
          refine lv_iload_n hx hb d_V_letter_74 rfl (lv_at hl 4 rfl) ?_
          refine lv_iadd hx hb d_V_letter_75 ?_
          obtain ⟨hi, hw⟩ := hw
          refine w_bald (o := (stC (stC o 8) 6)) hx hb hK hW (st_ty hNN (st_ty hNN fo.1 fo.2 rfl).1 (st_ty hNN fo.1 fo.2 rfl).2 rfl).1 (st_ty hNN (st_ty hNN fo.1 fo.2 rfl).1 (st_ty hNN fo.1 fo.2 rfl).2 rfl).2 hi d_V_letter_76 ?_
          refine lv_sipush (v := 255) hx hb d_V_letter_77 (by decide) ?_
          refine lv_iand hx hb d_V_letter_80 ?_
          exact hret ((rA x13 (stC (stC o 8) 6) (r14 + l3)) &&& 255) x13 H locs 81 ls d_V_letter_81 hw hW hS
        · have hw := hw.2 c11
          exact t_V_letter_52 hx hb hml hown hT hK hN hA hRc hRs hRf hRl hNN hE hret  o l1 l2 l3 r3 x9 H locs ls fo hw hW hS (lv_sub hl [1, 2, 3, 4, 0] rfl)
set_option maxHeartbeats 4000000 in
set_option maxRecDepth 100000 in
theorem k_V_letter (l : Launch) (dC : Nat → ClassId) (dI : Nat → Nat → Nat) (cI cB cJ cZ : ClassId) (ad : Nat → Nat) (NN : Nat) (E : Heap) (tM tC : Nat) (kK kV : Nat → Nat) (hNN : 152 ≤ NN) (sz : Nat) (o : Nat) (l1 : Int32) (l2 : Int32) (l3 : Int32) (x : St) (fo : o < NN ∧ kcC o = 0) {post : Int32 → St → Prop} (hw : wp_V_letter post o l1 l2 l3 x) : Met l y_V_letter (wsOf y_V_letter b_V_letter 5 (some (.int))) ({ frames := 1, cells := 0, slots := 0, locals := 23 }) (va_Pc [.ref (ad o), .int l1, .int l2, .int l3] (PVc dC dI cI cB cJ cZ ad stC kcC NN E tM tC kK kV sz x)) (va_Qi (fun (r : Int32) (y : St) => post r y) (fun y t => Wd dC dI cI cB cJ cZ ad stC kcC NN (va_A (pic ad stC kcC NN cI cB cJ cZ x) sz) y t.heap) (va_A (pic ad stC kcC NN cI cB cJ cZ x) sz)) 0 0 (va_A (pic ad stC kcC NN cI cB cJ cZ x) sz) := by
  refine Met.ofW (cc := b_V_letter) (maxL := 5) (ret := some (.int)) (by decide) rfl ?_
  intro p e s m args below meth c s₁ B hml hv
  obtain ⟨rfl, ⟨hsz, hW0, hK, hN⟩, hE⟩ := hv
  have hx := B.exec
  have hb := B.bytes
  have hr := B.returns
  have hts := atoms_spec B.pre
  have hT : ∀ w ∈ TG, w.before _ s = true := fun w h => hts w (List.mem_cons_of_mem _ h)
  have hown : s.vm.findClass R_V = some m.cls := findClass_of_methodNamed B.named
  have hlocks := B.notSynchronized
  subst hsz
  have hW : Wd dC dI cI cB cJ cZ ad stC kcC NN (va_A (pic ad stC kcC NN cI cB cJ cZ x) s.heap.size) x s.heap := ⟨hW0.1, hW0.2.1.self (sz := s.heap.size), hW0.2.2⟩
  generalize hAe : va_A (pic ad stC kcC NN cI cB cJ cZ x) s.heap.size = A at hW hE ⊢
  have hA : ∀ q : Nat, s.heap.size ≤ q → A q := fun q h => by rw [← hAe]; exact Or.inr h
  have hS : va_S A s.heap s.heap [] := va_S.rf
  have hl := lv_entry ([.ref (ad o), .int l1, .int l2, .int l3]) (n := 5) (Nat.le_of_ble_eq_true rfl)
  rw [lg_entry_eq]
  generalize (lg_sl ([.ref (ad o), .int l1, .int l2, .int l3]) ++ List.replicate (5 - (lg_sl ([.ref (ad o), .int l1, .int l2, .int l3])).length) Slot.unset).toArray = ls at hl ⊢
  have hl : lv_has ls 5 [(0, .ref (ad o)), (1, .int l1), (2, .int l2), (3, .int l3)] := hl
  exact t_V_letter_e hx hb hml hown hT hK hN hA (Nat.le_refl 0) (Nat.le_refl 0) (Nat.le_refl 1) (Nat.le_refl 23) hNN hE (fun r x H locs pc ls hd hp hW hS => W.iret (v := r) hx hb hr (fun t ht hM => ⟨⟨r, x, rfl, hp, Wd.back hW ht.symm (fun _ z => z)⟩, hS.F ht⟩) hS.2.2 hd hlocks)  o l1 l2 l3 x _ _ ls fo hw hW hS hl
set_option maxRecDepth 100000 in
set_option maxHeartbeats 4000000 in
set_option maxRecDepth 100000 in
theorem t_V_skipped_11 {p : Program} {l : Launch} {e : Env} {R : Room} {s : State} {m : MethodId} {args : Array Value} {below : List Frame} {meth : Method} {c : Code} {cells slots : Nat} {Q : State → Prop} {dC : Nat → ClassId} {dI : Nat → Nat → Nat} {cI cB cJ cZ : ClassId} {A : Nat → Prop} {ad : Nat → Nat} {NN : Nat} {E : Heap} {tM tC : Nat} {kK kV : Nat → Nat} {post : Int32 → St → Prop} (hx : p.tables.exec = Jvm.exec) (hb : c.code = b_V_skipped) (hml : c.maxLocals = 2) (hown : s.vm.findClass R_V = some m.cls) (hT : ∀ w ∈ TG, w.before args s = true) (hK : va_K (dC, dI) CL (TY cI cB cJ cZ) s) (hN : NW s) (hA : ∀ q : Nat, s.heap.size ≤ q → A q) (hRc : cells ≤ R.cells) (hRs : slots ≤ R.slots) (hRf : 0 ≤ R.frames) (hRl : 0 ≤ R.locals) (hNN : 152 ≤ NN) (hE : CE E tM tC kK kV A s) (hret : ∀ (r : Int32) (x : St) (H : Heap) (locs : List Loc) (pc : Nat) (ls : Array Slot), decode b_V_skipped pc = .ok (.ireturn, 1) → post r x → Wd dC dI cI cB cJ cZ ad stC kcC NN A x H → va_S A s.heap H locs → W p l e R s m args below meth c H locs cells slots Q (F0 m pc ls [.int r]))  : ∀ (o : Nat) (l1 : Int32) (x : St) (H : Heap) (locs : List Loc) (ls : Array Slot), (o < NN ∧ kcC o = 0) → j_V_skipped_11 post o l1 x → Wd dC dI cI cB cJ cZ ad stC kcC NN A x H → va_S A s.heap H locs → lv_has ls 2 [(0, .ref (ad o)), (1, .int l1)] → W p l e R s m args below meth c H locs cells slots Q (F0 m 11 ls []) := by
  intro o l1 x H locs ls fo hw hW hS hl
  unfold j_V_skipped_11 at hw
  refine lv_aload_n hx hb d_V_skipped_11 rfl (lv_at hl 0 rfl) ?_
  obtain ⟨q1, hq1, hw⟩ := hw
  refine w_getr (q := q1) (k := 12) (t := 0) (C := R_V) (T := F_V) (N := 15) hx hb hT hown hK hW fo.1 fo.2 (by decide) in_V rfl rfl (by decide) rfl fr_V_12 w_4_7 d_V_skipped_12 hq1 (fun aq1 bq1 => ?_)
  have fq1 : q1 < NN ∧ kcC q1 = 10 := ⟨aq1, bq1⟩
  refine w_geti (k := 0) (t := 10) (C := R_Ans) (T := F_Ans) (N := 16) hx hb hT hown hK hW fq1.1 fq1.2 (by decide) in_Ans rfl rfl (by decide) rfl fr_Ans_0 w_3_156 d_V_skipped_15 ?_
  refine lv_if_ne (tgt := 23) hx hb d_V_skipped_18 (by decide) (fun c2 => ?_) (fun c2 => ?_)
  · have hw := hw.1 c2
    refine lv_iload_n hx hb d_V_skipped_23 rfl (lv_at hl 1 rfl) ?_
    refine lv_if_ne (tgt := 37) hx hb d_V_skipped_24 (by decide) (fun c3 => ?_) (fun c3 => ?_)
    · have hw := hw.1 c3
      refine lv_aload_n hx hb d_V_skipped_37 rfl (lv_at hl 0 rfl) ?_
      obtain ⟨q4, hq4, hw⟩ := hw
      refine w_getr (q := q4) (k := 12) (t := 0) (C := R_V) (T := F_V) (N := 15) hx hb hT hown hK hW fo.1 fo.2 (by decide) in_V rfl rfl (by decide) rfl fr_V_12 w_4_7 d_V_skipped_38 hq4 (fun aq4 bq4 => ?_)
      have fq4 : q4 < NN ∧ kcC q4 = 10 := ⟨aq4, bq4⟩
      refine w_geti (k := 3) (t := 10) (C := R_Ans) (T := F_Ans) (N := 16) hx hb hT hown hK hW fq4.1 fq4.2 (by decide) in_Ans rfl rfl (by decide) rfl fr_Ans_3 w_3_162 d_V_skipped_41 ?_
      exact hret (fI x q4 3) x H locs 44 ls d_V_skipped_44 hw hW hS
    · have hw := hw.2 c3
      refine lv_aload_n hx hb d_V_skipped_27 rfl (lv_at hl 0 rfl) ?_
      obtain ⟨q5, hq5, hw⟩ := hw
      refine w_getr (q := q5) (k := 12) (t := 0) (C := R_V) (T := F_V) (N := 15) hx hb hT hown hK hW fo.1 fo.2 (by decide) in_V rfl rfl (by decide) rfl fr_V_12 w_4_7 d_V_skipped_28 hq5 (fun aq5 bq5 => ?_)
      have fq5 : q5 < NN ∧ kcC q5 = 10 := ⟨aq5, bq5⟩
      refine w_geti (k := 2) (t := 10) (C := R_Ans) (T := F_Ans) (N := 16) hx hb hT hown hK hW fq5.1 fq5.2 (by decide) in_Ans rfl rfl (by decide) rfl fr_Ans_2 w_3_160 d_V_skipped_31 ?_
      refine lv_goto (tgt := 44) hx hb d_V_skipped_34 (by decide) ?_
      exact hret (fI x q5 2) x H locs 44 ls d_V_skipped_44 hw hW hS
  · have hw := hw.2 c2
    refine lv_iconst (v := 0) hx hb d_V_skipped_21 (by decide) ?_
    exact hret 0 x H locs 22 ls d_V_skipped_22 hw hW hS
set_option maxRecDepth 100000 in
set_option maxHeartbeats 4000000 in
set_option maxRecDepth 100000 in
theorem t_V_skipped_e {p : Program} {l : Launch} {e : Env} {R : Room} {s : State} {m : MethodId} {args : Array Value} {below : List Frame} {meth : Method} {c : Code} {cells slots : Nat} {Q : State → Prop} {dC : Nat → ClassId} {dI : Nat → Nat → Nat} {cI cB cJ cZ : ClassId} {A : Nat → Prop} {ad : Nat → Nat} {NN : Nat} {E : Heap} {tM tC : Nat} {kK kV : Nat → Nat} {post : Int32 → St → Prop} (hx : p.tables.exec = Jvm.exec) (hb : c.code = b_V_skipped) (hml : c.maxLocals = 2) (hown : s.vm.findClass R_V = some m.cls) (hT : ∀ w ∈ TG, w.before args s = true) (hK : va_K (dC, dI) CL (TY cI cB cJ cZ) s) (hN : NW s) (hA : ∀ q : Nat, s.heap.size ≤ q → A q) (hRc : cells ≤ R.cells) (hRs : slots ≤ R.slots) (hRf : 0 ≤ R.frames) (hRl : 0 ≤ R.locals) (hNN : 152 ≤ NN) (hE : CE E tM tC kK kV A s) (hret : ∀ (r : Int32) (x : St) (H : Heap) (locs : List Loc) (pc : Nat) (ls : Array Slot), decode b_V_skipped pc = .ok (.ireturn, 1) → post r x → Wd dC dI cI cB cJ cZ ad stC kcC NN A x H → va_S A s.heap H locs → W p l e R s m args below meth c H locs cells slots Q (F0 m pc ls [.int r])) : ∀ (o : Nat) (l1 : Int32) (x : St) (H : Heap) (locs : List Loc) (ls : Array Slot), (o < NN ∧ kcC o = 0) → wp_V_skipped post o l1 x → Wd dC dI cI cB cJ cZ ad stC kcC NN A x H → va_S A s.heap H locs → lv_has ls 2 [(0, .ref (ad o)), (1, .int l1)] → W p l e R s m args below meth c H locs cells slots Q (F0 m 0 ls []) := by
  intro o l1 x H locs ls fo hw hW hS hl
  unfold wp_V_skipped at hw
  refine lv_iload_n hx hb d_V_skipped_0 rfl (lv_at hl 1 rfl) ?_
  refine lv_if_eq (tgt := 11) hx hb d_V_skipped_1 (by decide) (fun c6 => ?_) (fun c6 => ?_)
  · have hw := hw.1 c6
    exact t_V_skipped_11 hx hb hml hown hT hK hN hA hRc hRs hRf hRl hNN hE hret  o l1 x H locs ls fo hw hW hS (lv_sub hl [0, 1] rfl)
  · have hw := hw.2 c6
    refine lv_iload_n hx hb d_V_skipped_4 rfl (lv_at hl 1 rfl) ?_
    refine lv_iconst (v := 1) hx hb d_V_skipped_5 (by decide) ?_
    refine lv_icmp_eq (tgt := 11) hx hb d_V_skipped_6 (by decide) (fun c7 => ?_) (fun c7 => ?_)
    · have hw := hw.1 c7
      exact t_V_skipped_11 hx hb hml hown hT hK hN hA hRc hRs hRf hRl hNN hE hret  o l1 x H locs ls fo hw hW hS (lv_sub hl [0, 1] rfl)
    · have hw := hw.2 c7
      refine lv_iconst (v := (-1)) hx hb d_V_skipped_9 (by decide) ?_
      exact hret (-1) x H locs 10 ls d_V_skipped_10 hw hW hS
set_option maxHeartbeats 4000000 in
set_option maxRecDepth 100000 in
theorem k_V_skipped (l : Launch) (dC : Nat → ClassId) (dI : Nat → Nat → Nat) (cI cB cJ cZ : ClassId) (ad : Nat → Nat) (NN : Nat) (E : Heap) (tM tC : Nat) (kK kV : Nat → Nat) (hNN : 152 ≤ NN) (sz : Nat) (o : Nat) (l1 : Int32) (x : St) (fo : o < NN ∧ kcC o = 0) {post : Int32 → St → Prop} (hw : wp_V_skipped post o l1 x) : Met l y_V_skipped (wsOf y_V_skipped b_V_skipped 2 (some (.int))) ({ frames := 0, cells := 0, slots := 0, locals := 0 }) (va_Pc [.ref (ad o), .int l1] (PVc dC dI cI cB cJ cZ ad stC kcC NN E tM tC kK kV sz x)) (va_Qi (fun (r : Int32) (y : St) => post r y) (fun y t => Wd dC dI cI cB cJ cZ ad stC kcC NN (va_A (pic ad stC kcC NN cI cB cJ cZ x) sz) y t.heap) (va_A (pic ad stC kcC NN cI cB cJ cZ x) sz)) 0 0 (va_A (pic ad stC kcC NN cI cB cJ cZ x) sz) := by
  refine Met.ofW (cc := b_V_skipped) (maxL := 2) (ret := some (.int)) (by decide) rfl ?_
  intro p e s m args below meth c s₁ B hml hv
  obtain ⟨rfl, ⟨hsz, hW0, hK, hN⟩, hE⟩ := hv
  have hx := B.exec
  have hb := B.bytes
  have hr := B.returns
  have hts := atoms_spec B.pre
  have hT : ∀ w ∈ TG, w.before _ s = true := fun w h => hts w (List.mem_cons_of_mem _ h)
  have hown : s.vm.findClass R_V = some m.cls := findClass_of_methodNamed B.named
  have hlocks := B.notSynchronized
  subst hsz
  have hW : Wd dC dI cI cB cJ cZ ad stC kcC NN (va_A (pic ad stC kcC NN cI cB cJ cZ x) s.heap.size) x s.heap := ⟨hW0.1, hW0.2.1.self (sz := s.heap.size), hW0.2.2⟩
  generalize hAe : va_A (pic ad stC kcC NN cI cB cJ cZ x) s.heap.size = A at hW hE ⊢
  have hA : ∀ q : Nat, s.heap.size ≤ q → A q := fun q h => by rw [← hAe]; exact Or.inr h
  have hS : va_S A s.heap s.heap [] := va_S.rf
  have hl := lv_entry ([.ref (ad o), .int l1]) (n := 2) (Nat.le_of_ble_eq_true rfl)
  rw [lg_entry_eq]
  generalize (lg_sl ([.ref (ad o), .int l1]) ++ List.replicate (2 - (lg_sl ([.ref (ad o), .int l1])).length) Slot.unset).toArray = ls at hl ⊢
  have hl : lv_has ls 2 [(0, .ref (ad o)), (1, .int l1)] := hl
  exact t_V_skipped_e hx hb hml hown hT hK hN hA (Nat.le_refl 0) (Nat.le_refl 0) (Nat.le_refl 0) (Nat.le_refl 0) hNN hE (fun r x H locs pc ls hd hp hW hS => W.iret (v := r) hx hb hr (fun t ht hM => ⟨⟨r, x, rfl, hp, Wd.back hW ht.symm (fun _ z => z)⟩, hS.F ht⟩) hS.2.2 hd hlocks)  o l1 x _ _ ls fo hw hW hS hl
set_option maxRecDepth 100000 in
set_option maxHeartbeats 4000000 in
set_option maxRecDepth 100000 in
theorem t_V_output_18 {p : Program} {l : Launch} {e : Env} {R : Room} {s : State} {m : MethodId} {args : Array Value} {below : List Frame} {meth : Method} {c : Code} {cells slots : Nat} {Q : State → Prop} {dC : Nat → ClassId} {dI : Nat → Nat → Nat} {cI cB cJ cZ : ClassId} {A : Nat → Prop} {ad : Nat → Nat} {NN : Nat} {E : Heap} {tM tC : Nat} {kK kV : Nat → Nat} {post : Int32 → St → Prop} (hx : p.tables.exec = Jvm.exec) (hb : c.code = b_V_output) (hml : c.maxLocals = 2) (hown : s.vm.findClass R_V = some m.cls) (hT : ∀ w ∈ TG, w.before args s = true) (hK : va_K (dC, dI) CL (TY cI cB cJ cZ) s) (hN : NW s) (hA : ∀ q : Nat, s.heap.size ≤ q → A q) (hRc : cells ≤ R.cells) (hRs : slots ≤ R.slots) (hRf : 0 ≤ R.frames) (hRl : 0 ≤ R.locals) (hNN : 152 ≤ NN) (hE : CE E tM tC kK kV A s) (hret : ∀ (r : Int32) (x : St) (H : Heap) (locs : List Loc) (pc : Nat) (ls : Array Slot), decode b_V_output pc = .ok (.ireturn, 1) → post r x → Wd dC dI cI cB cJ cZ ad stC kcC NN A x H → va_S A s.heap H locs → W p l e R s m args below meth c H locs cells slots Q (F0 m pc ls [.int r]))  : ∀ (o : Nat) (l1 : Int32) (x : St) (H : Heap) (locs : List Loc) (ls : Array Slot), (o < NN ∧ kcC o = 0) → j_V_output_18 post o l1 x → Wd dC dI cI cB cJ cZ ad stC kcC NN A x H → va_S A s.heap H locs → lv_has ls 2 [(0, .ref (ad o)), (1, .int l1)] → W p l e R s m args below meth c H locs cells slots Q (F0 m 18 ls []) := by
  intro o l1 x H locs ls fo hw hW hS hl
  unfold j_V_output_18 at hw
  refine lv_iconst (v := (-1)) hx hb d_V_output_18 (by decide) ?_
  refine lv_goto (tgt := 38) hx hb d_V_output_19 (by decide) ?_
  exact hret (-1) x H locs 38 ls d_V_output_38 hw hW hS
set_option maxRecDepth 100000 in
set_option maxHeartbeats 4000000 in
set_option maxRecDepth 100000 in
theorem t_V_output_e {p : Program} {l : Launch} {e : Env} {R : Room} {s : State} {m : MethodId} {args : Array Value} {below : List Frame} {meth : Method} {c : Code} {cells slots : Nat} {Q : State → Prop} {dC : Nat → ClassId} {dI : Nat → Nat → Nat} {cI cB cJ cZ : ClassId} {A : Nat → Prop} {ad : Nat → Nat} {NN : Nat} {E : Heap} {tM tC : Nat} {kK kV : Nat → Nat} {post : Int32 → St → Prop} (hx : p.tables.exec = Jvm.exec) (hb : c.code = b_V_output) (hml : c.maxLocals = 2) (hown : s.vm.findClass R_V = some m.cls) (hT : ∀ w ∈ TG, w.before args s = true) (hK : va_K (dC, dI) CL (TY cI cB cJ cZ) s) (hN : NW s) (hA : ∀ q : Nat, s.heap.size ≤ q → A q) (hRc : cells ≤ R.cells) (hRs : slots ≤ R.slots) (hRf : 0 ≤ R.frames) (hRl : 0 ≤ R.locals) (hNN : 152 ≤ NN) (hE : CE E tM tC kK kV A s) (hret : ∀ (r : Int32) (x : St) (H : Heap) (locs : List Loc) (pc : Nat) (ls : Array Slot), decode b_V_output pc = .ok (.ireturn, 1) → post r x → Wd dC dI cI cB cJ cZ ad stC kcC NN A x H → va_S A s.heap H locs → W p l e R s m args below meth c H locs cells slots Q (F0 m pc ls [.int r])) : ∀ (o : Nat) (l1 : Int32) (x : St) (H : Heap) (locs : List Loc) (ls : Array Slot), (o < NN ∧ kcC o = 0) → wp_V_output post o l1 x → Wd dC dI cI cB cJ cZ ad stC kcC NN A x H → va_S A s.heap H locs → lv_has ls 2 [(0, .ref (ad o)), (1, .int l1)] → W p l e R s m args below meth c H locs cells slots Q (F0 m 0 ls []) := by
  intro o l1 x H locs ls fo hw hW hS hl
  unfold wp_V_output at hw
  refine lv_iload_n hx hb d_V_output_0 rfl (lv_at hl 1 rfl) ?_
  refine lv_if_lt (tgt := 18) hx hb d_V_output_1 (by decide) (fun c1 => ?_) (fun c1 => ?_)
  · have hw := hw.1 c1
    exact t_V_output_18 hx hb hml hown hT hK hN hA hRc hRs hRf hRl hNN hE hret  o l1 x H locs ls fo hw hW hS (lv_sub hl [0, 1] rfl)
  · have hw := hw.2 c1
    refine lv_iload_n hx hb d_V_output_4 rfl (lv_at hl 1 rfl) ?_
    refine lv_aload_n hx hb d_V_output_5 rfl (lv_at hl 0 rfl) ?_
    refine w_getf (q := (stC o 14)) (k := 14) (t := 0) (C := R_V) (T := F_V) (N := 15) hx hb hT hown hK hW fo.1 fo.2 (by decide) in_V rfl rfl (by decide) rfl fr_V_14 w_4_9 d_V_output_6 rfl ?_
    refine w_getf (q := (stC (stC o 14) 0)) (k := 0) (t := 11) (C := R_Asm) (T := F_Asm) (N := 4) hx hb hT hown hK hW (st_ty hNN fo.1 fo.2 rfl).1 (st_ty hNN fo.1 fo.2 rfl).2 (by decide) in_Asm rfl rfl (by decide) rfl fr_Asm_0 w_3_222 d_V_output_9 rfl ?_
    refine w_geti (k := 1) (t := 1) (C := R_Snk) (T := F_Snk) (N := 7) hx hb hT hown hK hW (st_ty hNN (st_ty hNN fo.1 fo.2 rfl).1 (st_ty hNN fo.1 fo.2 rfl).2 rfl).1 (st_ty hNN (st_ty hNN fo.1 fo.2 rfl).1 (st_ty hNN fo.1 fo.2 rfl).2 rfl).2 (by decide) in_Snk rfl rfl (by decide) rfl fr_Snk_1 w_1_44 d_V_output_12 ?_
    refine lv_icmp_lt (tgt := 22) hx hb d_V_output_15 (by decide) (fun c2 => ?_) (fun c2 => ?_)
    · have hw := hw.1 c2
      refine lv_aload_n hx hb d_V_output_22 rfl (lv_at hl 0 rfl) ?_
      refine w_getf (q := (stC o 14)) (k := 14) (t := 0) (C := R_V) (T := F_V) (N := 15) hx hb hT hown hK hW fo.1 fo.2 (by decide) in_V rfl rfl (by decide) rfl fr_V_14 w_4_9 d_V_output_23 rfl ?_
      refine w_getf (q := (stC (stC o 14) 0)) (k := 0) (t := 11) (C := R_Asm) (T := F_Asm) (N := 4) hx hb hT hown hK hW (st_ty hNN fo.1 fo.2 rfl).1 (st_ty hNN fo.1 fo.2 rfl).2 (by decide) in_Asm rfl rfl (by decide) rfl fr_Asm_0 w_3_222 d_V_output_26 rfl ?_
      obtain ⟨q3, hq3, hw⟩ := hw
      refine w_getr (q := q3) (k := 0) (t := 1) (C := R_Snk) (T := F_Snk) (N := 7) hx hb hT hown hK hW (st_ty hNN (st_ty hNN fo.1 fo.2 rfl).1 (st_ty hNN fo.1 fo.2 rfl).2 rfl).1 (st_ty hNN (st_ty hNN fo.1 fo.2 rfl).1 (st_ty hNN fo.1 fo.2 rfl).2 rfl).2 (by decide) in_Snk rfl rfl (by decide) rfl fr_Snk_0 w_1_42 d_V_output_29 hq3 (fun aq3 bq3 => ?_)
      have fq3 : q3 < NN ∧ kcC q3 = 21 := ⟨aq3, bq3⟩
      refine lv_iload_n hx hb d_V_output_32 rfl (lv_at hl 1 rfl) ?_
      obtain ⟨hi, hw⟩ := hw
      refine w_bald (o := q3) hx hb hK hW fq3.1 fq3.2 hi d_V_output_33 ?_
      refine lv_sipush (v := 255) hx hb d_V_output_34 (by decide) ?_
      refine lv_iand hx hb d_V_output_37 ?_
      exact hret ((rA x q3 l1) &&& 255) x H locs 38 ls d_V_output_38 hw hW hS
    · have hw := hw.2 c2
      exact t_V_output_18 hx hb hml hown hT hK hN hA hRc hRs hRf hRl hNN hE hret  o l1 x H locs ls fo hw hW hS (lv_sub hl [0, 1] rfl)
set_option maxHeartbeats 4000000 in
set_option maxRecDepth 100000 in
theorem k_V_output (l : Launch) (dC : Nat → ClassId) (dI : Nat → Nat → Nat) (cI cB cJ cZ : ClassId) (ad : Nat → Nat) (NN : Nat) (E : Heap) (tM tC : Nat) (kK kV : Nat → Nat) (hNN : 152 ≤ NN) (sz : Nat) (o : Nat) (l1 : Int32) (x : St) (fo : o < NN ∧ kcC o = 0) {post : Int32 → St → Prop} (hw : wp_V_output post o l1 x) : Met l y_V_output (wsOf y_V_output b_V_output 2 (some (.int))) ({ frames := 0, cells := 0, slots := 0, locals := 0 }) (va_Pc [.ref (ad o), .int l1] (PVc dC dI cI cB cJ cZ ad stC kcC NN E tM tC kK kV sz x)) (va_Qi (fun (r : Int32) (y : St) => post r y) (fun y t => Wd dC dI cI cB cJ cZ ad stC kcC NN (va_A (pic ad stC kcC NN cI cB cJ cZ x) sz) y t.heap) (va_A (pic ad stC kcC NN cI cB cJ cZ x) sz)) 0 0 (va_A (pic ad stC kcC NN cI cB cJ cZ x) sz) := by
  refine Met.ofW (cc := b_V_output) (maxL := 2) (ret := some (.int)) (by decide) rfl ?_
  intro p e s m args below meth c s₁ B hml hv
  obtain ⟨rfl, ⟨hsz, hW0, hK, hN⟩, hE⟩ := hv
  have hx := B.exec
  have hb := B.bytes
  have hr := B.returns
  have hts := atoms_spec B.pre
  have hT : ∀ w ∈ TG, w.before _ s = true := fun w h => hts w (List.mem_cons_of_mem _ h)
  have hown : s.vm.findClass R_V = some m.cls := findClass_of_methodNamed B.named
  have hlocks := B.notSynchronized
  subst hsz
  have hW : Wd dC dI cI cB cJ cZ ad stC kcC NN (va_A (pic ad stC kcC NN cI cB cJ cZ x) s.heap.size) x s.heap := ⟨hW0.1, hW0.2.1.self (sz := s.heap.size), hW0.2.2⟩
  generalize hAe : va_A (pic ad stC kcC NN cI cB cJ cZ x) s.heap.size = A at hW hE ⊢
  have hA : ∀ q : Nat, s.heap.size ≤ q → A q := fun q h => by rw [← hAe]; exact Or.inr h
  have hS : va_S A s.heap s.heap [] := va_S.rf
  have hl := lv_entry ([.ref (ad o), .int l1]) (n := 2) (Nat.le_of_ble_eq_true rfl)
  rw [lg_entry_eq]
  generalize (lg_sl ([.ref (ad o), .int l1]) ++ List.replicate (2 - (lg_sl ([.ref (ad o), .int l1])).length) Slot.unset).toArray = ls at hl ⊢
  have hl : lv_has ls 2 [(0, .ref (ad o)), (1, .int l1)] := hl
  exact t_V_output_e hx hb hml hown hT hK hN hA (Nat.le_refl 0) (Nat.le_refl 0) (Nat.le_refl 0) (Nat.le_refl 0) hNN hE (fun r x H locs pc ls hd hp hW hS => W.iret (v := r) hx hb hr (fun t ht hM => ⟨⟨r, x, rfl, hp, Wd.back hW ht.symm (fun _ z => z)⟩, hS.F ht⟩) hS.2.2 hd hlocks)  o l1 x _ _ ls fo hw hW hS hl
end
