theorem fr_Mod_120 : F_Mod 120 = (R_Mod, "hasQuery", "Z", false) := rfl
theorem fr_Mod_14 : F_Mod 14 = (R_Mod, "hasSchema", "Z", false) := rfl
theorem fr_Mod_15 : F_Mod 15 = (R_Mod, "size", "I", false) := rfl
theorem fr_Mod_16 : F_Mod 16 = (R_Mod, "at", "I", false) := rfl
theorem fr_Mod_17 : F_Mod 17 = (R_Mod, "ill", "I", false) := rfl
theorem fr_Mod_82 : F_Mod 82 = (R_Mod, "isOpen", "Z", false) := rfl
theorem w_10_214 : (Jvm.Cond.methodLink "StripedVaultModel" (460 : Nat) ({ cls := "StripedVaultModel", name := "begins", desc := "()V" } : Jvm.MethodName)) ∈ TG := tw_10 214 (by decide +kernel) (by decide +kernel)
theorem w_10_216 : (Jvm.Cond.instanceMethod ({ cls := "StripedVaultModel", name := "begins", desc := "()V" } : Jvm.MethodName)) ∈ TG := tw_10 216 (by decide +kernel) (by decide +kernel)
theorem w_10_217 : (Jvm.Cond.code ({ cls := "StripedVaultModel", name := "begins", desc := "()V" } : Jvm.MethodName) prog_14_method_5_code (1 : Nat) (Option.none : Option Jvm.ClassFile.FieldType)) ∈ TG := tw_10 217 (by decide +kernel) (by decide +kernel)
theorem w_14_56 : (Jvm.Cond.methodLink "StripedVaultModel" (1172 : Nat) ({ cls := "StripedVaultModel", name := "isRow", desc := "(I)Z" } : Jvm.MethodName)) ∈ TG := tw_14 56 (by decide +kernel) (by decide +kernel)
theorem w_14_58 : (Jvm.Cond.instanceMethod ({ cls := "StripedVaultModel", name := "isRow", desc := "(I)Z" } : Jvm.MethodName)) ∈ TG := tw_14 58 (by decide +kernel) (by decide +kernel)
theorem w_14_59 : (Jvm.Cond.code ({ cls := "StripedVaultModel", name := "isRow", desc := "(I)Z" } : Jvm.MethodName) prog_14_method_199_code (2 : Nat) (Option.some Jvm.ClassFile.FieldType.boolean)) ∈ TG := tw_14 59 (by decide +kernel) (by decide +kernel)
theorem w_14_68 : (Jvm.Cond.methodLink "StripedVaultModel" (1181 : Nat) ({ cls := "StripedVaultModel", name := "kindOf", desc := "(II)I" } : Jvm.MethodName)) ∈ TG := tw_14 68 (by decide +kernel) (by decide +kernel)
theorem w_14_70 : (Jvm.Cond.instanceMethod ({ cls := "StripedVaultModel", name := "kindOf", desc := "(II)I" } : Jvm.MethodName)) ∈ TG := tw_14 70 (by decide +kernel) (by decide +kernel)
theorem w_14_71 : (Jvm.Cond.code ({ cls := "StripedVaultModel", name := "kindOf", desc := "(II)I" } : Jvm.MethodName) prog_14_method_204_code (5 : Nat) (Option.some Jvm.ClassFile.FieldType.int)) ∈ TG := tw_14 71 (by decide +kernel) (by decide +kernel)
theorem w_14_72 : (Jvm.Cond.methodLink "StripedVaultModel" (1175 : Nat) ({ cls := "StripedVaultModel", name := "isItem", desc := "(II)Z" } : Jvm.MethodName)) ∈ TG := tw_14 72 (by decide +kernel) (by decide +kernel)
theorem w_14_74 : (Jvm.Cond.instanceMethod ({ cls := "StripedVaultModel", name := "isItem", desc := "(II)Z" } : Jvm.MethodName)) ∈ TG := tw_14 74 (by decide +kernel) (by decide +kernel)
theorem w_14_75 : (Jvm.Cond.code ({ cls := "StripedVaultModel", name := "isItem", desc := "(II)Z" } : Jvm.MethodName) prog_14_method_202_code (3 : Nat) (Option.some Jvm.ClassFile.FieldType.boolean)) ∈ TG := tw_14 75 (by decide +kernel) (by decide +kernel)
theorem w_8_194 : (Jvm.Cond.fieldLink "StripedVaultModel" (466 : Nat) "StripedVaultModel" "hasSchema" "Z") ∈ TG := tw_8 194 (by decide +kernel) (by decide +kernel)
theorem w_8_195 : (Jvm.Cond.fieldLink "StripedVaultModel" (370 : Nat) "StripedVaultModel" "size" "I") ∈ TG := tw_8 195 (by decide +kernel) (by decide +kernel)
theorem w_8_196 : (Jvm.Cond.fieldLink "StripedVaultModel" (373 : Nat) "StripedVaultModel" "at" "I") ∈ TG := tw_8 196 (by decide +kernel) (by decide +kernel)
theorem w_8_197 : (Jvm.Cond.fieldLink "StripedVaultModel" (376 : Nat) "StripedVaultModel" "ill" "I") ∈ TG := tw_8 197 (by decide +kernel) (by decide +kernel)
theorem w_9_22 : (Jvm.Cond.fieldLink "StripedVaultModel" (917 : Nat) "StripedVaultModel" "isOpen" "Z") ∈ TG := tw_9 22 (by decide +kernel) (by decide +kernel)
theorem w_9_60 : (Jvm.Cond.fieldLink "StripedVaultModel" (920 : Nat) "StripedVaultModel" "hasQuery" "Z") ∈ TG := tw_9 60 (by decide +kernel) (by decide +kernel)
theorem ws_108 : Cond.selects R_Mod y_Mod_begins y_Mod_begins ∈ TG := tw_s 108 (by decide +kernel) (by decide +kernel)
theorem ws_272 : Cond.selects R_Mod y_Mod_isRow y_Mod_isRow ∈ TG := tw_s 272 (by decide +kernel) (by decide +kernel)
theorem ws_273 : Cond.selects R_Mod y_Mod_kindOf y_Mod_kindOf ∈ TG := tw_s 273 (by decide +kernel) (by decide +kernel)
theorem ws_274 : Cond.selects R_Mod y_Mod_isItem y_Mod_isItem ∈ TG := tw_s 274 (by decide +kernel) (by decide +kernel)
theorem d_Mod_begins_0 : decode b_Mod_begins 0 = .ok (.aload_n 0, 1) := by decide +kernel
theorem d_Mod_begins_1 : decode b_Mod_begins 1 = .ok (.aload_n 0, 1) := by decide +kernel
theorem d_Mod_begins_2 : decode b_Mod_begins 2 = .ok (.getfield 367, 3) := by decide +kernel
theorem d_Mod_begins_5 : decode b_Mod_begins 5 = .ok (.putfield 370, 3) := by decide +kernel
theorem d_Mod_begins_8 : decode b_Mod_begins 8 = .ok (.aload_n 0, 1) := by decide +kernel
theorem d_Mod_begins_9 : decode b_Mod_begins 9 = .ok (.iconst 0, 1) := by decide +kernel
theorem d_Mod_begins_10 : decode b_Mod_begins 10 = .ok (.putfield 367, 3) := by decide +kernel
theorem d_Mod_begins_13 : decode b_Mod_begins 13 = .ok (.aload_n 0, 1) := by decide +kernel
theorem d_Mod_begins_14 : decode b_Mod_begins 14 = .ok (.iconst 0, 1) := by decide +kernel
theorem d_Mod_begins_15 : decode b_Mod_begins 15 = .ok (.putfield 373, 3) := by decide +kernel
theorem d_Mod_begins_18 : decode b_Mod_begins 18 = .ok (.aload_n 0, 1) := by decide +kernel
theorem d_Mod_begins_19 : decode b_Mod_begins 19 = .ok (.iconst (-1), 1) := by decide +kernel
theorem d_Mod_begins_20 : decode b_Mod_begins 20 = .ok (.putfield 376, 3) := by decide +kernel
theorem d_Mod_begins_23 : decode b_Mod_begins 23 = .ok (.return_, 1) := by decide +kernel
theorem d_Mod_record_0 : decode b_Mod_record 0 = .ok (.aload_n 0, 1) := by decide +kernel
theorem d_Mod_record_1 : decode b_Mod_record 1 = .ok (.iconst 0, 1) := by decide +kernel
theorem d_Mod_record_2 : decode b_Mod_record 2 = .ok (.putfield 360, 3) := by decide +kernel
theorem d_Mod_record_5 : decode b_Mod_record 5 = .ok (.aload_n 0, 1) := by decide +kernel
theorem d_Mod_record_6 : decode b_Mod_record 6 = .ok (.invokevirtual 460, 3) := by decide +kernel
theorem d_Mod_record_9 : decode b_Mod_record 9 = .ok (.aload_n 0, 1) := by decide +kernel
theorem d_Mod_record_10 : decode b_Mod_record 10 = .ok (.getfield 466, 3) := by decide +kernel
theorem d_Mod_record_13 : decode b_Mod_record 13 = .ok (.ifCond .ne 6, 3) := by decide +kernel
theorem d_Mod_record_16 : decode b_Mod_record 16 = .ok (.bipush (-2), 2) := by decide +kernel
theorem d_Mod_record_18 : decode b_Mod_record 18 = .ok (.ireturn, 1) := by decide +kernel
theorem d_Mod_write_0 : decode b_Mod_write 0 = .ok (.aload_n 0, 1) := by decide +kernel
theorem d_Mod_write_1 : decode b_Mod_write 1 = .ok (.iconst 0, 1) := by decide +kernel
theorem d_Mod_write_2 : decode b_Mod_write 2 = .ok (.putfield 360, 3) := by decide +kernel
theorem d_Mod_write_5 : decode b_Mod_write 5 = .ok (.aload_n 0, 1) := by decide +kernel
theorem d_Mod_write_6 : decode b_Mod_write 6 = .ok (.getfield 466, 3) := by decide +kernel
theorem d_Mod_write_9 : decode b_Mod_write 9 = .ok (.ifCond .eq 43, 3) := by decide +kernel
theorem d_Mod_write_52 : decode b_Mod_write 52 = .ok (.iconst (-1), 1) := by decide +kernel
theorem d_Mod_write_53 : decode b_Mod_write 53 = .ok (.ireturn, 1) := by decide +kernel
theorem d_Mod_opened_0 : decode b_Mod_opened 0 = .ok (.aload_n 0, 1) := by decide +kernel
theorem d_Mod_opened_1 : decode b_Mod_opened 1 = .ok (.iconst 0, 1) := by decide +kernel
theorem d_Mod_opened_2 : decode b_Mod_opened 2 = .ok (.putfield 360, 3) := by decide +kernel
theorem d_Mod_opened_5 : decode b_Mod_opened 5 = .ok (.aload_n 0, 1) := by decide +kernel
theorem d_Mod_opened_6 : decode b_Mod_opened 6 = .ok (.getfield 917, 3) := by decide +kernel
theorem d_Mod_opened_9 : decode b_Mod_opened 9 = .ok (.ifCond .ne 5, 3) := by decide +kernel
theorem d_Mod_opened_12 : decode b_Mod_opened 12 = .ok (.iconst (-1), 1) := by decide +kernel
theorem d_Mod_opened_13 : decode b_Mod_opened 13 = .ok (.ireturn, 1) := by decide +kernel
theorem d_Mod_show_0 : decode b_Mod_show 0 = .ok (.aload_n 0, 1) := by decide +kernel
theorem d_Mod_show_1 : decode b_Mod_show 1 = .ok (.iconst 0, 1) := by decide +kernel
theorem d_Mod_show_2 : decode b_Mod_show 2 = .ok (.putfield 360, 3) := by decide +kernel
theorem d_Mod_show_5 : decode b_Mod_show 5 = .ok (.aload_n 0, 1) := by decide +kernel
theorem d_Mod_show_6 : decode b_Mod_show 6 = .ok (.iconst 0, 1) := by decide +kernel
theorem d_Mod_show_7 : decode b_Mod_show 7 = .ok (.putfield 935, 3) := by decide +kernel
theorem d_Mod_show_10 : decode b_Mod_show 10 = .ok (.aload_n 0, 1) := by decide +kernel
theorem d_Mod_show_11 : decode b_Mod_show 11 = .ok (.getfield 917, 3) := by decide +kernel
theorem d_Mod_show_14 : decode b_Mod_show 14 = .ok (.ifCond .eq 15, 3) := by decide +kernel
theorem d_Mod_show_29 : decode b_Mod_show 29 = .ok (.iconst (-1), 1) := by decide +kernel
theorem d_Mod_show_30 : decode b_Mod_show 30 = .ok (.ireturn, 1) := by decide +kernel
theorem d_Mod_query_0 : decode b_Mod_query 0 = .ok (.aload_n 0, 1) := by decide +kernel
theorem d_Mod_query_1 : decode b_Mod_query 1 = .ok (.iconst 0, 1) := by decide +kernel
theorem d_Mod_query_2 : decode b_Mod_query 2 = .ok (.putfield 360, 3) := by decide +kernel
theorem d_Mod_query_5 : decode b_Mod_query 5 = .ok (.aload_n 0, 1) := by decide +kernel
theorem d_Mod_query_6 : decode b_Mod_query 6 = .ok (.invokevirtual 460, 3) := by decide +kernel
theorem d_Mod_query_9 : decode b_Mod_query 9 = .ok (.aload_n 0, 1) := by decide +kernel
theorem d_Mod_query_10 : decode b_Mod_query 10 = .ok (.getfield 917, 3) := by decide +kernel
theorem d_Mod_query_13 : decode b_Mod_query 13 = .ok (.ifCond .ne 6, 3) := by decide +kernel
theorem d_Mod_query_16 : decode b_Mod_query 16 = .ok (.bipush (-2), 2) := by decide +kernel
theorem d_Mod_query_18 : decode b_Mod_query 18 = .ok (.ireturn, 1) := by decide +kernel
theorem d_Mod_run_0 : decode b_Mod_run 0 = .ok (.aload_n 0, 1) := by decide +kernel
theorem d_Mod_run_1 : decode b_Mod_run 1 = .ok (.iconst 0, 1) := by decide +kernel
theorem d_Mod_run_2 : decode b_Mod_run 2 = .ok (.putfield 360, 3) := by decide +kernel
theorem d_Mod_run_5 : decode b_Mod_run 5 = .ok (.aload_n 0, 1) := by decide +kernel
theorem d_Mod_run_6 : decode b_Mod_run 6 = .ok (.getfield 920, 3) := by decide +kernel
theorem d_Mod_run_9 : decode b_Mod_run 9 = .ok (.ifCond .ne 5, 3) := by decide +kernel
theorem d_Mod_run_12 : decode b_Mod_run 12 = .ok (.iconst (-1), 1) := by decide +kernel
theorem d_Mod_run_13 : decode b_Mod_run 13 = .ok (.ireturn, 1) := by decide +kernel
theorem d_Mod_isRow_0 : decode b_Mod_isRow 0 = .ok (.aload_n 0, 1) := by decide +kernel
theorem d_Mod_isRow_1 : decode b_Mod_isRow 1 = .ok (.getfield 923, 3) := by decide +kernel
theorem d_Mod_isRow_4 : decode b_Mod_isRow 4 = .ok (.ifCond .eq 30, 3) := by decide +kernel
theorem d_Mod_isRow_34 : decode b_Mod_isRow 34 = .ok (.iconst 0, 1) := by decide +kernel
theorem d_Mod_isRow_35 : decode b_Mod_isRow 35 = .ok (.ireturn, 1) := by decide +kernel
theorem d_Mod_row_0 : decode b_Mod_row 0 = .ok (.aload_n 0, 1) := by decide +kernel
theorem d_Mod_row_1 : decode b_Mod_row 1 = .ok (.iconst 0, 1) := by decide +kernel
theorem d_Mod_row_2 : decode b_Mod_row 2 = .ok (.putfield 360, 3) := by decide +kernel
theorem d_Mod_row_5 : decode b_Mod_row 5 = .ok (.aload_n 0, 1) := by decide +kernel
theorem d_Mod_row_6 : decode b_Mod_row 6 = .ok (.iload_n 1, 1) := by decide +kernel
theorem d_Mod_row_7 : decode b_Mod_row 7 = .ok (.invokevirtual 1172, 3) := by decide +kernel
theorem d_Mod_row_10 : decode b_Mod_row 10 = .ok (.ifCond .eq 12, 3) := by decide +kernel
theorem d_Mod_row_22 : decode b_Mod_row 22 = .ok (.iconst (-1), 1) := by decide +kernel
theorem d_Mod_row_23 : decode b_Mod_row 23 = .ok (.ireturn, 1) := by decide +kernel
theorem d_Mod_answer_0 : decode b_Mod_answer 0 = .ok (.aload_n 0, 1) := by decide +kernel
theorem d_Mod_answer_1 : decode b_Mod_answer 1 = .ok (.iconst 0, 1) := by decide +kernel
theorem d_Mod_answer_2 : decode b_Mod_answer 2 = .ok (.putfield 360, 3) := by decide +kernel
theorem d_Mod_answer_5 : decode b_Mod_answer 5 = .ok (.aload_n 0, 1) := by decide +kernel
theorem d_Mod_answer_6 : decode b_Mod_answer 6 = .ok (.iconst 0, 1) := by decide +kernel
theorem d_Mod_answer_7 : decode b_Mod_answer 7 = .ok (.putfield 935, 3) := by decide +kernel
theorem d_Mod_answer_10 : decode b_Mod_answer 10 = .ok (.aload_n 0, 1) := by decide +kernel
theorem d_Mod_answer_11 : decode b_Mod_answer 11 = .ok (.iload_n 1, 1) := by decide +kernel
theorem d_Mod_answer_12 : decode b_Mod_answer 12 = .ok (.invokevirtual 1172, 3) := by decide +kernel
theorem d_Mod_answer_15 : decode b_Mod_answer 15 = .ok (.ifCond .ne 5, 3) := by decide +kernel
theorem d_Mod_answer_18 : decode b_Mod_answer 18 = .ok (.iconst (-1), 1) := by decide +kernel
theorem d_Mod_answer_19 : decode b_Mod_answer 19 = .ok (.ireturn, 1) := by decide +kernel
theorem d_Mod_isItem_0 : decode b_Mod_isItem 0 = .ok (.aload_n 0, 1) := by decide +kernel
theorem d_Mod_isItem_1 : decode b_Mod_isItem 1 = .ok (.getfield 923, 3) := by decide +kernel
theorem d_Mod_isItem_4 : decode b_Mod_isItem 4 = .ok (.ifCond .eq 49, 3) := by decide +kernel
theorem d_Mod_isItem_53 : decode b_Mod_isItem 53 = .ok (.iconst 0, 1) := by decide +kernel
theorem d_Mod_isItem_54 : decode b_Mod_isItem 54 = .ok (.ireturn, 1) := by decide +kernel
theorem d_Mod_kindOf_0 : decode b_Mod_kindOf 0 = .ok (.aload_n 0, 1) := by decide +kernel
theorem d_Mod_kindOf_1 : decode b_Mod_kindOf 1 = .ok (.iload_n 1, 1) := by decide +kernel
theorem d_Mod_kindOf_2 : decode b_Mod_kindOf 2 = .ok (.iload_n 2, 1) := by decide +kernel
theorem d_Mod_kindOf_3 : decode b_Mod_kindOf 3 = .ok (.invokevirtual 1175, 3) := by decide +kernel
theorem d_Mod_kindOf_6 : decode b_Mod_kindOf 6 = .ok (.ifCond .ne 5, 3) := by decide +kernel
theorem d_Mod_kindOf_9 : decode b_Mod_kindOf 9 = .ok (.iconst (-1), 1) := by decide +kernel
theorem d_Mod_kindOf_10 : decode b_Mod_kindOf 10 = .ok (.ireturn, 1) := by decide +kernel
theorem d_Mod_kind_0 : decode b_Mod_kind 0 = .ok (.aload_n 0, 1) := by decide +kernel
theorem d_Mod_kind_1 : decode b_Mod_kind 1 = .ok (.iconst 0, 1) := by decide +kernel
theorem d_Mod_kind_2 : decode b_Mod_kind 2 = .ok (.putfield 360, 3) := by decide +kernel
theorem d_Mod_kind_5 : decode b_Mod_kind 5 = .ok (.aload_n 0, 1) := by decide +kernel
theorem d_Mod_kind_6 : decode b_Mod_kind 6 = .ok (.iload_n 1, 1) := by decide +kernel
theorem d_Mod_kind_7 : decode b_Mod_kind 7 = .ok (.iload_n 2, 1) := by decide +kernel
theorem d_Mod_kind_8 : decode b_Mod_kind 8 = .ok (.invokevirtual 1181, 3) := by decide +kernel
theorem d_Mod_kind_11 : decode b_Mod_kind 11 = .ok (.ireturn, 1) := by decide +kernel
theorem d_Mod_value_0 : decode b_Mod_value 0 = .ok (.aload_n 0, 1) := by decide +kernel
theorem d_Mod_value_1 : decode b_Mod_value 1 = .ok (.iconst 0, 1) := by decide +kernel
theorem d_Mod_value_2 : decode b_Mod_value 2 = .ok (.putfield 360, 3) := by decide +kernel
theorem d_Mod_value_5 : decode b_Mod_value 5 = .ok (.aload_n 0, 1) := by decide +kernel
theorem d_Mod_value_6 : decode b_Mod_value 6 = .ok (.iload_n 1, 1) := by decide +kernel
theorem d_Mod_value_7 : decode b_Mod_value 7 = .ok (.iload_n 2, 1) := by decide +kernel
theorem d_Mod_value_8 : decode b_Mod_value 8 = .ok (.invokevirtual 1181, 3) := by decide +kernel
theorem d_Mod_value_11 : decode b_Mod_value 11 = .ok (.istore_n 3, 1) := by decide +kernel
theorem d_Mod_value_12 : decode b_Mod_value 12 = .ok (.iload_n 3, 1) := by decide +kernel
theorem d_Mod_value_13 : decode b_Mod_value 13 = .ok (.iconst 1, 1) := by decide +kernel
theorem d_Mod_value_14 : decode b_Mod_value 14 = .ok (.if_icmp .eq 10, 3) := by decide +kernel
theorem d_Mod_value_17 : decode b_Mod_value 17 = .ok (.iload_n 3, 1) := by decide +kernel
theorem d_Mod_value_18 : decode b_Mod_value 18 = .ok (.iconst 2, 1) := by decide +kernel
theorem d_Mod_value_19 : decode b_Mod_value 19 = .ok (.if_icmp .eq 5, 3) := by decide +kernel
theorem d_Mod_value_22 : decode b_Mod_value 22 = .ok (.lconst 0, 1) := by decide +kernel
theorem d_Mod_value_23 : decode b_Mod_value 23 = .ok (.lreturn, 1) := by decide +kernel
theorem d_Mod_letter_0 : decode b_Mod_letter 0 = .ok (.aload_n 0, 1) := by decide +kernel
theorem d_Mod_letter_1 : decode b_Mod_letter 1 = .ok (.iconst 0, 1) := by decide +kernel
theorem d_Mod_letter_2 : decode b_Mod_letter 2 = .ok (.putfield 360, 3) := by decide +kernel
theorem d_Mod_letter_5 : decode b_Mod_letter 5 = .ok (.aload_n 0, 1) := by decide +kernel
theorem d_Mod_letter_6 : decode b_Mod_letter 6 = .ok (.iload_n 1, 1) := by decide +kernel
theorem d_Mod_letter_7 : decode b_Mod_letter 7 = .ok (.iload_n 2, 1) := by decide +kernel
theorem d_Mod_letter_8 : decode b_Mod_letter 8 = .ok (.invokevirtual 1181, 3) := by decide +kernel
theorem d_Mod_letter_11 : decode b_Mod_letter 11 = .ok (.iconst 3, 1) := by decide +kernel
theorem d_Mod_letter_12 : decode b_Mod_letter 12 = .ok (.if_icmp .eq 5, 3) := by decide +kernel
theorem d_Mod_letter_15 : decode b_Mod_letter 15 = .ok (.iconst (-1), 1) := by decide +kernel
theorem d_Mod_letter_16 : decode b_Mod_letter 16 = .ok (.ireturn, 1) := by decide +kernel
section
variable (l : Launch) (dC : Nat → ClassId) (dI : Nat → Nat → Nat) (cI cB cJ cZ : ClassId)
set_option maxHeartbeats 4000000 in
set_option maxRecDepth 100000 in
/-- the model's begins() -/
theorem c_Mod_begins (sz : Nat) (h : Nat) (F : List Value) (n : Int32) (nF : F.length = 167) (gF_4 : F[4]? = some (.int n)) : Met l y_Mod_begins (wsOf y_Mod_begins b_Mod_begins 1 none) ({ frames := 0, cells := 0, slots := 0, locals := 0 }) (va_Pc [.ref h] (PC dC dI cI cB cJ cZ sz [(h, .inr (12, F))])) (va_Qv (fun _ : Unit => True) (fun _ t => va_P (dC, dI) CL [(h, .inr (12, (((F.set 15 (.int n)).set 4 (.int 0)).set 16 (.int 0)).set 17 (.int (-1))))] t.heap ∧ va_D (va_A [(h, .inr (12, F))] sz) [(h, .inr (12, (((F.set 15 (.int n)).set 4 (.int 0)).set 16 (.int 0)).set 17 (.int (-1))))]) (va_A [(h, .inr (12, F))] sz)) 0 0 (va_A [(h, .inr (12, F))] sz) := by
  refine Met.ofW (cc := b_Mod_begins) (maxL := 1) (ret := none) (by decide) rfl ?_
  intro p e s m args below meth c s₁ B hml hv
  obtain ⟨rfl, hsz, hP, hK, hD0, hN⟩ := hv
  have hx := B.exec
  have hb := B.bytes
  have hr := B.returns
  have hts := atoms_spec B.pre
  have hT : ∀ w ∈ TG, w.before _ s = true := fun w h => hts w (List.mem_cons_of_mem _ h)
  have hown : s.vm.findClass R_Mod = some m.cls := findClass_of_methodNamed B.named
  have hlocks := B.notSynchronized
  subst hsz
  have hD := hD0.self (sz := s.heap.size)
  generalize hAe : va_A [(h, .inr (12, F))] s.heap.size = A at hD ⊢
  have hA : ∀ q : Nat, s.heap.size ≤ q → A q := fun q h => by rw [← hAe]; exact Or.inr h
  have hS : va_S A s.heap s.heap [] := va_S.rf
  have hl := lv_entry ([.ref h]) (n := 1) (Nat.le_of_ble_eq_true rfl)
  rw [lg_entry_eq]
  generalize (lg_sl ([.ref h]) ++ List.replicate (1 - (lg_sl ([.ref h])).length) Slot.unset).toArray = ls at hl ⊢
  have hl : lv_has ls 1 [(0, .ref h)] := hl
  refine lv_aload_n hx hb d_Mod_begins_0 rfl (lv_at hl 0 rfl) ?_
  refine lv_aload_n hx hb d_Mod_begins_1 rfl (lv_at hl 0 rfl) ?_
  refine f_get (D := (dC, dI)) (ci := 12) (v := .int n) (C := R_Mod) (T := F_Mod) (N := 167) hx hb hT in_Mod hown hK hP 0 rfl rfl 4 (by decide) fr_Mod_4 w_8_184 gF_4 d_Mod_begins_2 ?_
  refine f_put (D := (dC, dI)) (ci := 12) (v := .int n) (ty := .int) (C := R_Mod) (T := F_Mod) (N := 167) hx hb hT in_Mod t_Mod t_Mod_ok n_Mod hown hK hP hD hS 0 rfl rfl 15 (by decide) fr_Mod_15 w_8_195 (by decide +kernel) rfl rfl (by rw [nF]; decide) d_Mod_begins_5 (fun H locs hP hD hS => ?_)
  have hP : va_P (dC, dI) CL [(h, .inr (12, F.set 15 (.int n)))] H := hP
  have hD : va_D A [(h, .inr (12, F.set 15 (.int n)))] := hD
  refine lv_aload_n hx hb d_Mod_begins_8 rfl (lv_at hl 0 rfl) ?_
  refine lv_iconst (v := 0) hx hb d_Mod_begins_9 (by decide) ?_
  refine f_put (D := (dC, dI)) (ci := 12) (v := .int 0) (ty := .int) (C := R_Mod) (T := F_Mod) (N := 167) hx hb hT in_Mod t_Mod t_Mod_ok n_Mod hown hK hP hD hS 0 rfl rfl 4 (by decide) fr_Mod_4 w_8_184 (by decide +kernel) rfl rfl (by rw [List.length_set]; exact (by rw [nF]; decide)) d_Mod_begins_10 (fun H locs hP hD hS => ?_)
  have hP : va_P (dC, dI) CL [(h, .inr (12, (F.set 15 (.int n)).set 4 (.int 0)))] H := hP
  have hD : va_D A [(h, .inr (12, (F.set 15 (.int n)).set 4 (.int 0)))] := hD
  refine lv_aload_n hx hb d_Mod_begins_13 rfl (lv_at hl 0 rfl) ?_
  refine lv_iconst (v := 0) hx hb d_Mod_begins_14 (by decide) ?_
  refine f_put (D := (dC, dI)) (ci := 12) (v := .int 0) (ty := .int) (C := R_Mod) (T := F_Mod) (N := 167) hx hb hT in_Mod t_Mod t_Mod_ok n_Mod hown hK hP hD hS 0 rfl rfl 16 (by decide) fr_Mod_16 w_8_196 (by decide +kernel) rfl rfl (by rw [List.length_set]; exact (by rw [List.length_set]; exact (by rw [nF]; decide))) d_Mod_begins_15 (fun H locs hP hD hS => ?_)
  have hP : va_P (dC, dI) CL [(h, .inr (12, ((F.set 15 (.int n)).set 4 (.int 0)).set 16 (.int 0)))] H := hP
  have hD : va_D A [(h, .inr (12, ((F.set 15 (.int n)).set 4 (.int 0)).set 16 (.int 0)))] := hD
  refine lv_aload_n hx hb d_Mod_begins_18 rfl (lv_at hl 0 rfl) ?_
  refine lv_iconst (v := (-1)) hx hb d_Mod_begins_19 (by decide) ?_
  refine f_put (D := (dC, dI)) (ci := 12) (v := .int (-1)) (ty := .int) (C := R_Mod) (T := F_Mod) (N := 167) hx hb hT in_Mod t_Mod t_Mod_ok n_Mod hown hK hP hD hS 0 rfl rfl 17 (by decide) fr_Mod_17 w_8_197 (by decide +kernel) rfl rfl (by rw [List.length_set]; exact (by rw [List.length_set]; exact (by rw [List.length_set]; exact (by rw [nF]; decide)))) d_Mod_begins_20 (fun H locs hP hD hS => ?_)
  have hP : va_P (dC, dI) CL [(h, .inr (12, (((F.set 15 (.int n)).set 4 (.int 0)).set 16 (.int 0)).set 17 (.int (-1))))] H := hP
  have hD : va_D A [(h, .inr (12, (((F.set 15 (.int n)).set 4 (.int 0)).set 16 (.int 0)).set 17 (.int (-1))))] := hD
  exact W.vret hx hb hr (fun t ht hW => ⟨⟨(), rfl, trivial, by rw [ht]; exact hP, hD⟩, hS.F ht⟩) hS.2.2 d_Mod_begins_23
set_option maxHeartbeats 4000000 in
set_option maxRecDepth 100000 in
/-- the model's record() without a schema -/
theorem c_Mod_record_none (sz : Nat) (h : Nat) (F : List Value) (n : Int32) (nF : F.length = 167) (gF_4 : F[4]? = some (.int n)) (gF_14 : F[14]? = some (.int 0)) : Met l y_Mod_record (wsOf y_Mod_record b_Mod_record 4 (some (.int))) ({ frames := 1, cells := 0, slots := 0, locals := 20 }) (va_Pc [.ref h] (PC dC dI cI cB cJ cZ sz [(h, .inr (12, F))])) (va_Qi (fun (r : Int32) (_ : Unit) => r = (-2)) (fun _ t => va_P (dC, dI) CL [(h, .inr (12, ((((F.set 0 (.int 0)).set 15 (.int n)).set 4 (.int 0)).set 16 (.int 0)).set 17 (.int (-1))))] t.heap ∧ va_D (va_A [(h, .inr (12, F))] sz) [(h, .inr (12, ((((F.set 0 (.int 0)).set 15 (.int n)).set 4 (.int 0)).set 16 (.int 0)).set 17 (.int (-1))))]) (va_A [(h, .inr (12, F))] sz)) 0 0 (va_A [(h, .inr (12, F))] sz) := by
  refine Met.ofW (cc := b_Mod_record) (maxL := 4) (ret := some (.int)) (by decide) rfl ?_
  intro p e s m args below meth c s₁ B hml hv
  obtain ⟨rfl, hsz, hP, hK, hD0, hN⟩ := hv
  have hx := B.exec
  have hb := B.bytes
  have hr := B.returns
  have hts := atoms_spec B.pre
  have hT : ∀ w ∈ TG, w.before _ s = true := fun w h => hts w (List.mem_cons_of_mem _ h)
  have hown : s.vm.findClass R_Mod = some m.cls := findClass_of_methodNamed B.named
  have hlocks := B.notSynchronized
  subst hsz
  have hD := hD0.self (sz := s.heap.size)
  generalize hAe : va_A [(h, .inr (12, F))] s.heap.size = A at hD ⊢
  have hA : ∀ q : Nat, s.heap.size ≤ q → A q := fun q h => by rw [← hAe]; exact Or.inr h
  have hS : va_S A s.heap s.heap [] := va_S.rf
  have hl := lv_entry ([.ref h]) (n := 4) (Nat.le_of_ble_eq_true rfl)
  rw [lg_entry_eq]
  generalize (lg_sl ([.ref h]) ++ List.replicate (4 - (lg_sl ([.ref h])).length) Slot.unset).toArray = ls at hl ⊢
  have hl : lv_has ls 4 [(0, .ref h)] := hl
  refine lv_aload_n hx hb d_Mod_record_0 rfl (lv_at hl 0 rfl) ?_
  refine lv_iconst (v := 0) hx hb d_Mod_record_1 (by decide) ?_
  refine f_put (D := (dC, dI)) (ci := 12) (v := .int 0) (ty := .int) (C := R_Mod) (T := F_Mod) (N := 167) hx hb hT in_Mod t_Mod t_Mod_ok n_Mod hown hK hP hD hS 0 rfl rfl 0 (by decide) fr_Mod_0 w_8_180 (by decide +kernel) rfl rfl (by rw [nF]; decide) d_Mod_record_2 (fun H locs hP hD hS => ?_)
  have hP : va_P (dC, dI) CL [(h, .inr (12, F.set 0 (.int 0)))] H := hP
  have hD : va_D A [(h, .inr (12, F.set 0 (.int 0)))] := hD
  refine lv_aload_n hx hb d_Mod_record_5 rfl (lv_at hl 0 rfl) ?_
  have hPc := hP.sub (ws' := [(h, .inr (12, F.set 0 (.int 0)))]) [0] rfl
  have hDc := hD.sub (ws' := [(h, .inr (12, F.set 0 (.int 0)))]) [0] (by decide) rfl
  have hFc := va_free (wc := [(h, .inr (12, F.set 0 (.int 0)))]) hD hS hA [0] rfl
  refine va_callv (va_runV (C := R_Mod) (As := []) (rest := []) ⟨hx, hb, hml, hown, hT⟩ (c_Mod_begins l dC dI cI cB cJ cZ H.size h (F.set 0 (.int 0)) n (by rw [List.length_set]; exact nF) ((List.getElem?_set_ne (by decide)).trans gF_4)) ⟨callB_of 0 hT (gw_in w_10_217) rfl rfl rfl (hT _ w_1_15) (hT _ w_10_214) (by decide +kernel) ⟨Nat.le_of_ble_eq_true rfl, Nat.le_of_ble_eq_true rfl⟩, hT _ w_10_216, hT _ ws_108⟩ ⟨PC.blind, va_recv hK hPc (ci := 12) (q0 := 0) rfl rfl, PC.at _ hPc hDc hK hN⟩ rfl rfl hl.1 rfl (lv_room (Nat.le_of_ble_eq_true rfl)) d_Mod_record_6 ⟨show _ ≤ 0 by omega, show _ ≤ 0 by omega⟩) hS (fun q _ h => hFc q h) hFc (fun  u t H1 locs ht hvm hw hB hz1 hk1 hS => ?_)
  obtain ⟨hP1, hD1⟩ := hB
  rw [ht] at hP1
  obtain ⟨hP, hD⟩ := va_join (wr := []) (w1 := [(h, .inr (12, ((((F.set 0 (.int 0)).set 15 (.int n)).set 4 (.int 0)).set 16 (.int 0)).set 17 (.int (-1))))]) hP hD [0] [] rfl rfl (by decide) (by decide) hk1 hFc hP1 hD1
  generalize H1 = H at hP hS ⊢
  have hP : va_P (dC, dI) CL [(h, .inr (12, ((((F.set 0 (.int 0)).set 15 (.int n)).set 4 (.int 0)).set 16 (.int 0)).set 17 (.int (-1))))] H := hP
  have hD : va_D A [(h, .inr (12, ((((F.set 0 (.int 0)).set 15 (.int n)).set 4 (.int 0)).set 16 (.int 0)).set 17 (.int (-1))))] := hD
  refine lv_aload_n hx hb d_Mod_record_9 rfl (lv_at hl 0 rfl) ?_
  refine f_get (D := (dC, dI)) (ci := 12) (v := .int 0) (C := R_Mod) (T := F_Mod) (N := 167) hx hb hT in_Mod hown hK hP 0 rfl rfl 14 (by decide) fr_Mod_14 w_8_194 ((List.getElem?_set_ne (by decide)).trans ((List.getElem?_set_ne (by decide)).trans ((List.getElem?_set_ne (by decide)).trans ((List.getElem?_set_ne (by decide)).trans ((List.getElem?_set_ne (by decide)).trans gF_14))))) d_Mod_record_10 ?_
  refine lv_if_ne (tgt := 19) hx hb d_Mod_record_13 (by decide) (fun c1 => by first | exact absurd c1 (by decide) | exact absurd (by decide) c1) (fun c1 => ?_)
  refine lv_bipush (v := (-2)) hx hb d_Mod_record_16 (by decide) ?_
  exact W.iret (v := (-2)) hx hb hr (fun t ht hW => ⟨⟨(-2), (), rfl, rfl, by rw [ht]; exact hP, hD⟩, hS.F ht⟩) hS.2.2 d_Mod_record_18
set_option maxHeartbeats 4000000 in
set_option maxRecDepth 100000 in
/-- the model's write without a schema -/
theorem c_Mod_write_none (sz : Nat) (h : Nat) (F : List Value) (k i : Int32) (nF : F.length = 167) (gF_14 : F[14]? = some (.int 0)) : Met l y_Mod_write (wsOf y_Mod_write b_Mod_write 7 (some (.int))) ({ frames := 0, cells := 0, slots := 0, locals := 0 }) (va_Pc [.ref h, .int k, .int i] (PC dC dI cI cB cJ cZ sz [(h, .inr (12, F))])) (va_Qi (fun (r : Int32) (_ : Unit) => r = (-1)) (fun _ t => va_P (dC, dI) CL [(h, .inr (12, F.set 0 (.int 0)))] t.heap ∧ va_D (va_A [(h, .inr (12, F))] sz) [(h, .inr (12, F.set 0 (.int 0)))]) (va_A [(h, .inr (12, F))] sz)) 0 0 (va_A [(h, .inr (12, F))] sz) := by
  refine Met.ofW (cc := b_Mod_write) (maxL := 7) (ret := some (.int)) (by decide) rfl ?_
  intro p e s m args below meth c s₁ B hml hv
  obtain ⟨rfl, hsz, hP, hK, hD0, hN⟩ := hv
  have hx := B.exec
  have hb := B.bytes
  have hr := B.returns
  have hts := atoms_spec B.pre
  have hT : ∀ w ∈ TG, w.before _ s = true := fun w h => hts w (List.mem_cons_of_mem _ h)
  have hown : s.vm.findClass R_Mod = some m.cls := findClass_of_methodNamed B.named
  have hlocks := B.notSynchronized
  subst hsz
  have hD := hD0.self (sz := s.heap.size)
  generalize hAe : va_A [(h, .inr (12, F))] s.heap.size = A at hD ⊢
  have hA : ∀ q : Nat, s.heap.size ≤ q → A q := fun q h => by rw [← hAe]; exact Or.inr h
  have hS : va_S A s.heap s.heap [] := va_S.rf
  have hl := lv_entry ([.ref h, .int k, .int i]) (n := 7) (Nat.le_of_ble_eq_true rfl)
  rw [lg_entry_eq]
  generalize (lg_sl ([.ref h, .int k, .int i]) ++ List.replicate (7 - (lg_sl ([.ref h, .int k, .int i])).length) Slot.unset).toArray = ls at hl ⊢
  have hl : lv_has ls 7 [(0, .ref h), (1, .int k), (2, .int i)] := hl
  refine lv_aload_n hx hb d_Mod_write_0 rfl (lv_at hl 0 rfl) ?_
  refine lv_iconst (v := 0) hx hb d_Mod_write_1 (by decide) ?_
  refine f_put (D := (dC, dI)) (ci := 12) (v := .int 0) (ty := .int) (C := R_Mod) (T := F_Mod) (N := 167) hx hb hT in_Mod t_Mod t_Mod_ok n_Mod hown hK hP hD hS 0 rfl rfl 0 (by decide) fr_Mod_0 w_8_180 (by decide +kernel) rfl rfl (by rw [nF]; decide) d_Mod_write_2 (fun H locs hP hD hS => ?_)
  have hP : va_P (dC, dI) CL [(h, .inr (12, F.set 0 (.int 0)))] H := hP
  have hD : va_D A [(h, .inr (12, F.set 0 (.int 0)))] := hD
  refine lv_aload_n hx hb d_Mod_write_5 rfl (lv_at hl 0 rfl) ?_
  refine f_get (D := (dC, dI)) (ci := 12) (v := .int 0) (C := R_Mod) (T := F_Mod) (N := 167) hx hb hT in_Mod hown hK hP 0 rfl rfl 14 (by decide) fr_Mod_14 w_8_194 ((List.getElem?_set_ne (by decide)).trans gF_14) d_Mod_write_6 ?_
  refine lv_if_eq (tgt := 52) hx hb d_Mod_write_9 (by decide) (fun c1 => ?_) (fun c1 => by first | exact absurd c1 (by decide) | exact absurd (by decide) c1)
  refine lv_iconst (v := (-1)) hx hb d_Mod_write_52 (by decide) ?_
  exact W.iret (v := (-1)) hx hb hr (fun t ht hW => ⟨⟨(-1), (), rfl, rfl, by rw [ht]; exact hP, hD⟩, hS.F ht⟩) hS.2.2 d_Mod_write_53
set_option maxHeartbeats 4000000 in
set_option maxRecDepth 100000 in
/-- the model's opened with nothing open -/
theorem c_Mod_opened_none (sz : Nat) (h : Nat) (F : List Value) (k : Int32) (nF : F.length = 167) (gF_82 : F[82]? = some (.int 0)) : Met l y_Mod_opened (wsOf y_Mod_opened b_Mod_opened 2 (some (.int))) ({ frames := 0, cells := 0, slots := 0, locals := 0 }) (va_Pc [.ref h, .int k] (PC dC dI cI cB cJ cZ sz [(h, .inr (12, F))])) (va_Qi (fun (r : Int32) (_ : Unit) => r = (-1)) (fun _ t => va_P (dC, dI) CL [(h, .inr (12, F.set 0 (.int 0)))] t.heap ∧ va_D (va_A [(h, .inr (12, F))] sz) [(h, .inr (12, F.set 0 (.int 0)))]) (va_A [(h, .inr (12, F))] sz)) 0 0 (va_A [(h, .inr (12, F))] sz) := by
  refine Met.ofW (cc := b_Mod_opened) (maxL := 2) (ret := some (.int)) (by decide) rfl ?_
  intro p e s m args below meth c s₁ B hml hv
  obtain ⟨rfl, hsz, hP, hK, hD0, hN⟩ := hv
  have hx := B.exec
  have hb := B.bytes
  have hr := B.returns
  have hts := atoms_spec B.pre
  have hT : ∀ w ∈ TG, w.before _ s = true := fun w h => hts w (List.mem_cons_of_mem _ h)
  have hown : s.vm.findClass R_Mod = some m.cls := findClass_of_methodNamed B.named
  have hlocks := B.notSynchronized
  subst hsz
  have hD := hD0.self (sz := s.heap.size)
  generalize hAe : va_A [(h, .inr (12, F))] s.heap.size = A at hD ⊢
  have hA : ∀ q : Nat, s.heap.size ≤ q → A q := fun q h => by rw [← hAe]; exact Or.inr h
  have hS : va_S A s.heap s.heap [] := va_S.rf
  have hl := lv_entry ([.ref h, .int k]) (n := 2) (Nat.le_of_ble_eq_true rfl)
  rw [lg_entry_eq]
  generalize (lg_sl ([.ref h, .int k]) ++ List.replicate (2 - (lg_sl ([.ref h, .int k])).length) Slot.unset).toArray = ls at hl ⊢
  have hl : lv_has ls 2 [(0, .ref h), (1, .int k)] := hl
  refine lv_aload_n hx hb d_Mod_opened_0 rfl (lv_at hl 0 rfl) ?_
  refine lv_iconst (v := 0) hx hb d_Mod_opened_1 (by decide) ?_
  refine f_put (D := (dC, dI)) (ci := 12) (v := .int 0) (ty := .int) (C := R_Mod) (T := F_Mod) (N := 167) hx hb hT in_Mod t_Mod t_Mod_ok n_Mod hown hK hP hD hS 0 rfl rfl 0 (by decide) fr_Mod_0 w_8_180 (by decide +kernel) rfl rfl (by rw [nF]; decide) d_Mod_opened_2 (fun H locs hP hD hS => ?_)
  have hP : va_P (dC, dI) CL [(h, .inr (12, F.set 0 (.int 0)))] H := hP
  have hD : va_D A [(h, .inr (12, F.set 0 (.int 0)))] := hD
  refine lv_aload_n hx hb d_Mod_opened_5 rfl (lv_at hl 0 rfl) ?_
  refine f_get (D := (dC, dI)) (ci := 12) (v := .int 0) (C := R_Mod) (T := F_Mod) (N := 167) hx hb hT in_Mod hown hK hP 0 rfl rfl 82 (by decide) fr_Mod_82 w_9_22 ((List.getElem?_set_ne (by decide)).trans gF_82) d_Mod_opened_6 ?_
  refine lv_if_ne (tgt := 14) hx hb d_Mod_opened_9 (by decide) (fun c1 => by first | exact absurd c1 (by decide) | exact absurd (by decide) c1) (fun c1 => ?_)
  refine lv_iconst (v := (-1)) hx hb d_Mod_opened_12 (by decide) ?_
  exact W.iret (v := (-1)) hx hb hr (fun t ht hW => ⟨⟨(-1), (), rfl, rfl, by rw [ht]; exact hP, hD⟩, hS.F ht⟩) hS.2.2 d_Mod_opened_13
set_option maxHeartbeats 4000000 in
set_option maxRecDepth 100000 in
/-- the model's show with nothing open -/
theorem c_Mod_show_none (sz : Nat) (h : Nat) (F : List Value) (k : Int32) (nF : F.length = 167) (gF_82 : F[82]? = some (.int 0)) : Met l y_Mod_show (wsOf y_Mod_show b_Mod_show 3 (some (.int))) ({ frames := 0, cells := 0, slots := 0, locals := 0 }) (va_Pc [.ref h, .int k] (PC dC dI cI cB cJ cZ sz [(h, .inr (12, F))])) (va_Qi (fun (r : Int32) (_ : Unit) => r = (-1)) (fun _ t => va_P (dC, dI) CL [(h, .inr (12, (F.set 0 (.int 0)).set 113 (.int 0)))] t.heap ∧ va_D (va_A [(h, .inr (12, F))] sz) [(h, .inr (12, (F.set 0 (.int 0)).set 113 (.int 0)))]) (va_A [(h, .inr (12, F))] sz)) 0 0 (va_A [(h, .inr (12, F))] sz) := by
  refine Met.ofW (cc := b_Mod_show) (maxL := 3) (ret := some (.int)) (by decide) rfl ?_
  intro p e s m args below meth c s₁ B hml hv
  obtain ⟨rfl, hsz, hP, hK, hD0, hN⟩ := hv
  have hx := B.exec
  have hb := B.bytes
  have hr := B.returns
  have hts := atoms_spec B.pre
  have hT : ∀ w ∈ TG, w.before _ s = true := fun w h => hts w (List.mem_cons_of_mem _ h)
  have hown : s.vm.findClass R_Mod = some m.cls := findClass_of_methodNamed B.named
  have hlocks := B.notSynchronized
  subst hsz
  have hD := hD0.self (sz := s.heap.size)
  generalize hAe : va_A [(h, .inr (12, F))] s.heap.size = A at hD ⊢
  have hA : ∀ q : Nat, s.heap.size ≤ q → A q := fun q h => by rw [← hAe]; exact Or.inr h
  have hS : va_S A s.heap s.heap [] := va_S.rf
  have hl := lv_entry ([.ref h, .int k]) (n := 3) (Nat.le_of_ble_eq_true rfl)
  rw [lg_entry_eq]
  generalize (lg_sl ([.ref h, .int k]) ++ List.replicate (3 - (lg_sl ([.ref h, .int k])).length) Slot.unset).toArray = ls at hl ⊢
  have hl : lv_has ls 3 [(0, .ref h), (1, .int k)] := hl
  refine lv_aload_n hx hb d_Mod_show_0 rfl (lv_at hl 0 rfl) ?_
  refine lv_iconst (v := 0) hx hb d_Mod_show_1 (by decide) ?_
  refine f_put (D := (dC, dI)) (ci := 12) (v := .int 0) (ty := .int) (C := R_Mod) (T := F_Mod) (N := 167) hx hb hT in_Mod t_Mod t_Mod_ok n_Mod hown hK hP hD hS 0 rfl rfl 0 (by decide) fr_Mod_0 w_8_180 (by decide +kernel) rfl rfl (by rw [nF]; decide) d_Mod_show_2 (fun H locs hP hD hS => ?_)
  have hP : va_P (dC, dI) CL [(h, .inr (12, F.set 0 (.int 0)))] H := hP
  have hD : va_D A [(h, .inr (12, F.set 0 (.int 0)))] := hD
  refine lv_aload_n hx hb d_Mod_show_5 rfl (lv_at hl 0 rfl) ?_
  refine lv_iconst (v := 0) hx hb d_Mod_show_6 (by decide) ?_
  refine f_put (D := (dC, dI)) (ci := 12) (v := .int 0) (ty := .int) (C := R_Mod) (T := F_Mod) (N := 167) hx hb hT in_Mod t_Mod t_Mod_ok n_Mod hown hK hP hD hS 0 rfl rfl 113 (by decide) fr_Mod_113 w_9_53 (by decide +kernel) rfl rfl (by rw [List.length_set]; exact (by rw [nF]; decide)) d_Mod_show_7 (fun H locs hP hD hS => ?_)
  have hP : va_P (dC, dI) CL [(h, .inr (12, (F.set 0 (.int 0)).set 113 (.int 0)))] H := hP
  have hD : va_D A [(h, .inr (12, (F.set 0 (.int 0)).set 113 (.int 0)))] := hD
  refine lv_aload_n hx hb d_Mod_show_10 rfl (lv_at hl 0 rfl) ?_
  refine f_get (D := (dC, dI)) (ci := 12) (v := .int 0) (C := R_Mod) (T := F_Mod) (N := 167) hx hb hT in_Mod hown hK hP 0 rfl rfl 82 (by decide) fr_Mod_82 w_9_22 ((List.getElem?_set_ne (by decide)).trans ((List.getElem?_set_ne (by decide)).trans gF_82)) d_Mod_show_11 ?_
  refine lv_if_eq (tgt := 29) hx hb d_Mod_show_14 (by decide) (fun c1 => ?_) (fun c1 => by first | exact absurd c1 (by decide) | exact absurd (by decide) c1)
  refine lv_iconst (v := (-1)) hx hb d_Mod_show_29 (by decide) ?_
  exact W.iret (v := (-1)) hx hb hr (fun t ht hW => ⟨⟨(-1), (), rfl, rfl, by rw [ht]; exact hP, hD⟩, hS.F ht⟩) hS.2.2 d_Mod_show_30
set_option maxHeartbeats 4000000 in
set_option maxRecDepth 100000 in
/-- the model's query with nothing open -/
theorem c_Mod_query_none (sz : Nat) (h : Nat) (F : List Value) (n : Int32) (nF : F.length = 167) (gF_4 : F[4]? = some (.int n)) (gF_82 : F[82]? = some (.int 0)) : Met l y_Mod_query (wsOf y_Mod_query b_Mod_query 3 (some (.int))) ({ frames := 1, cells := 0, slots := 0, locals := 20 }) (va_Pc [.ref h] (PC dC dI cI cB cJ cZ sz [(h, .inr (12, F))])) (va_Qi (fun (r : Int32) (_ : Unit) => r = (-2)) (fun _ t => va_P (dC, dI) CL [(h, .inr (12, ((((F.set 0 (.int 0)).set 15 (.int n)).set 4 (.int 0)).set 16 (.int 0)).set 17 (.int (-1))))] t.heap ∧ va_D (va_A [(h, .inr (12, F))] sz) [(h, .inr (12, ((((F.set 0 (.int 0)).set 15 (.int n)).set 4 (.int 0)).set 16 (.int 0)).set 17 (.int (-1))))]) (va_A [(h, .inr (12, F))] sz)) 0 0 (va_A [(h, .inr (12, F))] sz) := by
  refine Met.ofW (cc := b_Mod_query) (maxL := 3) (ret := some (.int)) (by decide) rfl ?_
  intro p e s m args below meth c s₁ B hml hv
  obtain ⟨rfl, hsz, hP, hK, hD0, hN⟩ := hv
  have hx := B.exec
  have hb := B.bytes
  have hr := B.returns
  have hts := atoms_spec B.pre
  have hT : ∀ w ∈ TG, w.before _ s = true := fun w h => hts w (List.mem_cons_of_mem _ h)
  have hown : s.vm.findClass R_Mod = some m.cls := findClass_of_methodNamed B.named
  have hlocks := B.notSynchronized
  subst hsz
  have hD := hD0.self (sz := s.heap.size)
  generalize hAe : va_A [(h, .inr (12, F))] s.heap.size = A at hD ⊢
  have hA : ∀ q : Nat, s.heap.size ≤ q → A q := fun q h => by rw [← hAe]; exact Or.inr h
  have hS : va_S A s.heap s.heap [] := va_S.rf
  have hl := lv_entry ([.ref h]) (n := 3) (Nat.le_of_ble_eq_true rfl)
  rw [lg_entry_eq]
  generalize (lg_sl ([.ref h]) ++ List.replicate (3 - (lg_sl ([.ref h])).length) Slot.unset).toArray = ls at hl ⊢
  have hl : lv_has ls 3 [(0, .ref h)] := hl
  refine lv_aload_n hx hb d_Mod_query_0 rfl (lv_at hl 0 rfl) ?_
  refine lv_iconst (v := 0) hx hb d_Mod_query_1 (by decide) ?_
  refine f_put (D := (dC, dI)) (ci := 12) (v := .int 0) (ty := .int) (C := R_Mod) (T := F_Mod) (N := 167) hx hb hT in_Mod t_Mod t_Mod_ok n_Mod hown hK hP hD hS 0 rfl rfl 0 (by decide) fr_Mod_0 w_8_180 (by decide +kernel) rfl rfl (by rw [nF]; decide) d_Mod_query_2 (fun H locs hP hD hS => ?_)
  have hP : va_P (dC, dI) CL [(h, .inr (12, F.set 0 (.int 0)))] H := hP
  have hD : va_D A [(h, .inr (12, F.set 0 (.int 0)))] := hD
  refine lv_aload_n hx hb d_Mod_query_5 rfl (lv_at hl 0 rfl) ?_
  have hPc := hP.sub (ws' := [(h, .inr (12, F.set 0 (.int 0)))]) [0] rfl
  have hDc := hD.sub (ws' := [(h, .inr (12, F.set 0 (.int 0)))]) [0] (by decide) rfl
  have hFc := va_free (wc := [(h, .inr (12, F.set 0 (.int 0)))]) hD hS hA [0] rfl
  refine va_callv (va_runV (C := R_Mod) (As := []) (rest := []) ⟨hx, hb, hml, hown, hT⟩ (c_Mod_begins l dC dI cI cB cJ cZ H.size h (F.set 0 (.int 0)) n (by rw [List.length_set]; exact nF) ((List.getElem?_set_ne (by decide)).trans gF_4)) ⟨callB_of 0 hT (gw_in w_10_217) rfl rfl rfl (hT _ w_1_15) (hT _ w_10_214) (by decide +kernel) ⟨Nat.le_of_ble_eq_true rfl, Nat.le_of_ble_eq_true rfl⟩, hT _ w_10_216, hT _ ws_108⟩ ⟨PC.blind, va_recv hK hPc (ci := 12) (q0 := 0) rfl rfl, PC.at _ hPc hDc hK hN⟩ rfl rfl hl.1 rfl (lv_room (Nat.le_of_ble_eq_true rfl)) d_Mod_query_6 ⟨show _ ≤ 0 by omega, show _ ≤ 0 by omega⟩) hS (fun q _ h => hFc q h) hFc (fun  u t H1 locs ht hvm hw hB hz1 hk1 hS => ?_)
  obtain ⟨hP1, hD1⟩ := hB
  rw [ht] at hP1
  obtain ⟨hP, hD⟩ := va_join (wr := []) (w1 := [(h, .inr (12, ((((F.set 0 (.int 0)).set 15 (.int n)).set 4 (.int 0)).set 16 (.int 0)).set 17 (.int (-1))))]) hP hD [0] [] rfl rfl (by decide) (by decide) hk1 hFc hP1 hD1
  generalize H1 = H at hP hS ⊢
  have hP : va_P (dC, dI) CL [(h, .inr (12, ((((F.set 0 (.int 0)).set 15 (.int n)).set 4 (.int 0)).set 16 (.int 0)).set 17 (.int (-1))))] H := hP
  have hD : va_D A [(h, .inr (12, ((((F.set 0 (.int 0)).set 15 (.int n)).set 4 (.int 0)).set 16 (.int 0)).set 17 (.int (-1))))] := hD
  refine lv_aload_n hx hb d_Mod_query_9 rfl (lv_at hl 0 rfl) ?_
  refine f_get (D := (dC, dI)) (ci := 12) (v := .int 0) (C := R_Mod) (T := F_Mod) (N := 167) hx hb hT in_Mod hown hK hP 0 rfl rfl 82 (by decide) fr_Mod_82 w_9_22 ((List.getElem?_set_ne (by decide)).trans ((List.getElem?_set_ne (by decide)).trans ((List.getElem?_set_ne (by decide)).trans ((List.getElem?_set_ne (by decide)).trans ((List.getElem?_set_ne (by decide)).trans gF_82))))) d_Mod_query_10 ?_
  refine lv_if_ne (tgt := 19) hx hb d_Mod_query_13 (by decide) (fun c1 => by first | exact absurd c1 (by decide) | exact absurd (by decide) c1) (fun c1 => ?_)
  refine lv_bipush (v := (-2)) hx hb d_Mod_query_16 (by decide) ?_
  exact W.iret (v := (-2)) hx hb hr (fun t ht hW => ⟨⟨(-2), (), rfl, rfl, by rw [ht]; exact hP, hD⟩, hS.F ht⟩) hS.2.2 d_Mod_query_18
set_option maxHeartbeats 4000000 in
set_option maxRecDepth 100000 in
/-- the model's run without a query -/
theorem c_Mod_run_none (sz : Nat) (h : Nat) (F : List Value) (nF : F.length = 167) (gF_120 : F[120]? = some (.int 0)) : Met l y_Mod_run (wsOf y_Mod_run b_Mod_run 3 (some (.int))) ({ frames := 0, cells := 0, slots := 0, locals := 0 }) (va_Pc [.ref h] (PC dC dI cI cB cJ cZ sz [(h, .inr (12, F))])) (va_Qi (fun (r : Int32) (_ : Unit) => r = (-1)) (fun _ t => va_P (dC, dI) CL [(h, .inr (12, F.set 0 (.int 0)))] t.heap ∧ va_D (va_A [(h, .inr (12, F))] sz) [(h, .inr (12, F.set 0 (.int 0)))]) (va_A [(h, .inr (12, F))] sz)) 0 0 (va_A [(h, .inr (12, F))] sz) := by
  refine Met.ofW (cc := b_Mod_run) (maxL := 3) (ret := some (.int)) (by decide) rfl ?_
  intro p e s m args below meth c s₁ B hml hv
  obtain ⟨rfl, hsz, hP, hK, hD0, hN⟩ := hv
  have hx := B.exec
  have hb := B.bytes
  have hr := B.returns
  have hts := atoms_spec B.pre
  have hT : ∀ w ∈ TG, w.before _ s = true := fun w h => hts w (List.mem_cons_of_mem _ h)
  have hown : s.vm.findClass R_Mod = some m.cls := findClass_of_methodNamed B.named
  have hlocks := B.notSynchronized
  subst hsz
  have hD := hD0.self (sz := s.heap.size)
  generalize hAe : va_A [(h, .inr (12, F))] s.heap.size = A at hD ⊢
  have hA : ∀ q : Nat, s.heap.size ≤ q → A q := fun q h => by rw [← hAe]; exact Or.inr h
  have hS : va_S A s.heap s.heap [] := va_S.rf
  have hl := lv_entry ([.ref h]) (n := 3) (Nat.le_of_ble_eq_true rfl)
  rw [lg_entry_eq]
  generalize (lg_sl ([.ref h]) ++ List.replicate (3 - (lg_sl ([.ref h])).length) Slot.unset).toArray = ls at hl ⊢
  have hl : lv_has ls 3 [(0, .ref h)] := hl
  refine lv_aload_n hx hb d_Mod_run_0 rfl (lv_at hl 0 rfl) ?_
  refine lv_iconst (v := 0) hx hb d_Mod_run_1 (by decide) ?_
  refine f_put (D := (dC, dI)) (ci := 12) (v := .int 0) (ty := .int) (C := R_Mod) (T := F_Mod) (N := 167) hx hb hT in_Mod t_Mod t_Mod_ok n_Mod hown hK hP hD hS 0 rfl rfl 0 (by decide) fr_Mod_0 w_8_180 (by decide +kernel) rfl rfl (by rw [nF]; decide) d_Mod_run_2 (fun H locs hP hD hS => ?_)
  have hP : va_P (dC, dI) CL [(h, .inr (12, F.set 0 (.int 0)))] H := hP
  have hD : va_D A [(h, .inr (12, F.set 0 (.int 0)))] := hD
  refine lv_aload_n hx hb d_Mod_run_5 rfl (lv_at hl 0 rfl) ?_
  refine f_get (D := (dC, dI)) (ci := 12) (v := .int 0) (C := R_Mod) (T := F_Mod) (N := 167) hx hb hT in_Mod hown hK hP 0 rfl rfl 120 (by decide) fr_Mod_120 w_9_60 ((List.getElem?_set_ne (by decide)).trans gF_120) d_Mod_run_6 ?_
  refine lv_if_ne (tgt := 14) hx hb d_Mod_run_9 (by decide) (fun c1 => by first | exact absurd c1 (by decide) | exact absurd (by decide) c1) (fun c1 => ?_)
  refine lv_iconst (v := (-1)) hx hb d_Mod_run_12 (by decide) ?_
  exact W.iret (v := (-1)) hx hb hr (fun t ht hW => ⟨⟨(-1), (), rfl, rfl, by rw [ht]; exact hP, hD⟩, hS.F ht⟩) hS.2.2 d_Mod_run_13
set_option maxHeartbeats 4000000 in
set_option maxRecDepth 100000 in
/-- the model's isRow without an answer -/
theorem c_Mod_isRow_none (sz : Nat) (h : Nat) (F : List Value) (k : Int32) (nF : F.length = 167) (gF_121 : F[121]? = some (.int 0)) : Met l y_Mod_isRow (wsOf y_Mod_isRow b_Mod_isRow 2 (some (.boolean))) ({ frames := 0, cells := 0, slots := 0, locals := 0 }) (va_Pc [.ref h, .int k] (PC dC dI cI cB cJ cZ sz [(h, .inr (12, F))])) (va_Qi (fun (r : Int32) (_ : Unit) => r = 0) (fun _ t => va_P (dC, dI) CL [(h, .inr (12, F))] t.heap ∧ va_D (va_A [(h, .inr (12, F))] sz) [(h, .inr (12, F))]) (va_A [(h, .inr (12, F))] sz)) 0 0 (va_A [(h, .inr (12, F))] sz) := by
  refine Met.ofW (cc := b_Mod_isRow) (maxL := 2) (ret := some (.boolean)) (by decide) rfl ?_
  intro p e s m args below meth c s₁ B hml hv
  obtain ⟨rfl, hsz, hP, hK, hD0, hN⟩ := hv
  have hx := B.exec
  have hb := B.bytes
  have hr := B.returns
  have hts := atoms_spec B.pre
  have hT : ∀ w ∈ TG, w.before _ s = true := fun w h => hts w (List.mem_cons_of_mem _ h)
  have hown : s.vm.findClass R_Mod = some m.cls := findClass_of_methodNamed B.named
  have hlocks := B.notSynchronized
  subst hsz
  have hD := hD0.self (sz := s.heap.size)
  generalize hAe : va_A [(h, .inr (12, F))] s.heap.size = A at hD ⊢
  have hA : ∀ q : Nat, s.heap.size ≤ q → A q := fun q h => by rw [← hAe]; exact Or.inr h
  have hS : va_S A s.heap s.heap [] := va_S.rf
  have hl := lv_entry ([.ref h, .int k]) (n := 2) (Nat.le_of_ble_eq_true rfl)
  rw [lg_entry_eq]
  generalize (lg_sl ([.ref h, .int k]) ++ List.replicate (2 - (lg_sl ([.ref h, .int k])).length) Slot.unset).toArray = ls at hl ⊢
  have hl : lv_has ls 2 [(0, .ref h), (1, .int k)] := hl
  refine lv_aload_n hx hb d_Mod_isRow_0 rfl (lv_at hl 0 rfl) ?_
  refine f_get (D := (dC, dI)) (ci := 12) (v := .int 0) (C := R_Mod) (T := F_Mod) (N := 167) hx hb hT in_Mod hown hK hP 0 rfl rfl 121 (by decide) fr_Mod_121 w_9_61 gF_121 d_Mod_isRow_1 ?_
  refine lv_if_eq (tgt := 34) hx hb d_Mod_isRow_4 (by decide) (fun c1 => ?_) (fun c1 => by first | exact absurd c1 (by decide) | exact absurd (by decide) c1)
  refine lv_iconst (v := 0) hx hb d_Mod_isRow_34 (by decide) ?_
  exact W.zret (v := 0) (ty := .boolean) hx hb hr rfl (fun t ht hW => ⟨⟨0, (), rfl, rfl, by rw [ht]; exact hP, hD⟩, hS.F ht⟩) hS.2.2 d_Mod_isRow_35
set_option maxHeartbeats 4000000 in
set_option maxRecDepth 100000 in
/-- the model's row without an answer -/
theorem c_Mod_row_none (sz : Nat) (h : Nat) (F : List Value) (k : Int32) (nF : F.length = 167) (gF_121 : F[121]? = some (.int 0)) : Met l y_Mod_row (wsOf y_Mod_row b_Mod_row 2 (some (.int))) ({ frames := 1, cells := 0, slots := 0, locals := 21 }) (va_Pc [.ref h, .int k] (PC dC dI cI cB cJ cZ sz [(h, .inr (12, F))])) (va_Qi (fun (r : Int32) (_ : Unit) => r = (-1)) (fun _ t => va_P (dC, dI) CL [(h, .inr (12, (F.set 0 (.int 0))))] t.heap ∧ va_D (va_A [(h, .inr (12, F))] sz) [(h, .inr (12, (F.set 0 (.int 0))))]) (va_A [(h, .inr (12, F))] sz)) 0 0 (va_A [(h, .inr (12, F))] sz) := by
  refine Met.ofW (cc := b_Mod_row) (maxL := 2) (ret := some (.int)) (by decide) rfl ?_
  intro p e s m args below meth c s₁ B hml hv
  obtain ⟨rfl, hsz, hP, hK, hD0, hN⟩ := hv
  have hx := B.exec
  have hb := B.bytes
  have hr := B.returns
  have hts := atoms_spec B.pre
  have hT : ∀ w ∈ TG, w.before _ s = true := fun w h => hts w (List.mem_cons_of_mem _ h)
  have hown : s.vm.findClass R_Mod = some m.cls := findClass_of_methodNamed B.named
  have hlocks := B.notSynchronized
  subst hsz
  have hD := hD0.self (sz := s.heap.size)
  generalize hAe : va_A [(h, .inr (12, F))] s.heap.size = A at hD ⊢
  have hA : ∀ q : Nat, s.heap.size ≤ q → A q := fun q h => by rw [← hAe]; exact Or.inr h
  have hS : va_S A s.heap s.heap [] := va_S.rf
  have hl := lv_entry ([.ref h, .int k]) (n := 2) (Nat.le_of_ble_eq_true rfl)
  rw [lg_entry_eq]
  generalize (lg_sl ([.ref h, .int k]) ++ List.replicate (2 - (lg_sl ([.ref h, .int k])).length) Slot.unset).toArray = ls at hl ⊢
  have hl : lv_has ls 2 [(0, .ref h), (1, .int k)] := hl
  refine lv_aload_n hx hb d_Mod_row_0 rfl (lv_at hl 0 rfl) ?_
  refine lv_iconst (v := 0) hx hb d_Mod_row_1 (by decide) ?_
  refine f_put (D := (dC, dI)) (ci := 12) (v := .int 0) (ty := .int) (C := R_Mod) (T := F_Mod) (N := 167) hx hb hT in_Mod t_Mod t_Mod_ok n_Mod hown hK hP hD hS 0 rfl rfl 0 (by decide) fr_Mod_0 w_8_180 (by decide +kernel) rfl rfl (by rw [nF]; decide) d_Mod_row_2 (fun H locs hP hD hS => ?_)
  have hP : va_P (dC, dI) CL [(h, .inr (12, F.set 0 (.int 0)))] H := hP
  have hD : va_D A [(h, .inr (12, F.set 0 (.int 0)))] := hD
  refine lv_aload_n hx hb d_Mod_row_5 rfl (lv_at hl 0 rfl) ?_
  refine lv_iload_n hx hb d_Mod_row_6 rfl (lv_at hl 1 rfl) ?_
  have hPc := hP.sub (ws' := [(h, .inr (12, F.set 0 (.int 0)))]) [0] rfl
  have hDc := hD.sub (ws' := [(h, .inr (12, F.set 0 (.int 0)))]) [0] (by decide) rfl
  have hFc := va_free (wc := [(h, .inr (12, F.set 0 (.int 0)))]) hD hS hA [0] rfl
  refine va_calli (va_runV (C := R_Mod) (As := [.int k]) (rest := []) ⟨hx, hb, hml, hown, hT⟩ (c_Mod_isRow_none l dC dI cI cB cJ cZ H.size h (F.set 0 (.int 0)) k (by rw [List.length_set]; exact nF) ((List.getElem?_set_ne (by decide)).trans gF_121)) ⟨callB_of 1 hT (gw_in w_14_59) rfl rfl rfl (hT _ w_1_15) (hT _ w_14_56) (by decide +kernel) ⟨Nat.le_of_ble_eq_true rfl, Nat.le_of_ble_eq_true rfl⟩, hT _ w_14_58, hT _ ws_272⟩ ⟨PC.blind, va_recv hK hPc (ci := 12) (q0 := 0) rfl rfl, PC.at _ hPc hDc hK hN⟩ rfl rfl hl.1 rfl (lv_room (Nat.le_of_ble_eq_true rfl)) d_Mod_row_7 ⟨show _ ≤ 0 by omega, show _ ≤ 0 by omega⟩) hS (fun q _ h => hFc q h) hFc (fun r1 u t H1 locs ht hvm hw hB hz1 hk1 hS => ?_)
  obtain ⟨hP1, hD1⟩ := hB
  have hw : 0 = r1 := Eq.symm hw
  subst hw
  rw [ht] at hP1
  obtain ⟨hP, hD⟩ := va_join (wr := []) (w1 := [(h, .inr (12, (F.set 0 (.int 0))))]) hP hD [0] [] rfl rfl (by decide) (by decide) hk1 hFc hP1 hD1
  generalize H1 = H at hP hS ⊢
  have hP : va_P (dC, dI) CL [(h, .inr (12, (F.set 0 (.int 0))))] H := hP
  have hD : va_D A [(h, .inr (12, (F.set 0 (.int 0))))] := hD
  refine lv_if_eq (tgt := 22) hx hb d_Mod_row_10 (by decide) (fun c1 => ?_) (fun c1 => by first | exact absurd c1 (by decide) | exact absurd (by decide) c1)
  refine lv_iconst (v := (-1)) hx hb d_Mod_row_22 (by decide) ?_
  exact W.iret (v := (-1)) hx hb hr (fun t ht hW => ⟨⟨(-1), (), rfl, rfl, by rw [ht]; exact hP, hD⟩, hS.F ht⟩) hS.2.2 d_Mod_row_23
set_option maxHeartbeats 4000000 in
set_option maxRecDepth 100000 in
/-- the model's answer without an answer -/
theorem c_Mod_answer_none (sz : Nat) (h : Nat) (F : List Value) (k : Int32) (nF : F.length = 167) (gF_121 : F[121]? = some (.int 0)) : Met l y_Mod_answer (wsOf y_Mod_answer b_Mod_answer 4 (some (.int))) ({ frames := 1, cells := 0, slots := 0, locals := 21 }) (va_Pc [.ref h, .int k] (PC dC dI cI cB cJ cZ sz [(h, .inr (12, F))])) (va_Qi (fun (r : Int32) (_ : Unit) => r = (-1)) (fun _ t => va_P (dC, dI) CL [(h, .inr (12, ((F.set 0 (.int 0)).set 113 (.int 0))))] t.heap ∧ va_D (va_A [(h, .inr (12, F))] sz) [(h, .inr (12, ((F.set 0 (.int 0)).set 113 (.int 0))))]) (va_A [(h, .inr (12, F))] sz)) 0 0 (va_A [(h, .inr (12, F))] sz) := by
  refine Met.ofW (cc := b_Mod_answer) (maxL := 4) (ret := some (.int)) (by decide) rfl ?_
  intro p e s m args below meth c s₁ B hml hv
  obtain ⟨rfl, hsz, hP, hK, hD0, hN⟩ := hv
  have hx := B.exec
  have hb := B.bytes
  have hr := B.returns
  have hts := atoms_spec B.pre
  have hT : ∀ w ∈ TG, w.before _ s = true := fun w h => hts w (List.mem_cons_of_mem _ h)
  have hown : s.vm.findClass R_Mod = some m.cls := findClass_of_methodNamed B.named
  have hlocks := B.notSynchronized
  subst hsz
  have hD := hD0.self (sz := s.heap.size)
  generalize hAe : va_A [(h, .inr (12, F))] s.heap.size = A at hD ⊢
  have hA : ∀ q : Nat, s.heap.size ≤ q → A q := fun q h => by rw [← hAe]; exact Or.inr h
  have hS : va_S A s.heap s.heap [] := va_S.rf
  have hl := lv_entry ([.ref h, .int k]) (n := 4) (Nat.le_of_ble_eq_true rfl)
  rw [lg_entry_eq]
  generalize (lg_sl ([.ref h, .int k]) ++ List.replicate (4 - (lg_sl ([.ref h, .int k])).length) Slot.unset).toArray = ls at hl ⊢
  have hl : lv_has ls 4 [(0, .ref h), (1, .int k)] := hl
  refine lv_aload_n hx hb d_Mod_answer_0 rfl (lv_at hl 0 rfl) ?_
  refine lv_iconst (v := 0) hx hb d_Mod_answer_1 (by decide) ?_
  refine f_put (D := (dC, dI)) (ci := 12) (v := .int 0) (ty := .int) (C := R_Mod) (T := F_Mod) (N := 167) hx hb hT in_Mod t_Mod t_Mod_ok n_Mod hown hK hP hD hS 0 rfl rfl 0 (by decide) fr_Mod_0 w_8_180 (by decide +kernel) rfl rfl (by rw [nF]; decide) d_Mod_answer_2 (fun H locs hP hD hS => ?_)
  have hP : va_P (dC, dI) CL [(h, .inr (12, F.set 0 (.int 0)))] H := hP
  have hD : va_D A [(h, .inr (12, F.set 0 (.int 0)))] := hD
  refine lv_aload_n hx hb d_Mod_answer_5 rfl (lv_at hl 0 rfl) ?_
  refine lv_iconst (v := 0) hx hb d_Mod_answer_6 (by decide) ?_
  refine f_put (D := (dC, dI)) (ci := 12) (v := .int 0) (ty := .int) (C := R_Mod) (T := F_Mod) (N := 167) hx hb hT in_Mod t_Mod t_Mod_ok n_Mod hown hK hP hD hS 0 rfl rfl 113 (by decide) fr_Mod_113 w_9_53 (by decide +kernel) rfl rfl (by rw [List.length_set]; exact (by rw [nF]; decide)) d_Mod_answer_7 (fun H locs hP hD hS => ?_)
  have hP : va_P (dC, dI) CL [(h, .inr (12, (F.set 0 (.int 0)).set 113 (.int 0)))] H := hP
  have hD : va_D A [(h, .inr (12, (F.set 0 (.int 0)).set 113 (.int 0)))] := hD
  refine lv_aload_n hx hb d_Mod_answer_10 rfl (lv_at hl 0 rfl) ?_
  refine lv_iload_n hx hb d_Mod_answer_11 rfl (lv_at hl 1 rfl) ?_
  have hPc := hP.sub (ws' := [(h, .inr (12, (F.set 0 (.int 0)).set 113 (.int 0)))]) [0] rfl
  have hDc := hD.sub (ws' := [(h, .inr (12, (F.set 0 (.int 0)).set 113 (.int 0)))]) [0] (by decide) rfl
  have hFc := va_free (wc := [(h, .inr (12, (F.set 0 (.int 0)).set 113 (.int 0)))]) hD hS hA [0] rfl
  refine va_calli (va_runV (C := R_Mod) (As := [.int k]) (rest := []) ⟨hx, hb, hml, hown, hT⟩ (c_Mod_isRow_none l dC dI cI cB cJ cZ H.size h ((F.set 0 (.int 0)).set 113 (.int 0)) k (by rw [List.length_set]; exact (by rw [List.length_set]; exact nF)) ((List.getElem?_set_ne (by decide)).trans ((List.getElem?_set_ne (by decide)).trans gF_121))) ⟨callB_of 1 hT (gw_in w_14_59) rfl rfl rfl (hT _ w_1_15) (hT _ w_14_56) (by decide +kernel) ⟨Nat.le_of_ble_eq_true rfl, Nat.le_of_ble_eq_true rfl⟩, hT _ w_14_58, hT _ ws_272⟩ ⟨PC.blind, va_recv hK hPc (ci := 12) (q0 := 0) rfl rfl, PC.at _ hPc hDc hK hN⟩ rfl rfl hl.1 rfl (lv_room (Nat.le_of_ble_eq_true rfl)) d_Mod_answer_12 ⟨show _ ≤ 0 by omega, show _ ≤ 0 by omega⟩) hS (fun q _ h => hFc q h) hFc (fun r1 u t H1 locs ht hvm hw hB hz1 hk1 hS => ?_)
  obtain ⟨hP1, hD1⟩ := hB
  have hw : 0 = r1 := Eq.symm hw
  subst hw
  rw [ht] at hP1
  obtain ⟨hP, hD⟩ := va_join (wr := []) (w1 := [(h, .inr (12, ((F.set 0 (.int 0)).set 113 (.int 0))))]) hP hD [0] [] rfl rfl (by decide) (by decide) hk1 hFc hP1 hD1
  generalize H1 = H at hP hS ⊢
  have hP : va_P (dC, dI) CL [(h, .inr (12, ((F.set 0 (.int 0)).set 113 (.int 0))))] H := hP
  have hD : va_D A [(h, .inr (12, ((F.set 0 (.int 0)).set 113 (.int 0))))] := hD
  refine lv_if_ne (tgt := 20) hx hb d_Mod_answer_15 (by decide) (fun c1 => by first | exact absurd c1 (by decide) | exact absurd (by decide) c1) (fun c1 => ?_)
  refine lv_iconst (v := (-1)) hx hb d_Mod_answer_18 (by decide) ?_
  exact W.iret (v := (-1)) hx hb hr (fun t ht hW => ⟨⟨(-1), (), rfl, rfl, by rw [ht]; exact hP, hD⟩, hS.F ht⟩) hS.2.2 d_Mod_answer_19
set_option maxHeartbeats 4000000 in
set_option maxRecDepth 100000 in
/-- the model's isItem without an answer -/
theorem c_Mod_isItem_none (sz : Nat) (h : Nat) (F : List Value) (k i : Int32) (nF : F.length = 167) (gF_121 : F[121]? = some (.int 0)) : Met l y_Mod_isItem (wsOf y_Mod_isItem b_Mod_isItem 3 (some (.boolean))) ({ frames := 0, cells := 0, slots := 0, locals := 0 }) (va_Pc [.ref h, .int k, .int i] (PC dC dI cI cB cJ cZ sz [(h, .inr (12, F))])) (va_Qi (fun (r : Int32) (_ : Unit) => r = 0) (fun _ t => va_P (dC, dI) CL [(h, .inr (12, F))] t.heap ∧ va_D (va_A [(h, .inr (12, F))] sz) [(h, .inr (12, F))]) (va_A [(h, .inr (12, F))] sz)) 0 0 (va_A [(h, .inr (12, F))] sz) := by
  refine Met.ofW (cc := b_Mod_isItem) (maxL := 3) (ret := some (.boolean)) (by decide) rfl ?_
  intro p e s m args below meth c s₁ B hml hv
  obtain ⟨rfl, hsz, hP, hK, hD0, hN⟩ := hv
  have hx := B.exec
  have hb := B.bytes
  have hr := B.returns
  have hts := atoms_spec B.pre
  have hT : ∀ w ∈ TG, w.before _ s = true := fun w h => hts w (List.mem_cons_of_mem _ h)
  have hown : s.vm.findClass R_Mod = some m.cls := findClass_of_methodNamed B.named
  have hlocks := B.notSynchronized
  subst hsz
  have hD := hD0.self (sz := s.heap.size)
  generalize hAe : va_A [(h, .inr (12, F))] s.heap.size = A at hD ⊢
  have hA : ∀ q : Nat, s.heap.size ≤ q → A q := fun q h => by rw [← hAe]; exact Or.inr h
  have hS : va_S A s.heap s.heap [] := va_S.rf
  have hl := lv_entry ([.ref h, .int k, .int i]) (n := 3) (Nat.le_of_ble_eq_true rfl)
  rw [lg_entry_eq]
  generalize (lg_sl ([.ref h, .int k, .int i]) ++ List.replicate (3 - (lg_sl ([.ref h, .int k, .int i])).length) Slot.unset).toArray = ls at hl ⊢
  have hl : lv_has ls 3 [(0, .ref h), (1, .int k), (2, .int i)] := hl
  refine lv_aload_n hx hb d_Mod_isItem_0 rfl (lv_at hl 0 rfl) ?_
  refine f_get (D := (dC, dI)) (ci := 12) (v := .int 0) (C := R_Mod) (T := F_Mod) (N := 167) hx hb hT in_Mod hown hK hP 0 rfl rfl 121 (by decide) fr_Mod_121 w_9_61 gF_121 d_Mod_isItem_1 ?_
  refine lv_if_eq (tgt := 53) hx hb d_Mod_isItem_4 (by decide) (fun c1 => ?_) (fun c1 => by first | exact absurd c1 (by decide) | exact absurd (by decide) c1)
  refine lv_iconst (v := 0) hx hb d_Mod_isItem_53 (by decide) ?_
  exact W.zret (v := 0) (ty := .boolean) hx hb hr rfl (fun t ht hW => ⟨⟨0, (), rfl, rfl, by rw [ht]; exact hP, hD⟩, hS.F ht⟩) hS.2.2 d_Mod_isItem_54
set_option maxHeartbeats 4000000 in
set_option maxRecDepth 100000 in
/-- the model's kindOf without an answer -/
theorem c_Mod_kindOf_none (sz : Nat) (h : Nat) (F : List Value) (k i : Int32) (nF : F.length = 167) (gF_121 : F[121]? = some (.int 0)) : Met l y_Mod_kindOf (wsOf y_Mod_kindOf b_Mod_kindOf 5 (some (.int))) ({ frames := 1, cells := 0, slots := 0, locals := 22 }) (va_Pc [.ref h, .int k, .int i] (PC dC dI cI cB cJ cZ sz [(h, .inr (12, F))])) (va_Qi (fun (r : Int32) (_ : Unit) => r = (-1)) (fun _ t => va_P (dC, dI) CL [(h, .inr (12, F))] t.heap ∧ va_D (va_A [(h, .inr (12, F))] sz) [(h, .inr (12, F))]) (va_A [(h, .inr (12, F))] sz)) 0 0 (va_A [(h, .inr (12, F))] sz) := by
  refine Met.ofW (cc := b_Mod_kindOf) (maxL := 5) (ret := some (.int)) (by decide) rfl ?_
  intro p e s m args below meth c s₁ B hml hv
  obtain ⟨rfl, hsz, hP, hK, hD0, hN⟩ := hv
  have hx := B.exec
  have hb := B.bytes
  have hr := B.returns
  have hts := atoms_spec B.pre
  have hT : ∀ w ∈ TG, w.before _ s = true := fun w h => hts w (List.mem_cons_of_mem _ h)
  have hown : s.vm.findClass R_Mod = some m.cls := findClass_of_methodNamed B.named
  have hlocks := B.notSynchronized
  subst hsz
  have hD := hD0.self (sz := s.heap.size)
  generalize hAe : va_A [(h, .inr (12, F))] s.heap.size = A at hD ⊢
  have hA : ∀ q : Nat, s.heap.size ≤ q → A q := fun q h => by rw [← hAe]; exact Or.inr h
  have hS : va_S A s.heap s.heap [] := va_S.rf
  have hl := lv_entry ([.ref h, .int k, .int i]) (n := 5) (Nat.le_of_ble_eq_true rfl)
  rw [lg_entry_eq]
  generalize (lg_sl ([.ref h, .int k, .int i]) ++ List.replicate (5 - (lg_sl ([.ref h, .int k, .int i])).length) Slot.unset).toArray = ls at hl ⊢
  have hl : lv_has ls 5 [(0, .ref h), (1, .int k), (2, .int i)] := hl
  refine lv_aload_n hx hb d_Mod_kindOf_0 rfl (lv_at hl 0 rfl) ?_
  refine lv_iload_n hx hb d_Mod_kindOf_1 rfl (lv_at hl 1 rfl) ?_
  refine lv_iload_n hx hb d_Mod_kindOf_2 rfl (lv_at hl 2 rfl) ?_
  have hPc := hP.sub (ws' := [(h, .inr (12, F))]) [0] rfl
  have hDc := hD.sub (ws' := [(h, .inr (12, F))]) [0] (by decide) rfl
  have hFc := va_free (wc := [(h, .inr (12, F))]) hD hS hA [0] rfl
  refine va_calli (va_runV (C := R_Mod) (As := [.int k, .int i]) (rest := []) ⟨hx, hb, hml, hown, hT⟩ (c_Mod_isItem_none l dC dI cI cB cJ cZ s.heap.size h F k i nF gF_121) ⟨callB_of 2 hT (gw_in w_14_75) rfl rfl rfl (hT _ w_1_15) (hT _ w_14_72) (by decide +kernel) ⟨Nat.le_of_ble_eq_true rfl, Nat.le_of_ble_eq_true rfl⟩, hT _ w_14_74, hT _ ws_274⟩ ⟨PC.blind, va_recv hK hPc (ci := 12) (q0 := 0) rfl rfl, PC.at _ hPc hDc hK hN⟩ rfl rfl hl.1 rfl (lv_room (Nat.le_of_ble_eq_true rfl)) d_Mod_kindOf_3 ⟨show _ ≤ 0 by omega, show _ ≤ 0 by omega⟩) hS (fun q _ h => hFc q h) hFc (fun r1 u t H1 locs ht hvm hw hB hz1 hk1 hS => ?_)
  obtain ⟨hP1, hD1⟩ := hB
  have hw : 0 = r1 := Eq.symm hw
  subst hw
  rw [ht] at hP1
  obtain ⟨hP, hD⟩ := va_join (wr := []) (w1 := [(h, .inr (12, F))]) hP hD [0] [] rfl rfl (by decide) (by decide) hk1 hFc hP1 hD1
  generalize H1 = H at hP hS ⊢
  have hP : va_P (dC, dI) CL [(h, .inr (12, F))] H := hP
  have hD : va_D A [(h, .inr (12, F))] := hD
  refine lv_if_ne (tgt := 11) hx hb d_Mod_kindOf_6 (by decide) (fun c1 => by first | exact absurd c1 (by decide) | exact absurd (by decide) c1) (fun c1 => ?_)
  refine lv_iconst (v := (-1)) hx hb d_Mod_kindOf_9 (by decide) ?_
  exact W.iret (v := (-1)) hx hb hr (fun t ht hW => ⟨⟨(-1), (), rfl, rfl, by rw [ht]; exact hP, hD⟩, hS.F ht⟩) hS.2.2 d_Mod_kindOf_10
set_option maxHeartbeats 4000000 in
set_option maxRecDepth 100000 in
/-- the model's kind without an answer -/
theorem c_Mod_kind_none (sz : Nat) (h : Nat) (F : List Value) (k i : Int32) (nF : F.length = 167) (gF_121 : F[121]? = some (.int 0)) : Met l y_Mod_kind (wsOf y_Mod_kind b_Mod_kind 3 (some (.int))) ({ frames := 2, cells := 0, slots := 0, locals := 46 }) (va_Pc [.ref h, .int k, .int i] (PC dC dI cI cB cJ cZ sz [(h, .inr (12, F))])) (va_Qi (fun (r : Int32) (_ : Unit) => r = (-1)) (fun _ t => va_P (dC, dI) CL [(h, .inr (12, (F.set 0 (.int 0))))] t.heap ∧ va_D (va_A [(h, .inr (12, F))] sz) [(h, .inr (12, (F.set 0 (.int 0))))]) (va_A [(h, .inr (12, F))] sz)) 0 0 (va_A [(h, .inr (12, F))] sz) := by
  refine Met.ofW (cc := b_Mod_kind) (maxL := 3) (ret := some (.int)) (by decide) rfl ?_
  intro p e s m args below meth c s₁ B hml hv
  obtain ⟨rfl, hsz, hP, hK, hD0, hN⟩ := hv
  have hx := B.exec
  have hb := B.bytes
  have hr := B.returns
  have hts := atoms_spec B.pre
  have hT : ∀ w ∈ TG, w.before _ s = true := fun w h => hts w (List.mem_cons_of_mem _ h)
  have hown : s.vm.findClass R_Mod = some m.cls := findClass_of_methodNamed B.named
  have hlocks := B.notSynchronized
  subst hsz
  have hD := hD0.self (sz := s.heap.size)
  generalize hAe : va_A [(h, .inr (12, F))] s.heap.size = A at hD ⊢
  have hA : ∀ q : Nat, s.heap.size ≤ q → A q := fun q h => by rw [← hAe]; exact Or.inr h
  have hS : va_S A s.heap s.heap [] := va_S.rf
  have hl := lv_entry ([.ref h, .int k, .int i]) (n := 3) (Nat.le_of_ble_eq_true rfl)
  rw [lg_entry_eq]
  generalize (lg_sl ([.ref h, .int k, .int i]) ++ List.replicate (3 - (lg_sl ([.ref h, .int k, .int i])).length) Slot.unset).toArray = ls at hl ⊢
  have hl : lv_has ls 3 [(0, .ref h), (1, .int k), (2, .int i)] := hl
  refine lv_aload_n hx hb d_Mod_kind_0 rfl (lv_at hl 0 rfl) ?_
  refine lv_iconst (v := 0) hx hb d_Mod_kind_1 (by decide) ?_
  refine f_put (D := (dC, dI)) (ci := 12) (v := .int 0) (ty := .int) (C := R_Mod) (T := F_Mod) (N := 167) hx hb hT in_Mod t_Mod t_Mod_ok n_Mod hown hK hP hD hS 0 rfl rfl 0 (by decide) fr_Mod_0 w_8_180 (by decide +kernel) rfl rfl (by rw [nF]; decide) d_Mod_kind_2 (fun H locs hP hD hS => ?_)
  have hP : va_P (dC, dI) CL [(h, .inr (12, F.set 0 (.int 0)))] H := hP
  have hD : va_D A [(h, .inr (12, F.set 0 (.int 0)))] := hD
  refine lv_aload_n hx hb d_Mod_kind_5 rfl (lv_at hl 0 rfl) ?_
  refine lv_iload_n hx hb d_Mod_kind_6 rfl (lv_at hl 1 rfl) ?_
  refine lv_iload_n hx hb d_Mod_kind_7 rfl (lv_at hl 2 rfl) ?_
  have hPc := hP.sub (ws' := [(h, .inr (12, F.set 0 (.int 0)))]) [0] rfl
  have hDc := hD.sub (ws' := [(h, .inr (12, F.set 0 (.int 0)))]) [0] (by decide) rfl
  have hFc := va_free (wc := [(h, .inr (12, F.set 0 (.int 0)))]) hD hS hA [0] rfl
  refine va_calli (va_runV (C := R_Mod) (As := [.int k, .int i]) (rest := []) ⟨hx, hb, hml, hown, hT⟩ (c_Mod_kindOf_none l dC dI cI cB cJ cZ H.size h (F.set 0 (.int 0)) k i (by rw [List.length_set]; exact nF) ((List.getElem?_set_ne (by decide)).trans gF_121)) ⟨callB_of 2 hT (gw_in w_14_71) rfl rfl rfl (hT _ w_1_15) (hT _ w_14_68) (by decide +kernel) ⟨Nat.le_of_ble_eq_true rfl, Nat.le_of_ble_eq_true rfl⟩, hT _ w_14_70, hT _ ws_273⟩ ⟨PC.blind, va_recv hK hPc (ci := 12) (q0 := 0) rfl rfl, PC.at _ hPc hDc hK hN⟩ rfl rfl hl.1 rfl (lv_room (Nat.le_of_ble_eq_true rfl)) d_Mod_kind_8 ⟨show _ ≤ 0 by omega, show _ ≤ 0 by omega⟩) hS (fun q _ h => hFc q h) hFc (fun r1 u t H1 locs ht hvm hw hB hz1 hk1 hS => ?_)
  obtain ⟨hP1, hD1⟩ := hB
  have hw : (-1) = r1 := Eq.symm hw
  subst hw
  rw [ht] at hP1
  obtain ⟨hP, hD⟩ := va_join (wr := []) (w1 := [(h, .inr (12, (F.set 0 (.int 0))))]) hP hD [0] [] rfl rfl (by decide) (by decide) hk1 hFc hP1 hD1
  generalize H1 = H at hP hS ⊢
  have hP : va_P (dC, dI) CL [(h, .inr (12, (F.set 0 (.int 0))))] H := hP
  have hD : va_D A [(h, .inr (12, (F.set 0 (.int 0))))] := hD
  exact W.iret (v := (-1)) hx hb hr (fun t ht hW => ⟨⟨(-1), (), rfl, rfl, by rw [ht]; exact hP, hD⟩, hS.F ht⟩) hS.2.2 d_Mod_kind_11
set_option maxHeartbeats 4000000 in
set_option maxRecDepth 100000 in
/-- the model's value without an answer -/
theorem c_Mod_value_none (sz : Nat) (h : Nat) (F : List Value) (k i : Int32) (nF : F.length = 167) (gF_121 : F[121]? = some (.int 0)) : Met l y_Mod_value (wsOf y_Mod_value b_Mod_value 5 (some (.long))) ({ frames := 2, cells := 0, slots := 0, locals := 46 }) (va_Pc [.ref h, .int k, .int i] (PC dC dI cI cB cJ cZ sz [(h, .inr (12, F))])) (va_Ql (fun (r : Int64) (_ : Unit) => r = 0) (fun _ t => va_P (dC, dI) CL [(h, .inr (12, (F.set 0 (.int 0))))] t.heap ∧ va_D (va_A [(h, .inr (12, F))] sz) [(h, .inr (12, (F.set 0 (.int 0))))]) (va_A [(h, .inr (12, F))] sz)) 0 0 (va_A [(h, .inr (12, F))] sz) := by
  refine Met.ofW (cc := b_Mod_value) (maxL := 5) (ret := some (.long)) (by decide) rfl ?_
  intro p e s m args below meth c s₁ B hml hv
  obtain ⟨rfl, hsz, hP, hK, hD0, hN⟩ := hv
  have hx := B.exec
  have hb := B.bytes
  have hr := B.returns
  have hts := atoms_spec B.pre
  have hT : ∀ w ∈ TG, w.before _ s = true := fun w h => hts w (List.mem_cons_of_mem _ h)
  have hown : s.vm.findClass R_Mod = some m.cls := findClass_of_methodNamed B.named
  have hlocks := B.notSynchronized
  subst hsz
  have hD := hD0.self (sz := s.heap.size)
  generalize hAe : va_A [(h, .inr (12, F))] s.heap.size = A at hD ⊢
  have hA : ∀ q : Nat, s.heap.size ≤ q → A q := fun q h => by rw [← hAe]; exact Or.inr h
  have hS : va_S A s.heap s.heap [] := va_S.rf
  have hl := lv_entry ([.ref h, .int k, .int i]) (n := 5) (Nat.le_of_ble_eq_true rfl)
  rw [lg_entry_eq]
  generalize (lg_sl ([.ref h, .int k, .int i]) ++ List.replicate (5 - (lg_sl ([.ref h, .int k, .int i])).length) Slot.unset).toArray = ls at hl ⊢
  have hl : lv_has ls 5 [(0, .ref h), (1, .int k), (2, .int i)] := hl
  refine lv_aload_n hx hb d_Mod_value_0 rfl (lv_at hl 0 rfl) ?_
  refine lv_iconst (v := 0) hx hb d_Mod_value_1 (by decide) ?_
  refine f_put (D := (dC, dI)) (ci := 12) (v := .int 0) (ty := .int) (C := R_Mod) (T := F_Mod) (N := 167) hx hb hT in_Mod t_Mod t_Mod_ok n_Mod hown hK hP hD hS 0 rfl rfl 0 (by decide) fr_Mod_0 w_8_180 (by decide +kernel) rfl rfl (by rw [nF]; decide) d_Mod_value_2 (fun H locs hP hD hS => ?_)
  have hP : va_P (dC, dI) CL [(h, .inr (12, F.set 0 (.int 0)))] H := hP
  have hD : va_D A [(h, .inr (12, F.set 0 (.int 0)))] := hD
  refine lv_aload_n hx hb d_Mod_value_5 rfl (lv_at hl 0 rfl) ?_
  refine lv_iload_n hx hb d_Mod_value_6 rfl (lv_at hl 1 rfl) ?_
  refine lv_iload_n hx hb d_Mod_value_7 rfl (lv_at hl 2 rfl) ?_
  have hPc := hP.sub (ws' := [(h, .inr (12, F.set 0 (.int 0)))]) [0] rfl
  have hDc := hD.sub (ws' := [(h, .inr (12, F.set 0 (.int 0)))]) [0] (by decide) rfl
  have hFc := va_free (wc := [(h, .inr (12, F.set 0 (.int 0)))]) hD hS hA [0] rfl
  refine va_calli (va_runV (C := R_Mod) (As := [.int k, .int i]) (rest := []) ⟨hx, hb, hml, hown, hT⟩ (c_Mod_kindOf_none l dC dI cI cB cJ cZ H.size h (F.set 0 (.int 0)) k i (by rw [List.length_set]; exact nF) ((List.getElem?_set_ne (by decide)).trans gF_121)) ⟨callB_of 2 hT (gw_in w_14_71) rfl rfl rfl (hT _ w_1_15) (hT _ w_14_68) (by decide +kernel) ⟨Nat.le_of_ble_eq_true rfl, Nat.le_of_ble_eq_true rfl⟩, hT _ w_14_70, hT _ ws_273⟩ ⟨PC.blind, va_recv hK hPc (ci := 12) (q0 := 0) rfl rfl, PC.at _ hPc hDc hK hN⟩ rfl rfl hl.1 rfl (lv_room (Nat.le_of_ble_eq_true rfl)) d_Mod_value_8 ⟨show _ ≤ 0 by omega, show _ ≤ 0 by omega⟩) hS (fun q _ h => hFc q h) hFc (fun r1 u t H1 locs ht hvm hw hB hz1 hk1 hS => ?_)
  obtain ⟨hP1, hD1⟩ := hB
  have hw : (-1) = r1 := Eq.symm hw
  subst hw
  rw [ht] at hP1
  obtain ⟨hP, hD⟩ := va_join (wr := []) (w1 := [(h, .inr (12, (F.set 0 (.int 0))))]) hP hD [0] [] rfl rfl (by decide) (by decide) hk1 hFc hP1 hD1
  generalize H1 = H at hP hS ⊢
  have hP : va_P (dC, dI) CL [(h, .inr (12, (F.set 0 (.int 0))))] H := hP
  have hD : va_D A [(h, .inr (12, (F.set 0 (.int 0))))] := hD
  refine lv_istore_n (lv' := [(3, .int (-1)), (0, .ref h), (1, .int k), (2, .int i)]) hx hb d_Mod_value_11 rfl hl (by decide) rfl (fun ls hl => ?_)
  refine lv_iload_n hx hb d_Mod_value_12 rfl (lv_at hl 0 rfl) ?_
  refine lv_iconst (v := 1) hx hb d_Mod_value_13 (by decide) ?_
  refine lv_icmp_eq (tgt := 24) hx hb d_Mod_value_14 (by decide) (fun c1 => by first | exact absurd c1 (by decide) | exact absurd (by decide) c1) (fun c1 => ?_)
  refine lv_iload_n hx hb d_Mod_value_17 rfl (lv_at hl 0 rfl) ?_
  refine lv_iconst (v := 2) hx hb d_Mod_value_18 (by decide) ?_
  refine lv_icmp_eq (tgt := 24) hx hb d_Mod_value_19 (by decide) (fun c1 => by first | exact absurd c1 (by decide) | exact absurd (by decide) c1) (fun c1 => ?_)
  refine lv_lconst (v := 0) hx hb d_Mod_value_22 (by decide) ?_
  exact W.lret (v := 0) hx hb hr (fun t ht hW => ⟨⟨0, (), rfl, rfl, by rw [ht]; exact hP, hD⟩, hS.F ht⟩) hS.2.2 d_Mod_value_23
set_option maxHeartbeats 4000000 in
set_option maxRecDepth 100000 in
/-- the model's letter without an answer -/
theorem c_Mod_letter_none (sz : Nat) (h : Nat) (F : List Value) (k i j : Int32) (nF : F.length = 167) (gF_121 : F[121]? = some (.int 0)) : Met l y_Mod_letter (wsOf y_Mod_letter b_Mod_letter 5 (some (.int))) ({ frames := 2, cells := 0, slots := 0, locals := 46 }) (va_Pc [.ref h, .int k, .int i, .int j] (PC dC dI cI cB cJ cZ sz [(h, .inr (12, F))])) (va_Qi (fun (r : Int32) (_ : Unit) => r = (-1)) (fun _ t => va_P (dC, dI) CL [(h, .inr (12, (F.set 0 (.int 0))))] t.heap ∧ va_D (va_A [(h, .inr (12, F))] sz) [(h, .inr (12, (F.set 0 (.int 0))))]) (va_A [(h, .inr (12, F))] sz)) 0 0 (va_A [(h, .inr (12, F))] sz) := by
  refine Met.ofW (cc := b_Mod_letter) (maxL := 5) (ret := some (.int)) (by decide) rfl ?_
  intro p e s m args below meth c s₁ B hml hv
  obtain ⟨rfl, hsz, hP, hK, hD0, hN⟩ := hv
  have hx := B.exec
  have hb := B.bytes
  have hr := B.returns
  have hts := atoms_spec B.pre
  have hT : ∀ w ∈ TG, w.before _ s = true := fun w h => hts w (List.mem_cons_of_mem _ h)
  have hown : s.vm.findClass R_Mod = some m.cls := findClass_of_methodNamed B.named
  have hlocks := B.notSynchronized
  subst hsz
  have hD := hD0.self (sz := s.heap.size)
  generalize hAe : va_A [(h, .inr (12, F))] s.heap.size = A at hD ⊢
  have hA : ∀ q : Nat, s.heap.size ≤ q → A q := fun q h => by rw [← hAe]; exact Or.inr h
  have hS : va_S A s.heap s.heap [] := va_S.rf
  have hl := lv_entry ([.ref h, .int k, .int i, .int j]) (n := 5) (Nat.le_of_ble_eq_true rfl)
  rw [lg_entry_eq]
  generalize (lg_sl ([.ref h, .int k, .int i, .int j]) ++ List.replicate (5 - (lg_sl ([.ref h, .int k, .int i, .int j])).length) Slot.unset).toArray = ls at hl ⊢
  have hl : lv_has ls 5 [(0, .ref h), (1, .int k), (2, .int i), (3, .int j)] := hl
  refine lv_aload_n hx hb d_Mod_letter_0 rfl (lv_at hl 0 rfl) ?_
  refine lv_iconst (v := 0) hx hb d_Mod_letter_1 (by decide) ?_
  refine f_put (D := (dC, dI)) (ci := 12) (v := .int 0) (ty := .int) (C := R_Mod) (T := F_Mod) (N := 167) hx hb hT in_Mod t_Mod t_Mod_ok n_Mod hown hK hP hD hS 0 rfl rfl 0 (by decide) fr_Mod_0 w_8_180 (by decide +kernel) rfl rfl (by rw [nF]; decide) d_Mod_letter_2 (fun H locs hP hD hS => ?_)
  have hP : va_P (dC, dI) CL [(h, .inr (12, F.set 0 (.int 0)))] H := hP
  have hD : va_D A [(h, .inr (12, F.set 0 (.int 0)))] := hD
  refine lv_aload_n hx hb d_Mod_letter_5 rfl (lv_at hl 0 rfl) ?_
  refine lv_iload_n hx hb d_Mod_letter_6 rfl (lv_at hl 1 rfl) ?_
  refine lv_iload_n hx hb d_Mod_letter_7 rfl (lv_at hl 2 rfl) ?_
  have hPc := hP.sub (ws' := [(h, .inr (12, F.set 0 (.int 0)))]) [0] rfl
  have hDc := hD.sub (ws' := [(h, .inr (12, F.set 0 (.int 0)))]) [0] (by decide) rfl
  have hFc := va_free (wc := [(h, .inr (12, F.set 0 (.int 0)))]) hD hS hA [0] rfl
  refine va_calli (va_runV (C := R_Mod) (As := [.int k, .int i]) (rest := []) ⟨hx, hb, hml, hown, hT⟩ (c_Mod_kindOf_none l dC dI cI cB cJ cZ H.size h (F.set 0 (.int 0)) k i (by rw [List.length_set]; exact nF) ((List.getElem?_set_ne (by decide)).trans gF_121)) ⟨callB_of 2 hT (gw_in w_14_71) rfl rfl rfl (hT _ w_1_15) (hT _ w_14_68) (by decide +kernel) ⟨Nat.le_of_ble_eq_true rfl, Nat.le_of_ble_eq_true rfl⟩, hT _ w_14_70, hT _ ws_273⟩ ⟨PC.blind, va_recv hK hPc (ci := 12) (q0 := 0) rfl rfl, PC.at _ hPc hDc hK hN⟩ rfl rfl hl.1 rfl (lv_room (Nat.le_of_ble_eq_true rfl)) d_Mod_letter_8 ⟨show _ ≤ 0 by omega, show _ ≤ 0 by omega⟩) hS (fun q _ h => hFc q h) hFc (fun r1 u t H1 locs ht hvm hw hB hz1 hk1 hS => ?_)
  obtain ⟨hP1, hD1⟩ := hB
  have hw : (-1) = r1 := Eq.symm hw
  subst hw
  rw [ht] at hP1
  obtain ⟨hP, hD⟩ := va_join (wr := []) (w1 := [(h, .inr (12, (F.set 0 (.int 0))))]) hP hD [0] [] rfl rfl (by decide) (by decide) hk1 hFc hP1 hD1
  generalize H1 = H at hP hS ⊢
  have hP : va_P (dC, dI) CL [(h, .inr (12, (F.set 0 (.int 0))))] H := hP
  have hD : va_D A [(h, .inr (12, (F.set 0 (.int 0))))] := hD
  refine lv_iconst (v := 3) hx hb d_Mod_letter_11 (by decide) ?_
  refine lv_icmp_eq (tgt := 17) hx hb d_Mod_letter_12 (by decide) (fun c1 => by first | exact absurd c1 (by decide) | exact absurd (by decide) c1) (fun c1 => ?_)
  refine lv_iconst (v := (-1)) hx hb d_Mod_letter_15 (by decide) ?_
  exact W.iret (v := (-1)) hx hb hr (fun t ht hW => ⟨⟨(-1), (), rfl, rfl, by rw [ht]; exact hP, hD⟩, hS.F ht⟩) hS.2.2 d_Mod_letter_16
end
