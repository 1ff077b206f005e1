theorem fr_Sch_0 : F_Sch 0 = (R_Sch, "fields", "I", false) := rfl
theorem fr_Sch_1 : F_Sch 1 = (R_Sch, "columns", "I", false) := rfl
theorem fr_Scn_1 : F_Scn 1 = (R_Scn, "count", "I", false) := rfl
theorem fr_Scn_2 : F_Scn 2 = (R_Scn, "pos", "I", false) := rfl
theorem fr_Snk_1 : F_Snk 1 = (R_Snk, "count", "I", false) := rfl
theorem fr_Snk_2 : F_Snk 2 = (R_Snk, "over", "Z", false) := rfl
theorem w_1_130 : (Jvm.Cond.fieldLink "StripedVault$Schema" (46 : Nat) "StripedVault$Schema" "fields" "I") ∈ TG := tw_1 130 (by decide +kernel) (by decide +kernel)
theorem w_1_135 : (Jvm.Cond.fieldLink "StripedVault$Schema" (50 : Nat) "StripedVault$Schema" "columns" "I") ∈ TG := tw_1 135 (by decide +kernel) (by decide +kernel)
theorem w_1_43 : (Jvm.Cond.fieldLink "StripedVault$Sink" (29 : Nat) "StripedVault$Sink" "count" "I") ∈ TG := tw_1 43 (by decide +kernel) (by decide +kernel)
theorem w_1_44 : (Jvm.Cond.fieldLink "StripedVault" (99 : Nat) "StripedVault$Sink" "count" "I") ∈ TG := tw_1 44 (by decide +kernel) (by decide +kernel)
theorem w_1_47 : (Jvm.Cond.fieldLink "StripedVault$Sink" (32 : Nat) "StripedVault$Sink" "over" "Z") ∈ TG := tw_1 47 (by decide +kernel) (by decide +kernel)
theorem w_1_81 : (Jvm.Cond.fieldLink "StripedVault$Scan" (25 : Nat) "StripedVault$Scan" "count" "I") ∈ TG := tw_1 81 (by decide +kernel) (by decide +kernel)
theorem w_1_85 : (Jvm.Cond.fieldLink "StripedVault$Scan" (28 : Nat) "StripedVault$Scan" "pos" "I") ∈ TG := tw_1 85 (by decide +kernel) (by decide +kernel)
theorem w_4_104 : (Jvm.Cond.instanceMethod ({ cls := "StripedVault$Scan", name := "good", desc := "()Z" } : Jvm.MethodName)) ∈ TG := tw_4 104 (by decide +kernel) (by decide +kernel)
theorem w_4_105 : (Jvm.Cond.selects "StripedVault$Scan" ({ cls := "StripedVault$Scan", name := "good", desc := "()Z" } : Jvm.MethodName) ({ cls := "StripedVault$Scan", name := "good", desc := "()Z" } : Jvm.MethodName)) ∈ TG := tw_4 105 (by decide +kernel) (by decide +kernel)
theorem w_4_106 : (Jvm.Cond.code ({ cls := "StripedVault$Scan", name := "good", desc := "()Z" } : Jvm.MethodName) prog_7_method_3_code (1 : Nat) (Option.some Jvm.ClassFile.FieldType.boolean)) ∈ TG := tw_4 106 (by decide +kernel) (by decide +kernel)
theorem w_4_108 : (Jvm.Cond.instanceMethod ({ cls := "StripedVault$Scan", name := "next", desc := "()I" } : Jvm.MethodName)) ∈ TG := tw_4 108 (by decide +kernel) (by decide +kernel)
theorem w_4_109 : (Jvm.Cond.selects "StripedVault$Scan" ({ cls := "StripedVault$Scan", name := "next", desc := "()I" } : Jvm.MethodName) ({ cls := "StripedVault$Scan", name := "next", desc := "()I" } : Jvm.MethodName)) ∈ TG := tw_4 109 (by decide +kernel) (by decide +kernel)
theorem w_4_110 : (Jvm.Cond.code ({ cls := "StripedVault$Scan", name := "next", desc := "()I" } : Jvm.MethodName) prog_7_method_6_code (1 : Nat) (Option.some Jvm.ClassFile.FieldType.int)) ∈ TG := tw_4 110 (by decide +kernel) (by decide +kernel)
theorem w_4_119 : (Jvm.Cond.methodLink "StripedVault$Scan" (65 : Nat) ({ cls := "StripedVault$Scan", name := "good", desc := "()Z" } : Jvm.MethodName)) ∈ TG := tw_4 119 (by decide +kernel) (by decide +kernel)
theorem w_4_120 : (Jvm.Cond.methodLink "StripedVault$Scan" (68 : Nat) ({ cls := "StripedVault$Scan", name := "takeSign", desc := "(C)Z" } : Jvm.MethodName)) ∈ TG := tw_4 120 (by decide +kernel) (by decide +kernel)
theorem w_4_121 : (Jvm.Cond.instanceMethod ({ cls := "StripedVault$Scan", name := "takeSign", desc := "(C)Z" } : Jvm.MethodName)) ∈ TG := tw_4 121 (by decide +kernel) (by decide +kernel)
theorem w_4_122 : (Jvm.Cond.selects "StripedVault$Scan" ({ cls := "StripedVault$Scan", name := "takeSign", desc := "(C)Z" } : Jvm.MethodName) ({ cls := "StripedVault$Scan", name := "takeSign", desc := "(C)Z" } : Jvm.MethodName)) ∈ TG := tw_4 122 (by decide +kernel) (by decide +kernel)
theorem w_4_123 : (Jvm.Cond.code ({ cls := "StripedVault$Scan", name := "takeSign", desc := "(C)Z" } : Jvm.MethodName) prog_7_method_10_code (2 : Nat) (Option.some Jvm.ClassFile.FieldType.boolean)) ∈ TG := tw_4 123 (by decide +kernel) (by decide +kernel)
theorem w_4_124 : (Jvm.Cond.methodLink "StripedVault$Scan" (31 : Nat) ({ cls := "StripedVault$Scan", name := "next", desc := "()I" } : Jvm.MethodName)) ∈ TG := tw_4 124 (by decide +kernel) (by decide +kernel)
theorem w_4_125 : (Jvm.Cond.methodLink "StripedVault$Scan" (72 : Nat) ({ cls := "StripedVault$Scan", name := "refuse", desc := "(I)V" } : Jvm.MethodName)) ∈ TG := tw_4 125 (by decide +kernel) (by decide +kernel)
theorem w_4_126 : (Jvm.Cond.instanceMethod ({ cls := "StripedVault$Scan", name := "refuse", desc := "(I)V" } : Jvm.MethodName)) ∈ TG := tw_4 126 (by decide +kernel) (by decide +kernel)
theorem w_4_127 : (Jvm.Cond.selects "StripedVault$Scan" ({ cls := "StripedVault$Scan", name := "refuse", desc := "(I)V" } : Jvm.MethodName) ({ cls := "StripedVault$Scan", name := "refuse", desc := "(I)V" } : Jvm.MethodName)) ∈ TG := tw_4 127 (by decide +kernel) (by decide +kernel)
theorem w_4_128 : (Jvm.Cond.code ({ cls := "StripedVault$Scan", name := "refuse", desc := "(I)V" } : Jvm.MethodName) prog_7_method_4_code (2 : Nat) (Option.none : Option Jvm.ClassFile.FieldType)) ∈ TG := tw_4 128 (by decide +kernel) (by decide +kernel)
theorem w_4_78 : (Jvm.Cond.methodLink "StripedVault" (109 : Nat) ({ cls := "StripedVault$Sink", name := "forget", desc := "()V" } : Jvm.MethodName)) ∈ TG := tw_4 78 (by decide +kernel) (by decide +kernel)
theorem w_4_79 : (Jvm.Cond.instanceMethod ({ cls := "StripedVault$Sink", name := "forget", desc := "()V" } : Jvm.MethodName)) ∈ TG := tw_4 79 (by decide +kernel) (by decide +kernel)
theorem w_4_80 : (Jvm.Cond.selects "StripedVault$Sink" ({ cls := "StripedVault$Sink", name := "forget", desc := "()V" } : Jvm.MethodName) ({ cls := "StripedVault$Sink", name := "forget", desc := "()V" } : Jvm.MethodName)) ∈ TG := tw_4 80 (by decide +kernel) (by decide +kernel)
theorem w_4_81 : (Jvm.Cond.code ({ cls := "StripedVault$Sink", name := "forget", desc := "()V" } : Jvm.MethodName) prog_9_method_2_code (1 : Nat) (Option.none : Option Jvm.ClassFile.FieldType)) ∈ TG := tw_4 81 (by decide +kernel) (by decide +kernel)
theorem w_4_94 : (Jvm.Cond.methodLink "StripedVault$Scan" (19 : Nat) ({ cls := "java/lang/Math", name := "min", desc := "(II)I" } : Jvm.MethodName)) ∈ TG := tw_4 94 (by decide +kernel) (by decide +kernel)
theorem d_Snk_forget_0 : decode b_Snk_forget 0 = .ok (.aload_n 0, 1) := by decide +kernel
theorem d_Snk_forget_1 : decode b_Snk_forget 1 = .ok (.iconst 0, 1) := by decide +kernel
theorem d_Snk_forget_2 : decode b_Snk_forget 2 = .ok (.putfield 29, 3) := by decide +kernel
theorem d_Snk_forget_5 : decode b_Snk_forget 5 = .ok (.aload_n 0, 1) := by decide +kernel
theorem d_Snk_forget_6 : decode b_Snk_forget 6 = .ok (.iconst 0, 1) := by decide +kernel
theorem d_Snk_forget_7 : decode b_Snk_forget 7 = .ok (.putfield 32, 3) := by decide +kernel
theorem d_Snk_forget_10 : decode b_Snk_forget 10 = .ok (.return_, 1) := by decide +kernel
theorem d_V_end_15 : decode b_V_end 15 = .ok (.iconst 0, 1) := by decide +kernel
theorem d_V_end_16 : decode b_V_end 16 = .ok (.ireturn, 1) := by decide +kernel
theorem d_V_end_0 : decode b_V_end 0 = .ok (.iload_n 1, 1) := by decide +kernel
theorem d_V_end_1 : decode b_V_end 1 = .ok (.ifCond .lt 14, 3) := by decide +kernel
theorem d_V_end_4 : decode b_V_end 4 = .ok (.iload_n 1, 1) := by decide +kernel
theorem d_V_end_5 : decode b_V_end 5 = .ok (.aload_n 0, 1) := by decide +kernel
theorem d_V_end_6 : decode b_V_end 6 = .ok (.getfield 15, 3) := by decide +kernel
theorem d_V_end_9 : decode b_V_end 9 = .ok (.getfield 99, 3) := by decide +kernel
theorem d_V_end_12 : decode b_V_end 12 = .ok (.if_icmp .le 5, 3) := by decide +kernel
theorem d_V_end_17 : decode b_V_end 17 = .ok (.aload_n 0, 1) := by decide +kernel
theorem d_V_end_18 : decode b_V_end 18 = .ok (.getfield 19, 3) := by decide +kernel
theorem d_V_end_21 : decode b_V_end 21 = .ok (.astore_n 2, 1) := by decide +kernel
theorem d_V_end_22 : decode b_V_end 22 = .ok (.aload_n 0, 1) := by decide +kernel
theorem d_V_end_23 : decode b_V_end 23 = .ok (.aload_n 0, 1) := by decide +kernel
theorem d_V_end_24 : decode b_V_end 24 = .ok (.getfield 15, 3) := by decide +kernel
theorem d_V_end_27 : decode b_V_end 27 = .ok (.putfield 19, 3) := by decide +kernel
theorem d_V_end_30 : decode b_V_end 30 = .ok (.aload_n 0, 1) := by decide +kernel
theorem d_V_end_31 : decode b_V_end 31 = .ok (.getfield 19, 3) := by decide +kernel
theorem d_V_end_34 : decode b_V_end 34 = .ok (.iload_n 1, 1) := by decide +kernel
theorem d_V_end_35 : decode b_V_end 35 = .ok (.putfield 99, 3) := by decide +kernel
theorem d_V_end_38 : decode b_V_end 38 = .ok (.aload_n 0, 1) := by decide +kernel
theorem d_V_end_39 : decode b_V_end 39 = .ok (.aload_n 2, 1) := by decide +kernel
theorem d_V_end_40 : decode b_V_end 40 = .ok (.putfield 15, 3) := by decide +kernel
theorem d_V_end_43 : decode b_V_end 43 = .ok (.aload_n 0, 1) := by decide +kernel
theorem d_V_end_44 : decode b_V_end 44 = .ok (.getfield 15, 3) := by decide +kernel
theorem d_V_end_47 : decode b_V_end 47 = .ok (.invokevirtual 109, 3) := by decide +kernel
theorem d_V_end_50 : decode b_V_end 50 = .ok (.iconst 1, 1) := by decide +kernel
theorem d_V_end_51 : decode b_V_end 51 = .ok (.ireturn, 1) := by decide +kernel
theorem d_V_useInput_0 : decode b_V_useInput 0 = .ok (.aload_n 0, 1) := by decide +kernel
theorem d_V_useInput_1 : decode b_V_useInput 1 = .ok (.getfield 19, 3) := by decide +kernel
theorem d_V_useInput_4 : decode b_V_useInput 4 = .ok (.getfield 99, 3) := by decide +kernel
theorem d_V_useInput_7 : decode b_V_useInput 7 = .ok (.istore_n 1, 1) := by decide +kernel
theorem d_V_useInput_8 : decode b_V_useInput 8 = .ok (.aload_n 0, 1) := by decide +kernel
theorem d_V_useInput_9 : decode b_V_useInput 9 = .ok (.getfield 19, 3) := by decide +kernel
theorem d_V_useInput_12 : decode b_V_useInput 12 = .ok (.invokevirtual 109, 3) := by decide +kernel
theorem d_V_useInput_15 : decode b_V_useInput 15 = .ok (.iload_n 1, 1) := by decide +kernel
theorem d_V_useInput_16 : decode b_V_useInput 16 = .ok (.ireturn, 1) := by decide +kernel
theorem d_Scn_begin_0 : decode b_Scn_begin 0 = .ok (.aload_n 0, 1) := by decide +kernel
theorem d_Scn_begin_1 : decode b_Scn_begin 1 = .ok (.aload_n 1, 1) := by decide +kernel
theorem d_Scn_begin_2 : decode b_Scn_begin 2 = .ok (.putfield 9, 3) := by decide +kernel
theorem d_Scn_begin_5 : decode b_Scn_begin 5 = .ok (.aload_n 0, 1) := by decide +kernel
theorem d_Scn_begin_6 : decode b_Scn_begin 6 = .ok (.iload_n 2, 1) := by decide +kernel
theorem d_Scn_begin_7 : decode b_Scn_begin 7 = .ok (.aload_n 1, 1) := by decide +kernel
theorem d_Scn_begin_8 : decode b_Scn_begin 8 = .ok (.arraylength, 1) := by decide +kernel
theorem d_Scn_begin_9 : decode b_Scn_begin 9 = .ok (.invokestatic 19, 3) := by decide +kernel
theorem d_Scn_begin_12 : decode b_Scn_begin 12 = .ok (.putfield 25, 3) := by decide +kernel
theorem d_Scn_begin_15 : decode b_Scn_begin 15 = .ok (.aload_n 0, 1) := by decide +kernel
theorem d_Scn_begin_16 : decode b_Scn_begin 16 = .ok (.iconst 0, 1) := by decide +kernel
theorem d_Scn_begin_17 : decode b_Scn_begin 17 = .ok (.putfield 28, 3) := by decide +kernel
theorem d_Scn_begin_20 : decode b_Scn_begin 20 = .ok (.aload_n 0, 1) := by decide +kernel
theorem d_Scn_begin_21 : decode b_Scn_begin 21 = .ok (.iconst (-1), 1) := by decide +kernel
theorem d_Scn_begin_22 : decode b_Scn_begin 22 = .ok (.putfield 15, 3) := by decide +kernel
theorem d_Scn_begin_25 : decode b_Scn_begin 25 = .ok (.return_, 1) := by decide +kernel
theorem d_Sch_forget_0 : decode b_Sch_forget 0 = .ok (.aload_n 0, 1) := by decide +kernel
theorem d_Sch_forget_1 : decode b_Sch_forget 1 = .ok (.iconst 0, 1) := by decide +kernel
theorem d_Sch_forget_2 : decode b_Sch_forget 2 = .ok (.putfield 46, 3) := by decide +kernel
theorem d_Sch_forget_5 : decode b_Sch_forget 5 = .ok (.aload_n 0, 1) := by decide +kernel
theorem d_Sch_forget_6 : decode b_Sch_forget 6 = .ok (.iconst 0, 1) := by decide +kernel
theorem d_Sch_forget_7 : decode b_Sch_forget 7 = .ok (.putfield 50, 3) := by decide +kernel
theorem d_Sch_forget_10 : decode b_Sch_forget 10 = .ok (.return_, 1) := by decide +kernel
theorem d_Scn_good_0 : decode b_Scn_good 0 = .ok (.aload_n 0, 1) := by decide +kernel
theorem d_Scn_good_1 : decode b_Scn_good 1 = .ok (.getfield 15, 3) := by decide +kernel
theorem d_Scn_good_4 : decode b_Scn_good 4 = .ok (.iconst (-1), 1) := by decide +kernel
theorem d_Scn_good_5 : decode b_Scn_good 5 = .ok (.if_icmp .ne 7, 3) := by decide +kernel
theorem d_Scn_good_12 : decode b_Scn_good 12 = .ok (.iconst 0, 1) := by decide +kernel
theorem d_Scn_good_13 : decode b_Scn_good 13 = .ok (.ireturn, 1) := by decide +kernel
theorem d_Scn_good_8 : decode b_Scn_good 8 = .ok (.iconst 1, 1) := by decide +kernel
theorem d_Scn_good_9 : decode b_Scn_good 9 = .ok (.goto 4, 3) := by decide +kernel
theorem d_Scn_next_52 : decode b_Scn_next 52 = .ok (.aload_n 0, 1) := by decide +kernel
theorem d_Scn_next_53 : decode b_Scn_next 53 = .ok (.getfield 28, 3) := by decide +kernel
theorem d_Scn_next_56 : decode b_Scn_next 56 = .ok (.aload_n 0, 1) := by decide +kernel
theorem d_Scn_next_57 : decode b_Scn_next 57 = .ok (.getfield 25, 3) := by decide +kernel
theorem d_Scn_next_60 : decode b_Scn_next 60 = .ok (.if_icmp .ge 19, 3) := by decide +kernel
theorem d_Scn_next_79 : decode b_Scn_next 79 = .ok (.iconst (-1), 1) := by decide +kernel
theorem d_Scn_next_80 : decode b_Scn_next 80 = .ok (.ireturn, 1) := by decide +kernel
theorem d_Scn_next_63 : decode b_Scn_next 63 = .ok (.aload_n 0, 1) := by decide +kernel
theorem d_Scn_next_64 : decode b_Scn_next 64 = .ok (.getfield 9, 3) := by decide +kernel
theorem d_Scn_next_67 : decode b_Scn_next 67 = .ok (.aload_n 0, 1) := by decide +kernel
theorem d_Scn_next_68 : decode b_Scn_next 68 = .ok (.getfield 28, 3) := by decide +kernel
theorem d_Scn_next_71 : decode b_Scn_next 71 = .ok (.baload, 1) := by decide +kernel
theorem d_Scn_next_72 : decode b_Scn_next 72 = .ok (.sipush 255, 3) := by decide +kernel
theorem d_Scn_next_75 : decode b_Scn_next 75 = .ok (.iand, 1) := by decide +kernel
theorem d_Scn_next_76 : decode b_Scn_next 76 = .ok (.goto 4, 3) := by decide +kernel
theorem d_Scn_next_39 : decode b_Scn_next 39 = .ok (.aload_n 0, 1) := by decide +kernel
theorem d_Scn_next_40 : decode b_Scn_next 40 = .ok (.dup, 1) := by decide +kernel
theorem d_Scn_next_41 : decode b_Scn_next 41 = .ok (.getfield 28, 3) := by decide +kernel
theorem d_Scn_next_44 : decode b_Scn_next 44 = .ok (.iconst 1, 1) := by decide +kernel
theorem d_Scn_next_45 : decode b_Scn_next 45 = .ok (.iadd, 1) := by decide +kernel
theorem d_Scn_next_46 : decode b_Scn_next 46 = .ok (.putfield 28, 3) := by decide +kernel
theorem d_Scn_next_49 : decode b_Scn_next 49 = .ok (.goto (-49), 3) := by decide +kernel
theorem d_Scn_next_0 : decode b_Scn_next 0 = .ok (.aload_n 0, 1) := by decide +kernel
theorem d_Scn_next_1 : decode b_Scn_next 1 = .ok (.getfield 28, 3) := by decide +kernel
theorem d_Scn_next_4 : decode b_Scn_next 4 = .ok (.aload_n 0, 1) := by decide +kernel
theorem d_Scn_next_5 : decode b_Scn_next 5 = .ok (.getfield 25, 3) := by decide +kernel
theorem d_Scn_next_8 : decode b_Scn_next 8 = .ok (.if_icmp .ge 44, 3) := by decide +kernel
theorem d_Scn_next_11 : decode b_Scn_next 11 = .ok (.aload_n 0, 1) := by decide +kernel
theorem d_Scn_next_12 : decode b_Scn_next 12 = .ok (.getfield 9, 3) := by decide +kernel
theorem d_Scn_next_15 : decode b_Scn_next 15 = .ok (.aload_n 0, 1) := by decide +kernel
theorem d_Scn_next_16 : decode b_Scn_next 16 = .ok (.getfield 28, 3) := by decide +kernel
theorem d_Scn_next_19 : decode b_Scn_next 19 = .ok (.baload, 1) := by decide +kernel
theorem d_Scn_next_20 : decode b_Scn_next 20 = .ok (.bipush 32, 2) := by decide +kernel
theorem d_Scn_next_22 : decode b_Scn_next 22 = .ok (.if_icmp .eq 17, 3) := by decide +kernel
theorem d_Scn_next_25 : decode b_Scn_next 25 = .ok (.aload_n 0, 1) := by decide +kernel
theorem d_Scn_next_26 : decode b_Scn_next 26 = .ok (.getfield 9, 3) := by decide +kernel
theorem d_Scn_next_29 : decode b_Scn_next 29 = .ok (.aload_n 0, 1) := by decide +kernel
theorem d_Scn_next_30 : decode b_Scn_next 30 = .ok (.getfield 28, 3) := by decide +kernel
theorem d_Scn_next_33 : decode b_Scn_next 33 = .ok (.baload, 1) := by decide +kernel
theorem d_Scn_next_34 : decode b_Scn_next 34 = .ok (.bipush 10, 2) := by decide +kernel
theorem d_Scn_next_36 : decode b_Scn_next 36 = .ok (.if_icmp .ne 16, 3) := by decide +kernel
theorem d_Sch_isEmptyGroup_26 : decode b_Sch_isEmptyGroup 26 = .ok (.iconst 0, 1) := by decide +kernel
theorem d_Sch_isEmptyGroup_27 : decode b_Sch_isEmptyGroup 27 = .ok (.ireturn, 1) := by decide +kernel
theorem d_Sch_isEmptyGroup_0 : decode b_Sch_isEmptyGroup 0 = .ok (.aload_n 0, 1) := by decide +kernel
theorem d_Sch_isEmptyGroup_1 : decode b_Sch_isEmptyGroup 1 = .ok (.getfield 15, 3) := by decide +kernel
theorem d_Sch_isEmptyGroup_4 : decode b_Sch_isEmptyGroup 4 = .ok (.iload_n 1, 1) := by decide +kernel
theorem d_Sch_isEmptyGroup_5 : decode b_Sch_isEmptyGroup 5 = .ok (.iaload, 1) := by decide +kernel
theorem d_Sch_isEmptyGroup_6 : decode b_Sch_isEmptyGroup 6 = .ok (.iconst 4, 1) := by decide +kernel
theorem d_Sch_isEmptyGroup_7 : decode b_Sch_isEmptyGroup 7 = .ok (.if_icmp .ne 19, 3) := by decide +kernel
theorem d_Sch_isEmptyGroup_10 : decode b_Sch_isEmptyGroup 10 = .ok (.aload_n 0, 1) := by decide +kernel
theorem d_Sch_isEmptyGroup_11 : decode b_Sch_isEmptyGroup 11 = .ok (.getfield 30, 3) := by decide +kernel
theorem d_Sch_isEmptyGroup_14 : decode b_Sch_isEmptyGroup 14 = .ok (.iload_n 1, 1) := by decide +kernel
theorem d_Sch_isEmptyGroup_15 : decode b_Sch_isEmptyGroup 15 = .ok (.iaload, 1) := by decide +kernel
theorem d_Sch_isEmptyGroup_16 : decode b_Sch_isEmptyGroup 16 = .ok (.iload_n 1, 1) := by decide +kernel
theorem d_Sch_isEmptyGroup_17 : decode b_Sch_isEmptyGroup 17 = .ok (.iconst 1, 1) := by decide +kernel
theorem d_Sch_isEmptyGroup_18 : decode b_Sch_isEmptyGroup 18 = .ok (.iadd, 1) := by decide +kernel
theorem d_Sch_isEmptyGroup_19 : decode b_Sch_isEmptyGroup 19 = .ok (.if_icmp .ne 7, 3) := by decide +kernel
theorem d_Sch_isEmptyGroup_22 : decode b_Sch_isEmptyGroup 22 = .ok (.iconst 1, 1) := by decide +kernel
theorem d_Sch_isEmptyGroup_23 : decode b_Sch_isEmptyGroup 23 = .ok (.goto 4, 3) := by decide +kernel
theorem d_Scn_takeSign_0 : decode b_Scn_takeSign 0 = .ok (.aload_n 0, 1) := by decide +kernel
theorem d_Scn_takeSign_1 : decode b_Scn_takeSign 1 = .ok (.invokevirtual 31, 3) := by decide +kernel
theorem d_Scn_takeSign_4 : decode b_Scn_takeSign 4 = .ok (.iload_n 1, 1) := by decide +kernel
theorem d_Scn_takeSign_5 : decode b_Scn_takeSign 5 = .ok (.if_icmp .eq 5, 3) := by decide +kernel
theorem d_Scn_takeSign_10 : decode b_Scn_takeSign 10 = .ok (.aload_n 0, 1) := by decide +kernel
theorem d_Scn_takeSign_11 : decode b_Scn_takeSign 11 = .ok (.dup, 1) := by decide +kernel
theorem d_Scn_takeSign_12 : decode b_Scn_takeSign 12 = .ok (.getfield 28, 3) := by decide +kernel
theorem d_Scn_takeSign_15 : decode b_Scn_takeSign 15 = .ok (.iconst 1, 1) := by decide +kernel
theorem d_Scn_takeSign_16 : decode b_Scn_takeSign 16 = .ok (.iadd, 1) := by decide +kernel
theorem d_Scn_takeSign_17 : decode b_Scn_takeSign 17 = .ok (.putfield 28, 3) := by decide +kernel
theorem d_Scn_takeSign_20 : decode b_Scn_takeSign 20 = .ok (.iconst 1, 1) := by decide +kernel
theorem d_Scn_takeSign_21 : decode b_Scn_takeSign 21 = .ok (.ireturn, 1) := by decide +kernel
theorem d_Scn_takeSign_8 : decode b_Scn_takeSign 8 = .ok (.iconst 0, 1) := by decide +kernel
theorem d_Scn_takeSign_9 : decode b_Scn_takeSign 9 = .ok (.ireturn, 1) := by decide +kernel
theorem d_Scn_refuse_0 : decode b_Scn_refuse 0 = .ok (.aload_n 0, 1) := by decide +kernel
theorem d_Scn_refuse_1 : decode b_Scn_refuse 1 = .ok (.getfield 15, 3) := by decide +kernel
theorem d_Scn_refuse_4 : decode b_Scn_refuse 4 = .ok (.iconst (-1), 1) := by decide +kernel
theorem d_Scn_refuse_5 : decode b_Scn_refuse 5 = .ok (.if_icmp .ne 8, 3) := by decide +kernel
theorem d_Scn_refuse_13 : decode b_Scn_refuse 13 = .ok (.return_, 1) := by decide +kernel
theorem d_Scn_refuse_8 : decode b_Scn_refuse 8 = .ok (.aload_n 0, 1) := by decide +kernel
theorem d_Scn_refuse_9 : decode b_Scn_refuse 9 = .ok (.iload_n 1, 1) := by decide +kernel
theorem d_Scn_refuse_10 : decode b_Scn_refuse 10 = .ok (.putfield 15, 3) := by decide +kernel
theorem d_Scn_needSign_0 : decode b_Scn_needSign 0 = .ok (.aload_n 0, 1) := by decide +kernel
theorem d_Scn_needSign_1 : decode b_Scn_needSign 1 = .ok (.invokevirtual 65, 3) := by decide +kernel
theorem d_Scn_needSign_4 : decode b_Scn_needSign 4 = .ok (.ifCond .eq 19, 3) := by decide +kernel
theorem d_Scn_needSign_23 : decode b_Scn_needSign 23 = .ok (.return_, 1) := by decide +kernel
theorem d_Scn_needSign_7 : decode b_Scn_needSign 7 = .ok (.aload_n 0, 1) := by decide +kernel
theorem d_Scn_needSign_8 : decode b_Scn_needSign 8 = .ok (.iload_n 1, 1) := by decide +kernel
theorem d_Scn_needSign_9 : decode b_Scn_needSign 9 = .ok (.invokevirtual 68, 3) := by decide +kernel
theorem d_Scn_needSign_12 : decode b_Scn_needSign 12 = .ok (.ifCond .ne 11, 3) := by decide +kernel
theorem d_Scn_needSign_15 : decode b_Scn_needSign 15 = .ok (.aload_n 0, 1) := by decide +kernel
theorem d_Scn_needSign_16 : decode b_Scn_needSign 16 = .ok (.aload_n 0, 1) := by decide +kernel
theorem d_Scn_needSign_17 : decode b_Scn_needSign 17 = .ok (.getfield 28, 3) := by decide +kernel
theorem d_Scn_needSign_20 : decode b_Scn_needSign 20 = .ok (.invokevirtual 72, 3) := by decide +kernel
theorem d_V_isLetter_28 : decode b_V_isLetter 28 = .ok (.iconst 0, 1) := by decide +kernel
theorem d_V_isLetter_29 : decode b_V_isLetter 29 = .ok (.ireturn, 1) := by decide +kernel
theorem d_V_isLetter_24 : decode b_V_isLetter 24 = .ok (.iconst 1, 1) := by decide +kernel
theorem d_V_isLetter_25 : decode b_V_isLetter 25 = .ok (.goto 4, 3) := by decide +kernel
theorem d_V_isLetter_12 : decode b_V_isLetter 12 = .ok (.iload_n 0, 1) := by decide +kernel
theorem d_V_isLetter_13 : decode b_V_isLetter 13 = .ok (.bipush 65, 2) := by decide +kernel
theorem d_V_isLetter_15 : decode b_V_isLetter 15 = .ok (.if_icmp .lt 13, 3) := by decide +kernel
theorem d_V_isLetter_18 : decode b_V_isLetter 18 = .ok (.iload_n 0, 1) := by decide +kernel
theorem d_V_isLetter_19 : decode b_V_isLetter 19 = .ok (.bipush 90, 2) := by decide +kernel
theorem d_V_isLetter_21 : decode b_V_isLetter 21 = .ok (.if_icmp .gt 7, 3) := by decide +kernel
theorem d_V_isLetter_0 : decode b_V_isLetter 0 = .ok (.iload_n 0, 1) := by decide +kernel
theorem d_V_isLetter_1 : decode b_V_isLetter 1 = .ok (.bipush 97, 2) := by decide +kernel
theorem d_V_isLetter_3 : decode b_V_isLetter 3 = .ok (.if_icmp .lt 9, 3) := by decide +kernel
theorem d_V_isLetter_6 : decode b_V_isLetter 6 = .ok (.iload_n 0, 1) := by decide +kernel
theorem d_V_isLetter_7 : decode b_V_isLetter 7 = .ok (.bipush 122, 2) := by decide +kernel
theorem d_V_isLetter_9 : decode b_V_isLetter 9 = .ok (.if_icmp .le 15, 3) := by decide +kernel
theorem d_V_isOfWord_42 : decode b_V_isOfWord 42 = .ok (.iconst 1, 1) := by decide +kernel
theorem d_V_isOfWord_43 : decode b_V_isOfWord 43 = .ok (.goto 4, 3) := by decide +kernel
theorem d_V_isOfWord_47 : decode b_V_isOfWord 47 = .ok (.ireturn, 1) := by decide +kernel
theorem d_V_isOfWord_36 : decode b_V_isOfWord 36 = .ok (.iload_n 0, 1) := by decide +kernel
theorem d_V_isOfWord_37 : decode b_V_isOfWord 37 = .ok (.bipush 95, 2) := by decide +kernel
theorem d_V_isOfWord_39 : decode b_V_isOfWord 39 = .ok (.if_icmp .ne 7, 3) := by decide +kernel
theorem d_V_isOfWord_46 : decode b_V_isOfWord 46 = .ok (.iconst 0, 1) := by decide +kernel
theorem d_V_isOfWord_24 : decode b_V_isOfWord 24 = .ok (.iload_n 0, 1) := by decide +kernel
theorem d_V_isOfWord_25 : decode b_V_isOfWord 25 = .ok (.bipush 48, 2) := by decide +kernel
theorem d_V_isOfWord_27 : decode b_V_isOfWord 27 = .ok (.if_icmp .lt 9, 3) := by decide +kernel
theorem d_V_isOfWord_30 : decode b_V_isOfWord 30 = .ok (.iload_n 0, 1) := by decide +kernel
theorem d_V_isOfWord_31 : decode b_V_isOfWord 31 = .ok (.bipush 57, 2) := by decide +kernel
theorem d_V_isOfWord_33 : decode b_V_isOfWord 33 = .ok (.if_icmp .le 9, 3) := by decide +kernel
theorem d_V_isOfWord_12 : decode b_V_isOfWord 12 = .ok (.iload_n 0, 1) := by decide +kernel
theorem d_V_isOfWord_13 : decode b_V_isOfWord 13 = .ok (.bipush 65, 2) := by decide +kernel
theorem d_V_isOfWord_15 : decode b_V_isOfWord 15 = .ok (.if_icmp .lt 9, 3) := by decide +kernel
theorem d_V_isOfWord_18 : decode b_V_isOfWord 18 = .ok (.iload_n 0, 1) := by decide +kernel
theorem d_V_isOfWord_19 : decode b_V_isOfWord 19 = .ok (.bipush 90, 2) := by decide +kernel
theorem d_V_isOfWord_21 : decode b_V_isOfWord 21 = .ok (.if_icmp .le 21, 3) := by decide +kernel
theorem d_V_isOfWord_0 : decode b_V_isOfWord 0 = .ok (.iload_n 0, 1) := by decide +kernel
theorem d_V_isOfWord_1 : decode b_V_isOfWord 1 = .ok (.bipush 97, 2) := by decide +kernel
theorem d_V_isOfWord_3 : decode b_V_isOfWord 3 = .ok (.if_icmp .lt 9, 3) := by decide +kernel
theorem d_V_isOfWord_6 : decode b_V_isOfWord 6 = .ok (.iload_n 0, 1) := by decide +kernel
theorem d_V_isOfWord_7 : decode b_V_isOfWord 7 = .ok (.bipush 122, 2) := by decide +kernel
theorem d_V_isOfWord_9 : decode b_V_isOfWord 9 = .ok (.if_icmp .le 33, 3) := by decide +kernel
section
variable (l : Launch) (dC : Nat → ClassId) (dI : Nat → Nat → Nat) (cI cB cJ cZ : ClassId)
set_option maxRecDepth 100000 in
set_option maxHeartbeats 4000000 in
set_option maxRecDepth 100000 in
theorem t_Snk_forget_e {p : Program} {l : Launch} {e : Env} {R : Room} {s : State} {m : MethodId} {args : Array Value} {below : List Frame} {meth : Method} {c : Code} {cells slots : Nat} {Q : State → Prop} {dC : Nat → ClassId} {dI : Nat → Nat → Nat} {cI cB cJ cZ : ClassId} {A : Nat → Prop} {ad : Nat → Nat} {NN : Nat} {E : Heap} {tM tC : Nat} {kK kV : Nat → Nat} {post : St → Prop} (hx : p.tables.exec = Jvm.exec) (hb : c.code = b_Snk_forget) (hml : c.maxLocals = 1) (hown : s.vm.findClass R_Snk = some m.cls) (hT : ∀ w ∈ TG, w.before args s = true) (hK : va_K (dC, dI) CL (TY cI cB cJ cZ) s) (hN : NW s) (hA : ∀ q : Nat, s.heap.size ≤ q → A q) (hRc : cells ≤ R.cells) (hRs : slots ≤ R.slots) (hRf : 0 ≤ R.frames) (hRl : 0 ≤ R.locals) (hNN : 152 ≤ NN) (hE : CE E tM tC kK kV A s) (hret : ∀ (x : St) (H : Heap) (locs : List Loc) (pc : Nat) (ls : Array Slot), decode b_Snk_forget pc = .ok (.return_, 1) → post x → Wd dC dI cI cB cJ cZ ad stC kcC NN A x H → va_S A s.heap H locs → W p l e R s m args below meth c H locs cells slots Q (F0 m pc ls [])) : ∀ (o : Nat) (x : St) (H : Heap) (locs : List Loc) (ls : Array Slot), (o < NN ∧ kcC o = 1) → wp_Snk_forget post o x → Wd dC dI cI cB cJ cZ ad stC kcC NN A x H → va_S A s.heap H locs → lv_has ls 1 [(0, .ref (ad o))] → W p l e R s m args below meth c H locs cells slots Q (F0 m 0 ls []) := by
  intro o x H locs ls fo hw hW hS hl
  unfold wp_Snk_forget at hw
  refine lv_aload_n hx hb d_Snk_forget_0 rfl (lv_at hl 0 rfl) ?_
  refine lv_iconst (v := 0) hx hb d_Snk_forget_1 (by decide) ?_
  refine w_puti (ty := .int) (k := 1) (t := 1) (C := R_Snk) (T := F_Snk) (N := 7) hx hb hT hown hK hW hS fo.1 fo.2 (by decide) in_Snk t_Snk t_Snk_ok n_Snk rfl rfl (by decide) rfl fr_Snk_1 w_1_43 (by decide +kernel) rfl rfl d_Snk_forget_2 (fun H locs hW hS => ?_)
  obtain ⟨x1, ex1⟩ : ∃ y : St, y = setI x o 1 0 := ⟨_, rfl⟩
  rw [← ex1] at hW
  have hw := hw x1 ex1
  refine lv_aload_n hx hb d_Snk_forget_5 rfl (lv_at hl 0 rfl) ?_
  refine lv_iconst (v := 0) hx hb d_Snk_forget_6 (by decide) ?_
  refine w_puti (ty := .boolean) (k := 2) (t := 1) (C := R_Snk) (T := F_Snk) (N := 7) hx hb hT hown hK hW hS fo.1 fo.2 (by decide) in_Snk t_Snk t_Snk_ok n_Snk rfl rfl (by decide) rfl fr_Snk_2 w_1_47 (by decide +kernel) rfl rfl d_Snk_forget_7 (fun H locs hW hS => ?_)
  obtain ⟨x2, ex2⟩ : ∃ y : St, y = setI x1 o 2 0 := ⟨_, rfl⟩
  rw [← ex2] at hW
  have hw := hw x2 ex2
  exact hret x2 H locs 10 ls d_Snk_forget_10 hw hW hS
set_option maxHeartbeats 4000000 in
set_option maxRecDepth 100000 in
theorem k_Snk_forget (l : Launch) (dC : Nat → ClassId) (dI : Nat → Nat → Nat) (cI cB cJ cZ : ClassId) (ad : Nat → Nat) (NN : Nat) (E : Heap) (tM tC : Nat) (kK kV : Nat → Nat) (hNN : 152 ≤ NN) (sz : Nat) (o : Nat) (x : St) (fo : o < NN ∧ kcC o = 1) {post : St → Prop} (hw : wp_Snk_forget post o x) : Met l y_Snk_forget (wsOf y_Snk_forget b_Snk_forget 1 (none)) ({ frames := 0, cells := 0, slots := 0, locals := 0 }) (va_Pc [.ref (ad o)] (PVc dC dI cI cB cJ cZ ad stC kcC NN E tM tC kK kV sz x)) (va_Qv (fun (y : St) => post y) (fun y t => Wd dC dI cI cB cJ cZ ad stC kcC NN (va_A (pic ad stC kcC NN cI cB cJ cZ x) sz) y t.heap) (va_A (pic ad stC kcC NN cI cB cJ cZ x) sz)) 0 0 (va_A (pic ad stC kcC NN cI cB cJ cZ x) sz) := by
  refine Met.ofW (cc := b_Snk_forget) (maxL := 1) (ret := none) (by decide) rfl ?_
  intro p e s m args below meth c s₁ B hml hv
  obtain ⟨rfl, ⟨hsz, hW0, hK, hN⟩, hE⟩ := hv
  have hx := B.exec
  have hb := B.bytes
  have hr := B.returns
  have hts := atoms_spec B.pre
  have hT : ∀ w ∈ TG, w.before _ s = true := fun w h => hts w (List.mem_cons_of_mem _ h)
  have hown : s.vm.findClass R_Snk = some m.cls := findClass_of_methodNamed B.named
  have hlocks := B.notSynchronized
  subst hsz
  have hW : Wd dC dI cI cB cJ cZ ad stC kcC NN (va_A (pic ad stC kcC NN cI cB cJ cZ x) s.heap.size) x s.heap := ⟨hW0.1, hW0.2.1.self (sz := s.heap.size), hW0.2.2⟩
  generalize hAe : va_A (pic ad stC kcC NN cI cB cJ cZ x) s.heap.size = A at hW hE ⊢
  have hA : ∀ q : Nat, s.heap.size ≤ q → A q := fun q h => by rw [← hAe]; exact Or.inr h
  have hS : va_S A s.heap s.heap [] := va_S.rf
  have hl := lv_entry ([.ref (ad o)]) (n := 1) (Nat.le_of_ble_eq_true rfl)
  rw [lg_entry_eq]
  generalize (lg_sl ([.ref (ad o)]) ++ List.replicate (1 - (lg_sl ([.ref (ad o)])).length) Slot.unset).toArray = ls at hl ⊢
  have hl : lv_has ls 1 [(0, .ref (ad o))] := hl
  exact t_Snk_forget_e hx hb hml hown hT hK hN hA (Nat.le_refl 0) (Nat.le_refl 0) (Nat.le_refl 0) (Nat.le_refl 0) hNN hE (fun x H locs pc ls hd hp hW hS => W.vret hx hb hr (fun t ht hM => ⟨⟨x, rfl, hp, Wd.back hW ht.symm (fun _ z => z)⟩, hS.F ht⟩) hS.2.2 hd hlocks)  o x _ _ ls fo hw hW hS hl
set_option maxRecDepth 100000 in
set_option maxHeartbeats 4000000 in
set_option maxRecDepth 100000 in
theorem t_V_end_15 {p : Program} {l : Launch} {e : Env} {R : Room} {s : State} {m : MethodId} {args : Array Value} {below : List Frame} {meth : Method} {c : Code} {cells slots : Nat} {Q : State → Prop} {dC : Nat → ClassId} {dI : Nat → Nat → Nat} {cI cB cJ cZ : ClassId} {A : Nat → Prop} {ad : Nat → Nat} {NN : Nat} {E : Heap} {tM tC : Nat} {kK kV : Nat → Nat} {post : Int32 → St → Prop} (hx : p.tables.exec = Jvm.exec) (hb : c.code = b_V_end) (hml : c.maxLocals = 3) (hown : s.vm.findClass R_V = some m.cls) (hT : ∀ w ∈ TG, w.before args s = true) (hK : va_K (dC, dI) CL (TY cI cB cJ cZ) s) (hN : NW s) (hA : ∀ q : Nat, s.heap.size ≤ q → A q) (hRc : cells ≤ R.cells) (hRs : slots ≤ R.slots) (hRf : 1 ≤ R.frames) (hRl : 20 ≤ R.locals) (hNN : 152 ≤ NN) (hE : CE E tM tC kK kV A s) (hret : ∀ (r : Int32) (x : St) (H : Heap) (locs : List Loc) (pc : Nat) (ls : Array Slot), decode b_V_end pc = .ok (.ireturn, 1) → narrow .boolean (.int r) = .int r → post r x → Wd dC dI cI cB cJ cZ ad stC kcC NN A x H → va_S A s.heap H locs → W p l e R s m args below meth c H locs cells slots Q (F0 m pc ls [.int r]))  : ∀ (o : Nat) (l1 : Int32) (x : St) (H : Heap) (locs : List Loc) (ls : Array Slot), (o < NN ∧ kcC o = 0) → j_V_end_15 post o l1 x → Wd dC dI cI cB cJ cZ ad stC kcC NN A x H → va_S A s.heap H locs → lv_has ls 3 [(0, .ref (ad o)), (1, .int l1)] → W p l e R s m args below meth c H locs cells slots Q (F0 m 15 ls []) := by
  intro o l1 x H locs ls fo hw hW hS hl
  unfold j_V_end_15 at hw
  refine lv_iconst (v := 0) hx hb d_V_end_15 (by decide) ?_
  exact hret 0 x H locs 16 ls d_V_end_16 rfl hw hW hS
set_option maxRecDepth 100000 in
set_option maxHeartbeats 4000000 in
set_option maxRecDepth 100000 in
theorem t_V_end_e {p : Program} {l : Launch} {e : Env} {R : Room} {s : State} {m : MethodId} {args : Array Value} {below : List Frame} {meth : Method} {c : Code} {cells slots : Nat} {Q : State → Prop} {dC : Nat → ClassId} {dI : Nat → Nat → Nat} {cI cB cJ cZ : ClassId} {A : Nat → Prop} {ad : Nat → Nat} {NN : Nat} {E : Heap} {tM tC : Nat} {kK kV : Nat → Nat} {post : Int32 → St → Prop} (hx : p.tables.exec = Jvm.exec) (hb : c.code = b_V_end) (hml : c.maxLocals = 3) (hown : s.vm.findClass R_V = some m.cls) (hT : ∀ w ∈ TG, w.before args s = true) (hK : va_K (dC, dI) CL (TY cI cB cJ cZ) s) (hN : NW s) (hA : ∀ q : Nat, s.heap.size ≤ q → A q) (hRc : cells ≤ R.cells) (hRs : slots ≤ R.slots) (hRf : 1 ≤ R.frames) (hRl : 20 ≤ R.locals) (hNN : 152 ≤ NN) (hE : CE E tM tC kK kV A s) (hret : ∀ (r : Int32) (x : St) (H : Heap) (locs : List Loc) (pc : Nat) (ls : Array Slot), decode b_V_end pc = .ok (.ireturn, 1) → narrow .boolean (.int r) = .int r → post r x → Wd dC dI cI cB cJ cZ ad stC kcC NN A x H → va_S A s.heap H locs → W p l e R s m args below meth c H locs cells slots Q (F0 m pc ls [.int r])) : ∀ (o : Nat) (l1 : Int32) (x : St) (H : Heap) (locs : List Loc) (ls : Array Slot), (o < NN ∧ kcC o = 0) → wp_V_end post o l1 x → Wd dC dI cI cB cJ cZ ad stC kcC NN A x H → va_S A s.heap H locs → lv_has ls 3 [(0, .ref (ad o)), (1, .int l1)] → W p l e R s m args below meth c H locs cells slots Q (F0 m 0 ls []) := by
  intro o l1 x H locs ls fo hw hW hS hl
  unfold wp_V_end at hw
  refine lv_iload_n hx hb d_V_end_0 rfl (lv_at hl 1 rfl) ?_
  refine lv_if_lt (tgt := 15) hx hb d_V_end_1 (by decide) (fun c1 => ?_) (fun c1 => ?_)
  · have hw := hw.1 c1
    exact t_V_end_15 hx hb hml hown hT hK hN hA hRc hRs hRf hRl hNN hE hret  o l1 x H locs ls fo hw hW hS (lv_sub hl [0, 1] rfl)
  · have hw := hw.2 c1
    refine lv_iload_n hx hb d_V_end_4 rfl (lv_at hl 1 rfl) ?_
    refine lv_aload_n hx hb d_V_end_5 rfl (lv_at hl 0 rfl) ?_
    obtain ⟨q2, hq2, hw⟩ := hw
    refine w_getr (q := q2) (k := 0) (t := 0) (C := R_V) (T := F_V) (N := 15) hx hb hT hown hK hW fo.1 fo.2 (by decide) in_V rfl rfl (by decide) rfl fr_V_0 w_3_235 d_V_end_6 hq2 (fun aq2 bq2 => ?_)
    have fq2 : q2 < NN ∧ kcC q2 = 1 := ⟨aq2, bq2⟩
    refine w_geti (k := 1) (t := 1) (C := R_Snk) (T := F_Snk) (N := 7) hx hb hT hown hK hW fq2.1 fq2.2 (by decide) in_Snk rfl rfl (by decide) rfl fr_Snk_1 w_1_44 d_V_end_9 ?_
    refine lv_icmp_le (tgt := 17) hx hb d_V_end_12 (by decide) (fun c3 => ?_) (fun c3 => ?_)
    · have hw := hw.1 c3
      refine lv_aload_n hx hb d_V_end_17 rfl (lv_at hl 0 rfl) ?_
      obtain ⟨q4, hq4, hw⟩ := hw
      refine w_getr (q := q4) (k := 1) (t := 0) (C := R_V) (T := F_V) (N := 15) hx hb hT hown hK hW fo.1 fo.2 (by decide) in_V rfl rfl (by decide) rfl fr_V_1 w_3_236 d_V_end_18 hq4 (fun aq4 bq4 => ?_)
      have fq4 : q4 < NN ∧ kcC q4 = 1 := ⟨aq4, bq4⟩
      refine lv_astore_n (lv' := [(2, .ref (ad q4)), (0, .ref (ad o)), (1, .int l1)]) hx hb d_V_end_21 rfl hl (by decide) rfl (fun ls hl => ?_)
      refine lv_aload_n hx hb d_V_end_22 rfl (lv_at hl 1 rfl) ?_
      refine lv_aload_n hx hb d_V_end_23 rfl (lv_at hl 1 rfl) ?_
      obtain ⟨q5, hq5, hw⟩ := hw
      refine w_getr (q := q5) (k := 0) (t := 0) (C := R_V) (T := F_V) (N := 15) hx hb hT hown hK hW fo.1 fo.2 (by decide) in_V rfl rfl (by decide) rfl fr_V_0 w_3_235 d_V_end_24 hq5 (fun aq5 bq5 => ?_)
      have fq5 : q5 < NN ∧ kcC q5 = 1 := ⟨aq5, bq5⟩
      refine w_putr (q := q5) (ty := .object "StripedVault$Sink") (k := 1) (t := 0) (C := R_V) (T := F_V) (N := 15) hx hb hT hown hK hW hS fo.1 fo.2 (by decide) in_V t_V t_V_ok n_V rfl rfl (by decide) rfl fr_V_1 w_3_236 (by decide +kernel) rfl rfl fq5.1 fq5.2 d_V_end_27 (fun H locs hW hS => ?_)
      obtain ⟨x6, ex6⟩ : ∃ y : St, y = setR x o 1 (some q5) := ⟨_, rfl⟩
      rw [← ex6] at hW
      have hw := hw x6 ex6
      refine lv_aload_n hx hb d_V_end_30 rfl (lv_at hl 1 rfl) ?_
      obtain ⟨q7, hq7, hw⟩ := hw
      refine w_getr (q := q7) (k := 1) (t := 0) (C := R_V) (T := F_V) (N := 15) hx hb hT hown hK hW fo.1 fo.2 (by decide) in_V rfl rfl (by decide) rfl fr_V_1 w_3_236 d_V_end_31 hq7 (fun aq7 bq7 => ?_)
      have fq7 : q7 < NN ∧ kcC q7 = 1 := ⟨aq7, bq7⟩
      refine lv_iload_n hx hb d_V_end_34 rfl (lv_at hl 2 rfl) ?_
      refine w_puti (ty := .int) (k := 1) (t := 1) (C := R_Snk) (T := F_Snk) (N := 7) hx hb hT hown hK hW hS fq7.1 fq7.2 (by decide) in_Snk t_Snk t_Snk_ok n_Snk rfl rfl (by decide) rfl fr_Snk_1 w_1_44 (by decide +kernel) rfl rfl d_V_end_35 (fun H locs hW hS => ?_)
      obtain ⟨x8, ex8⟩ : ∃ y : St, y = setI x6 q7 1 l1 := ⟨_, rfl⟩
      rw [← ex8] at hW
      have hw := hw x8 ex8
      refine lv_aload_n hx hb d_V_end_38 rfl (lv_at hl 1 rfl) ?_
      refine lv_aload_n hx hb d_V_end_39 rfl (lv_at hl 0 rfl) ?_
      refine w_putr (q := q4) (ty := .object "StripedVault$Sink") (k := 0) (t := 0) (C := R_V) (T := F_V) (N := 15) hx hb hT hown hK hW hS fo.1 fo.2 (by decide) in_V t_V t_V_ok n_V rfl rfl (by decide) rfl fr_V_0 w_3_235 (by decide +kernel) rfl rfl fq4.1 fq4.2 d_V_end_40 (fun H locs hW hS => ?_)
      obtain ⟨x9, ex9⟩ : ∃ y : St, y = setR x8 o 0 (some q4) := ⟨_, rfl⟩
      rw [← ex9] at hW
      have hw := hw x9 ex9
      refine lv_aload_n hx hb d_V_end_43 rfl (lv_at hl 1 rfl) ?_
      obtain ⟨q10, hq10, hw⟩ := hw
      refine w_getr (q := q10) (k := 0) (t := 0) (C := R_V) (T := F_V) (N := 15) hx hb hT hown hK hW fo.1 fo.2 (by decide) in_V rfl rfl (by decide) rfl fr_V_0 w_3_235 d_V_end_44 hq10 (fun aq10 bq10 => ?_)
      have fq10 : q10 < NN ∧ kcC q10 = 1 := ⟨aq10, bq10⟩
      have hF := hW.free hS hA
      refine va_callv (va_runV (C := R_Snk) (As := []) (rest := []) ⟨hx, hb, hml, hown, hT⟩ (k_Snk_forget l dC dI cI cB cJ cZ ad NN E tM tC kK kV hNN H.size q10 x9 fq10 hw) ⟨callB_of 0 hT (gwt_in w_4_81) rfl rfl rfl (hT _ w_1_2) (hT _ w_4_78) (by decide +kernel) ⟨Nat.le_trans (Nat.le_of_ble_eq_true rfl) hRf, Nat.le_trans (Nat.le_of_ble_eq_true rfl) hRl⟩, hT _ w_4_79, hT _ w_4_80⟩ ⟨PVc.blind, va_recv hK hW.1 (ci := 1) (q0 := q10) rfl (pic_obj fq10.1 fq10.2 (by decide)), PVc.at _ hW hK hN hE hS hF⟩ rfl rfl hl.1 rfl (lv_room (Nat.le_of_ble_eq_true rfl)) d_V_end_47 ⟨hRc, hRs⟩) hS (fun q _ h => hF q h) hF (fun  x11 t H locs ht hvm hw hB hz1 hk1 hS => ?_)
      have hW := Wd.back hB ht hF
      clear hB ht hF hz1 hk1 hvm
      refine lv_iconst (v := 1) hx hb d_V_end_50 (by decide) ?_
      exact hret 1 x11 H locs 51 ls d_V_end_51 rfl hw hW hS
    · have hw := hw.2 c3
      exact t_V_end_15 hx hb hml hown hT hK hN hA hRc hRs hRf hRl hNN hE hret  o l1 x H locs ls fo hw hW hS (lv_sub hl [0, 1] rfl)
set_option maxHeartbeats 4000000 in
set_option maxRecDepth 100000 in
theorem k_V_end (l : Launch) (dC : Nat → ClassId) (dI : Nat → Nat → Nat) (cI cB cJ cZ : ClassId) (ad : Nat → Nat) (NN : Nat) (E : Heap) (tM tC : Nat) (kK kV : Nat → Nat) (hNN : 152 ≤ NN) (sz : Nat) (o : Nat) (l1 : Int32) (x : St) (fo : o < NN ∧ kcC o = 0) {post : Int32 → St → Prop} (hw : wp_V_end post o l1 x) : Met l y_V_end (wsOf y_V_end b_V_end 3 (some (.boolean))) ({ frames := 1, cells := 0, slots := 0, locals := 20 }) (va_Pc [.ref (ad o), .int l1] (PVc dC dI cI cB cJ cZ ad stC kcC NN E tM tC kK kV sz x)) (va_Qi (fun (r : Int32) (y : St) => post r y) (fun y t => Wd dC dI cI cB cJ cZ ad stC kcC NN (va_A (pic ad stC kcC NN cI cB cJ cZ x) sz) y t.heap) (va_A (pic ad stC kcC NN cI cB cJ cZ x) sz)) 0 0 (va_A (pic ad stC kcC NN cI cB cJ cZ x) sz) := by
  refine Met.ofW (cc := b_V_end) (maxL := 3) (ret := some (.boolean)) (by decide) rfl ?_
  intro p e s m args below meth c s₁ B hml hv
  obtain ⟨rfl, ⟨hsz, hW0, hK, hN⟩, hE⟩ := hv
  have hx := B.exec
  have hb := B.bytes
  have hr := B.returns
  have hts := atoms_spec B.pre
  have hT : ∀ w ∈ TG, w.before _ s = true := fun w h => hts w (List.mem_cons_of_mem _ h)
  have hown : s.vm.findClass R_V = some m.cls := findClass_of_methodNamed B.named
  have hlocks := B.notSynchronized
  subst hsz
  have hW : Wd dC dI cI cB cJ cZ ad stC kcC NN (va_A (pic ad stC kcC NN cI cB cJ cZ x) s.heap.size) x s.heap := ⟨hW0.1, hW0.2.1.self (sz := s.heap.size), hW0.2.2⟩
  generalize hAe : va_A (pic ad stC kcC NN cI cB cJ cZ x) s.heap.size = A at hW hE ⊢
  have hA : ∀ q : Nat, s.heap.size ≤ q → A q := fun q h => by rw [← hAe]; exact Or.inr h
  have hS : va_S A s.heap s.heap [] := va_S.rf
  have hl := lv_entry ([.ref (ad o), .int l1]) (n := 3) (Nat.le_of_ble_eq_true rfl)
  rw [lg_entry_eq]
  generalize (lg_sl ([.ref (ad o), .int l1]) ++ List.replicate (3 - (lg_sl ([.ref (ad o), .int l1])).length) Slot.unset).toArray = ls at hl ⊢
  have hl : lv_has ls 3 [(0, .ref (ad o)), (1, .int l1)] := hl
  exact t_V_end_e hx hb hml hown hT hK hN hA (Nat.le_refl 0) (Nat.le_refl 0) (Nat.le_refl 1) (Nat.le_refl 20) hNN hE (fun r x H locs pc ls hd hz hp hW hS => W.zret (v := r) (ty := .boolean) hx hb hr hz (fun t ht hM => ⟨⟨r, x, rfl, hp, Wd.back hW ht.symm (fun _ z => z)⟩, hS.F ht⟩) hS.2.2 hd hlocks)  o l1 x _ _ ls fo hw hW hS hl
set_option maxRecDepth 100000 in
set_option maxHeartbeats 4000000 in
set_option maxRecDepth 100000 in
theorem t_V_useInput_e {p : Program} {l : Launch} {e : Env} {R : Room} {s : State} {m : MethodId} {args : Array Value} {below : List Frame} {meth : Method} {c : Code} {cells slots : Nat} {Q : State → Prop} {dC : Nat → ClassId} {dI : Nat → Nat → Nat} {cI cB cJ cZ : ClassId} {A : Nat → Prop} {ad : Nat → Nat} {NN : Nat} {E : Heap} {tM tC : Nat} {kK kV : Nat → Nat} {post : Int32 → St → Prop} (hx : p.tables.exec = Jvm.exec) (hb : c.code = b_V_useInput) (hml : c.maxLocals = 2) (hown : s.vm.findClass R_V = some m.cls) (hT : ∀ w ∈ TG, w.before args s = true) (hK : va_K (dC, dI) CL (TY cI cB cJ cZ) s) (hN : NW s) (hA : ∀ q : Nat, s.heap.size ≤ q → A q) (hRc : cells ≤ R.cells) (hRs : slots ≤ R.slots) (hRf : 1 ≤ R.frames) (hRl : 20 ≤ R.locals) (hNN : 152 ≤ NN) (hE : CE E tM tC kK kV A s) (hret : ∀ (r : Int32) (x : St) (H : Heap) (locs : List Loc) (pc : Nat) (ls : Array Slot), decode b_V_useInput pc = .ok (.ireturn, 1) → post r x → Wd dC dI cI cB cJ cZ ad stC kcC NN A x H → va_S A s.heap H locs → W p l e R s m args below meth c H locs cells slots Q (F0 m pc ls [.int r])) : ∀ (o : Nat) (x : St) (H : Heap) (locs : List Loc) (ls : Array Slot), (o < NN ∧ kcC o = 0) → wp_V_useInput post o x → Wd dC dI cI cB cJ cZ ad stC kcC NN A x H → va_S A s.heap H locs → lv_has ls 2 [(0, .ref (ad o))] → W p l e R s m args below meth c H locs cells slots Q (F0 m 0 ls []) := by
  intro o x H locs ls fo hw hW hS hl
  unfold wp_V_useInput at hw
  refine lv_aload_n hx hb d_V_useInput_0 rfl (lv_at hl 0 rfl) ?_
  obtain ⟨q1, hq1, hw⟩ := hw
  refine w_getr (q := q1) (k := 1) (t := 0) (C := R_V) (T := F_V) (N := 15) hx hb hT hown hK hW fo.1 fo.2 (by decide) in_V rfl rfl (by decide) rfl fr_V_1 w_3_236 d_V_useInput_1 hq1 (fun aq1 bq1 => ?_)
  have fq1 : q1 < NN ∧ kcC q1 = 1 := ⟨aq1, bq1⟩
  refine w_geti (k := 1) (t := 1) (C := R_Snk) (T := F_Snk) (N := 7) hx hb hT hown hK hW fq1.1 fq1.2 (by decide) in_Snk rfl rfl (by decide) rfl fr_Snk_1 w_1_44 d_V_useInput_4 ?_
  refine lv_topi (fun v2 ev2 => ?_)
  have hw := hw v2 ev2
  refine lv_istore_n (lv' := [(1, .int v2), (0, .ref (ad o))]) hx hb d_V_useInput_7 rfl hl (by decide) rfl (fun ls hl => ?_)
  refine lv_aload_n hx hb d_V_useInput_8 rfl (lv_at hl 1 rfl) ?_
  obtain ⟨q3, hq3, hw⟩ := hw
  refine w_getr (q := q3) (k := 1) (t := 0) (C := R_V) (T := F_V) (N := 15) hx hb hT hown hK hW fo.1 fo.2 (by decide) in_V rfl rfl (by decide) rfl fr_V_1 w_3_236 d_V_useInput_9 hq3 (fun aq3 bq3 => ?_)
  have fq3 : q3 < NN ∧ kcC q3 = 1 := ⟨aq3, bq3⟩
  have hF := hW.free hS hA
  refine va_callv (va_runV (C := R_Snk) (As := []) (rest := []) ⟨hx, hb, hml, hown, hT⟩ (k_Snk_forget l dC dI cI cB cJ cZ ad NN E tM tC kK kV hNN H.size q3 x fq3 hw) ⟨callB_of 0 hT (gwt_in w_4_81) rfl rfl rfl (hT _ w_1_2) (hT _ w_4_78) (by decide +kernel) ⟨Nat.le_trans (Nat.le_of_ble_eq_true rfl) hRf, Nat.le_trans (Nat.le_of_ble_eq_true rfl) hRl⟩, hT _ w_4_79, hT _ w_4_80⟩ ⟨PVc.blind, va_recv hK hW.1 (ci := 1) (q0 := q3) rfl (pic_obj fq3.1 fq3.2 (by decide)), PVc.at _ hW hK hN hE hS hF⟩ rfl rfl hl.1 rfl (lv_room (Nat.le_of_ble_eq_true rfl)) d_V_useInput_12 ⟨hRc, hRs⟩) hS (fun q _ h => hF q h) hF (fun  x4 t H locs ht hvm hw hB hz1 hk1 hS => ?_)
  have hW := Wd.back hB ht hF
  clear hB ht hF hz1 hk1 hvm
  refine lv_iload_n hx hb d_V_useInput_15 rfl (lv_at hl 0 rfl) ?_
  exact hret v2 x4 H locs 16 ls d_V_useInput_16 hw hW hS
set_option maxHeartbeats 4000000 in
set_option maxRecDepth 100000 in
theorem k_V_useInput (l : Launch) (dC : Nat → ClassId) (dI : Nat → Nat → Nat) (cI cB cJ cZ : ClassId) (ad : Nat → Nat) (NN : Nat) (E : Heap) (tM tC : Nat) (kK kV : Nat → Nat) (hNN : 152 ≤ NN) (sz : Nat) (o : Nat) (x : St) (fo : o < NN ∧ kcC o = 0) {post : Int32 → St → Prop} (hw : wp_V_useInput post o x) : Met l y_V_useInput (wsOf y_V_useInput b_V_useInput 2 (some (.int))) ({ frames := 1, cells := 0, slots := 0, locals := 20 }) (va_Pc [.ref (ad o)] (PVc dC dI cI cB cJ cZ ad stC kcC NN E tM tC kK kV sz x)) (va_Qi (fun (r : Int32) (y : St) => post r y) (fun y t => Wd dC dI cI cB cJ cZ ad stC kcC NN (va_A (pic ad stC kcC NN cI cB cJ cZ x) sz) y t.heap) (va_A (pic ad stC kcC NN cI cB cJ cZ x) sz)) 0 0 (va_A (pic ad stC kcC NN cI cB cJ cZ x) sz) := by
  refine Met.ofW (cc := b_V_useInput) (maxL := 2) (ret := some (.int)) (by decide) rfl ?_
  intro p e s m args below meth c s₁ B hml hv
  obtain ⟨rfl, ⟨hsz, hW0, hK, hN⟩, hE⟩ := hv
  have hx := B.exec
  have hb := B.bytes
  have hr := B.returns
  have hts := atoms_spec B.pre
  have hT : ∀ w ∈ TG, w.before _ s = true := fun w h => hts w (List.mem_cons_of_mem _ h)
  have hown : s.vm.findClass R_V = some m.cls := findClass_of_methodNamed B.named
  have hlocks := B.notSynchronized
  subst hsz
  have hW : Wd dC dI cI cB cJ cZ ad stC kcC NN (va_A (pic ad stC kcC NN cI cB cJ cZ x) s.heap.size) x s.heap := ⟨hW0.1, hW0.2.1.self (sz := s.heap.size), hW0.2.2⟩
  generalize hAe : va_A (pic ad stC kcC NN cI cB cJ cZ x) s.heap.size = A at hW hE ⊢
  have hA : ∀ q : Nat, s.heap.size ≤ q → A q := fun q h => by rw [← hAe]; exact Or.inr h
  have hS : va_S A s.heap s.heap [] := va_S.rf
  have hl := lv_entry ([.ref (ad o)]) (n := 2) (Nat.le_of_ble_eq_true rfl)
  rw [lg_entry_eq]
  generalize (lg_sl ([.ref (ad o)]) ++ List.replicate (2 - (lg_sl ([.ref (ad o)])).length) Slot.unset).toArray = ls at hl ⊢
  have hl : lv_has ls 2 [(0, .ref (ad o))] := hl
  exact t_V_useInput_e hx hb hml hown hT hK hN hA (Nat.le_refl 0) (Nat.le_refl 0) (Nat.le_refl 1) (Nat.le_refl 20) hNN hE (fun r x H locs pc ls hd hp hW hS => W.iret (v := r) hx hb hr (fun t ht hM => ⟨⟨r, x, rfl, hp, Wd.back hW ht.symm (fun _ z => z)⟩, hS.F ht⟩) hS.2.2 hd hlocks)  o x _ _ ls fo hw hW hS hl
set_option maxRecDepth 100000 in
set_option maxHeartbeats 4000000 in
set_option maxRecDepth 100000 in
theorem t_Scn_begin_e {p : Program} {l : Launch} {e : Env} {R : Room} {s : State} {m : MethodId} {args : Array Value} {below : List Frame} {meth : Method} {c : Code} {cells slots : Nat} {Q : State → Prop} {dC : Nat → ClassId} {dI : Nat → Nat → Nat} {cI cB cJ cZ : ClassId} {A : Nat → Prop} {ad : Nat → Nat} {NN : Nat} {E : Heap} {tM tC : Nat} {kK kV : Nat → Nat} {post : St → Prop} (hx : p.tables.exec = Jvm.exec) (hb : c.code = b_Scn_begin) (hml : c.maxLocals = 3) (hown : s.vm.findClass R_Scn = some m.cls) (hT : ∀ w ∈ TG, w.before args s = true) (hK : va_K (dC, dI) CL (TY cI cB cJ cZ) s) (hN : NW s) (hA : ∀ q : Nat, s.heap.size ≤ q → A q) (hRc : cells ≤ R.cells) (hRs : slots ≤ R.slots) (hRf : 1 ≤ R.frames) (hRl : 80 ≤ R.locals) (hNN : 152 ≤ NN) (hE : CE E tM tC kK kV A s) (hret : ∀ (x : St) (H : Heap) (locs : List Loc) (pc : Nat) (ls : Array Slot), decode b_Scn_begin pc = .ok (.return_, 1) → post x → Wd dC dI cI cB cJ cZ ad stC kcC NN A x H → va_S A s.heap H locs → W p l e R s m args below meth c H locs cells slots Q (F0 m pc ls [])) : ∀ (o : Nat) (l1 : Nat) (l2 : Int32) (x : St) (H : Heap) (locs : List Loc) (ls : Array Slot), (o < NN ∧ kcC o = 2) → (l1 < NN ∧ kcC l1 = 21) → wp_Scn_begin post o l1 l2 x → Wd dC dI cI cB cJ cZ ad stC kcC NN A x H → va_S A s.heap H locs → lv_has ls 3 [(0, .ref (ad o)), (1, .ref (ad l1)), (2, .int l2)] → W p l e R s m args below meth c H locs cells slots Q (F0 m 0 ls []) := by
  intro o l1 l2 x H locs ls fo fl1 hw hW hS hl
  unfold wp_Scn_begin at hw
  refine lv_aload_n hx hb d_Scn_begin_0 rfl (lv_at hl 0 rfl) ?_
  refine lv_aload_n hx hb d_Scn_begin_1 rfl (lv_at hl 1 rfl) ?_
  refine w_putr (q := l1) (ty := .array .byte) (k := 0) (t := 2) (C := R_Scn) (T := F_Scn) (N := 8) hx hb hT hown hK hW hS fo.1 fo.2 (by decide) in_Scn t_Scn t_Scn_ok n_Scn rfl rfl (by decide) rfl fr_Scn_0 w_1_77 (by decide +kernel) rfl rfl fl1.1 fl1.2 d_Scn_begin_2 (fun H locs hW hS => ?_)
  obtain ⟨x1, ex1⟩ : ∃ y : St, y = setR x o 0 (some l1) := ⟨_, rfl⟩
  rw [← ex1] at hW
  have hw := hw x1 ex1
  refine lv_aload_n hx hb d_Scn_begin_5 rfl (lv_at hl 0 rfl) ?_
  refine lv_iload_n hx hb d_Scn_begin_6 rfl (lv_at hl 2 rfl) ?_
  refine lv_aload_n hx hb d_Scn_begin_7 rfl (lv_at hl 1 rfl) ?_
  refine w_alen (o := l1) (t0 := 1) hx hb hK hW (pic_byte fl1.1 fl1.2) rfl rfl d_Scn_begin_8 ?_
  refine va_mmin hx hb (hml.trans hl.1.symm) hown (hT _ w_4_94) (hT _ w_1_38) (hT _ w_1_3) (hT _ w_1_39) (Nat.le_trans (by decide) hRf) (Nat.le_trans (Nat.le_of_ble_eq_true rfl) hRl) hRc hRs d_Scn_begin_9 ?_
  refine w_puti (ty := .int) (k := 1) (t := 2) (C := R_Scn) (T := F_Scn) (N := 8) hx hb hT hown hK hW hS fo.1 fo.2 (by decide) in_Scn t_Scn t_Scn_ok n_Scn rfl rfl (by decide) rfl fr_Scn_1 w_1_81 (by decide +kernel) rfl rfl d_Scn_begin_12 (fun H locs hW hS => ?_)
  obtain ⟨x2, ex2⟩ : ∃ y : St, y = setI x1 o 1 (if (nI (fN x1 l1)) < l2 then (nI (fN x1 l1)) else l2) := ⟨_, rfl⟩
  rw [← ex2] at hW
  have hw := hw x2 ex2
  refine lv_aload_n hx hb d_Scn_begin_15 rfl (lv_at hl 0 rfl) ?_
  refine lv_iconst (v := 0) hx hb d_Scn_begin_16 (by decide) ?_
  refine w_puti (ty := .int) (k := 2) (t := 2) (C := R_Scn) (T := F_Scn) (N := 8) hx hb hT hown hK hW hS fo.1 fo.2 (by decide) in_Scn t_Scn t_Scn_ok n_Scn rfl rfl (by decide) rfl fr_Scn_2 w_1_85 (by decide +kernel) rfl rfl d_Scn_begin_17 (fun H locs hW hS => ?_)
  obtain ⟨x3, ex3⟩ : ∃ y : St, y = setI x2 o 2 0 := ⟨_, rfl⟩
  rw [← ex3] at hW
  have hw := hw x3 ex3
  refine lv_aload_n hx hb d_Scn_begin_20 rfl (lv_at hl 0 rfl) ?_
  refine lv_iconst (v := (-1)) hx hb d_Scn_begin_21 (by decide) ?_
  refine w_puti (ty := .int) (k := 3) (t := 2) (C := R_Scn) (T := F_Scn) (N := 8) hx hb hT hown hK hW hS fo.1 fo.2 (by decide) in_Scn t_Scn t_Scn_ok n_Scn rfl rfl (by decide) rfl fr_Scn_3 w_1_89 (by decide +kernel) rfl rfl d_Scn_begin_22 (fun H locs hW hS => ?_)
  obtain ⟨x4, ex4⟩ : ∃ y : St, y = setI x3 o 3 (-1) := ⟨_, rfl⟩
  rw [← ex4] at hW
  have hw := hw x4 ex4
  exact hret x4 H locs 25 ls d_Scn_begin_25 hw hW hS
set_option maxHeartbeats 4000000 in
set_option maxRecDepth 100000 in
theorem k_Scn_begin (l : Launch) (dC : Nat → ClassId) (dI : Nat → Nat → Nat) (cI cB cJ cZ : ClassId) (ad : Nat → Nat) (NN : Nat) (E : Heap) (tM tC : Nat) (kK kV : Nat → Nat) (hNN : 152 ≤ NN) (sz : Nat) (o : Nat) (l1 : Nat) (l2 : Int32) (x : St) (fo : o < NN ∧ kcC o = 2) (fl1 : l1 < NN ∧ kcC l1 = 21) {post : St → Prop} (hw : wp_Scn_begin post o l1 l2 x) : Met l y_Scn_begin (wsOf y_Scn_begin b_Scn_begin 3 (none)) ({ frames := 1, cells := 0, slots := 0, locals := 80 }) (va_Pc [.ref (ad o), .ref (ad l1), .int l2] (PVc dC dI cI cB cJ cZ ad stC kcC NN E tM tC kK kV sz x)) (va_Qv (fun (y : St) => post y) (fun y t => Wd dC dI cI cB cJ cZ ad stC kcC NN (va_A (pic ad stC kcC NN cI cB cJ cZ x) sz) y t.heap) (va_A (pic ad stC kcC NN cI cB cJ cZ x) sz)) 0 0 (va_A (pic ad stC kcC NN cI cB cJ cZ x) sz) := by
  refine Met.ofW (cc := b_Scn_begin) (maxL := 3) (ret := none) (by decide) rfl ?_
  intro p e s m args below meth c s₁ B hml hv
  obtain ⟨rfl, ⟨hsz, hW0, hK, hN⟩, hE⟩ := hv
  have hx := B.exec
  have hb := B.bytes
  have hr := B.returns
  have hts := atoms_spec B.pre
  have hT : ∀ w ∈ TG, w.before _ s = true := fun w h => hts w (List.mem_cons_of_mem _ h)
  have hown : s.vm.findClass R_Scn = some m.cls := findClass_of_methodNamed B.named
  have hlocks := B.notSynchronized
  subst hsz
  have hW : Wd dC dI cI cB cJ cZ ad stC kcC NN (va_A (pic ad stC kcC NN cI cB cJ cZ x) s.heap.size) x s.heap := ⟨hW0.1, hW0.2.1.self (sz := s.heap.size), hW0.2.2⟩
  generalize hAe : va_A (pic ad stC kcC NN cI cB cJ cZ x) s.heap.size = A at hW hE ⊢
  have hA : ∀ q : Nat, s.heap.size ≤ q → A q := fun q h => by rw [← hAe]; exact Or.inr h
  have hS : va_S A s.heap s.heap [] := va_S.rf
  have hl := lv_entry ([.ref (ad o), .ref (ad l1), .int l2]) (n := 3) (Nat.le_of_ble_eq_true rfl)
  rw [lg_entry_eq]
  generalize (lg_sl ([.ref (ad o), .ref (ad l1), .int l2]) ++ List.replicate (3 - (lg_sl ([.ref (ad o), .ref (ad l1), .int l2])).length) Slot.unset).toArray = ls at hl ⊢
  have hl : lv_has ls 3 [(0, .ref (ad o)), (1, .ref (ad l1)), (2, .int l2)] := hl
  exact t_Scn_begin_e hx hb hml hown hT hK hN hA (Nat.le_refl 0) (Nat.le_refl 0) (Nat.le_refl 1) (Nat.le_refl 80) hNN hE (fun x H locs pc ls hd hp hW hS => W.vret hx hb hr (fun t ht hM => ⟨⟨x, rfl, hp, Wd.back hW ht.symm (fun _ z => z)⟩, hS.F ht⟩) hS.2.2 hd hlocks)  o l1 l2 x _ _ ls fo fl1 hw hW hS hl
set_option maxRecDepth 100000 in
set_option maxHeartbeats 4000000 in
set_option maxRecDepth 100000 in
theorem t_Sch_forget_e {p : Program} {l : Launch} {e : Env} {R : Room} {s : State} {m : MethodId} {args : Array Value} {below : List Frame} {meth : Method} {c : Code} {cells slots : Nat} {Q : State → Prop} {dC : Nat → ClassId} {dI : Nat → Nat → Nat} {cI cB cJ cZ : ClassId} {A : Nat → Prop} {ad : Nat → Nat} {NN : Nat} {E : Heap} {tM tC : Nat} {kK kV : Nat → Nat} {post : St → Prop} (hx : p.tables.exec = Jvm.exec) (hb : c.code = b_Sch_forget) (hml : c.maxLocals = 1) (hown : s.vm.findClass R_Sch = some m.cls) (hT : ∀ w ∈ TG, w.before args s = true) (hK : va_K (dC, dI) CL (TY cI cB cJ cZ) s) (hN : NW s) (hA : ∀ q : Nat, s.heap.size ≤ q → A q) (hRc : cells ≤ R.cells) (hRs : slots ≤ R.slots) (hRf : 0 ≤ R.frames) (hRl : 0 ≤ R.locals) (hNN : 152 ≤ NN) (hE : CE E tM tC kK kV A s) (hret : ∀ (x : St) (H : Heap) (locs : List Loc) (pc : Nat) (ls : Array Slot), decode b_Sch_forget pc = .ok (.return_, 1) → post x → Wd dC dI cI cB cJ cZ ad stC kcC NN A x H → va_S A s.heap H locs → W p l e R s m args below meth c H locs cells slots Q (F0 m pc ls [])) : ∀ (o : Nat) (x : St) (H : Heap) (locs : List Loc) (ls : Array Slot), (o < NN ∧ kcC o = 3) → wp_Sch_forget post o x → Wd dC dI cI cB cJ cZ ad stC kcC NN A x H → va_S A s.heap H locs → lv_has ls 1 [(0, .ref (ad o))] → W p l e R s m args below meth c H locs cells slots Q (F0 m 0 ls []) := by
  intro o x H locs ls fo hw hW hS hl
  unfold wp_Sch_forget at hw
  refine lv_aload_n hx hb d_Sch_forget_0 rfl (lv_at hl 0 rfl) ?_
  refine lv_iconst (v := 0) hx hb d_Sch_forget_1 (by decide) ?_
  refine w_puti (ty := .int) (k := 0) (t := 3) (C := R_Sch) (T := F_Sch) (N := 13) hx hb hT hown hK hW hS fo.1 fo.2 (by decide) in_Sch t_Sch t_Sch_ok n_Sch rfl rfl (by decide) rfl fr_Sch_0 w_1_130 (by decide +kernel) rfl rfl d_Sch_forget_2 (fun H locs hW hS => ?_)
  obtain ⟨x1, ex1⟩ : ∃ y : St, y = setI x o 0 0 := ⟨_, rfl⟩
  rw [← ex1] at hW
  have hw := hw x1 ex1
  refine lv_aload_n hx hb d_Sch_forget_5 rfl (lv_at hl 0 rfl) ?_
  refine lv_iconst (v := 0) hx hb d_Sch_forget_6 (by decide) ?_
  refine w_puti (ty := .int) (k := 1) (t := 3) (C := R_Sch) (T := F_Sch) (N := 13) hx hb hT hown hK hW hS fo.1 fo.2 (by decide) in_Sch t_Sch t_Sch_ok n_Sch rfl rfl (by decide) rfl fr_Sch_1 w_1_135 (by decide +kernel) rfl rfl d_Sch_forget_7 (fun H locs hW hS => ?_)
  obtain ⟨x2, ex2⟩ : ∃ y : St, y = setI x1 o 1 0 := ⟨_, rfl⟩
  rw [← ex2] at hW
  have hw := hw x2 ex2
  exact hret x2 H locs 10 ls d_Sch_forget_10 hw hW hS
set_option maxHeartbeats 4000000 in
set_option maxRecDepth 100000 in
theorem k_Sch_forget (l : Launch) (dC : Nat → ClassId) (dI : Nat → Nat → Nat) (cI cB cJ cZ : ClassId) (ad : Nat → Nat) (NN : Nat) (E : Heap) (tM tC : Nat) (kK kV : Nat → Nat) (hNN : 152 ≤ NN) (sz : Nat) (o : Nat) (x : St) (fo : o < NN ∧ kcC o = 3) {post : St → Prop} (hw : wp_Sch_forget post o x) : Met l y_Sch_forget (wsOf y_Sch_forget b_Sch_forget 1 (none)) ({ frames := 0, cells := 0, slots := 0, locals := 0 }) (va_Pc [.ref (ad o)] (PVc dC dI cI cB cJ cZ ad stC kcC NN E tM tC kK kV sz x)) (va_Qv (fun (y : St) => post y) (fun y t => Wd dC dI cI cB cJ cZ ad stC kcC NN (va_A (pic ad stC kcC NN cI cB cJ cZ x) sz) y t.heap) (va_A (pic ad stC kcC NN cI cB cJ cZ x) sz)) 0 0 (va_A (pic ad stC kcC NN cI cB cJ cZ x) sz) := by
  refine Met.ofW (cc := b_Sch_forget) (maxL := 1) (ret := none) (by decide) rfl ?_
  intro p e s m args below meth c s₁ B hml hv
  obtain ⟨rfl, ⟨hsz, hW0, hK, hN⟩, hE⟩ := hv
  have hx := B.exec
  have hb := B.bytes
  have hr := B.returns
  have hts := atoms_spec B.pre
  have hT : ∀ w ∈ TG, w.before _ s = true := fun w h => hts w (List.mem_cons_of_mem _ h)
  have hown : s.vm.findClass R_Sch = some m.cls := findClass_of_methodNamed B.named
  have hlocks := B.notSynchronized
  subst hsz
  have hW : Wd dC dI cI cB cJ cZ ad stC kcC NN (va_A (pic ad stC kcC NN cI cB cJ cZ x) s.heap.size) x s.heap := ⟨hW0.1, hW0.2.1.self (sz := s.heap.size), hW0.2.2⟩
  generalize hAe : va_A (pic ad stC kcC NN cI cB cJ cZ x) s.heap.size = A at hW hE ⊢
  have hA : ∀ q : Nat, s.heap.size ≤ q → A q := fun q h => by rw [← hAe]; exact Or.inr h
  have hS : va_S A s.heap s.heap [] := va_S.rf
  have hl := lv_entry ([.ref (ad o)]) (n := 1) (Nat.le_of_ble_eq_true rfl)
  rw [lg_entry_eq]
  generalize (lg_sl ([.ref (ad o)]) ++ List.replicate (1 - (lg_sl ([.ref (ad o)])).length) Slot.unset).toArray = ls at hl ⊢
  have hl : lv_has ls 1 [(0, .ref (ad o))] := hl
  exact t_Sch_forget_e hx hb hml hown hT hK hN hA (Nat.le_refl 0) (Nat.le_refl 0) (Nat.le_refl 0) (Nat.le_refl 0) hNN hE (fun x H locs pc ls hd hp hW hS => W.vret hx hb hr (fun t ht hM => ⟨⟨x, rfl, hp, Wd.back hW ht.symm (fun _ z => z)⟩, hS.F ht⟩) hS.2.2 hd hlocks)  o x _ _ ls fo hw hW hS hl
set_option maxRecDepth 100000 in
set_option maxHeartbeats 4000000 in
set_option maxRecDepth 100000 in
theorem t_Scn_good_e {p : Program} {l : Launch} {e : Env} {R : Room} {s : State} {m : MethodId} {args : Array Value} {below : List Frame} {meth : Method} {c : Code} {cells slots : Nat} {Q : State → Prop} {dC : Nat → ClassId} {dI : Nat → Nat → Nat} {cI cB cJ cZ : ClassId} {A : Nat → Prop} {ad : Nat → Nat} {NN : Nat} {E : Heap} {tM tC : Nat} {kK kV : Nat → Nat} {post : Int32 → St → Prop} (hx : p.tables.exec = Jvm.exec) (hb : c.code = b_Scn_good) (hml : c.maxLocals = 1) (hown : s.vm.findClass R_Scn = some m.cls) (hT : ∀ w ∈ TG, w.before args s = true) (hK : va_K (dC, dI) CL (TY cI cB cJ cZ) s) (hN : NW s) (hA : ∀ q : Nat, s.heap.size ≤ q → A q) (hRc : cells ≤ R.cells) (hRs : slots ≤ R.slots) (hRf : 0 ≤ R.frames) (hRl : 0 ≤ R.locals) (hNN : 152 ≤ NN) (hE : CE E tM tC kK kV A s) (hret : ∀ (r : Int32) (x : St) (H : Heap) (locs : List Loc) (pc : Nat) (ls : Array Slot), decode b_Scn_good pc = .ok (.ireturn, 1) → narrow .boolean (.int r) = .int r → post r x → Wd dC dI cI cB cJ cZ ad stC kcC NN A x H → va_S A s.heap H locs → W p l e R s m args below meth c H locs cells slots Q (F0 m pc ls [.int r])) : ∀ (o : Nat) (x : St) (H : Heap) (locs : List Loc) (ls : Array Slot), (o < NN ∧ kcC o = 2) → wp_Scn_good post o x → Wd dC dI cI cB cJ cZ ad stC kcC NN A x H → va_S A s.heap H locs → lv_has ls 1 [(0, .ref (ad o))] → W p l e R s m args below meth c H locs cells slots Q (F0 m 0 ls []) := by
  intro o x H locs ls fo hw hW hS hl
  unfold wp_Scn_good at hw
  refine lv_aload_n hx hb d_Scn_good_0 rfl (lv_at hl 0 rfl) ?_
  refine w_geti (k := 3) (t := 2) (C := R_Scn) (T := F_Scn) (N := 8) hx hb hT hown hK hW fo.1 fo.2 (by decide) in_Scn rfl rfl (by decide) rfl fr_Scn_3 w_1_89 d_Scn_good_1 ?_
  refine lv_iconst (v := (-1)) hx hb d_Scn_good_4 (by decide) ?_
  refine lv_icmp_ne (tgt := 12) hx hb d_Scn_good_5 (by decide) (fun c1 => ?_) (fun c1 => ?_)
  · have hw := hw.1 c1
    refine lv_iconst (v := 0) hx hb d_Scn_good_12 (by decide) ?_
    exact hret 0 x H locs 13 ls d_Scn_good_13 rfl hw hW hS
  · have hw := hw.2 c1
    refine lv_iconst (v := 1) hx hb d_Scn_good_8 (by decide) ?_
    refine lv_goto (tgt := 13) hx hb d_Scn_good_9 (by decide) ?_
    exact hret 1 x H locs 13 ls d_Scn_good_13 rfl hw hW hS
set_option maxHeartbeats 4000000 in
set_option maxRecDepth 100000 in
theorem k_Scn_good (l : Launch) (dC : Nat → ClassId) (dI : Nat → Nat → Nat) (cI cB cJ cZ : ClassId) (ad : Nat → Nat) (NN : Nat) (E : Heap) (tM tC : Nat) (kK kV : Nat → Nat) (hNN : 152 ≤ NN) (sz : Nat) (o : Nat) (x : St) (fo : o < NN ∧ kcC o = 2) {post : Int32 → St → Prop} (hw : wp_Scn_good post o x) : Met l y_Scn_good (wsOf y_Scn_good b_Scn_good 1 (some (.boolean))) ({ frames := 0, cells := 0, slots := 0, locals := 0 }) (va_Pc [.ref (ad o)] (PVc dC dI cI cB cJ cZ ad stC kcC NN E tM tC kK kV sz x)) (va_Qi (fun (r : Int32) (y : St) => post r y) (fun y t => Wd dC dI cI cB cJ cZ ad stC kcC NN (va_A (pic ad stC kcC NN cI cB cJ cZ x) sz) y t.heap) (va_A (pic ad stC kcC NN cI cB cJ cZ x) sz)) 0 0 (va_A (pic ad stC kcC NN cI cB cJ cZ x) sz) := by
  refine Met.ofW (cc := b_Scn_good) (maxL := 1) (ret := some (.boolean)) (by decide) rfl ?_
  intro p e s m args below meth c s₁ B hml hv
  obtain ⟨rfl, ⟨hsz, hW0, hK, hN⟩, hE⟩ := hv
  have hx := B.exec
  have hb := B.bytes
  have hr := B.returns
  have hts := atoms_spec B.pre
  have hT : ∀ w ∈ TG, w.before _ s = true := fun w h => hts w (List.mem_cons_of_mem _ h)
  have hown : s.vm.findClass R_Scn = some m.cls := findClass_of_methodNamed B.named
  have hlocks := B.notSynchronized
  subst hsz
  have hW : Wd dC dI cI cB cJ cZ ad stC kcC NN (va_A (pic ad stC kcC NN cI cB cJ cZ x) s.heap.size) x s.heap := ⟨hW0.1, hW0.2.1.self (sz := s.heap.size), hW0.2.2⟩
  generalize hAe : va_A (pic ad stC kcC NN cI cB cJ cZ x) s.heap.size = A at hW hE ⊢
  have hA : ∀ q : Nat, s.heap.size ≤ q → A q := fun q h => by rw [← hAe]; exact Or.inr h
  have hS : va_S A s.heap s.heap [] := va_S.rf
  have hl := lv_entry ([.ref (ad o)]) (n := 1) (Nat.le_of_ble_eq_true rfl)
  rw [lg_entry_eq]
  generalize (lg_sl ([.ref (ad o)]) ++ List.replicate (1 - (lg_sl ([.ref (ad o)])).length) Slot.unset).toArray = ls at hl ⊢
  have hl : lv_has ls 1 [(0, .ref (ad o))] := hl
  exact t_Scn_good_e hx hb hml hown hT hK hN hA (Nat.le_refl 0) (Nat.le_refl 0) (Nat.le_refl 0) (Nat.le_refl 0) hNN hE (fun r x H locs pc ls hd hz hp hW hS => W.zret (v := r) (ty := .boolean) hx hb hr hz (fun t ht hM => ⟨⟨r, x, rfl, hp, Wd.back hW ht.symm (fun _ z => z)⟩, hS.F ht⟩) hS.2.2 hd hlocks)  o x _ _ ls fo hw hW hS hl
set_option maxRecDepth 100000 in
set_option maxHeartbeats 4000000 in
set_option maxRecDepth 100000 in
theorem t_Scn_next_52 {p : Program} {l : Launch} {e : Env} {R : Room} {s : State} {m : MethodId} {args : Array Value} {below : List Frame} {meth : Method} {c : Code} {cells slots : Nat} {Q : State → Prop} {dC : Nat → ClassId} {dI : Nat → Nat → Nat} {cI cB cJ cZ : ClassId} {A : Nat → Prop} {ad : Nat → Nat} {NN : Nat} {E : Heap} {tM tC : Nat} {kK kV : Nat → Nat} {post : Int32 → St → Prop} (hx : p.tables.exec = Jvm.exec) (hb : c.code = b_Scn_next) (hml : c.maxLocals = 1) (hown : s.vm.findClass R_Scn = some m.cls) (hT : ∀ w ∈ TG, w.before args s = true) (hK : va_K (dC, dI) CL (TY cI cB cJ cZ) s) (hN : NW s) (hA : ∀ q : Nat, s.heap.size ≤ q → A q) (hRc : cells ≤ R.cells) (hRs : slots ≤ R.slots) (hRf : 0 ≤ R.frames) (hRl : 0 ≤ R.locals) (hNN : 152 ≤ NN) (hE : CE E tM tC kK kV A s) (hret : ∀ (r : Int32) (x : St) (H : Heap) (locs : List Loc) (pc : Nat) (ls : Array Slot), decode b_Scn_next pc = .ok (.ireturn, 1) → post r x → Wd dC dI cI cB cJ cZ ad stC kcC NN A x H → va_S A s.heap H locs → W p l e R s m args below meth c H locs cells slots Q (F0 m pc ls [.int r]))  : ∀ (o : Nat) (x : St) (H : Heap) (locs : List Loc) (ls : Array Slot), (o < NN ∧ kcC o = 2) → j_Scn_next_52 post o x → Wd dC dI cI cB cJ cZ ad stC kcC NN A x H → va_S A s.heap H locs → lv_has ls 1 [(0, .ref (ad o))] → W p l e R s m args below meth c H locs cells slots Q (F0 m 52 ls []) := by
  intro o x H locs ls fo hw hW hS hl
  unfold j_Scn_next_52 at hw
  refine lv_aload_n hx hb d_Scn_next_52 rfl (lv_at hl 0 rfl) ?_
  refine w_geti (k := 2) (t := 2) (C := R_Scn) (T := F_Scn) (N := 8) hx hb hT hown hK hW fo.1 fo.2 (by decide) in_Scn rfl rfl (by decide) rfl fr_Scn_2 w_1_85 d_Scn_next_53 ?_
  refine lv_aload_n hx hb d_Scn_next_56 rfl (lv_at hl 0 rfl) ?_
  refine w_geti (k := 1) (t := 2) (C := R_Scn) (T := F_Scn) (N := 8) hx hb hT hown hK hW fo.1 fo.2 (by decide) in_Scn rfl rfl (by decide) rfl fr_Scn_1 w_1_81 d_Scn_next_57 ?_
  refine lv_icmp_ge (tgt := 79) hx hb d_Scn_next_60 (by decide) (fun c1 => ?_) (fun c1 => ?_)
  · have hw := hw.1 c1
    refine lv_iconst (v := (-1)) hx hb d_Scn_next_79 (by decide) ?_
    exact hret (-1) x H locs 80 ls d_Scn_next_80 hw hW hS
  · have hw := hw.2 c1
    refine lv_aload_n hx hb d_Scn_next_63 rfl (lv_at hl 0 rfl) ?_
    obtain ⟨q2, hq2, hw⟩ := hw
    refine w_getr (q := q2) (k := 0) (t := 2) (C := R_Scn) (T := F_Scn) (N := 8) hx hb hT hown hK hW fo.1 fo.2 (by decide) in_Scn rfl rfl (by decide) rfl fr_Scn_0 w_1_77 d_Scn_next_64 hq2 (fun aq2 bq2 => ?_)
    have fq2 : q2 < NN ∧ kcC q2 = 21 := ⟨aq2, bq2⟩
    refine lv_aload_n hx hb d_Scn_next_67 rfl (lv_at hl 0 rfl) ?_
    refine w_geti (k := 2) (t := 2) (C := R_Scn) (T := F_Scn) (N := 8) hx hb hT hown hK hW fo.1 fo.2 (by decide) in_Scn rfl rfl (by decide) rfl fr_Scn_2 w_1_85 d_Scn_next_68 ?_
    obtain ⟨hi, hw⟩ := hw
    refine w_bald (o := q2) hx hb hK hW fq2.1 fq2.2 hi d_Scn_next_71 ?_
    refine lv_sipush (v := 255) hx hb d_Scn_next_72 (by decide) ?_
    refine lv_iand hx hb d_Scn_next_75 ?_
    refine lv_goto (tgt := 80) hx hb d_Scn_next_76 (by decide) ?_
    exact hret ((rA x q2 (fI x o 2)) &&& 255) x H locs 80 ls d_Scn_next_80 hw hW hS
set_option maxRecDepth 100000 in
set_option maxHeartbeats 4000000 in
set_option maxRecDepth 100000 in
theorem t_Scn_next_39 {p : Program} {l : Launch} {e : Env} {R : Room} {s : State} {m : MethodId} {args : Array Value} {below : List Frame} {meth : Method} {c : Code} {cells slots : Nat} {Q : State → Prop} {dC : Nat → ClassId} {dI : Nat → Nat → Nat} {cI cB cJ cZ : ClassId} {A : Nat → Prop} {ad : Nat → Nat} {NN : Nat} {E : Heap} {tM tC : Nat} {kK kV : Nat → Nat} {post : Int32 → St → Prop} {rec0 : Nat → St → Prop} (hx : p.tables.exec = Jvm.exec) (hb : c.code = b_Scn_next) (hml : c.maxLocals = 1) (hown : s.vm.findClass R_Scn = some m.cls) (hT : ∀ w ∈ TG, w.before args s = true) (hK : va_K (dC, dI) CL (TY cI cB cJ cZ) s) (hN : NW s) (hA : ∀ q : Nat, s.heap.size ≤ q → A q) (hRc : cells ≤ R.cells) (hRs : slots ≤ R.slots) (hRf : 0 ≤ R.frames) (hRl : 0 ≤ R.locals) (hNN : 152 ≤ NN) (hE : CE E tM tC kK kV A s) (hret : ∀ (r : Int32) (x : St) (H : Heap) (locs : List Loc) (pc : Nat) (ls : Array Slot), decode b_Scn_next pc = .ok (.ireturn, 1) → post r x → Wd dC dI cI cB cJ cZ ad stC kcC NN A x H → va_S A s.heap H locs → W p l e R s m args below meth c H locs cells slots Q (F0 m pc ls [.int r])) (hrec0 : ∀ (o : Nat) (x : St) (H : Heap) (locs : List Loc) (ls : Array Slot), (o < NN ∧ kcC o = 2) → rec0 o x → Wd dC dI cI cB cJ cZ ad stC kcC NN A x H → va_S A s.heap H locs → lv_has ls 1 [(0, .ref (ad o))] → W p l e R s m args below meth c H locs cells slots Q (F0 m 0 ls [])) : ∀ (o : Nat) (x : St) (H : Heap) (locs : List Loc) (ls : Array Slot), (o < NN ∧ kcC o = 2) → j_Scn_next_39 post rec0 o x → Wd dC dI cI cB cJ cZ ad stC kcC NN A x H → va_S A s.heap H locs → lv_has ls 1 [(0, .ref (ad o))] → W p l e R s m args below meth c H locs cells slots Q (F0 m 39 ls []) := by
  intro o x H locs ls fo hw hW hS hl
  unfold j_Scn_next_39 at hw
  refine lv_aload_n hx hb d_Scn_next_39 rfl (lv_at hl 0 rfl) ?_
  refine lv_dup hx hb d_Scn_next_40 rfl ?_
  refine w_geti (k := 2) (t := 2) (C := R_Scn) (T := F_Scn) (N := 8) hx hb hT hown hK hW fo.1 fo.2 (by decide) in_Scn rfl rfl (by decide) rfl fr_Scn_2 w_1_85 d_Scn_next_41 ?_
  refine lv_iconst (v := 1) hx hb d_Scn_next_44 (by decide) ?_
  refine lv_iadd hx hb d_Scn_next_45 ?_
  refine w_puti (ty := .int) (k := 2) (t := 2) (C := R_Scn) (T := F_Scn) (N := 8) hx hb hT hown hK hW hS fo.1 fo.2 (by decide) in_Scn t_Scn t_Scn_ok n_Scn rfl rfl (by decide) rfl fr_Scn_2 w_1_85 (by decide +kernel) rfl rfl d_Scn_next_46 (fun H locs hW hS => ?_)
  obtain ⟨x3, ex3⟩ : ∃ y : St, y = setI x o 2 ((fI x o 2) + 1) := ⟨_, rfl⟩
  rw [← ex3] at hW
  have hw := hw x3 ex3
  refine lv_goto (tgt := 0) hx hb d_Scn_next_49 (by decide) ?_
  exact hrec0 o x3 H locs ls fo hw hW hS (lv_sub hl [0] rfl)
set_option maxRecDepth 100000 in
set_option maxHeartbeats 4000000 in
set_option maxRecDepth 100000 in
theorem t_Scn_next_0 {p : Program} {l : Launch} {e : Env} {R : Room} {s : State} {m : MethodId} {args : Array Value} {below : List Frame} {meth : Method} {c : Code} {cells slots : Nat} {Q : State → Prop} {dC : Nat → ClassId} {dI : Nat → Nat → Nat} {cI cB cJ cZ : ClassId} {A : Nat → Prop} {ad : Nat → Nat} {NN : Nat} {E : Heap} {tM tC : Nat} {kK kV : Nat → Nat} {post : Int32 → St → Prop} {rec0 : Nat → St → Prop} (hx : p.tables.exec = Jvm.exec) (hb : c.code = b_Scn_next) (hml : c.maxLocals = 1) (hown : s.vm.findClass R_Scn = some m.cls) (hT : ∀ w ∈ TG, w.before args s = true) (hK : va_K (dC, dI) CL (TY cI cB cJ cZ) s) (hN : NW s) (hA : ∀ q : Nat, s.heap.size ≤ q → A q) (hRc : cells ≤ R.cells) (hRs : slots ≤ R.slots) (hRf : 0 ≤ R.frames) (hRl : 0 ≤ R.locals) (hNN : 152 ≤ NN) (hE : CE E tM tC kK kV A s) (hret : ∀ (r : Int32) (x : St) (H : Heap) (locs : List Loc) (pc : Nat) (ls : Array Slot), decode b_Scn_next pc = .ok (.ireturn, 1) → post r x → Wd dC dI cI cB cJ cZ ad stC kcC NN A x H → va_S A s.heap H locs → W p l e R s m args below meth c H locs cells slots Q (F0 m pc ls [.int r])) (hrec0 : ∀ (o : Nat) (x : St) (H : Heap) (locs : List Loc) (ls : Array Slot), (o < NN ∧ kcC o = 2) → rec0 o x → Wd dC dI cI cB cJ cZ ad stC kcC NN A x H → va_S A s.heap H locs → lv_has ls 1 [(0, .ref (ad o))] → W p l e R s m args below meth c H locs cells slots Q (F0 m 0 ls [])) : ∀ (o : Nat) (x : St) (H : Heap) (locs : List Loc) (ls : Array Slot), (o < NN ∧ kcC o = 2) → j_Scn_next_0 post rec0 o x → Wd dC dI cI cB cJ cZ ad stC kcC NN A x H → va_S A s.heap H locs → lv_has ls 1 [(0, .ref (ad o))] → W p l e R s m args below meth c H locs cells slots Q (F0 m 0 ls []) := by
  intro o x H locs ls fo hw hW hS hl
  unfold j_Scn_next_0 at hw
  refine lv_aload_n hx hb d_Scn_next_0 rfl (lv_at hl 0 rfl) ?_
  refine w_geti (k := 2) (t := 2) (C := R_Scn) (T := F_Scn) (N := 8) hx hb hT hown hK hW fo.1 fo.2 (by decide) in_Scn rfl rfl (by decide) rfl fr_Scn_2 w_1_85 d_Scn_next_1 ?_
  refine lv_aload_n hx hb d_Scn_next_4 rfl (lv_at hl 0 rfl) ?_
  refine w_geti (k := 1) (t := 2) (C := R_Scn) (T := F_Scn) (N := 8) hx hb hT hown hK hW fo.1 fo.2 (by decide) in_Scn rfl rfl (by decide) rfl fr_Scn_1 w_1_81 d_Scn_next_5 ?_
  refine lv_icmp_ge (tgt := 52) hx hb d_Scn_next_8 (by decide) (fun c4 => ?_) (fun c4 => ?_)
  · have hw := hw.1 c4
    exact t_Scn_next_52 hx hb hml hown hT hK hN hA hRc hRs hRf hRl hNN hE hret  o x H locs ls fo hw hW hS (lv_sub hl [0] rfl)
  · have hw := hw.2 c4
    refine lv_aload_n hx hb d_Scn_next_11 rfl (lv_at hl 0 rfl) ?_
    obtain ⟨q5, hq5, hw⟩ := hw
    refine w_getr (q := q5) (k := 0) (t := 2) (C := R_Scn) (T := F_Scn) (N := 8) hx hb hT hown hK hW fo.1 fo.2 (by decide) in_Scn rfl rfl (by decide) rfl fr_Scn_0 w_1_77 d_Scn_next_12 hq5 (fun aq5 bq5 => ?_)
    have fq5 : q5 < NN ∧ kcC q5 = 21 := ⟨aq5, bq5⟩
    refine lv_aload_n hx hb d_Scn_next_15 rfl (lv_at hl 0 rfl) ?_
    refine w_geti (k := 2) (t := 2) (C := R_Scn) (T := F_Scn) (N := 8) hx hb hT hown hK hW fo.1 fo.2 (by decide) in_Scn rfl rfl (by decide) rfl fr_Scn_2 w_1_85 d_Scn_next_16 ?_
    obtain ⟨hi, hw⟩ := hw
    refine w_bald (o := q5) hx hb hK hW fq5.1 fq5.2 hi d_Scn_next_19 ?_
    refine lv_bipush (v := 32) hx hb d_Scn_next_20 (by decide) ?_
    refine lv_icmp_eq (tgt := 39) hx hb d_Scn_next_22 (by decide) (fun c6 => ?_) (fun c6 => ?_)
    · have hw := hw.1 c6
      exact t_Scn_next_39 hx hb hml hown hT hK hN hA hRc hRs hRf hRl hNN hE hret hrec0 o x H locs ls fo hw hW hS (lv_sub hl [0] rfl)
    · have hw := hw.2 c6
      refine lv_aload_n hx hb d_Scn_next_25 rfl (lv_at hl 0 rfl) ?_
      obtain ⟨q7, hq7, hw⟩ := hw
      refine w_getr (q := q7) (k := 0) (t := 2) (C := R_Scn) (T := F_Scn) (N := 8) hx hb hT hown hK hW fo.1 fo.2 (by decide) in_Scn rfl rfl (by decide) rfl fr_Scn_0 w_1_77 d_Scn_next_26 hq7 (fun aq7 bq7 => ?_)
      have fq7 : q7 < NN ∧ kcC q7 = 21 := ⟨aq7, bq7⟩
      refine lv_aload_n hx hb d_Scn_next_29 rfl (lv_at hl 0 rfl) ?_
      refine w_geti (k := 2) (t := 2) (C := R_Scn) (T := F_Scn) (N := 8) hx hb hT hown hK hW fo.1 fo.2 (by decide) in_Scn rfl rfl (by decide) rfl fr_Scn_2 w_1_85 d_Scn_next_30 ?_
      obtain ⟨hi, hw⟩ := hw
      refine w_bald (o := q7) hx hb hK hW fq7.1 fq7.2 hi d_Scn_next_33 ?_
      refine lv_bipush (v := 10) hx hb d_Scn_next_34 (by decide) ?_
      refine lv_icmp_ne (tgt := 52) hx hb d_Scn_next_36 (by decide) (fun c8 => ?_) (fun c8 => ?_)
      · have hw := hw.1 c8
        exact t_Scn_next_52 hx hb hml hown hT hK hN hA hRc hRs hRf hRl hNN hE hret  o x H locs ls fo hw hW hS (lv_sub hl [0] rfl)
      · have hw := hw.2 c8
        exact t_Scn_next_39 hx hb hml hown hT hK hN hA hRc hRs hRf hRl hNN hE hret hrec0 o x H locs ls fo hw hW hS (lv_sub hl [0] rfl)
set_option maxHeartbeats 4000000 in
set_option maxRecDepth 100000 in
theorem tl_Scn_next_0 {p : Program} {l : Launch} {e : Env} {R : Room} {s : State} {m : MethodId} {args : Array Value} {below : List Frame} {meth : Method} {c : Code} {cells slots : Nat} {Q : State → Prop} {dC : Nat → ClassId} {dI : Nat → Nat → Nat} {cI cB cJ cZ : ClassId} {A : Nat → Prop} {ad : Nat → Nat} {NN : Nat} {E : Heap} {tM tC : Nat} {kK kV : Nat → Nat} {post : Int32 → St → Prop} (hx : p.tables.exec = Jvm.exec) (hb : c.code = b_Scn_next) (hml : c.maxLocals = 1) (hown : s.vm.findClass R_Scn = some m.cls) (hT : ∀ w ∈ TG, w.before args s = true) (hK : va_K (dC, dI) CL (TY cI cB cJ cZ) s) (hN : NW s) (hA : ∀ q : Nat, s.heap.size ≤ q → A q) (hRc : cells ≤ R.cells) (hRs : slots ≤ R.slots) (hRf : 0 ≤ R.frames) (hRl : 0 ≤ R.locals) (hNN : 152 ≤ NN) (hE : CE E tM tC kK kV A s) (hret : ∀ (r : Int32) (x : St) (H : Heap) (locs : List Loc) (pc : Nat) (ls : Array Slot), decode b_Scn_next pc = .ok (.ireturn, 1) → post r x → Wd dC dI cI cB cJ cZ ad stC kcC NN A x H → va_S A s.heap H locs → W p l e R s m args below meth c H locs cells slots Q (F0 m pc ls [.int r]))  : ∀ n : Nat, ∀ (o : Nat) (x : St) (H : Heap) (locs : List Loc) (ls : Array Slot), (o < NN ∧ kcC o = 2) → wl_Scn_next_0 post n o x → Wd dC dI cI cB cJ cZ ad stC kcC NN A x H → va_S A s.heap H locs → lv_has ls 1 [(0, .ref (ad o))] → W p l e R s m args below meth c H locs cells slots Q (F0 m 0 ls []) := by
  intro n
  induction n with
  | zero => intro o x H locs ls fo hw; exact hw.elim
  | succ n ih => intro o x H locs ls fo hw hW hS hl; exact t_Scn_next_0 hx hb hml hown hT hK hN hA hRc hRs hRf hRl hNN hE hret  ih o x H locs ls fo hw hW hS hl
set_option maxRecDepth 100000 in
set_option maxHeartbeats 4000000 in
set_option maxRecDepth 100000 in
theorem t_Scn_next_e {p : Program} {l : Launch} {e : Env} {R : Room} {s : State} {m : MethodId} {args : Array Value} {below : List Frame} {meth : Method} {c : Code} {cells slots : Nat} {Q : State → Prop} {dC : Nat → ClassId} {dI : Nat → Nat → Nat} {cI cB cJ cZ : ClassId} {A : Nat → Prop} {ad : Nat → Nat} {NN : Nat} {E : Heap} {tM tC : Nat} {kK kV : Nat → Nat} {post : Int32 → St → Prop} (hx : p.tables.exec = Jvm.exec) (hb : c.code = b_Scn_next) (hml : c.maxLocals = 1) (hown : s.vm.findClass R_Scn = some m.cls) (hT : ∀ w ∈ TG, w.before args s = true) (hK : va_K (dC, dI) CL (TY cI cB cJ cZ) s) (hN : NW s) (hA : ∀ q : Nat, s.heap.size ≤ q → A q) (hRc : cells ≤ R.cells) (hRs : slots ≤ R.slots) (hRf : 0 ≤ R.frames) (hRl : 0 ≤ R.locals) (hNN : 152 ≤ NN) (hE : CE E tM tC kK kV A s) (hret : ∀ (r : Int32) (x : St) (H : Heap) (locs : List Loc) (pc : Nat) (ls : Array Slot), decode b_Scn_next pc = .ok (.ireturn, 1) → post r x → Wd dC dI cI cB cJ cZ ad stC kcC NN A x H → va_S A s.heap H locs → W p l e R s m args below meth c H locs cells slots Q (F0 m pc ls [.int r])) : ∀ (o : Nat) (x : St) (H : Heap) (locs : List Loc) (ls : Array Slot), (o < NN ∧ kcC o = 2) → wp_Scn_next post o x → Wd dC dI cI cB cJ cZ ad stC kcC NN A x H → va_S A s.heap H locs → lv_has ls 1 [(0, .ref (ad o))] → W p l e R s m args below meth c H locs cells slots Q (F0 m 0 ls []) := by
  intro o x H locs ls fo hw hW hS hl
  unfold wp_Scn_next at hw
  obtain ⟨n, hw⟩ := hw
  exact tl_Scn_next_0 hx hb hml hown hT hK hN hA hRc hRs hRf hRl hNN hE hret  n o x H locs ls fo hw hW hS (lv_sub hl [0] rfl)
set_option maxHeartbeats 4000000 in
set_option maxRecDepth 100000 in
theorem k_Scn_next (l : Launch) (dC : Nat → ClassId) (dI : Nat → Nat → Nat) (cI cB cJ cZ : ClassId) (ad : Nat → Nat) (NN : Nat) (E : Heap) (tM tC : Nat) (kK kV : Nat → Nat) (hNN : 152 ≤ NN) (sz : Nat) (o : Nat) (x : St) (fo : o < NN ∧ kcC o = 2) {post : Int32 → St → Prop} (hw : wp_Scn_next post o x) : Met l y_Scn_next (wsOf y_Scn_next b_Scn_next 1 (some (.int))) ({ frames := 0, cells := 0, slots := 0, locals := 0 }) (va_Pc [.ref (ad o)] (PVc dC dI cI cB cJ cZ ad stC kcC NN E tM tC kK kV sz x)) (va_Qi (fun (r : Int32) (y : St) => post r y) (fun y t => Wd dC dI cI cB cJ cZ ad stC kcC NN (va_A (pic ad stC kcC NN cI cB cJ cZ x) sz) y t.heap) (va_A (pic ad stC kcC NN cI cB cJ cZ x) sz)) 0 0 (va_A (pic ad stC kcC NN cI cB cJ cZ x) sz) := by
  refine Met.ofW (cc := b_Scn_next) (maxL := 1) (ret := some (.int)) (by decide) rfl ?_
  intro p e s m args below meth c s₁ B hml hv
  obtain ⟨rfl, ⟨hsz, hW0, hK, hN⟩, hE⟩ := hv
  have hx := B.exec
  have hb := B.bytes
  have hr := B.returns
  have hts := atoms_spec B.pre
  have hT : ∀ w ∈ TG, w.before _ s = true := fun w h => hts w (List.mem_cons_of_mem _ h)
  have hown : s.vm.findClass R_Scn = some m.cls := findClass_of_methodNamed B.named
  have hlocks := B.notSynchronized
  subst hsz
  have hW : Wd dC dI cI cB cJ cZ ad stC kcC NN (va_A (pic ad stC kcC NN cI cB cJ cZ x) s.heap.size) x s.heap := ⟨hW0.1, hW0.2.1.self (sz := s.heap.size), hW0.2.2⟩
  generalize hAe : va_A (pic ad stC kcC NN cI cB cJ cZ x) s.heap.size = A at hW hE ⊢
  have hA : ∀ q : Nat, s.heap.size ≤ q → A q := fun q h => by rw [← hAe]; exact Or.inr h
  have hS : va_S A s.heap s.heap [] := va_S.rf
  have hl := lv_entry ([.ref (ad o)]) (n := 1) (Nat.le_of_ble_eq_true rfl)
  rw [lg_entry_eq]
  generalize (lg_sl ([.ref (ad o)]) ++ List.replicate (1 - (lg_sl ([.ref (ad o)])).length) Slot.unset).toArray = ls at hl ⊢
  have hl : lv_has ls 1 [(0, .ref (ad o))] := hl
  exact t_Scn_next_e hx hb hml hown hT hK hN hA (Nat.le_refl 0) (Nat.le_refl 0) (Nat.le_refl 0) (Nat.le_refl 0) hNN hE (fun r x H locs pc ls hd hp hW hS => W.iret (v := r) hx hb hr (fun t ht hM => ⟨⟨r, x, rfl, hp, Wd.back hW ht.symm (fun _ z => z)⟩, hS.F ht⟩) hS.2.2 hd hlocks)  o x _ _ ls fo hw hW hS hl
set_option maxRecDepth 100000 in
set_option maxHeartbeats 4000000 in
set_option maxRecDepth 100000 in
theorem t_Sch_isEmptyGroup_26 {p : Program} {l : Launch} {e : Env} {R : Room} {s : State} {m : MethodId} {args : Array Value} {below : List Frame} {meth : Method} {c : Code} {cells slots : Nat} {Q : State → Prop} {dC : Nat → ClassId} {dI : Nat → Nat → Nat} {cI cB cJ cZ : ClassId} {A : Nat → Prop} {ad : Nat → Nat} {NN : Nat} {E : Heap} {tM tC : Nat} {kK kV : Nat → Nat} {post : Int32 → St → Prop} (hx : p.tables.exec = Jvm.exec) (hb : c.code = b_Sch_isEmptyGroup) (hml : c.maxLocals = 2) (hown : s.vm.findClass R_Sch = some m.cls) (hT : ∀ w ∈ TG, w.before args s = true) (hK : va_K (dC, dI) CL (TY cI cB cJ cZ) s) (hN : NW s) (hA : ∀ q : Nat, s.heap.size ≤ q → A q) (hRc : cells ≤ R.cells) (hRs : slots ≤ R.slots) (hRf : 0 ≤ R.frames) (hRl : 0 ≤ R.locals) (hNN : 152 ≤ NN) (hE : CE E tM tC kK kV A s) (hret : ∀ (r : Int32) (x : St) (H : Heap) (locs : List Loc) (pc : Nat) (ls : Array Slot), decode b_Sch_isEmptyGroup pc = .ok (.ireturn, 1) → narrow .boolean (.int r) = .int r → post r x → Wd dC dI cI cB cJ cZ ad stC kcC NN A x H → va_S A s.heap H locs → W p l e R s m args below meth c H locs cells slots Q (F0 m pc ls [.int r]))  : ∀ (o : Nat) (l1 : Int32) (x : St) (H : Heap) (locs : List Loc) (ls : Array Slot), (o < NN ∧ kcC o = 3) → j_Sch_isEmptyGroup_26 post o l1 x → Wd dC dI cI cB cJ cZ ad stC kcC NN A x H → va_S A s.heap H locs → lv_has ls 2 [(0, .ref (ad o)), (1, .int l1)] → W p l e R s m args below meth c H locs cells slots Q (F0 m 26 ls []) := by
  intro o l1 x H locs ls fo hw hW hS hl
  unfold j_Sch_isEmptyGroup_26 at hw
  refine lv_iconst (v := 0) hx hb d_Sch_isEmptyGroup_26 (by decide) ?_
  exact hret 0 x H locs 27 ls d_Sch_isEmptyGroup_27 rfl hw hW hS
set_option maxRecDepth 100000 in
set_option maxHeartbeats 4000000 in
set_option maxRecDepth 100000 in
theorem t_Sch_isEmptyGroup_e {p : Program} {l : Launch} {e : Env} {R : Room} {s : State} {m : MethodId} {args : Array Value} {below : List Frame} {meth : Method} {c : Code} {cells slots : Nat} {Q : State → Prop} {dC : Nat → ClassId} {dI : Nat → Nat → Nat} {cI cB cJ cZ : ClassId} {A : Nat → Prop} {ad : Nat → Nat} {NN : Nat} {E : Heap} {tM tC : Nat} {kK kV : Nat → Nat} {post : Int32 → St → Prop} (hx : p.tables.exec = Jvm.exec) (hb : c.code = b_Sch_isEmptyGroup) (hml : c.maxLocals = 2) (hown : s.vm.findClass R_Sch = some m.cls) (hT : ∀ w ∈ TG, w.before args s = true) (hK : va_K (dC, dI) CL (TY cI cB cJ cZ) s) (hN : NW s) (hA : ∀ q : Nat, s.heap.size ≤ q → A q) (hRc : cells ≤ R.cells) (hRs : slots ≤ R.slots) (hRf : 0 ≤ R.frames) (hRl : 0 ≤ R.locals) (hNN : 152 ≤ NN) (hE : CE E tM tC kK kV A s) (hret : ∀ (r : Int32) (x : St) (H : Heap) (locs : List Loc) (pc : Nat) (ls : Array Slot), decode b_Sch_isEmptyGroup pc = .ok (.ireturn, 1) → narrow .boolean (.int r) = .int r → post r x → Wd dC dI cI cB cJ cZ ad stC kcC NN A x H → va_S A s.heap H locs → W p l e R s m args below meth c H locs cells slots Q (F0 m pc ls [.int r])) : ∀ (o : Nat) (l1 : Int32) (x : St) (H : Heap) (locs : List Loc) (ls : Array Slot), (o < NN ∧ kcC o = 3) → wp_Sch_isEmptyGroup post o l1 x → Wd dC dI cI cB cJ cZ ad stC kcC NN A x H → va_S A s.heap H locs → lv_has ls 2 [(0, .ref (ad o)), (1, .int l1)] → W p l e R s m args below meth c H locs cells slots Q (F0 m 0 ls []) := by
  intro o l1 x H locs ls fo hw hW hS hl
  unfold wp_Sch_isEmptyGroup at hw
  refine lv_aload_n hx hb d_Sch_isEmptyGroup_0 rfl (lv_at hl 0 rfl) ?_
  refine w_getf (q := (stC o 3)) (k := 3) (t := 3) (C := R_Sch) (T := F_Sch) (N := 13) hx hb hT hown hK hW fo.1 fo.2 (by decide) in_Sch rfl rfl (by decide) rfl fr_Sch_3 w_1_145 d_Sch_isEmptyGroup_1 rfl ?_
  refine lv_iload_n hx hb d_Sch_isEmptyGroup_4 rfl (lv_at hl 1 rfl) ?_
  obtain ⟨hi, hw⟩ := hw
  refine w_iald (o := (stC o 3)) hx hb hK hW (st_ty hNN fo.1 fo.2 rfl).1 (st_ty hNN fo.1 fo.2 rfl).2 hi d_Sch_isEmptyGroup_5 ?_
  refine lv_iconst (v := 4) hx hb d_Sch_isEmptyGroup_6 (by decide) ?_
  refine lv_icmp_ne (tgt := 26) hx hb d_Sch_isEmptyGroup_7 (by decide) (fun c1 => ?_) (fun c1 => ?_)
  · have hw := hw.1 c1
    exact t_Sch_isEmptyGroup_26 hx hb hml hown hT hK hN hA hRc hRs hRf hRl hNN hE hret  o l1 x H locs ls fo hw hW hS (lv_sub hl [0, 1] rfl)
  · have hw := hw.2 c1
    refine lv_aload_n hx hb d_Sch_isEmptyGroup_10 rfl (lv_at hl 0 rfl) ?_
    refine w_getf (q := (stC o 8)) (k := 8) (t := 3) (C := R_Sch) (T := F_Sch) (N := 13) hx hb hT hown hK hW fo.1 fo.2 (by decide) in_Sch rfl rfl (by decide) rfl fr_Sch_8 w_1_169 d_Sch_isEmptyGroup_11 rfl ?_
    refine lv_iload_n hx hb d_Sch_isEmptyGroup_14 rfl (lv_at hl 1 rfl) ?_
    obtain ⟨hi, hw⟩ := hw
    refine w_iald (o := (stC o 8)) hx hb hK hW (st_ty hNN fo.1 fo.2 rfl).1 (st_ty hNN fo.1 fo.2 rfl).2 hi d_Sch_isEmptyGroup_15 ?_
    refine lv_iload_n hx hb d_Sch_isEmptyGroup_16 rfl (lv_at hl 1 rfl) ?_
    refine lv_iconst (v := 1) hx hb d_Sch_isEmptyGroup_17 (by decide) ?_
    refine lv_iadd hx hb d_Sch_isEmptyGroup_18 ?_
    refine lv_icmp_ne (tgt := 26) hx hb d_Sch_isEmptyGroup_19 (by decide) (fun c2 => ?_) (fun c2 => ?_)
    · have hw := hw.1 c2
      exact t_Sch_isEmptyGroup_26 hx hb hml hown hT hK hN hA hRc hRs hRf hRl hNN hE hret  o l1 x H locs ls fo hw hW hS (lv_sub hl [0, 1] rfl)
    · have hw := hw.2 c2
      refine lv_iconst (v := 1) hx hb d_Sch_isEmptyGroup_22 (by decide) ?_
      refine lv_goto (tgt := 27) hx hb d_Sch_isEmptyGroup_23 (by decide) ?_
      exact hret 1 x H locs 27 ls d_Sch_isEmptyGroup_27 rfl hw hW hS
set_option maxHeartbeats 4000000 in
set_option maxRecDepth 100000 in
theorem k_Sch_isEmptyGroup (l : Launch) (dC : Nat → ClassId) (dI : Nat → Nat → Nat) (cI cB cJ cZ : ClassId) (ad : Nat → Nat) (NN : Nat) (E : Heap) (tM tC : Nat) (kK kV : Nat → Nat) (hNN : 152 ≤ NN) (sz : Nat) (o : Nat) (l1 : Int32) (x : St) (fo : o < NN ∧ kcC o = 3) {post : Int32 → St → Prop} (hw : wp_Sch_isEmptyGroup post o l1 x) : Met l y_Sch_isEmptyGroup (wsOf y_Sch_isEmptyGroup b_Sch_isEmptyGroup 2 (some (.boolean))) ({ frames := 0, cells := 0, slots := 0, locals := 0 }) (va_Pc [.ref (ad o), .int l1] (PVc dC dI cI cB cJ cZ ad stC kcC NN E tM tC kK kV sz x)) (va_Qi (fun (r : Int32) (y : St) => post r y) (fun y t => Wd dC dI cI cB cJ cZ ad stC kcC NN (va_A (pic ad stC kcC NN cI cB cJ cZ x) sz) y t.heap) (va_A (pic ad stC kcC NN cI cB cJ cZ x) sz)) 0 0 (va_A (pic ad stC kcC NN cI cB cJ cZ x) sz) := by
  refine Met.ofW (cc := b_Sch_isEmptyGroup) (maxL := 2) (ret := some (.boolean)) (by decide) rfl ?_
  intro p e s m args below meth c s₁ B hml hv
  obtain ⟨rfl, ⟨hsz, hW0, hK, hN⟩, hE⟩ := hv
  have hx := B.exec
  have hb := B.bytes
  have hr := B.returns
  have hts := atoms_spec B.pre
  have hT : ∀ w ∈ TG, w.before _ s = true := fun w h => hts w (List.mem_cons_of_mem _ h)
  have hown : s.vm.findClass R_Sch = some m.cls := findClass_of_methodNamed B.named
  have hlocks := B.notSynchronized
  subst hsz
  have hW : Wd dC dI cI cB cJ cZ ad stC kcC NN (va_A (pic ad stC kcC NN cI cB cJ cZ x) s.heap.size) x s.heap := ⟨hW0.1, hW0.2.1.self (sz := s.heap.size), hW0.2.2⟩
  generalize hAe : va_A (pic ad stC kcC NN cI cB cJ cZ x) s.heap.size = A at hW hE ⊢
  have hA : ∀ q : Nat, s.heap.size ≤ q → A q := fun q h => by rw [← hAe]; exact Or.inr h
  have hS : va_S A s.heap s.heap [] := va_S.rf
  have hl := lv_entry ([.ref (ad o), .int l1]) (n := 2) (Nat.le_of_ble_eq_true rfl)
  rw [lg_entry_eq]
  generalize (lg_sl ([.ref (ad o), .int l1]) ++ List.replicate (2 - (lg_sl ([.ref (ad o), .int l1])).length) Slot.unset).toArray = ls at hl ⊢
  have hl : lv_has ls 2 [(0, .ref (ad o)), (1, .int l1)] := hl
  exact t_Sch_isEmptyGroup_e hx hb hml hown hT hK hN hA (Nat.le_refl 0) (Nat.le_refl 0) (Nat.le_refl 0) (Nat.le_refl 0) hNN hE (fun r x H locs pc ls hd hz hp hW hS => W.zret (v := r) (ty := .boolean) hx hb hr hz (fun t ht hM => ⟨⟨r, x, rfl, hp, Wd.back hW ht.symm (fun _ z => z)⟩, hS.F ht⟩) hS.2.2 hd hlocks)  o l1 x _ _ ls fo hw hW hS hl
set_option maxRecDepth 100000 in
set_option maxHeartbeats 4000000 in
set_option maxRecDepth 100000 in
theorem t_Scn_takeSign_e {p : Program} {l : Launch} {e : Env} {R : Room} {s : State} {m : MethodId} {args : Array Value} {below : List Frame} {meth : Method} {c : Code} {cells slots : Nat} {Q : State → Prop} {dC : Nat → ClassId} {dI : Nat → Nat → Nat} {cI cB cJ cZ : ClassId} {A : Nat → Prop} {ad : Nat → Nat} {NN : Nat} {E : Heap} {tM tC : Nat} {kK kV : Nat → Nat} {post : Int32 → St → Prop} (hx : p.tables.exec = Jvm.exec) (hb : c.code = b_Scn_takeSign) (hml : c.maxLocals = 2) (hown : s.vm.findClass R_Scn = some m.cls) (hT : ∀ w ∈ TG, w.before args s = true) (hK : va_K (dC, dI) CL (TY cI cB cJ cZ) s) (hN : NW s) (hA : ∀ q : Nat, s.heap.size ≤ q → A q) (hRc : cells ≤ R.cells) (hRs : slots ≤ R.slots) (hRf : 1 ≤ R.frames) (hRl : 20 ≤ R.locals) (hNN : 152 ≤ NN) (hE : CE E tM tC kK kV A s) (hret : ∀ (r : Int32) (x : St) (H : Heap) (locs : List Loc) (pc : Nat) (ls : Array Slot), decode b_Scn_takeSign pc = .ok (.ireturn, 1) → narrow .boolean (.int r) = .int r → post r x → Wd dC dI cI cB cJ cZ ad stC kcC NN A x H → va_S A s.heap H locs → W p l e R s m args below meth c H locs cells slots Q (F0 m pc ls [.int r])) : ∀ (o : Nat) (l1 : Int32) (x : St) (H : Heap) (locs : List Loc) (ls : Array Slot), (o < NN ∧ kcC o = 2) → wp_Scn_takeSign post o l1 x → Wd dC dI cI cB cJ cZ ad stC kcC NN A x H → va_S A s.heap H locs → lv_has ls 2 [(0, .ref (ad o)), (1, .int l1)] → W p l e R s m args below meth c H locs cells slots Q (F0 m 0 ls []) := by
  intro o l1 x H locs ls fo hw hW hS hl
  unfold wp_Scn_takeSign at hw
  refine lv_aload_n hx hb d_Scn_takeSign_0 rfl (lv_at hl 0 rfl) ?_
  have hF := hW.free hS hA
  refine va_calli (va_runV (C := R_Scn) (As := []) (rest := []) ⟨hx, hb, hml, hown, hT⟩ (k_Scn_next l dC dI cI cB cJ cZ ad NN E tM tC kK kV hNN H.size o x fo hw) ⟨callB_of 0 hT (gwt_in w_4_110) rfl rfl rfl (hT _ w_1_4) (hT _ w_4_124) (by decide +kernel) ⟨Nat.le_trans (Nat.le_of_ble_eq_true rfl) hRf, Nat.le_trans (Nat.le_of_ble_eq_true rfl) hRl⟩, hT _ w_4_108, hT _ w_4_109⟩ ⟨PVc.blind, va_recv hK hW.1 (ci := 2) (q0 := o) rfl (pic_obj fo.1 fo.2 (by decide)), PVc.at _ hW hK hN hE hS hF⟩ rfl rfl hl.1 rfl (lv_room (Nat.le_of_ble_eq_true rfl)) d_Scn_takeSign_1 ⟨hRc, hRs⟩) hS (fun q _ h => hF q h) hF (fun r2 x1 t H locs ht hvm hw hB hz1 hk1 hS => ?_)
  have hW := Wd.back hB ht hF
  clear hB ht hF hz1 hk1 hvm
  refine lv_iload_n hx hb d_Scn_takeSign_4 rfl (lv_at hl 1 rfl) ?_
  refine lv_icmp_eq (tgt := 10) hx hb d_Scn_takeSign_5 (by decide) (fun c3 => ?_) (fun c3 => ?_)
  · have hw := hw.1 c3
    refine lv_aload_n hx hb d_Scn_takeSign_10 rfl (lv_at hl 0 rfl) ?_
    refine lv_dup hx hb d_Scn_takeSign_11 rfl ?_
    refine w_geti (k := 2) (t := 2) (C := R_Scn) (T := F_Scn) (N := 8) hx hb hT hown hK hW fo.1 fo.2 (by decide) in_Scn rfl rfl (by decide) rfl fr_Scn_2 w_1_85 d_Scn_takeSign_12 ?_
    refine lv_iconst (v := 1) hx hb d_Scn_takeSign_15 (by decide) ?_
    refine lv_iadd hx hb d_Scn_takeSign_16 ?_
    refine w_puti (ty := .int) (k := 2) (t := 2) (C := R_Scn) (T := F_Scn) (N := 8) hx hb hT hown hK hW hS fo.1 fo.2 (by decide) in_Scn t_Scn t_Scn_ok n_Scn rfl rfl (by decide) rfl fr_Scn_2 w_1_85 (by decide +kernel) rfl rfl d_Scn_takeSign_17 (fun H locs hW hS => ?_)
    obtain ⟨x4, ex4⟩ : ∃ y : St, y = setI x1 o 2 ((fI x1 o 2) + 1) := ⟨_, rfl⟩
    rw [← ex4] at hW
    have hw := hw x4 ex4
    refine lv_iconst (v := 1) hx hb d_Scn_takeSign_20 (by decide) ?_
    exact hret 1 x4 H locs 21 ls d_Scn_takeSign_21 rfl hw hW hS
  · have hw := hw.2 c3
    refine lv_iconst (v := 0) hx hb d_Scn_takeSign_8 (by decide) ?_
    exact hret 0 x1 H locs 9 ls d_Scn_takeSign_9 rfl hw hW hS
set_option maxHeartbeats 4000000 in
set_option maxRecDepth 100000 in
theorem k_Scn_takeSign (l : Launch) (dC : Nat → ClassId) (dI : Nat → Nat → Nat) (cI cB cJ cZ : ClassId) (ad : Nat → Nat) (NN : Nat) (E : Heap) (tM tC : Nat) (kK kV : Nat → Nat) (hNN : 152 ≤ NN) (sz : Nat) (o : Nat) (l1 : Int32) (x : St) (fo : o < NN ∧ kcC o = 2) {post : Int32 → St → Prop} (hw : wp_Scn_takeSign post o l1 x) : Met l y_Scn_takeSign (wsOf y_Scn_takeSign b_Scn_takeSign 2 (some (.boolean))) ({ frames := 1, cells := 0, slots := 0, locals := 20 }) (va_Pc [.ref (ad o), .int l1] (PVc dC dI cI cB cJ cZ ad stC kcC NN E tM tC kK kV sz x)) (va_Qi (fun (r : Int32) (y : St) => post r y) (fun y t => Wd dC dI cI cB cJ cZ ad stC kcC NN (va_A (pic ad stC kcC NN cI cB cJ cZ x) sz) y t.heap) (va_A (pic ad stC kcC NN cI cB cJ cZ x) sz)) 0 0 (va_A (pic ad stC kcC NN cI cB cJ cZ x) sz) := by
  refine Met.ofW (cc := b_Scn_takeSign) (maxL := 2) (ret := some (.boolean)) (by decide) rfl ?_
  intro p e s m args below meth c s₁ B hml hv
  obtain ⟨rfl, ⟨hsz, hW0, hK, hN⟩, hE⟩ := hv
  have hx := B.exec
  have hb := B.bytes
  have hr := B.returns
  have hts := atoms_spec B.pre
  have hT : ∀ w ∈ TG, w.before _ s = true := fun w h => hts w (List.mem_cons_of_mem _ h)
  have hown : s.vm.findClass R_Scn = some m.cls := findClass_of_methodNamed B.named
  have hlocks := B.notSynchronized
  subst hsz
  have hW : Wd dC dI cI cB cJ cZ ad stC kcC NN (va_A (pic ad stC kcC NN cI cB cJ cZ x) s.heap.size) x s.heap := ⟨hW0.1, hW0.2.1.self (sz := s.heap.size), hW0.2.2⟩
  generalize hAe : va_A (pic ad stC kcC NN cI cB cJ cZ x) s.heap.size = A at hW hE ⊢
  have hA : ∀ q : Nat, s.heap.size ≤ q → A q := fun q h => by rw [← hAe]; exact Or.inr h
  have hS : va_S A s.heap s.heap [] := va_S.rf
  have hl := lv_entry ([.ref (ad o), .int l1]) (n := 2) (Nat.le_of_ble_eq_true rfl)
  rw [lg_entry_eq]
  generalize (lg_sl ([.ref (ad o), .int l1]) ++ List.replicate (2 - (lg_sl ([.ref (ad o), .int l1])).length) Slot.unset).toArray = ls at hl ⊢
  have hl : lv_has ls 2 [(0, .ref (ad o)), (1, .int l1)] := hl
  exact t_Scn_takeSign_e hx hb hml hown hT hK hN hA (Nat.le_refl 0) (Nat.le_refl 0) (Nat.le_refl 1) (Nat.le_refl 20) hNN hE (fun r x H locs pc ls hd hz hp hW hS => W.zret (v := r) (ty := .boolean) hx hb hr hz (fun t ht hM => ⟨⟨r, x, rfl, hp, Wd.back hW ht.symm (fun _ z => z)⟩, hS.F ht⟩) hS.2.2 hd hlocks)  o l1 x _ _ ls fo hw hW hS hl
set_option maxRecDepth 100000 in
set_option maxHeartbeats 4000000 in
set_option maxRecDepth 100000 in
theorem t_Scn_refuse_e {p : Program} {l : Launch} {e : Env} {R : Room} {s : State} {m : MethodId} {args : Array Value} {below : List Frame} {meth : Method} {c : Code} {cells slots : Nat} {Q : State → Prop} {dC : Nat → ClassId} {dI : Nat → Nat → Nat} {cI cB cJ cZ : ClassId} {A : Nat → Prop} {ad : Nat → Nat} {NN : Nat} {E : Heap} {tM tC : Nat} {kK kV : Nat → Nat} {post : St → Prop} (hx : p.tables.exec = Jvm.exec) (hb : c.code = b_Scn_refuse) (hml : c.maxLocals = 2) (hown : s.vm.findClass R_Scn = some m.cls) (hT : ∀ w ∈ TG, w.before args s = true) (hK : va_K (dC, dI) CL (TY cI cB cJ cZ) s) (hN : NW s) (hA : ∀ q : Nat, s.heap.size ≤ q → A q) (hRc : cells ≤ R.cells) (hRs : slots ≤ R.slots) (hRf : 0 ≤ R.frames) (hRl : 0 ≤ R.locals) (hNN : 152 ≤ NN) (hE : CE E tM tC kK kV A s) (hret : ∀ (x : St) (H : Heap) (locs : List Loc) (pc : Nat) (ls : Array Slot), decode b_Scn_refuse pc = .ok (.return_, 1) → post x → Wd dC dI cI cB cJ cZ ad stC kcC NN A x H → va_S A s.heap H locs → W p l e R s m args below meth c H locs cells slots Q (F0 m pc ls [])) : ∀ (o : Nat) (l1 : Int32) (x : St) (H : Heap) (locs : List Loc) (ls : Array Slot), (o < NN ∧ kcC o = 2) → wp_Scn_refuse post o l1 x → Wd dC dI cI cB cJ cZ ad stC kcC NN A x H → va_S A s.heap H locs → lv_has ls 2 [(0, .ref (ad o)), (1, .int l1)] → W p l e R s m args below meth c H locs cells slots Q (F0 m 0 ls []) := by
  intro o l1 x H locs ls fo hw hW hS hl
  unfold wp_Scn_refuse at hw
  refine lv_aload_n hx hb d_Scn_refuse_0 rfl (lv_at hl 0 rfl) ?_
  refine w_geti (k := 3) (t := 2) (C := R_Scn) (T := F_Scn) (N := 8) hx hb hT hown hK hW fo.1 fo.2 (by decide) in_Scn rfl rfl (by decide) rfl fr_Scn_3 w_1_89 d_Scn_refuse_1 ?_
  refine lv_iconst (v := (-1)) hx hb d_Scn_refuse_4 (by decide) ?_
  refine lv_icmp_ne (tgt := 13) hx hb d_Scn_refuse_5 (by decide) (fun c1 => ?_) (fun c1 => ?_)
  · have hw := hw.1 c1
    exact hret x H locs 13 ls d_Scn_refuse_13 hw hW hS
  · have hw := hw.2 c1
    refine lv_aload_n hx hb d_Scn_refuse_8 rfl (lv_at hl 0 rfl) ?_
    refine lv_iload_n hx hb d_Scn_refuse_9 rfl (lv_at hl 1 rfl) ?_
    refine w_puti (ty := .int) (k := 3) (t := 2) (C := R_Scn) (T := F_Scn) (N := 8) hx hb hT hown hK hW hS fo.1 fo.2 (by decide) in_Scn t_Scn t_Scn_ok n_Scn rfl rfl (by decide) rfl fr_Scn_3 w_1_89 (by decide +kernel) rfl rfl d_Scn_refuse_10 (fun H locs hW hS => ?_)
    obtain ⟨x2, ex2⟩ : ∃ y : St, y = setI x o 3 l1 := ⟨_, rfl⟩
    rw [← ex2] at hW
    have hw := hw x2 ex2
    exact hret x2 H locs 13 ls d_Scn_refuse_13 hw hW hS
set_option maxHeartbeats 4000000 in
set_option maxRecDepth 100000 in
theorem k_Scn_refuse (l : Launch) (dC : Nat → ClassId) (dI : Nat → Nat → Nat) (cI cB cJ cZ : ClassId) (ad : Nat → Nat) (NN : Nat) (E : Heap) (tM tC : Nat) (kK kV : Nat → Nat) (hNN : 152 ≤ NN) (sz : Nat) (o : Nat) (l1 : Int32) (x : St) (fo : o < NN ∧ kcC o = 2) {post : St → Prop} (hw : wp_Scn_refuse post o l1 x) : Met l y_Scn_refuse (wsOf y_Scn_refuse b_Scn_refuse 2 (none)) ({ frames := 0, cells := 0, slots := 0, locals := 0 }) (va_Pc [.ref (ad o), .int l1] (PVc dC dI cI cB cJ cZ ad stC kcC NN E tM tC kK kV sz x)) (va_Qv (fun (y : St) => post y) (fun y t => Wd dC dI cI cB cJ cZ ad stC kcC NN (va_A (pic ad stC kcC NN cI cB cJ cZ x) sz) y t.heap) (va_A (pic ad stC kcC NN cI cB cJ cZ x) sz)) 0 0 (va_A (pic ad stC kcC NN cI cB cJ cZ x) sz) := by
  refine Met.ofW (cc := b_Scn_refuse) (maxL := 2) (ret := none) (by decide) rfl ?_
  intro p e s m args below meth c s₁ B hml hv
  obtain ⟨rfl, ⟨hsz, hW0, hK, hN⟩, hE⟩ := hv
  have hx := B.exec
  have hb := B.bytes
  have hr := B.returns
  have hts := atoms_spec B.pre
  have hT : ∀ w ∈ TG, w.before _ s = true := fun w h => hts w (List.mem_cons_of_mem _ h)
  have hown : s.vm.findClass R_Scn = some m.cls := findClass_of_methodNamed B.named
  have hlocks := B.notSynchronized
  subst hsz
  have hW : Wd dC dI cI cB cJ cZ ad stC kcC NN (va_A (pic ad stC kcC NN cI cB cJ cZ x) s.heap.size) x s.heap := ⟨hW0.1, hW0.2.1.self (sz := s.heap.size), hW0.2.2⟩
  generalize hAe : va_A (pic ad stC kcC NN cI cB cJ cZ x) s.heap.size = A at hW hE ⊢
  have hA : ∀ q : Nat, s.heap.size ≤ q → A q := fun q h => by rw [← hAe]; exact Or.inr h
  have hS : va_S A s.heap s.heap [] := va_S.rf
  have hl := lv_entry ([.ref (ad o), .int l1]) (n := 2) (Nat.le_of_ble_eq_true rfl)
  rw [lg_entry_eq]
  generalize (lg_sl ([.ref (ad o), .int l1]) ++ List.replicate (2 - (lg_sl ([.ref (ad o), .int l1])).length) Slot.unset).toArray = ls at hl ⊢
  have hl : lv_has ls 2 [(0, .ref (ad o)), (1, .int l1)] := hl
  exact t_Scn_refuse_e hx hb hml hown hT hK hN hA (Nat.le_refl 0) (Nat.le_refl 0) (Nat.le_refl 0) (Nat.le_refl 0) hNN hE (fun x H locs pc ls hd hp hW hS => W.vret hx hb hr (fun t ht hM => ⟨⟨x, rfl, hp, Wd.back hW ht.symm (fun _ z => z)⟩, hS.F ht⟩) hS.2.2 hd hlocks)  o l1 x _ _ ls fo hw hW hS hl
set_option maxRecDepth 100000 in
set_option maxHeartbeats 4000000 in
set_option maxRecDepth 100000 in
theorem t_Scn_needSign_e {p : Program} {l : Launch} {e : Env} {R : Room} {s : State} {m : MethodId} {args : Array Value} {below : List Frame} {meth : Method} {c : Code} {cells slots : Nat} {Q : State → Prop} {dC : Nat → ClassId} {dI : Nat → Nat → Nat} {cI cB cJ cZ : ClassId} {A : Nat → Prop} {ad : Nat → Nat} {NN : Nat} {E : Heap} {tM tC : Nat} {kK kV : Nat → Nat} {post : St → Prop} (hx : p.tables.exec = Jvm.exec) (hb : c.code = b_Scn_needSign) (hml : c.maxLocals = 2) (hown : s.vm.findClass R_Scn = some m.cls) (hT : ∀ w ∈ TG, w.before args s = true) (hK : va_K (dC, dI) CL (TY cI cB cJ cZ) s) (hN : NW s) (hA : ∀ q : Nat, s.heap.size ≤ q → A q) (hRc : cells ≤ R.cells) (hRs : slots ≤ R.slots) (hRf : 2 ≤ R.frames) (hRl : 41 ≤ R.locals) (hNN : 152 ≤ NN) (hE : CE E tM tC kK kV A s) (hret : ∀ (x : St) (H : Heap) (locs : List Loc) (pc : Nat) (ls : Array Slot), decode b_Scn_needSign pc = .ok (.return_, 1) → post x → Wd dC dI cI cB cJ cZ ad stC kcC NN A x H → va_S A s.heap H locs → W p l e R s m args below meth c H locs cells slots Q (F0 m pc ls [])) : ∀ (o : Nat) (l1 : Int32) (x : St) (H : Heap) (locs : List Loc) (ls : Array Slot), (o < NN ∧ kcC o = 2) → wp_Scn_needSign post o l1 x → Wd dC dI cI cB cJ cZ ad stC kcC NN A x H → va_S A s.heap H locs → lv_has ls 2 [(0, .ref (ad o)), (1, .int l1)] → W p l e R s m args below meth c H locs cells slots Q (F0 m 0 ls []) := by
  intro o l1 x H locs ls fo hw hW hS hl
  unfold wp_Scn_needSign at hw
  refine lv_aload_n hx hb d_Scn_needSign_0 rfl (lv_at hl 0 rfl) ?_
  have hF := hW.free hS hA
  refine va_calli (va_runV (C := R_Scn) (As := []) (rest := []) ⟨hx, hb, hml, hown, hT⟩ (k_Scn_good l dC dI cI cB cJ cZ ad NN E tM tC kK kV hNN H.size o x fo hw) ⟨callB_of 0 hT (gwt_in w_4_106) rfl rfl rfl (hT _ w_1_4) (hT _ w_4_119) (by decide +kernel) ⟨Nat.le_trans (Nat.le_of_ble_eq_true rfl) hRf, Nat.le_trans (Nat.le_of_ble_eq_true rfl) hRl⟩, hT _ w_4_104, hT _ w_4_105⟩ ⟨PVc.blind, va_recv hK hW.1 (ci := 2) (q0 := o) rfl (pic_obj fo.1 fo.2 (by decide)), PVc.at _ hW hK hN hE hS hF⟩ rfl rfl hl.1 rfl (lv_room (Nat.le_of_ble_eq_true rfl)) d_Scn_needSign_1 ⟨hRc, hRs⟩) hS (fun q _ h => hF q h) hF (fun r2 x1 t H locs ht hvm hw hB hz1 hk1 hS => ?_)
  have hW := Wd.back hB ht hF
  clear hB ht hF hz1 hk1 hvm
  refine lv_if_eq (tgt := 23) hx hb d_Scn_needSign_4 (by decide) (fun c3 => ?_) (fun c3 => ?_)
  · have hw := hw.1 c3
    exact hret x1 H locs 23 ls d_Scn_needSign_23 hw hW hS
  · have hw := hw.2 c3
    refine lv_aload_n hx hb d_Scn_needSign_7 rfl (lv_at hl 0 rfl) ?_
    refine lv_iload_n hx hb d_Scn_needSign_8 rfl (lv_at hl 1 rfl) ?_
    have hF := hW.free hS hA
    refine va_calli (va_runV (C := R_Scn) (As := [.int l1]) (rest := []) ⟨hx, hb, hml, hown, hT⟩ (k_Scn_takeSign l dC dI cI cB cJ cZ ad NN E tM tC kK kV hNN H.size o l1 x1 fo hw) ⟨callB_of 1 hT (gwt_in w_4_123) rfl rfl rfl (hT _ w_1_4) (hT _ w_4_120) (by decide +kernel) ⟨Nat.le_trans (Nat.le_of_ble_eq_true rfl) hRf, Nat.le_trans (Nat.le_of_ble_eq_true rfl) hRl⟩, hT _ w_4_121, hT _ w_4_122⟩ ⟨PVc.blind, va_recv hK hW.1 (ci := 2) (q0 := o) rfl (pic_obj fo.1 fo.2 (by decide)), PVc.at _ hW hK hN hE hS hF⟩ rfl rfl hl.1 rfl (lv_room (Nat.le_of_ble_eq_true rfl)) d_Scn_needSign_9 ⟨hRc, hRs⟩) hS (fun q _ h => hF q h) hF (fun r5 x4 t H locs ht hvm hw hB hz1 hk1 hS => ?_)
    have hW := Wd.back hB ht hF
    clear hB ht hF hz1 hk1 hvm
    refine lv_if_ne (tgt := 23) hx hb d_Scn_needSign_12 (by decide) (fun c6 => ?_) (fun c6 => ?_)
    · have hw := hw.1 c6
      exact hret x4 H locs 23 ls d_Scn_needSign_23 hw hW hS
    · have hw := hw.2 c6
      refine lv_aload_n hx hb d_Scn_needSign_15 rfl (lv_at hl 0 rfl) ?_
      refine lv_aload_n hx hb d_Scn_needSign_16 rfl (lv_at hl 0 rfl) ?_
      refine w_geti (k := 2) (t := 2) (C := R_Scn) (T := F_Scn) (N := 8) hx hb hT hown hK hW fo.1 fo.2 (by decide) in_Scn rfl rfl (by decide) rfl fr_Scn_2 w_1_85 d_Scn_needSign_17 ?_
      have hF := hW.free hS hA
      refine va_callv (va_runV (C := R_Scn) (As := [.int (fI x4 o 2)]) (rest := []) ⟨hx, hb, hml, hown, hT⟩ (k_Scn_refuse l dC dI cI cB cJ cZ ad NN E tM tC kK kV hNN H.size o (fI x4 o 2) x4 fo hw) ⟨callB_of 1 hT (gwt_in w_4_128) rfl rfl rfl (hT _ w_1_4) (hT _ w_4_125) (by decide +kernel) ⟨Nat.le_trans (Nat.le_of_ble_eq_true rfl) hRf, Nat.le_trans (Nat.le_of_ble_eq_true rfl) hRl⟩, hT _ w_4_126, hT _ w_4_127⟩ ⟨PVc.blind, va_recv hK hW.1 (ci := 2) (q0 := o) rfl (pic_obj fo.1 fo.2 (by decide)), PVc.at _ hW hK hN hE hS hF⟩ rfl rfl hl.1 rfl (lv_room (Nat.le_of_ble_eq_true rfl)) d_Scn_needSign_20 ⟨hRc, hRs⟩) hS (fun q _ h => hF q h) hF (fun  x7 t H locs ht hvm hw hB hz1 hk1 hS => ?_)
      have hW := Wd.back hB ht hF
      clear hB ht hF hz1 hk1 hvm
      exact hret x7 H locs 23 ls d_Scn_needSign_23 hw hW hS
set_option maxHeartbeats 4000000 in
set_option maxRecDepth 100000 in
theorem k_Scn_needSign (l : Launch) (dC : Nat → ClassId) (dI : Nat → Nat → Nat) (cI cB cJ cZ : ClassId) (ad : Nat → Nat) (NN : Nat) (E : Heap) (tM tC : Nat) (kK kV : Nat → Nat) (hNN : 152 ≤ NN) (sz : Nat) (o : Nat) (l1 : Int32) (x : St) (fo : o < NN ∧ kcC o = 2) {post : St → Prop} (hw : wp_Scn_needSign post o l1 x) : Met l y_Scn_needSign (wsOf y_Scn_needSign b_Scn_needSign 2 (none)) ({ frames := 2, cells := 0, slots := 0, locals := 41 }) (va_Pc [.ref (ad o), .int l1] (PVc dC dI cI cB cJ cZ ad stC kcC NN E tM tC kK kV sz x)) (va_Qv (fun (y : St) => post y) (fun y t => Wd dC dI cI cB cJ cZ ad stC kcC NN (va_A (pic ad stC kcC NN cI cB cJ cZ x) sz) y t.heap) (va_A (pic ad stC kcC NN cI cB cJ cZ x) sz)) 0 0 (va_A (pic ad stC kcC NN cI cB cJ cZ x) sz) := by
  refine Met.ofW (cc := b_Scn_needSign) (maxL := 2) (ret := none) (by decide) rfl ?_
  intro p e s m args below meth c s₁ B hml hv
  obtain ⟨rfl, ⟨hsz, hW0, hK, hN⟩, hE⟩ := hv
  have hx := B.exec
  have hb := B.bytes
  have hr := B.returns
  have hts := atoms_spec B.pre
  have hT : ∀ w ∈ TG, w.before _ s = true := fun w h => hts w (List.mem_cons_of_mem _ h)
  have hown : s.vm.findClass R_Scn = some m.cls := findClass_of_methodNamed B.named
  have hlocks := B.notSynchronized
  subst hsz
  have hW : Wd dC dI cI cB cJ cZ ad stC kcC NN (va_A (pic ad stC kcC NN cI cB cJ cZ x) s.heap.size) x s.heap := ⟨hW0.1, hW0.2.1.self (sz := s.heap.size), hW0.2.2⟩
  generalize hAe : va_A (pic ad stC kcC NN cI cB cJ cZ x) s.heap.size = A at hW hE ⊢
  have hA : ∀ q : Nat, s.heap.size ≤ q → A q := fun q h => by rw [← hAe]; exact Or.inr h
  have hS : va_S A s.heap s.heap [] := va_S.rf
  have hl := lv_entry ([.ref (ad o), .int l1]) (n := 2) (Nat.le_of_ble_eq_true rfl)
  rw [lg_entry_eq]
  generalize (lg_sl ([.ref (ad o), .int l1]) ++ List.replicate (2 - (lg_sl ([.ref (ad o), .int l1])).length) Slot.unset).toArray = ls at hl ⊢
  have hl : lv_has ls 2 [(0, .ref (ad o)), (1, .int l1)] := hl
  exact t_Scn_needSign_e hx hb hml hown hT hK hN hA (Nat.le_refl 0) (Nat.le_refl 0) (Nat.le_refl 2) (Nat.le_refl 41) hNN hE (fun x H locs pc ls hd hp hW hS => W.vret hx hb hr (fun t ht hM => ⟨⟨x, rfl, hp, Wd.back hW ht.symm (fun _ z => z)⟩, hS.F ht⟩) hS.2.2 hd hlocks)  o l1 x _ _ ls fo hw hW hS hl
set_option maxRecDepth 100000 in
set_option maxHeartbeats 4000000 in
set_option maxRecDepth 100000 in
theorem t_V_isLetter_28 {p : Program} {l : Launch} {e : Env} {R : Room} {s : State} {m : MethodId} {args : Array Value} {below : List Frame} {meth : Method} {c : Code} {cells slots : Nat} {Q : State → Prop} {dC : Nat → ClassId} {dI : Nat → Nat → Nat} {cI cB cJ cZ : ClassId} {A : Nat → Prop} {ad : Nat → Nat} {NN : Nat} {E : Heap} {tM tC : Nat} {kK kV : Nat → Nat} {post : Int32 → St → Prop} (hx : p.tables.exec = Jvm.exec) (hb : c.code = b_V_isLetter) (hml : c.maxLocals = 1) (hown : s.vm.findClass R_V = some m.cls) (hT : ∀ w ∈ TG, w.before args s = true) (hK : va_K (dC, dI) CL (TY cI cB cJ cZ) s) (hN : NW s) (hA : ∀ q : Nat, s.heap.size ≤ q → A q) (hRc : cells ≤ R.cells) (hRs : slots ≤ R.slots) (hRf : 0 ≤ R.frames) (hRl : 0 ≤ R.locals) (hNN : 152 ≤ NN) (hE : CE E tM tC kK kV A s) (hret : ∀ (r : Int32) (x : St) (H : Heap) (locs : List Loc) (pc : Nat) (ls : Array Slot), decode b_V_isLetter pc = .ok (.ireturn, 1) → narrow .boolean (.int r) = .int r → post r x → Wd dC dI cI cB cJ cZ ad stC kcC NN A x H → va_S A s.heap H locs → W p l e R s m args below meth c H locs cells slots Q (F0 m pc ls [.int r]))  : ∀ (l0 : Int32) (x : St) (H : Heap) (locs : List Loc) (ls : Array Slot), j_V_isLetter_28 post l0 x → Wd dC dI cI cB cJ cZ ad stC kcC NN A x H → va_S A s.heap H locs → lv_has ls 1 [(0, .int l0)] → W p l e R s m args below meth c H locs cells slots Q (F0 m 28 ls []) := by
  intro l0 x H locs ls  hw hW hS hl
  unfold j_V_isLetter_28 at hw
  refine lv_iconst (v := 0) hx hb d_V_isLetter_28 (by decide) ?_
  exact hret 0 x H locs 29 ls d_V_isLetter_29 rfl hw hW hS
set_option maxRecDepth 100000 in
set_option maxHeartbeats 4000000 in
set_option maxRecDepth 100000 in
theorem t_V_isLetter_24 {p : Program} {l : Launch} {e : Env} {R : Room} {s : State} {m : MethodId} {args : Array Value} {below : List Frame} {meth : Method} {c : Code} {cells slots : Nat} {Q : State → Prop} {dC : Nat → ClassId} {dI : Nat → Nat → Nat} {cI cB cJ cZ : ClassId} {A : Nat → Prop} {ad : Nat → Nat} {NN : Nat} {E : Heap} {tM tC : Nat} {kK kV : Nat → Nat} {post : Int32 → St → Prop} (hx : p.tables.exec = Jvm.exec) (hb : c.code = b_V_isLetter) (hml : c.maxLocals = 1) (hown : s.vm.findClass R_V = some m.cls) (hT : ∀ w ∈ TG, w.before args s = true) (hK : va_K (dC, dI) CL (TY cI cB cJ cZ) s) (hN : NW s) (hA : ∀ q : Nat, s.heap.size ≤ q → A q) (hRc : cells ≤ R.cells) (hRs : slots ≤ R.slots) (hRf : 0 ≤ R.frames) (hRl : 0 ≤ R.locals) (hNN : 152 ≤ NN) (hE : CE E tM tC kK kV A s) (hret : ∀ (r : Int32) (x : St) (H : Heap) (locs : List Loc) (pc : Nat) (ls : Array Slot), decode b_V_isLetter pc = .ok (.ireturn, 1) → narrow .boolean (.int r) = .int r → post r x → Wd dC dI cI cB cJ cZ ad stC kcC NN A x H → va_S A s.heap H locs → W p l e R s m args below meth c H locs cells slots Q (F0 m pc ls [.int r]))  : ∀ (l0 : Int32) (x : St) (H : Heap) (locs : List Loc) (ls : Array Slot), j_V_isLetter_24 post l0 x → Wd dC dI cI cB cJ cZ ad stC kcC NN A x H → va_S A s.heap H locs → lv_has ls 1 [(0, .int l0)] → W p l e R s m args below meth c H locs cells slots Q (F0 m 24 ls []) := by
  intro l0 x H locs ls  hw hW hS hl
  unfold j_V_isLetter_24 at hw
  refine lv_iconst (v := 1) hx hb d_V_isLetter_24 (by decide) ?_
  refine lv_goto (tgt := 29) hx hb d_V_isLetter_25 (by decide) ?_
  exact hret 1 x H locs 29 ls d_V_isLetter_29 rfl hw hW hS
set_option maxRecDepth 100000 in
set_option maxHeartbeats 4000000 in
set_option maxRecDepth 100000 in
theorem t_V_isLetter_12 {p : Program} {l : Launch} {e : Env} {R : Room} {s : State} {m : MethodId} {args : Array Value} {below : List Frame} {meth : Method} {c : Code} {cells slots : Nat} {Q : State → Prop} {dC : Nat → ClassId} {dI : Nat → Nat → Nat} {cI cB cJ cZ : ClassId} {A : Nat → Prop} {ad : Nat → Nat} {NN : Nat} {E : Heap} {tM tC : Nat} {kK kV : Nat → Nat} {post : Int32 → St → Prop} (hx : p.tables.exec = Jvm.exec) (hb : c.code = b_V_isLetter) (hml : c.maxLocals = 1) (hown : s.vm.findClass R_V = some m.cls) (hT : ∀ w ∈ TG, w.before args s = true) (hK : va_K (dC, dI) CL (TY cI cB cJ cZ) s) (hN : NW s) (hA : ∀ q : Nat, s.heap.size ≤ q → A q) (hRc : cells ≤ R.cells) (hRs : slots ≤ R.slots) (hRf : 0 ≤ R.frames) (hRl : 0 ≤ R.locals) (hNN : 152 ≤ NN) (hE : CE E tM tC kK kV A s) (hret : ∀ (r : Int32) (x : St) (H : Heap) (locs : List Loc) (pc : Nat) (ls : Array Slot), decode b_V_isLetter pc = .ok (.ireturn, 1) → narrow .boolean (.int r) = .int r → post r x → Wd dC dI cI cB cJ cZ ad stC kcC NN A x H → va_S A s.heap H locs → W p l e R s m args below meth c H locs cells slots Q (F0 m pc ls [.int r]))  : ∀ (l0 : Int32) (x : St) (H : Heap) (locs : List Loc) (ls : Array Slot), j_V_isLetter_12 post l0 x → Wd dC dI cI cB cJ cZ ad stC kcC NN A x H → va_S A s.heap H locs → lv_has ls 1 [(0, .int l0)] → W p l e R s m args below meth c H locs cells slots Q (F0 m 12 ls []) := by
  intro l0 x H locs ls  hw hW hS hl
  unfold j_V_isLetter_12 at hw
  refine lv_iload_n hx hb d_V_isLetter_12 rfl (lv_at hl 0 rfl) ?_
  refine lv_bipush (v := 65) hx hb d_V_isLetter_13 (by decide) ?_
  refine lv_icmp_lt (tgt := 28) hx hb d_V_isLetter_15 (by decide) (fun c1 => ?_) (fun c1 => ?_)
  · have hw := hw.1 c1
    exact t_V_isLetter_28 hx hb hml hown hT hK hN hA hRc hRs hRf hRl hNN hE hret  l0 x H locs ls  hw hW hS (lv_sub hl [0] rfl)
  · have hw := hw.2 c1
    refine lv_iload_n hx hb d_V_isLetter_18 rfl (lv_at hl 0 rfl) ?_
    refine lv_bipush (v := 90) hx hb d_V_isLetter_19 (by decide) ?_
    refine lv_icmp_gt (tgt := 28) hx hb d_V_isLetter_21 (by decide) (fun c2 => ?_) (fun c2 => ?_)
    · have hw := hw.1 c2
      exact t_V_isLetter_28 hx hb hml hown hT hK hN hA hRc hRs hRf hRl hNN hE hret  l0 x H locs ls  hw hW hS (lv_sub hl [0] rfl)
    · have hw := hw.2 c2
      exact t_V_isLetter_24 hx hb hml hown hT hK hN hA hRc hRs hRf hRl hNN hE hret  l0 x H locs ls  hw hW hS (lv_sub hl [0] rfl)
set_option maxRecDepth 100000 in
set_option maxHeartbeats 4000000 in
set_option maxRecDepth 100000 in
theorem t_V_isLetter_e {p : Program} {l : Launch} {e : Env} {R : Room} {s : State} {m : MethodId} {args : Array Value} {below : List Frame} {meth : Method} {c : Code} {cells slots : Nat} {Q : State → Prop} {dC : Nat → ClassId} {dI : Nat → Nat → Nat} {cI cB cJ cZ : ClassId} {A : Nat → Prop} {ad : Nat → Nat} {NN : Nat} {E : Heap} {tM tC : Nat} {kK kV : Nat → Nat} {post : Int32 → St → Prop} (hx : p.tables.exec = Jvm.exec) (hb : c.code = b_V_isLetter) (hml : c.maxLocals = 1) (hown : s.vm.findClass R_V = some m.cls) (hT : ∀ w ∈ TG, w.before args s = true) (hK : va_K (dC, dI) CL (TY cI cB cJ cZ) s) (hN : NW s) (hA : ∀ q : Nat, s.heap.size ≤ q → A q) (hRc : cells ≤ R.cells) (hRs : slots ≤ R.slots) (hRf : 0 ≤ R.frames) (hRl : 0 ≤ R.locals) (hNN : 152 ≤ NN) (hE : CE E tM tC kK kV A s) (hret : ∀ (r : Int32) (x : St) (H : Heap) (locs : List Loc) (pc : Nat) (ls : Array Slot), decode b_V_isLetter pc = .ok (.ireturn, 1) → narrow .boolean (.int r) = .int r → post r x → Wd dC dI cI cB cJ cZ ad stC kcC NN A x H → va_S A s.heap H locs → W p l e R s m args below meth c H locs cells slots Q (F0 m pc ls [.int r])) : ∀ (l0 : Int32) (x : St) (H : Heap) (locs : List Loc) (ls : Array Slot), wp_V_isLetter post l0 x → Wd dC dI cI cB cJ cZ ad stC kcC NN A x H → va_S A s.heap H locs → lv_has ls 1 [(0, .int l0)] → W p l e R s m args below meth c H locs cells slots Q (F0 m 0 ls []) := by
  intro l0 x H locs ls  hw hW hS hl
  unfold wp_V_isLetter at hw
  refine lv_iload_n hx hb d_V_isLetter_0 rfl (lv_at hl 0 rfl) ?_
  refine lv_bipush (v := 97) hx hb d_V_isLetter_1 (by decide) ?_
  refine lv_icmp_lt (tgt := 12) hx hb d_V_isLetter_3 (by decide) (fun c3 => ?_) (fun c3 => ?_)
  · have hw := hw.1 c3
    exact t_V_isLetter_12 hx hb hml hown hT hK hN hA hRc hRs hRf hRl hNN hE hret  l0 x H locs ls  hw hW hS (lv_sub hl [0] rfl)
  · have hw := hw.2 c3
    refine lv_iload_n hx hb d_V_isLetter_6 rfl (lv_at hl 0 rfl) ?_
    refine lv_bipush (v := 122) hx hb d_V_isLetter_7 (by decide) ?_
    refine lv_icmp_le (tgt := 24) hx hb d_V_isLetter_9 (by decide) (fun c4 => ?_) (fun c4 => ?_)
    · have hw := hw.1 c4
      exact t_V_isLetter_24 hx hb hml hown hT hK hN hA hRc hRs hRf hRl hNN hE hret  l0 x H locs ls  hw hW hS (lv_sub hl [0] rfl)
    · have hw := hw.2 c4
      exact t_V_isLetter_12 hx hb hml hown hT hK hN hA hRc hRs hRf hRl hNN hE hret  l0 x H locs ls  hw hW hS (lv_sub hl [0] rfl)
set_option maxHeartbeats 4000000 in
set_option maxRecDepth 100000 in
theorem k_V_isLetter (l : Launch) (dC : Nat → ClassId) (dI : Nat → Nat → Nat) (cI cB cJ cZ : ClassId) (ad : Nat → Nat) (NN : Nat) (E : Heap) (tM tC : Nat) (kK kV : Nat → Nat) (hNN : 152 ≤ NN) (sz : Nat) (l0 : Int32) (x : St) {post : Int32 → St → Prop} (hw : wp_V_isLetter post l0 x) : Met l y_V_isLetter (wsOf y_V_isLetter b_V_isLetter 1 (some (.boolean))) ({ frames := 0, cells := 0, slots := 0, locals := 0 }) (va_Pc [.int l0] (PVc dC dI cI cB cJ cZ ad stC kcC NN E tM tC kK kV sz x)) (va_Qi (fun (r : Int32) (y : St) => post r y) (fun y t => Wd dC dI cI cB cJ cZ ad stC kcC NN (va_A (pic ad stC kcC NN cI cB cJ cZ x) sz) y t.heap) (va_A (pic ad stC kcC NN cI cB cJ cZ x) sz)) 0 0 (va_A (pic ad stC kcC NN cI cB cJ cZ x) sz) := by
  refine Met.ofW (cc := b_V_isLetter) (maxL := 1) (ret := some (.boolean)) (by decide) rfl ?_
  intro p e s m args below meth c s₁ B hml hv
  obtain ⟨rfl, ⟨hsz, hW0, hK, hN⟩, hE⟩ := hv
  have hx := B.exec
  have hb := B.bytes
  have hr := B.returns
  have hts := atoms_spec B.pre
  have hT : ∀ w ∈ TG, w.before _ s = true := fun w h => hts w (List.mem_cons_of_mem _ h)
  have hown : s.vm.findClass R_V = some m.cls := findClass_of_methodNamed B.named
  have hlocks := B.notSynchronized
  subst hsz
  have hW : Wd dC dI cI cB cJ cZ ad stC kcC NN (va_A (pic ad stC kcC NN cI cB cJ cZ x) s.heap.size) x s.heap := ⟨hW0.1, hW0.2.1.self (sz := s.heap.size), hW0.2.2⟩
  generalize hAe : va_A (pic ad stC kcC NN cI cB cJ cZ x) s.heap.size = A at hW hE ⊢
  have hA : ∀ q : Nat, s.heap.size ≤ q → A q := fun q h => by rw [← hAe]; exact Or.inr h
  have hS : va_S A s.heap s.heap [] := va_S.rf
  have hl := lv_entry ([.int l0]) (n := 1) (Nat.le_of_ble_eq_true rfl)
  rw [lg_entry_eq]
  generalize (lg_sl ([.int l0]) ++ List.replicate (1 - (lg_sl ([.int l0])).length) Slot.unset).toArray = ls at hl ⊢
  have hl : lv_has ls 1 [(0, .int l0)] := hl
  exact t_V_isLetter_e hx hb hml hown hT hK hN hA (Nat.le_refl 0) (Nat.le_refl 0) (Nat.le_refl 0) (Nat.le_refl 0) hNN hE (fun r x H locs pc ls hd hz hp hW hS => W.zret (v := r) (ty := .boolean) hx hb hr hz (fun t ht hM => ⟨⟨r, x, rfl, hp, Wd.back hW ht.symm (fun _ z => z)⟩, hS.F ht⟩) hS.2.2 hd hlocks)  l0 x _ _ ls  hw hW hS hl
set_option maxRecDepth 100000 in
set_option maxHeartbeats 4000000 in
set_option maxRecDepth 100000 in
theorem t_V_isOfWord_42 {p : Program} {l : Launch} {e : Env} {R : Room} {s : State} {m : MethodId} {args : Array Value} {below : List Frame} {meth : Method} {c : Code} {cells slots : Nat} {Q : State → Prop} {dC : Nat → ClassId} {dI : Nat → Nat → Nat} {cI cB cJ cZ : ClassId} {A : Nat → Prop} {ad : Nat → Nat} {NN : Nat} {E : Heap} {tM tC : Nat} {kK kV : Nat → Nat} {post : Int32 → St → Prop} (hx : p.tables.exec = Jvm.exec) (hb : c.code = b_V_isOfWord) (hml : c.maxLocals = 1) (hown : s.vm.findClass R_V = some m.cls) (hT : ∀ w ∈ TG, w.before args s = true) (hK : va_K (dC, dI) CL (TY cI cB cJ cZ) s) (hN : NW s) (hA : ∀ q : Nat, s.heap.size ≤ q → A q) (hRc : cells ≤ R.cells) (hRs : slots ≤ R.slots) (hRf : 0 ≤ R.frames) (hRl : 0 ≤ R.locals) (hNN : 152 ≤ NN) (hE : CE E tM tC kK kV A s) (hret : ∀ (r : Int32) (x : St) (H : Heap) (locs : List Loc) (pc : Nat) (ls : Array Slot), decode b_V_isOfWord pc = .ok (.ireturn, 1) → narrow .boolean (.int r) = .int r → post r x → Wd dC dI cI cB cJ cZ ad stC kcC NN A x H → va_S A s.heap H locs → W p l e R s m args below meth c H locs cells slots Q (F0 m pc ls [.int r]))  : ∀ (l0 : Int32) (x : St) (H : Heap) (locs : List Loc) (ls : Array Slot), j_V_isOfWord_42 post l0 x → Wd dC dI cI cB cJ cZ ad stC kcC NN A x H → va_S A s.heap H locs → lv_has ls 1 [(0, .int l0)] → W p l e R s m args below meth c H locs cells slots Q (F0 m 42 ls []) := by
  intro l0 x H locs ls  hw hW hS hl
  unfold j_V_isOfWord_42 at hw
  refine lv_iconst (v := 1) hx hb d_V_isOfWord_42 (by decide) ?_
  refine lv_goto (tgt := 47) hx hb d_V_isOfWord_43 (by decide) ?_
  exact hret 1 x H locs 47 ls d_V_isOfWord_47 rfl hw hW hS
set_option maxRecDepth 100000 in
set_option maxHeartbeats 4000000 in
set_option maxRecDepth 100000 in
theorem t_V_isOfWord_36 {p : Program} {l : Launch} {e : Env} {R : Room} {s : State} {m : MethodId} {args : Array Value} {below : List Frame} {meth : Method} {c : Code} {cells slots : Nat} {Q : State → Prop} {dC : Nat → ClassId} {dI : Nat → Nat → Nat} {cI cB cJ cZ : ClassId} {A : Nat → Prop} {ad : Nat → Nat} {NN : Nat} {E : Heap} {tM tC : Nat} {kK kV : Nat → Nat} {post : Int32 → St → Prop} (hx : p.tables.exec = Jvm.exec) (hb : c.code = b_V_isOfWord) (hml : c.maxLocals = 1) (hown : s.vm.findClass R_V = some m.cls) (hT : ∀ w ∈ TG, w.before args s = true) (hK : va_K (dC, dI) CL (TY cI cB cJ cZ) s) (hN : NW s) (hA : ∀ q : Nat, s.heap.size ≤ q → A q) (hRc : cells ≤ R.cells) (hRs : slots ≤ R.slots) (hRf : 0 ≤ R.frames) (hRl : 0 ≤ R.locals) (hNN : 152 ≤ NN) (hE : CE E tM tC kK kV A s) (hret : ∀ (r : Int32) (x : St) (H : Heap) (locs : List Loc) (pc : Nat) (ls : Array Slot), decode b_V_isOfWord pc = .ok (.ireturn, 1) → narrow .boolean (.int r) = .int r → post r x → Wd dC dI cI cB cJ cZ ad stC kcC NN A x H → va_S A s.heap H locs → W p l e R s m args below meth c H locs cells slots Q (F0 m pc ls [.int r]))  : ∀ (l0 : Int32) (x : St) (H : Heap) (locs : List Loc) (ls : Array Slot), j_V_isOfWord_36 post l0 x → Wd dC dI cI cB cJ cZ ad stC kcC NN A x H → va_S A s.heap H locs → lv_has ls 1 [(0, .int l0)] → W p l e R s m args below meth c H locs cells slots Q (F0 m 36 ls []) := by
  intro l0 x H locs ls  hw hW hS hl
  unfold j_V_isOfWord_36 at hw
  refine lv_iload_n hx hb d_V_isOfWord_36 rfl (lv_at hl 0 rfl) ?_
  refine lv_bipush (v := 95) hx hb d_V_isOfWord_37 (by decide) ?_
  refine lv_icmp_ne (tgt := 46) hx hb d_V_isOfWord_39 (by decide) (fun c1 => ?_) (fun c1 => ?_)
  · have hw := hw.1 c1
    refine lv_iconst (v := 0) hx hb d_V_isOfWord_46 (by decide) ?_
    exact hret 0 x H locs 47 ls d_V_isOfWord_47 rfl hw hW hS
  · have hw := hw.2 c1
    exact t_V_isOfWord_42 hx hb hml hown hT hK hN hA hRc hRs hRf hRl hNN hE hret  l0 x H locs ls  hw hW hS (lv_sub hl [0] rfl)
set_option maxRecDepth 100000 in
set_option maxHeartbeats 4000000 in
set_option maxRecDepth 100000 in
theorem t_V_isOfWord_24 {p : Program} {l : Launch} {e : Env} {R : Room} {s : State} {m : MethodId} {args : Array Value} {below : List Frame} {meth : Method} {c : Code} {cells slots : Nat} {Q : State → Prop} {dC : Nat → ClassId} {dI : Nat → Nat → Nat} {cI cB cJ cZ : ClassId} {A : Nat → Prop} {ad : Nat → Nat} {NN : Nat} {E : Heap} {tM tC : Nat} {kK kV : Nat → Nat} {post : Int32 → St → Prop} (hx : p.tables.exec = Jvm.exec) (hb : c.code = b_V_isOfWord) (hml : c.maxLocals = 1) (hown : s.vm.findClass R_V = some m.cls) (hT : ∀ w ∈ TG, w.before args s = true) (hK : va_K (dC, dI) CL (TY cI cB cJ cZ) s) (hN : NW s) (hA : ∀ q : Nat, s.heap.size ≤ q → A q) (hRc : cells ≤ R.cells) (hRs : slots ≤ R.slots) (hRf : 0 ≤ R.frames) (hRl : 0 ≤ R.locals) (hNN : 152 ≤ NN) (hE : CE E tM tC kK kV A s) (hret : ∀ (r : Int32) (x : St) (H : Heap) (locs : List Loc) (pc : Nat) (ls : Array Slot), decode b_V_isOfWord pc = .ok (.ireturn, 1) → narrow .boolean (.int r) = .int r → post r x → Wd dC dI cI cB cJ cZ ad stC kcC NN A x H → va_S A s.heap H locs → W p l e R s m args below meth c H locs cells slots Q (F0 m pc ls [.int r]))  : ∀ (l0 : Int32) (x : St) (H : Heap) (locs : List Loc) (ls : Array Slot), j_V_isOfWord_24 post l0 x → Wd dC dI cI cB cJ cZ ad stC kcC NN A x H → va_S A s.heap H locs → lv_has ls 1 [(0, .int l0)] → W p l e R s m args below meth c H locs cells slots Q (F0 m 24 ls []) := by
  intro l0 x H locs ls  hw hW hS hl
  unfold j_V_isOfWord_24 at hw
  refine lv_iload_n hx hb d_V_isOfWord_24 rfl (lv_at hl 0 rfl) ?_
  refine lv_bipush (v := 48) hx hb d_V_isOfWord_25 (by decide) ?_
  refine lv_icmp_lt (tgt := 36) hx hb d_V_isOfWord_27 (by decide) (fun c2 => ?_) (fun c2 => ?_)
  · have hw := hw.1 c2
    exact t_V_isOfWord_36 hx hb hml hown hT hK hN hA hRc hRs hRf hRl hNN hE hret  l0 x H locs ls  hw hW hS (lv_sub hl [0] rfl)
  · have hw := hw.2 c2
    refine lv_iload_n hx hb d_V_isOfWord_30 rfl (lv_at hl 0 rfl) ?_
    refine lv_bipush (v := 57) hx hb d_V_isOfWord_31 (by decide) ?_
    refine lv_icmp_le (tgt := 42) hx hb d_V_isOfWord_33 (by decide) (fun c3 => ?_) (fun c3 => ?_)
    · have hw := hw.1 c3
      exact t_V_isOfWord_42 hx hb hml hown hT hK hN hA hRc hRs hRf hRl hNN hE hret  l0 x H locs ls  hw hW hS (lv_sub hl [0] rfl)
    · have hw := hw.2 c3
      exact t_V_isOfWord_36 hx hb hml hown hT hK hN hA hRc hRs hRf hRl hNN hE hret  l0 x H locs ls  hw hW hS (lv_sub hl [0] rfl)
set_option maxRecDepth 100000 in
set_option maxHeartbeats 4000000 in
set_option maxRecDepth 100000 in
theorem t_V_isOfWord_12 {p : Program} {l : Launch} {e : Env} {R : Room} {s : State} {m : MethodId} {args : Array Value} {below : List Frame} {meth : Method} {c : Code} {cells slots : Nat} {Q : State → Prop} {dC : Nat → ClassId} {dI : Nat → Nat → Nat} {cI cB cJ cZ : ClassId} {A : Nat → Prop} {ad : Nat → Nat} {NN : Nat} {E : Heap} {tM tC : Nat} {kK kV : Nat → Nat} {post : Int32 → St → Prop} (hx : p.tables.exec = Jvm.exec) (hb : c.code = b_V_isOfWord) (hml : c.maxLocals = 1) (hown : s.vm.findClass R_V = some m.cls) (hT : ∀ w ∈ TG, w.before args s = true) (hK : va_K (dC, dI) CL (TY cI cB cJ cZ) s) (hN : NW s) (hA : ∀ q : Nat, s.heap.size ≤ q → A q) (hRc : cells ≤ R.cells) (hRs : slots ≤ R.slots) (hRf : 0 ≤ R.frames) (hRl : 0 ≤ R.locals) (hNN : 152 ≤ NN) (hE : CE E tM tC kK kV A s) (hret : ∀ (r : Int32) (x : St) (H : Heap) (locs : List Loc) (pc : Nat) (ls : Array Slot), decode b_V_isOfWord pc = .ok (.ireturn, 1) → narrow .boolean (.int r) = .int r → post r x → Wd dC dI cI cB cJ cZ ad stC kcC NN A x H → va_S A s.heap H locs → W p l e R s m args below meth c H locs cells slots Q (F0 m pc ls [.int r]))  : ∀ (l0 : Int32) (x : St) (H : Heap) (locs : List Loc) (ls : Array Slot), j_V_isOfWord_12 post l0 x → Wd dC dI cI cB cJ cZ ad stC kcC NN A x H → va_S A s.heap H locs → lv_has ls 1 [(0, .int l0)] → W p l e R s m args below meth c H locs cells slots Q (F0 m 12 ls []) := by
  intro l0 x H locs ls  hw hW hS hl
  unfold j_V_isOfWord_12 at hw
  refine lv_iload_n hx hb d_V_isOfWord_12 rfl (lv_at hl 0 rfl) ?_
  refine lv_bipush (v := 65) hx hb d_V_isOfWord_13 (by decide) ?_
  refine lv_icmp_lt (tgt := 24) hx hb d_V_isOfWord_15 (by decide) (fun c4 => ?_) (fun c4 => ?_)
  · have hw := hw.1 c4
    exact t_V_isOfWord_24 hx hb hml hown hT hK hN hA hRc hRs hRf hRl hNN hE hret  l0 x H locs ls  hw hW hS (lv_sub hl [0] rfl)
  · have hw := hw.2 c4
    refine lv_iload_n hx hb d_V_isOfWord_18 rfl (lv_at hl 0 rfl) ?_
    refine lv_bipush (v := 90) hx hb d_V_isOfWord_19 (by decide) ?_
    refine lv_icmp_le (tgt := 42) hx hb d_V_isOfWord_21 (by decide) (fun c5 => ?_) (fun c5 => ?_)
    · have hw := hw.1 c5
      exact t_V_isOfWord_42 hx hb hml hown hT hK hN hA hRc hRs hRf hRl hNN hE hret  l0 x H locs ls  hw hW hS (lv_sub hl [0] rfl)
    · have hw := hw.2 c5
      exact t_V_isOfWord_24 hx hb hml hown hT hK hN hA hRc hRs hRf hRl hNN hE hret  l0 x H locs ls  hw hW hS (lv_sub hl [0] rfl)
set_option maxRecDepth 100000 in
set_option maxHeartbeats 4000000 in
set_option maxRecDepth 100000 in
theorem t_V_isOfWord_e {p : Program} {l : Launch} {e : Env} {R : Room} {s : State} {m : MethodId} {args : Array Value} {below : List Frame} {meth : Method} {c : Code} {cells slots : Nat} {Q : State → Prop} {dC : Nat → ClassId} {dI : Nat → Nat → Nat} {cI cB cJ cZ : ClassId} {A : Nat → Prop} {ad : Nat → Nat} {NN : Nat} {E : Heap} {tM tC : Nat} {kK kV : Nat → Nat} {post : Int32 → St → Prop} (hx : p.tables.exec = Jvm.exec) (hb : c.code = b_V_isOfWord) (hml : c.maxLocals = 1) (hown : s.vm.findClass R_V = some m.cls) (hT : ∀ w ∈ TG, w.before args s = true) (hK : va_K (dC, dI) CL (TY cI cB cJ cZ) s) (hN : NW s) (hA : ∀ q : Nat, s.heap.size ≤ q → A q) (hRc : cells ≤ R.cells) (hRs : slots ≤ R.slots) (hRf : 0 ≤ R.frames) (hRl : 0 ≤ R.locals) (hNN : 152 ≤ NN) (hE : CE E tM tC kK kV A s) (hret : ∀ (r : Int32) (x : St) (H : Heap) (locs : List Loc) (pc : Nat) (ls : Array Slot), decode b_V_isOfWord pc = .ok (.ireturn, 1) → narrow .boolean (.int r) = .int r → post r x → Wd dC dI cI cB cJ cZ ad stC kcC NN A x H → va_S A s.heap H locs → W p l e R s m args below meth c H locs cells slots Q (F0 m pc ls [.int r])) : ∀ (l0 : Int32) (x : St) (H : Heap) (locs : List Loc) (ls : Array Slot), wp_V_isOfWord post l0 x → Wd dC dI cI cB cJ cZ ad stC kcC NN A x H → va_S A s.heap H locs → lv_has ls 1 [(0, .int l0)] → W p l e R s m args below meth c H locs cells slots Q (F0 m 0 ls []) := by
  intro l0 x H locs ls  hw hW hS hl
  unfold wp_V_isOfWord at hw
  refine lv_iload_n hx hb d_V_isOfWord_0 rfl (lv_at hl 0 rfl) ?_
  refine lv_bipush (v := 97) hx hb d_V_isOfWord_1 (by decide) ?_
  refine lv_icmp_lt (tgt := 12) hx hb d_V_isOfWord_3 (by decide) (fun c6 => ?_) (fun c6 => ?_)
  · have hw := hw.1 c6
    exact t_V_isOfWord_12 hx hb hml hown hT hK hN hA hRc hRs hRf hRl hNN hE hret  l0 x H locs ls  hw hW hS (lv_sub hl [0] rfl)
  · have hw := hw.2 c6
    refine lv_iload_n hx hb d_V_isOfWord_6 rfl (lv_at hl 0 rfl) ?_
    refine lv_bipush (v := 122) hx hb d_V_isOfWord_7 (by decide) ?_
    refine lv_icmp_le (tgt := 42) hx hb d_V_isOfWord_9 (by decide) (fun c7 => ?_) (fun c7 => ?_)
    · have hw := hw.1 c7
      exact t_V_isOfWord_42 hx hb hml hown hT hK hN hA hRc hRs hRf hRl hNN hE hret  l0 x H locs ls  hw hW hS (lv_sub hl [0] rfl)
    · have hw := hw.2 c7
      exact t_V_isOfWord_12 hx hb hml hown hT hK hN hA hRc hRs hRf hRl hNN hE hret  l0 x H locs ls  hw hW hS (lv_sub hl [0] rfl)
set_option maxHeartbeats 4000000 in
set_option maxRecDepth 100000 in
theorem k_V_isOfWord (l : Launch) (dC : Nat → ClassId) (dI : Nat → Nat → Nat) (cI cB cJ cZ : ClassId) (ad : Nat → Nat) (NN : Nat) (E : Heap) (tM tC : Nat) (kK kV : Nat → Nat) (hNN : 152 ≤ NN) (sz : Nat) (l0 : Int32) (x : St) {post : Int32 → St → Prop} (hw : wp_V_isOfWord post l0 x) : Met l y_V_isOfWord (wsOf y_V_isOfWord b_V_isOfWord 1 (some (.boolean))) ({ frames := 0, cells := 0, slots := 0, locals := 0 }) (va_Pc [.int l0] (PVc dC dI cI cB cJ cZ ad stC kcC NN E tM tC kK kV sz x)) (va_Qi (fun (r : Int32) (y : St) => post r y) (fun y t => Wd dC dI cI cB cJ cZ ad stC kcC NN (va_A (pic ad stC kcC NN cI cB cJ cZ x) sz) y t.heap) (va_A (pic ad stC kcC NN cI cB cJ cZ x) sz)) 0 0 (va_A (pic ad stC kcC NN cI cB cJ cZ x) sz) := by
  refine Met.ofW (cc := b_V_isOfWord) (maxL := 1) (ret := some (.boolean)) (by decide) rfl ?_
  intro p e s m args below meth c s₁ B hml hv
  obtain ⟨rfl, ⟨hsz, hW0, hK, hN⟩, hE⟩ := hv
  have hx := B.exec
  have hb := B.bytes
  have hr := B.returns
  have hts := atoms_spec B.pre
  have hT : ∀ w ∈ TG, w.before _ s = true := fun w h => hts w (List.mem_cons_of_mem _ h)
  have hown : s.vm.findClass R_V = some m.cls := findClass_of_methodNamed B.named
  have hlocks := B.notSynchronized
  subst hsz
  have hW : Wd dC dI cI cB cJ cZ ad stC kcC NN (va_A (pic ad stC kcC NN cI cB cJ cZ x) s.heap.size) x s.heap := ⟨hW0.1, hW0.2.1.self (sz := s.heap.size), hW0.2.2⟩
  generalize hAe : va_A (pic ad stC kcC NN cI cB cJ cZ x) s.heap.size = A at hW hE ⊢
  have hA : ∀ q : Nat, s.heap.size ≤ q → A q := fun q h => by rw [← hAe]; exact Or.inr h
  have hS : va_S A s.heap s.heap [] := va_S.rf
  have hl := lv_entry ([.int l0]) (n := 1) (Nat.le_of_ble_eq_true rfl)
  rw [lg_entry_eq]
  generalize (lg_sl ([.int l0]) ++ List.replicate (1 - (lg_sl ([.int l0])).length) Slot.unset).toArray = ls at hl ⊢
  have hl : lv_has ls 1 [(0, .int l0)] := hl
  exact t_V_isOfWord_e hx hb hml hown hT hK hN hA (Nat.le_refl 0) (Nat.le_refl 0) (Nat.le_refl 0) (Nat.le_refl 0) hNN hE (fun r x H locs pc ls hd hz hp hW hS => W.zret (v := r) (ty := .boolean) hx hb hr hz (fun t ht hM => ⟨⟨r, x, rfl, hp, Wd.back hW ht.symm (fun _ z => z)⟩, hS.F ht⟩) hS.2.2 hd hlocks)  l0 x _ _ ls  hw hW hS hl
end
