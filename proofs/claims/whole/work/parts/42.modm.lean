theorem fr_Mod_0 : F_Mod 0 = (R_Mod, "code", "I", false) := rfl
theorem fr_Mod_15 : F_Mod 15 = (R_Mod, "size", "I", false) := rfl
theorem fr_Mod_16 : F_Mod 16 = (R_Mod, "at", "I", false) := rfl
theorem fr_Mod_17 : F_Mod 17 = (R_Mod, "ill", "I", false) := rfl
theorem fr_Mod_3 : F_Mod 3 = (R_Mod, "taped", "I", false) := rfl
theorem fr_Mod_4 : F_Mod 4 = (R_Mod, "inputSize", "I", false) := rfl
theorem w_10_231 : (Jvm.Cond.methodLink "StripedVaultModel" (379 : Nat) ({ cls := "StripedVaultModel", name := "look", desc := "()I" } : Jvm.MethodName)) ∈ TG := tw_10 231 (by decide +kernel) (by decide +kernel)
theorem w_10_233 : (Jvm.Cond.instanceMethod ({ cls := "StripedVaultModel", name := "look", desc := "()I" } : Jvm.MethodName)) ∈ TG := tw_10 233 (by decide +kernel) (by decide +kernel)
theorem w_10_234 : (Jvm.Cond.code ({ cls := "StripedVaultModel", name := "look", desc := "()I" } : Jvm.MethodName) prog_14_method_7_code (1 : Nat) (Option.some Jvm.ClassFile.FieldType.int)) ∈ TG := tw_10 234 (by decide +kernel) (by decide +kernel)
theorem w_10_239 : (Jvm.Cond.methodLink "StripedVaultModel" (390 : Nat) ({ cls := "StripedVaultModel", name := "wordAt", desc := "(I)I" } : Jvm.MethodName)) ∈ TG := tw_10 239 (by decide +kernel) (by decide +kernel)
theorem w_11_1 : (Jvm.Cond.instanceMethod ({ cls := "StripedVaultModel", name := "wordAt", desc := "(I)I" } : Jvm.MethodName)) ∈ TG := tw_11 1 (by decide +kernel) (by decide +kernel)
theorem w_11_2 : (Jvm.Cond.code ({ cls := "StripedVaultModel", name := "wordAt", desc := "(I)I" } : Jvm.MethodName) prog_14_method_11_code (3 : Nat) (Option.some Jvm.ClassFile.FieldType.int)) ∈ TG := tw_11 2 (by decide +kernel) (by decide +kernel)
theorem w_11_3 : (Jvm.Cond.methodLink "StripedVaultModel" (383 : Nat) ({ cls := "StripedVaultModel", name := "isLetter", desc := "(I)Z" } : Jvm.MethodName)) ∈ TG := tw_11 3 (by decide +kernel) (by decide +kernel)
theorem w_11_4 : (Jvm.Cond.static ({ cls := "StripedVaultModel", name := "isLetter", desc := "(I)Z" } : Jvm.MethodName)) ∈ TG := tw_11 4 (by decide +kernel) (by decide +kernel)
theorem w_11_5 : (Jvm.Cond.code ({ cls := "StripedVaultModel", name := "isLetter", desc := "(I)Z" } : Jvm.MethodName) prog_14_method_9_code (1 : Nat) (Option.some Jvm.ClassFile.FieldType.boolean)) ∈ TG := tw_11 5 (by decide +kernel) (by decide +kernel)
theorem w_11_6 : (Jvm.Cond.methodLink "StripedVaultModel" (387 : Nat) ({ cls := "StripedVaultModel", name := "isDigit", desc := "(I)Z" } : Jvm.MethodName)) ∈ TG := tw_11 6 (by decide +kernel) (by decide +kernel)
theorem w_11_7 : (Jvm.Cond.static ({ cls := "StripedVaultModel", name := "isDigit", desc := "(I)Z" } : Jvm.MethodName)) ∈ TG := tw_11 7 (by decide +kernel) (by decide +kernel)
theorem w_11_8 : (Jvm.Cond.code ({ cls := "StripedVaultModel", name := "isDigit", desc := "(I)Z" } : Jvm.MethodName) prog_14_method_10_code (1 : Nat) (Option.some Jvm.ClassFile.FieldType.boolean)) ∈ TG := tw_11 8 (by decide +kernel) (by decide +kernel)
theorem w_1_15 : (Jvm.Cond.initialized "StripedVaultModel") ∈ TG := tw_1 15 (by decide +kernel) (by decide +kernel)
theorem w_8_176 : (Jvm.Cond.fieldLink "StripedVaultModel" (360 : Nat) "StripedVaultModel" "code" "I") ∈ TG := tw_8 176 (by decide +kernel) (by decide +kernel)
theorem w_8_179 : (Jvm.Cond.fieldLink "StripedVaultModel" (364 : Nat) "StripedVaultModel" "taped" "I") ∈ TG := tw_8 179 (by decide +kernel) (by decide +kernel)
theorem w_8_180 : (Jvm.Cond.fieldLink "StripedVaultModel" (367 : Nat) "StripedVaultModel" "inputSize" "I") ∈ TG := tw_8 180 (by decide +kernel) (by decide +kernel)
theorem w_8_191 : (Jvm.Cond.fieldLink "StripedVaultModel" (370 : Nat) "StripedVaultModel" "size" "I") ∈ TG := tw_8 191 (by decide +kernel) (by decide +kernel)
theorem w_8_192 : (Jvm.Cond.fieldLink "StripedVaultModel" (373 : Nat) "StripedVaultModel" "at" "I") ∈ TG := tw_8 192 (by decide +kernel) (by decide +kernel)
theorem w_8_193 : (Jvm.Cond.fieldLink "StripedVaultModel" (376 : Nat) "StripedVaultModel" "ill" "I") ∈ TG := tw_8 193 (by decide +kernel) (by decide +kernel)
theorem ws_112 : Cond.selects R_Mod y_Mod_look y_Mod_look ∈ TG := tw_s 112 (by decide +kernel) (by decide +kernel)
theorem ws_114 : Cond.selects R_Mod y_Mod_wordAt y_Mod_wordAt ∈ TG := tw_s 114 (by decide +kernel) (by decide +kernel)
theorem d_Mod_feed_75 : decode b_Mod_feed 75 = .ok (.istore 7, 2) := by decide +kernel
theorem d_Mod_feed_77 : decode b_Mod_feed 77 = .ok (.aload_n 0, 1) := by decide +kernel
theorem d_Mod_feed_78 : decode b_Mod_feed 78 = .ok (.getfield 8, 3) := by decide +kernel
theorem d_Mod_feed_81 : decode b_Mod_feed 81 = .ok (.aload_n 0, 1) := by decide +kernel
theorem d_Mod_feed_82 : decode b_Mod_feed 82 = .ok (.getfield 364, 3) := by decide +kernel
theorem d_Mod_feed_85 : decode b_Mod_feed 85 = .ok (.iload 6, 2) := by decide +kernel
theorem d_Mod_feed_87 : decode b_Mod_feed 87 = .ok (.iadd, 1) := by decide +kernel
theorem d_Mod_feed_88 : decode b_Mod_feed 88 = .ok (.iload 7, 2) := by decide +kernel
theorem d_Mod_feed_90 : decode b_Mod_feed 90 = .ok (.bipush 24, 2) := by decide +kernel
theorem d_Mod_feed_92 : decode b_Mod_feed 92 = .ok (.bipush 8, 2) := by decide +kernel
theorem d_Mod_feed_94 : decode b_Mod_feed 94 = .ok (.iload 6, 2) := by decide +kernel
theorem d_Mod_feed_96 : decode b_Mod_feed 96 = .ok (.iconst 4, 1) := by decide +kernel
theorem d_Mod_feed_97 : decode b_Mod_feed 97 = .ok (.irem, 1) := by decide +kernel
theorem d_Mod_feed_98 : decode b_Mod_feed 98 = .ok (.imul, 1) := by decide +kernel
theorem d_Mod_feed_99 : decode b_Mod_feed 99 = .ok (.isub, 1) := by decide +kernel
theorem d_Mod_feed_100 : decode b_Mod_feed 100 = .ok (.ishr, 1) := by decide +kernel
theorem d_Mod_feed_101 : decode b_Mod_feed 101 = .ok (.sipush 255, 3) := by decide +kernel
theorem d_Mod_feed_104 : decode b_Mod_feed 104 = .ok (.iand, 1) := by decide +kernel
theorem d_Mod_feed_105 : decode b_Mod_feed 105 = .ok (.iastore, 1) := by decide +kernel
theorem d_Mod_feed_106 : decode b_Mod_feed 106 = .ok (.iinc 6 1, 3) := by decide +kernel
theorem d_Mod_feed_109 : decode b_Mod_feed 109 = .ok (.goto (-87), 3) := by decide +kernel
theorem d_Mod_feed_22 : decode b_Mod_feed 22 = .ok (.iload 6, 2) := by decide +kernel
theorem d_Mod_feed_24 : decode b_Mod_feed 24 = .ok (.bipush 20, 2) := by decide +kernel
theorem d_Mod_feed_26 : decode b_Mod_feed 26 = .ok (.if_icmp .ge 86, 3) := by decide +kernel
theorem d_Mod_feed_112 : decode b_Mod_feed 112 = .ok (.aload_n 0, 1) := by decide +kernel
theorem d_Mod_feed_113 : decode b_Mod_feed 113 = .ok (.dup, 1) := by decide +kernel
theorem d_Mod_feed_114 : decode b_Mod_feed 114 = .ok (.getfield 364, 3) := by decide +kernel
theorem d_Mod_feed_117 : decode b_Mod_feed 117 = .ok (.bipush 20, 2) := by decide +kernel
theorem d_Mod_feed_119 : decode b_Mod_feed 119 = .ok (.iadd, 1) := by decide +kernel
theorem d_Mod_feed_120 : decode b_Mod_feed 120 = .ok (.putfield 364, 3) := by decide +kernel
theorem d_Mod_feed_123 : decode b_Mod_feed 123 = .ok (.iconst 1, 1) := by decide +kernel
theorem d_Mod_feed_124 : decode b_Mod_feed 124 = .ok (.ireturn, 1) := by decide +kernel
theorem d_Mod_feed_29 : decode b_Mod_feed 29 = .ok (.iload 6, 2) := by decide +kernel
theorem d_Mod_feed_31 : decode b_Mod_feed 31 = .ok (.iconst 4, 1) := by decide +kernel
theorem d_Mod_feed_32 : decode b_Mod_feed 32 = .ok (.if_icmp .ge 7, 3) := by decide +kernel
theorem d_Mod_feed_39 : decode b_Mod_feed 39 = .ok (.iload 6, 2) := by decide +kernel
theorem d_Mod_feed_41 : decode b_Mod_feed 41 = .ok (.bipush 8, 2) := by decide +kernel
theorem d_Mod_feed_43 : decode b_Mod_feed 43 = .ok (.if_icmp .ge 7, 3) := by decide +kernel
theorem d_Mod_feed_50 : decode b_Mod_feed 50 = .ok (.iload 6, 2) := by decide +kernel
theorem d_Mod_feed_52 : decode b_Mod_feed 52 = .ok (.bipush 12, 2) := by decide +kernel
theorem d_Mod_feed_54 : decode b_Mod_feed 54 = .ok (.if_icmp .ge 7, 3) := by decide +kernel
theorem d_Mod_feed_61 : decode b_Mod_feed 61 = .ok (.iload 6, 2) := by decide +kernel
theorem d_Mod_feed_63 : decode b_Mod_feed 63 = .ok (.bipush 16, 2) := by decide +kernel
theorem d_Mod_feed_65 : decode b_Mod_feed 65 = .ok (.if_icmp .ge 8, 3) := by decide +kernel
theorem d_Mod_feed_73 : decode b_Mod_feed 73 = .ok (.iload 5, 2) := by decide +kernel
theorem d_Mod_feed_68 : decode b_Mod_feed 68 = .ok (.iload 4, 2) := by decide +kernel
theorem d_Mod_feed_70 : decode b_Mod_feed 70 = .ok (.goto 5, 3) := by decide +kernel
theorem d_Mod_feed_57 : decode b_Mod_feed 57 = .ok (.iload_n 3, 1) := by decide +kernel
theorem d_Mod_feed_58 : decode b_Mod_feed 58 = .ok (.goto 17, 3) := by decide +kernel
theorem d_Mod_feed_46 : decode b_Mod_feed 46 = .ok (.iload_n 2, 1) := by decide +kernel
theorem d_Mod_feed_47 : decode b_Mod_feed 47 = .ok (.goto 28, 3) := by decide +kernel
theorem d_Mod_feed_35 : decode b_Mod_feed 35 = .ok (.iload_n 1, 1) := by decide +kernel
theorem d_Mod_feed_36 : decode b_Mod_feed 36 = .ok (.goto 39, 3) := by decide +kernel
theorem d_Mod_feed_0 : decode b_Mod_feed 0 = .ok (.aload_n 0, 1) := by decide +kernel
theorem d_Mod_feed_1 : decode b_Mod_feed 1 = .ok (.iconst 0, 1) := by decide +kernel
theorem d_Mod_feed_2 : decode b_Mod_feed 2 = .ok (.putfield 360, 3) := by decide +kernel
theorem d_Mod_feed_5 : decode b_Mod_feed 5 = .ok (.aload_n 0, 1) := by decide +kernel
theorem d_Mod_feed_6 : decode b_Mod_feed 6 = .ok (.getfield 364, 3) := by decide +kernel
theorem d_Mod_feed_9 : decode b_Mod_feed 9 = .ok (.bipush 20, 2) := by decide +kernel
theorem d_Mod_feed_11 : decode b_Mod_feed 11 = .ok (.iadd, 1) := by decide +kernel
theorem d_Mod_feed_12 : decode b_Mod_feed 12 = .ok (.ldc 7, 2) := by decide +kernel
theorem d_Mod_feed_14 : decode b_Mod_feed 14 = .ok (.if_icmp .le 5, 3) := by decide +kernel
theorem d_Mod_feed_19 : decode b_Mod_feed 19 = .ok (.iconst 0, 1) := by decide +kernel
theorem d_Mod_feed_20 : decode b_Mod_feed 20 = .ok (.istore 6, 2) := by decide +kernel
theorem d_Mod_feed_17 : decode b_Mod_feed 17 = .ok (.iconst 0, 1) := by decide +kernel
theorem d_Mod_feed_18 : decode b_Mod_feed 18 = .ok (.ireturn, 1) := by decide +kernel
theorem d_Mod_end_21 : decode b_Mod_end 21 = .ok (.iload_n 2, 1) := by decide +kernel
theorem d_Mod_end_22 : decode b_Mod_end 22 = .ok (.iload_n 1, 1) := by decide +kernel
theorem d_Mod_end_23 : decode b_Mod_end 23 = .ok (.if_icmp .ge 21, 3) := by decide +kernel
theorem d_Mod_end_44 : decode b_Mod_end 44 = .ok (.aload_n 0, 1) := by decide +kernel
theorem d_Mod_end_45 : decode b_Mod_end 45 = .ok (.iload_n 1, 1) := by decide +kernel
theorem d_Mod_end_46 : decode b_Mod_end 46 = .ok (.putfield 367, 3) := by decide +kernel
theorem d_Mod_end_49 : decode b_Mod_end 49 = .ok (.aload_n 0, 1) := by decide +kernel
theorem d_Mod_end_50 : decode b_Mod_end 50 = .ok (.iconst 0, 1) := by decide +kernel
theorem d_Mod_end_51 : decode b_Mod_end 51 = .ok (.putfield 364, 3) := by decide +kernel
theorem d_Mod_end_54 : decode b_Mod_end 54 = .ok (.iconst 1, 1) := by decide +kernel
theorem d_Mod_end_55 : decode b_Mod_end 55 = .ok (.ireturn, 1) := by decide +kernel
theorem d_Mod_end_26 : decode b_Mod_end 26 = .ok (.aload_n 0, 1) := by decide +kernel
theorem d_Mod_end_27 : decode b_Mod_end 27 = .ok (.getfield 14, 3) := by decide +kernel
theorem d_Mod_end_30 : decode b_Mod_end 30 = .ok (.iload_n 2, 1) := by decide +kernel
theorem d_Mod_end_31 : decode b_Mod_end 31 = .ok (.aload_n 0, 1) := by decide +kernel
theorem d_Mod_end_32 : decode b_Mod_end 32 = .ok (.getfield 8, 3) := by decide +kernel
theorem d_Mod_end_35 : decode b_Mod_end 35 = .ok (.iload_n 2, 1) := by decide +kernel
theorem d_Mod_end_36 : decode b_Mod_end 36 = .ok (.iaload, 1) := by decide +kernel
theorem d_Mod_end_37 : decode b_Mod_end 37 = .ok (.iastore, 1) := by decide +kernel
theorem d_Mod_end_38 : decode b_Mod_end 38 = .ok (.iinc 2 1, 3) := by decide +kernel
theorem d_Mod_end_41 : decode b_Mod_end 41 = .ok (.goto (-20), 3) := by decide +kernel
theorem d_Mod_end_17 : decode b_Mod_end 17 = .ok (.iconst 0, 1) := by decide +kernel
theorem d_Mod_end_18 : decode b_Mod_end 18 = .ok (.ireturn, 1) := by decide +kernel
theorem d_Mod_end_0 : decode b_Mod_end 0 = .ok (.aload_n 0, 1) := by decide +kernel
theorem d_Mod_end_1 : decode b_Mod_end 1 = .ok (.iconst 0, 1) := by decide +kernel
theorem d_Mod_end_2 : decode b_Mod_end 2 = .ok (.putfield 360, 3) := by decide +kernel
theorem d_Mod_end_5 : decode b_Mod_end 5 = .ok (.iload_n 1, 1) := by decide +kernel
theorem d_Mod_end_6 : decode b_Mod_end 6 = .ok (.ifCond .lt 11, 3) := by decide +kernel
theorem d_Mod_end_9 : decode b_Mod_end 9 = .ok (.iload_n 1, 1) := by decide +kernel
theorem d_Mod_end_10 : decode b_Mod_end 10 = .ok (.aload_n 0, 1) := by decide +kernel
theorem d_Mod_end_11 : decode b_Mod_end 11 = .ok (.getfield 364, 3) := by decide +kernel
theorem d_Mod_end_14 : decode b_Mod_end 14 = .ok (.if_icmp .le 5, 3) := by decide +kernel
theorem d_Mod_end_19 : decode b_Mod_end 19 = .ok (.iconst 0, 1) := by decide +kernel
theorem d_Mod_end_20 : decode b_Mod_end 20 = .ok (.istore_n 2, 1) := by decide +kernel
theorem d_Mod_begins_0 : decode b_Mod_begins 0 = .ok (.aload_n 0, 1) := by decide +kernel
theorem d_Mod_begins_1 : decode b_Mod_begins 1 = .ok (.aload_n 0, 1) := by decide +kernel
theorem d_Mod_begins_2 : decode b_Mod_begins 2 = .ok (.getfield 367, 3) := by decide +kernel
theorem d_Mod_begins_5 : decode b_Mod_begins 5 = .ok (.putfield 370, 3) := by decide +kernel
theorem d_Mod_begins_8 : decode b_Mod_begins 8 = .ok (.aload_n 0, 1) := by decide +kernel
theorem d_Mod_begins_9 : decode b_Mod_begins 9 = .ok (.iconst 0, 1) := by decide +kernel
theorem d_Mod_begins_10 : decode b_Mod_begins 10 = .ok (.putfield 367, 3) := by decide +kernel
theorem d_Mod_begins_13 : decode b_Mod_begins 13 = .ok (.aload_n 0, 1) := by decide +kernel
theorem d_Mod_begins_14 : decode b_Mod_begins 14 = .ok (.iconst 0, 1) := by decide +kernel
theorem d_Mod_begins_15 : decode b_Mod_begins 15 = .ok (.putfield 373, 3) := by decide +kernel
theorem d_Mod_begins_18 : decode b_Mod_begins 18 = .ok (.aload_n 0, 1) := by decide +kernel
theorem d_Mod_begins_19 : decode b_Mod_begins 19 = .ok (.iconst (-1), 1) := by decide +kernel
theorem d_Mod_begins_20 : decode b_Mod_begins 20 = .ok (.putfield 376, 3) := by decide +kernel
theorem d_Mod_begins_23 : decode b_Mod_begins 23 = .ok (.return_, 1) := by decide +kernel
theorem d_Mod_look_0 : decode b_Mod_look 0 = .ok (.aload_n 0, 1) := by decide +kernel
theorem d_Mod_look_1 : decode b_Mod_look 1 = .ok (.getfield 373, 3) := by decide +kernel
theorem d_Mod_look_4 : decode b_Mod_look 4 = .ok (.aload_n 0, 1) := by decide +kernel
theorem d_Mod_look_5 : decode b_Mod_look 5 = .ok (.getfield 370, 3) := by decide +kernel
theorem d_Mod_look_8 : decode b_Mod_look 8 = .ok (.if_icmp .ge 15, 3) := by decide +kernel
theorem d_Mod_look_23 : decode b_Mod_look 23 = .ok (.iconst (-1), 1) := by decide +kernel
theorem d_Mod_look_24 : decode b_Mod_look 24 = .ok (.ireturn, 1) := by decide +kernel
theorem d_Mod_look_11 : decode b_Mod_look 11 = .ok (.aload_n 0, 1) := by decide +kernel
theorem d_Mod_look_12 : decode b_Mod_look 12 = .ok (.getfield 14, 3) := by decide +kernel
theorem d_Mod_look_15 : decode b_Mod_look 15 = .ok (.aload_n 0, 1) := by decide +kernel
theorem d_Mod_look_16 : decode b_Mod_look 16 = .ok (.getfield 373, 3) := by decide +kernel
theorem d_Mod_look_19 : decode b_Mod_look 19 = .ok (.iaload, 1) := by decide +kernel
theorem d_Mod_look_20 : decode b_Mod_look 20 = .ok (.goto 4, 3) := by decide +kernel
theorem d_Mod_blanks_18 : decode b_Mod_blanks 18 = .ok (.aload_n 0, 1) := by decide +kernel
theorem d_Mod_blanks_19 : decode b_Mod_blanks 19 = .ok (.dup, 1) := by decide +kernel
theorem d_Mod_blanks_20 : decode b_Mod_blanks 20 = .ok (.getfield 373, 3) := by decide +kernel
theorem d_Mod_blanks_23 : decode b_Mod_blanks 23 = .ok (.iconst 1, 1) := by decide +kernel
theorem d_Mod_blanks_24 : decode b_Mod_blanks 24 = .ok (.iadd, 1) := by decide +kernel
theorem d_Mod_blanks_25 : decode b_Mod_blanks 25 = .ok (.putfield 373, 3) := by decide +kernel
theorem d_Mod_blanks_28 : decode b_Mod_blanks 28 = .ok (.goto (-28), 3) := by decide +kernel
theorem d_Mod_blanks_0 : decode b_Mod_blanks 0 = .ok (.aload_n 0, 1) := by decide +kernel
theorem d_Mod_blanks_1 : decode b_Mod_blanks 1 = .ok (.invokevirtual 379, 3) := by decide +kernel
theorem d_Mod_blanks_4 : decode b_Mod_blanks 4 = .ok (.bipush 32, 2) := by decide +kernel
theorem d_Mod_blanks_6 : decode b_Mod_blanks 6 = .ok (.if_icmp .eq 12, 3) := by decide +kernel
theorem d_Mod_blanks_9 : decode b_Mod_blanks 9 = .ok (.aload_n 0, 1) := by decide +kernel
theorem d_Mod_blanks_10 : decode b_Mod_blanks 10 = .ok (.invokevirtual 379, 3) := by decide +kernel
theorem d_Mod_blanks_13 : decode b_Mod_blanks 13 = .ok (.bipush 10, 2) := by decide +kernel
theorem d_Mod_blanks_15 : decode b_Mod_blanks 15 = .ok (.if_icmp .ne 16, 3) := by decide +kernel
theorem d_Mod_blanks_31 : decode b_Mod_blanks 31 = .ok (.return_, 1) := by decide +kernel
theorem d_Mod_isLetter_28 : decode b_Mod_isLetter 28 = .ok (.iconst 0, 1) := by decide +kernel
theorem d_Mod_isLetter_29 : decode b_Mod_isLetter 29 = .ok (.ireturn, 1) := by decide +kernel
theorem d_Mod_isLetter_24 : decode b_Mod_isLetter 24 = .ok (.iconst 1, 1) := by decide +kernel
theorem d_Mod_isLetter_25 : decode b_Mod_isLetter 25 = .ok (.goto 4, 3) := by decide +kernel
theorem d_Mod_isLetter_12 : decode b_Mod_isLetter 12 = .ok (.iload_n 0, 1) := by decide +kernel
theorem d_Mod_isLetter_13 : decode b_Mod_isLetter 13 = .ok (.bipush 65, 2) := by decide +kernel
theorem d_Mod_isLetter_15 : decode b_Mod_isLetter 15 = .ok (.if_icmp .lt 13, 3) := by decide +kernel
theorem d_Mod_isLetter_18 : decode b_Mod_isLetter 18 = .ok (.iload_n 0, 1) := by decide +kernel
theorem d_Mod_isLetter_19 : decode b_Mod_isLetter 19 = .ok (.bipush 90, 2) := by decide +kernel
theorem d_Mod_isLetter_21 : decode b_Mod_isLetter 21 = .ok (.if_icmp .gt 7, 3) := by decide +kernel
theorem d_Mod_isLetter_0 : decode b_Mod_isLetter 0 = .ok (.iload_n 0, 1) := by decide +kernel
theorem d_Mod_isLetter_1 : decode b_Mod_isLetter 1 = .ok (.bipush 97, 2) := by decide +kernel
theorem d_Mod_isLetter_3 : decode b_Mod_isLetter 3 = .ok (.if_icmp .lt 9, 3) := by decide +kernel
theorem d_Mod_isLetter_6 : decode b_Mod_isLetter 6 = .ok (.iload_n 0, 1) := by decide +kernel
theorem d_Mod_isLetter_7 : decode b_Mod_isLetter 7 = .ok (.bipush 122, 2) := by decide +kernel
theorem d_Mod_isLetter_9 : decode b_Mod_isLetter 9 = .ok (.if_icmp .le 15, 3) := by decide +kernel
theorem d_Mod_isDigit_16 : decode b_Mod_isDigit 16 = .ok (.iconst 0, 1) := by decide +kernel
theorem d_Mod_isDigit_17 : decode b_Mod_isDigit 17 = .ok (.ireturn, 1) := by decide +kernel
theorem d_Mod_isDigit_0 : decode b_Mod_isDigit 0 = .ok (.iload_n 0, 1) := by decide +kernel
theorem d_Mod_isDigit_1 : decode b_Mod_isDigit 1 = .ok (.bipush 48, 2) := by decide +kernel
theorem d_Mod_isDigit_3 : decode b_Mod_isDigit 3 = .ok (.if_icmp .lt 13, 3) := by decide +kernel
theorem d_Mod_isDigit_6 : decode b_Mod_isDigit 6 = .ok (.iload_n 0, 1) := by decide +kernel
theorem d_Mod_isDigit_7 : decode b_Mod_isDigit 7 = .ok (.bipush 57, 2) := by decide +kernel
theorem d_Mod_isDigit_9 : decode b_Mod_isDigit 9 = .ok (.if_icmp .gt 7, 3) := by decide +kernel
theorem d_Mod_isDigit_12 : decode b_Mod_isDigit 12 = .ok (.iconst 1, 1) := by decide +kernel
theorem d_Mod_isDigit_13 : decode b_Mod_isDigit 13 = .ok (.goto 4, 3) := by decide +kernel
theorem d_Mod_wordAt_56 : decode b_Mod_wordAt 56 = .ok (.iload_n 2, 1) := by decide +kernel
theorem d_Mod_wordAt_57 : decode b_Mod_wordAt 57 = .ok (.iload_n 1, 1) := by decide +kernel
theorem d_Mod_wordAt_58 : decode b_Mod_wordAt 58 = .ok (.isub, 1) := by decide +kernel
theorem d_Mod_wordAt_59 : decode b_Mod_wordAt 59 = .ok (.ireturn, 1) := by decide +kernel
theorem d_Mod_wordAt_50 : decode b_Mod_wordAt 50 = .ok (.iinc 2 1, 3) := by decide +kernel
theorem d_Mod_wordAt_53 : decode b_Mod_wordAt 53 = .ok (.goto (-51), 3) := by decide +kernel
theorem d_Mod_wordAt_2 : decode b_Mod_wordAt 2 = .ok (.iload_n 2, 1) := by decide +kernel
theorem d_Mod_wordAt_3 : decode b_Mod_wordAt 3 = .ok (.aload_n 0, 1) := by decide +kernel
theorem d_Mod_wordAt_4 : decode b_Mod_wordAt 4 = .ok (.getfield 370, 3) := by decide +kernel
theorem d_Mod_wordAt_7 : decode b_Mod_wordAt 7 = .ok (.if_icmp .ge 49, 3) := by decide +kernel
theorem d_Mod_wordAt_10 : decode b_Mod_wordAt 10 = .ok (.aload_n 0, 1) := by decide +kernel
theorem d_Mod_wordAt_11 : decode b_Mod_wordAt 11 = .ok (.getfield 14, 3) := by decide +kernel
theorem d_Mod_wordAt_14 : decode b_Mod_wordAt 14 = .ok (.iload_n 2, 1) := by decide +kernel
theorem d_Mod_wordAt_15 : decode b_Mod_wordAt 15 = .ok (.iaload, 1) := by decide +kernel
theorem d_Mod_wordAt_16 : decode b_Mod_wordAt 16 = .ok (.invokestatic 383, 3) := by decide +kernel
theorem d_Mod_wordAt_19 : decode b_Mod_wordAt 19 = .ok (.ifCond .ne 31, 3) := by decide +kernel
theorem d_Mod_wordAt_22 : decode b_Mod_wordAt 22 = .ok (.iload_n 2, 1) := by decide +kernel
theorem d_Mod_wordAt_23 : decode b_Mod_wordAt 23 = .ok (.iload_n 1, 1) := by decide +kernel
theorem d_Mod_wordAt_24 : decode b_Mod_wordAt 24 = .ok (.if_icmp .le 32, 3) := by decide +kernel
theorem d_Mod_wordAt_27 : decode b_Mod_wordAt 27 = .ok (.aload_n 0, 1) := by decide +kernel
theorem d_Mod_wordAt_28 : decode b_Mod_wordAt 28 = .ok (.getfield 14, 3) := by decide +kernel
theorem d_Mod_wordAt_31 : decode b_Mod_wordAt 31 = .ok (.iload_n 2, 1) := by decide +kernel
theorem d_Mod_wordAt_32 : decode b_Mod_wordAt 32 = .ok (.iaload, 1) := by decide +kernel
theorem d_Mod_wordAt_33 : decode b_Mod_wordAt 33 = .ok (.invokestatic 387, 3) := by decide +kernel
theorem d_Mod_wordAt_36 : decode b_Mod_wordAt 36 = .ok (.ifCond .ne 14, 3) := by decide +kernel
theorem d_Mod_wordAt_39 : decode b_Mod_wordAt 39 = .ok (.aload_n 0, 1) := by decide +kernel
theorem d_Mod_wordAt_40 : decode b_Mod_wordAt 40 = .ok (.getfield 14, 3) := by decide +kernel
theorem d_Mod_wordAt_43 : decode b_Mod_wordAt 43 = .ok (.iload_n 2, 1) := by decide +kernel
theorem d_Mod_wordAt_44 : decode b_Mod_wordAt 44 = .ok (.iaload, 1) := by decide +kernel
theorem d_Mod_wordAt_45 : decode b_Mod_wordAt 45 = .ok (.bipush 95, 2) := by decide +kernel
theorem d_Mod_wordAt_47 : decode b_Mod_wordAt 47 = .ok (.if_icmp .ne 9, 3) := by decide +kernel
theorem d_Mod_wordAt_0 : decode b_Mod_wordAt 0 = .ok (.iload_n 1, 1) := by decide +kernel
theorem d_Mod_wordAt_1 : decode b_Mod_wordAt 1 = .ok (.istore_n 2, 1) := by decide +kernel
theorem d_Mod_wordOf_11 : decode b_Mod_wordOf 11 = .ok (.iload 5, 2) := by decide +kernel
theorem d_Mod_wordOf_13 : decode b_Mod_wordOf 13 = .ok (.iload_n 2, 1) := by decide +kernel
theorem d_Mod_wordOf_14 : decode b_Mod_wordOf 14 = .ok (.if_icmp .ge 25, 3) := by decide +kernel
theorem d_Mod_wordOf_39 : decode b_Mod_wordOf 39 = .ok (.iload_n 2, 1) := by decide +kernel
theorem d_Mod_wordOf_40 : decode b_Mod_wordOf 40 = .ok (.bipush 8, 2) := by decide +kernel
theorem d_Mod_wordOf_42 : decode b_Mod_wordOf 42 = .ok (.if_icmp .le 7, 3) := by decide +kernel
theorem d_Mod_wordOf_49 : decode b_Mod_wordOf 49 = .ok (.lload_n 3, 1) := by decide +kernel
theorem d_Mod_wordOf_50 : decode b_Mod_wordOf 50 = .ok (.lreturn, 1) := by decide +kernel
theorem d_Mod_wordOf_45 : decode b_Mod_wordOf 45 = .ok (.lconst 0, 1) := by decide +kernel
theorem d_Mod_wordOf_46 : decode b_Mod_wordOf 46 = .ok (.goto 4, 3) := by decide +kernel
theorem d_Mod_wordOf_17 : decode b_Mod_wordOf 17 = .ok (.lload_n 3, 1) := by decide +kernel
theorem d_Mod_wordOf_18 : decode b_Mod_wordOf 18 = .ok (.bipush 8, 2) := by decide +kernel
theorem d_Mod_wordOf_20 : decode b_Mod_wordOf 20 = .ok (.lshl, 1) := by decide +kernel
theorem d_Mod_wordOf_21 : decode b_Mod_wordOf 21 = .ok (.aload_n 0, 1) := by decide +kernel
theorem d_Mod_wordOf_22 : decode b_Mod_wordOf 22 = .ok (.getfield 14, 3) := by decide +kernel
theorem d_Mod_wordOf_25 : decode b_Mod_wordOf 25 = .ok (.iload_n 1, 1) := by decide +kernel
theorem d_Mod_wordOf_26 : decode b_Mod_wordOf 26 = .ok (.iload 5, 2) := by decide +kernel
theorem d_Mod_wordOf_28 : decode b_Mod_wordOf 28 = .ok (.iadd, 1) := by decide +kernel
theorem d_Mod_wordOf_29 : decode b_Mod_wordOf 29 = .ok (.iaload, 1) := by decide +kernel
theorem d_Mod_wordOf_30 : decode b_Mod_wordOf 30 = .ok (.i2l, 1) := by decide +kernel
theorem d_Mod_wordOf_31 : decode b_Mod_wordOf 31 = .ok (.lor, 1) := by decide +kernel
theorem d_Mod_wordOf_32 : decode b_Mod_wordOf 32 = .ok (.lstore_n 3, 1) := by decide +kernel
theorem d_Mod_wordOf_33 : decode b_Mod_wordOf 33 = .ok (.iinc 5 1, 3) := by decide +kernel
theorem d_Mod_wordOf_36 : decode b_Mod_wordOf 36 = .ok (.goto (-25), 3) := by decide +kernel
theorem d_Mod_wordOf_0 : decode b_Mod_wordOf 0 = .ok (.aload_n 0, 1) := by decide +kernel
theorem d_Mod_wordOf_1 : decode b_Mod_wordOf 1 = .ok (.iload_n 1, 1) := by decide +kernel
theorem d_Mod_wordOf_2 : decode b_Mod_wordOf 2 = .ok (.invokevirtual 390, 3) := by decide +kernel
theorem d_Mod_wordOf_5 : decode b_Mod_wordOf 5 = .ok (.istore_n 2, 1) := by decide +kernel
theorem d_Mod_wordOf_6 : decode b_Mod_wordOf 6 = .ok (.lconst 0, 1) := by decide +kernel
theorem d_Mod_wordOf_7 : decode b_Mod_wordOf 7 = .ok (.lstore_n 3, 1) := by decide +kernel
theorem d_Mod_wordOf_8 : decode b_Mod_wordOf 8 = .ok (.iconst 0, 1) := by decide +kernel
theorem d_Mod_wordOf_9 : decode b_Mod_wordOf 9 = .ok (.istore 5, 2) := by decide +kernel
section
variable (l : Launch) (dC : Nat → ClassId) (dI : Nat → Nat → Nat) (cI cB cJ cZ : ClassId)
set_option maxRecDepth 100000 in
set_option maxHeartbeats 4000000 in
set_option maxRecDepth 100000 in
theorem t_Mod_feed_75 {p : Program} {l : Launch} {e : Env} {R : Room} {s : State} {m : MethodId} {args : Array Value} {below : List Frame} {meth : Method} {c : Code} {cells slots : Nat} {Q : State → Prop} {dC : Nat → ClassId} {dI : Nat → Nat → Nat} {cI cB cJ cZ : ClassId} {A : Nat → Prop} {ad : Nat → Nat} {post : Int32 → St → Prop} {rec22 : Int32 → Int32 → Int32 → Int32 → Int32 → Int32 → St → Prop} (hx : p.tables.exec = Jvm.exec) (hb : c.code = b_Mod_feed) (hml : c.maxLocals = 8) (hown : s.vm.findClass R_Mod = some m.cls) (hT : ∀ w ∈ TG, w.before args s = true) (hK : va_K (dC, dI) CL (TY cI cB cJ cZ) s) (hN : NW s) (hA : ∀ q : Nat, s.heap.size ≤ q → A q) (hRc : cells ≤ R.cells) (hRs : slots ≤ R.slots) (hRf : 0 ≤ R.frames) (hRl : 0 ≤ R.locals) (hret : ∀ (r : Int32) (x : St) (H : Heap) (locs : List Loc) (pc : Nat) (ls : Array Slot), decode b_Mod_feed pc = .ok (.ireturn, 1) → narrow .boolean (.int r) = .int r → post r x → Wd dC dI cI cB cJ cZ ad stM kcM 115 A x H → va_S A s.heap H locs → W p l e R s m args below meth c H locs cells slots Q (F0 m pc ls [.int r])) (hrec22 : ∀ (l1 : Int32) (l2 : Int32) (l3 : Int32) (l4 : Int32) (l5 : Int32) (l6 : Int32) (x : St) (H : Heap) (locs : List Loc) (ls : Array Slot), rec22 l1 l2 l3 l4 l5 l6 x → Wd dC dI cI cB cJ cZ ad stM kcM 115 A x H → va_S A s.heap H locs → lv_has ls 8 [(0, .ref (ad 0)), (1, .int l1), (2, .int l2), (3, .int l3), (4, .int l4), (5, .int l5), (6, .int l6)] → W p l e R s m args below meth c H locs cells slots Q (F0 m 22 ls [])) : ∀ (l1 : Int32) (l2 : Int32) (l3 : Int32) (l4 : Int32) (l5 : Int32) (l6 : Int32) (s0 : Int32) (x : St) (H : Heap) (locs : List Loc) (ls : Array Slot), j_Mod_feed_75 post rec22 l1 l2 l3 l4 l5 l6 s0 x → Wd dC dI cI cB cJ cZ ad stM kcM 115 A x H → va_S A s.heap H locs → lv_has ls 8 [(0, .ref (ad 0)), (1, .int l1), (2, .int l2), (3, .int l3), (4, .int l4), (5, .int l5), (6, .int l6)] → W p l e R s m args below meth c H locs cells slots Q (F0 m 75 ls [.int s0]) := by
  intro l1 l2 l3 l4 l5 l6 s0 x H locs ls  hw hW hS hl
  unfold j_Mod_feed_75 at hw
  refine lv_istore (lv' := [(7, .int s0), (0, .ref (ad 0)), (1, .int l1), (2, .int l2), (3, .int l3), (4, .int l4), (5, .int l5), (6, .int l6)]) hx hb d_Mod_feed_75 hl (by decide) rfl (fun ls hl => ?_)
  refine lv_aload_n hx hb d_Mod_feed_77 rfl (lv_at hl 1 rfl) ?_
  refine w_getf (q := 1) (k := 1) (t := 12) (C := R_Mod) (T := F_Mod) (N := 167) hx hb hT hown hK hW ko_0.1 ko_0.2 (by decide) in_Mod rfl rfl (by decide) rfl fr_Mod_1 w_8_177 d_Mod_feed_78 rfl ?_
  refine lv_aload_n hx hb d_Mod_feed_81 rfl (lv_at hl 1 rfl) ?_
  refine w_geti (k := 3) (t := 12) (C := R_Mod) (T := F_Mod) (N := 167) hx hb hT hown hK hW ko_0.1 ko_0.2 (by decide) in_Mod rfl rfl (by decide) rfl fr_Mod_3 w_8_179 d_Mod_feed_82 ?_
  refine lv_iload hx hb d_Mod_feed_85 (lv_at hl 7 rfl) ?_
  refine lv_iadd hx hb d_Mod_feed_87 ?_
  refine lv_iload hx hb d_Mod_feed_88 (lv_at hl 0 rfl) ?_
  refine lv_bipush (v := 24) hx hb d_Mod_feed_90 (by decide) ?_
  refine lv_bipush (v := 8) hx hb d_Mod_feed_92 (by decide) ?_
  refine lv_iload hx hb d_Mod_feed_94 (lv_at hl 7 rfl) ?_
  refine lv_iconst (v := 4) hx hb d_Mod_feed_96 (by decide) ?_
  refine lv_irem hx hb d_Mod_feed_97 (by decide) ?_
  refine lv_imul hx hb d_Mod_feed_98 ?_
  refine lv_isub hx hb d_Mod_feed_99 ?_
  refine lv_ishr hx hb d_Mod_feed_100 ?_
  refine lv_sipush (v := 255) hx hb d_Mod_feed_101 (by decide) ?_
  refine lv_iand hx hb d_Mod_feed_104 ?_
  obtain ⟨hi, hw⟩ := hw
  refine w_iast (o := 1) hx hb hK hW hS ko_1.1 ko_1.2 hi d_Mod_feed_105 (fun H locs hW hS => ?_)
  obtain ⟨x1, ex1⟩ : ∃ y : St, y = setA x 1 ((fI x 0 3) + l6) ((s0 >>> ((24 - (8 * (l6 - l6 / 4 * 4))) &&& 31)) &&& 255) := ⟨_, rfl⟩
  rw [← ex1] at hW
  have hw := hw x1 ex1
  refine lv_iinc (v := (l6 + 1)) (lv' := [(6, .int (l6 + 1)), (7, .int s0), (0, .ref (ad 0)), (1, .int l1), (2, .int l2), (3, .int l3), (4, .int l4), (5, .int l5)]) hx hb d_Mod_feed_106 hl (k := 7) rfl rfl (by decide) rfl (fun ls hl => ?_)
  refine lv_goto (tgt := 22) hx hb d_Mod_feed_109 (by decide) ?_
  exact hrec22 l1 l2 l3 l4 l5 (l6 + 1) x1 H locs ls  hw hW hS (lv_sub hl [2, 3, 4, 5, 6, 7, 0] rfl)
set_option maxRecDepth 100000 in
set_option maxHeartbeats 4000000 in
set_option maxRecDepth 100000 in
theorem t_Mod_feed_22 {p : Program} {l : Launch} {e : Env} {R : Room} {s : State} {m : MethodId} {args : Array Value} {below : List Frame} {meth : Method} {c : Code} {cells slots : Nat} {Q : State → Prop} {dC : Nat → ClassId} {dI : Nat → Nat → Nat} {cI cB cJ cZ : ClassId} {A : Nat → Prop} {ad : Nat → Nat} {post : Int32 → St → Prop} {rec22 : Int32 → Int32 → Int32 → Int32 → Int32 → Int32 → St → Prop} (hx : p.tables.exec = Jvm.exec) (hb : c.code = b_Mod_feed) (hml : c.maxLocals = 8) (hown : s.vm.findClass R_Mod = some m.cls) (hT : ∀ w ∈ TG, w.before args s = true) (hK : va_K (dC, dI) CL (TY cI cB cJ cZ) s) (hN : NW s) (hA : ∀ q : Nat, s.heap.size ≤ q → A q) (hRc : cells ≤ R.cells) (hRs : slots ≤ R.slots) (hRf : 0 ≤ R.frames) (hRl : 0 ≤ R.locals) (hret : ∀ (r : Int32) (x : St) (H : Heap) (locs : List Loc) (pc : Nat) (ls : Array Slot), decode b_Mod_feed pc = .ok (.ireturn, 1) → narrow .boolean (.int r) = .int r → post r x → Wd dC dI cI cB cJ cZ ad stM kcM 115 A x H → va_S A s.heap H locs → W p l e R s m args below meth c H locs cells slots Q (F0 m pc ls [.int r])) (hrec22 : ∀ (l1 : Int32) (l2 : Int32) (l3 : Int32) (l4 : Int32) (l5 : Int32) (l6 : Int32) (x : St) (H : Heap) (locs : List Loc) (ls : Array Slot), rec22 l1 l2 l3 l4 l5 l6 x → Wd dC dI cI cB cJ cZ ad stM kcM 115 A x H → va_S A s.heap H locs → lv_has ls 8 [(0, .ref (ad 0)), (1, .int l1), (2, .int l2), (3, .int l3), (4, .int l4), (5, .int l5), (6, .int l6)] → W p l e R s m args below meth c H locs cells slots Q (F0 m 22 ls [])) : ∀ (l1 : Int32) (l2 : Int32) (l3 : Int32) (l4 : Int32) (l5 : Int32) (l6 : Int32) (x : St) (H : Heap) (locs : List Loc) (ls : Array Slot), j_Mod_feed_22 post rec22 l1 l2 l3 l4 l5 l6 x → Wd dC dI cI cB cJ cZ ad stM kcM 115 A x H → va_S A s.heap H locs → lv_has ls 8 [(0, .ref (ad 0)), (1, .int l1), (2, .int l2), (3, .int l3), (4, .int l4), (5, .int l5), (6, .int l6)] → W p l e R s m args below meth c H locs cells slots Q (F0 m 22 ls []) := by
  intro l1 l2 l3 l4 l5 l6 x H locs ls  hw hW hS hl
  unfold j_Mod_feed_22 at hw
  refine lv_iload hx hb d_Mod_feed_22 (lv_at hl 6 rfl) ?_
  refine lv_bipush (v := 20) hx hb d_Mod_feed_24 (by decide) ?_
  refine lv_icmp_ge (tgt := 112) hx hb d_Mod_feed_26 (by decide) (fun c2 => ?_) (fun c2 => ?_)
  · have hw := hw.1 c2
    refine lv_aload_n hx hb d_Mod_feed_112 rfl (lv_at hl 0 rfl) ?_
    refine lv_dup hx hb d_Mod_feed_113 rfl ?_
    refine w_geti (k := 3) (t := 12) (C := R_Mod) (T := F_Mod) (N := 167) hx hb hT hown hK hW ko_0.1 ko_0.2 (by decide) in_Mod rfl rfl (by decide) rfl fr_Mod_3 w_8_179 d_Mod_feed_114 ?_
    refine lv_bipush (v := 20) hx hb d_Mod_feed_117 (by decide) ?_
    refine lv_iadd hx hb d_Mod_feed_119 ?_
    refine w_puti (ty := .int) (k := 3) (t := 12) (C := R_Mod) (T := F_Mod) (N := 167) hx hb hT hown hK hW hS ko_0.1 ko_0.2 (by decide) in_Mod t_Mod t_Mod_ok n_Mod rfl rfl (by decide) rfl fr_Mod_3 w_8_179 (by decide +kernel) rfl rfl d_Mod_feed_120 (fun H locs hW hS => ?_)
    obtain ⟨x3, ex3⟩ : ∃ y : St, y = setI x 0 3 ((fI x 0 3) + 20) := ⟨_, rfl⟩
    rw [← ex3] at hW
    have hw := hw x3 ex3
    refine lv_iconst (v := 1) hx hb d_Mod_feed_123 (by decide) ?_
    exact hret 1 x3 H locs 124 ls d_Mod_feed_124 rfl hw hW hS
  · have hw := hw.2 c2
    refine lv_iload hx hb d_Mod_feed_29 (lv_at hl 6 rfl) ?_
    refine lv_iconst (v := 4) hx hb d_Mod_feed_31 (by decide) ?_
    refine lv_icmp_ge (tgt := 39) hx hb d_Mod_feed_32 (by decide) (fun c4 => ?_) (fun c4 => ?_)
    · have hw := hw.1 c4
      refine lv_iload hx hb d_Mod_feed_39 (lv_at hl 6 rfl) ?_
      refine lv_bipush (v := 8) hx hb d_Mod_feed_41 (by decide) ?_
      refine lv_icmp_ge (tgt := 50) hx hb d_Mod_feed_43 (by decide) (fun c5 => ?_) (fun c5 => ?_)
      · have hw := hw.1 c5
        refine lv_iload hx hb d_Mod_feed_50 (lv_at hl 6 rfl) ?_
        refine lv_bipush (v := 12) hx hb d_Mod_feed_52 (by decide) ?_
        refine lv_icmp_ge (tgt := 61) hx hb d_Mod_feed_54 (by decide) (fun c6 => ?_) (fun c6 => ?_)
        · have hw := hw.1 c6
          refine lv_iload hx hb d_Mod_feed_61 (lv_at hl 6 rfl) ?_
          refine lv_bipush (v := 16) hx hb d_Mod_feed_63 (by decide) ?_
          refine lv_icmp_ge (tgt := 73) hx hb d_Mod_feed_65 (by decide) (fun c7 => ?_) (fun c7 => ?_)
          · have hw := hw.1 c7
            refine lv_iload hx hb d_Mod_feed_73 (lv_at hl 5 rfl) ?_
            exact t_Mod_feed_75 hx hb hml hown hT hK hN hA hRc hRs hRf hRl hret hrec22 l1 l2 l3 l4 l5 l6 l5 x H locs ls  hw hW hS (lv_sub hl [0, 1, 2, 3, 4, 5, 6] rfl)
          · have hw := hw.2 c7
            refine lv_iload hx hb d_Mod_feed_68 (lv_at hl 4 rfl) ?_
            refine lv_goto (tgt := 75) hx hb d_Mod_feed_70 (by decide) ?_
            exact t_Mod_feed_75 hx hb hml hown hT hK hN hA hRc hRs hRf hRl hret hrec22 l1 l2 l3 l4 l5 l6 l4 x H locs ls  hw hW hS (lv_sub hl [0, 1, 2, 3, 4, 5, 6] rfl)
        · have hw := hw.2 c6
          refine lv_iload_n hx hb d_Mod_feed_57 rfl (lv_at hl 3 rfl) ?_
          refine lv_goto (tgt := 75) hx hb d_Mod_feed_58 (by decide) ?_
          exact t_Mod_feed_75 hx hb hml hown hT hK hN hA hRc hRs hRf hRl hret hrec22 l1 l2 l3 l4 l5 l6 l3 x H locs ls  hw hW hS (lv_sub hl [0, 1, 2, 3, 4, 5, 6] rfl)
      · have hw := hw.2 c5
        refine lv_iload_n hx hb d_Mod_feed_46 rfl (lv_at hl 2 rfl) ?_
        refine lv_goto (tgt := 75) hx hb d_Mod_feed_47 (by decide) ?_
        exact t_Mod_feed_75 hx hb hml hown hT hK hN hA hRc hRs hRf hRl hret hrec22 l1 l2 l3 l4 l5 l6 l2 x H locs ls  hw hW hS (lv_sub hl [0, 1, 2, 3, 4, 5, 6] rfl)
    · have hw := hw.2 c4
      refine lv_iload_n hx hb d_Mod_feed_35 rfl (lv_at hl 1 rfl) ?_
      refine lv_goto (tgt := 75) hx hb d_Mod_feed_36 (by decide) ?_
      exact t_Mod_feed_75 hx hb hml hown hT hK hN hA hRc hRs hRf hRl hret hrec22 l1 l2 l3 l4 l5 l6 l1 x H locs ls  hw hW hS (lv_sub hl [0, 1, 2, 3, 4, 5, 6] rfl)
set_option maxHeartbeats 4000000 in
set_option maxRecDepth 100000 in
theorem tl_Mod_feed_22 {p : Program} {l : Launch} {e : Env} {R : Room} {s : State} {m : MethodId} {args : Array Value} {below : List Frame} {meth : Method} {c : Code} {cells slots : Nat} {Q : State → Prop} {dC : Nat → ClassId} {dI : Nat → Nat → Nat} {cI cB cJ cZ : ClassId} {A : Nat → Prop} {ad : Nat → Nat} {post : Int32 → St → Prop} (hx : p.tables.exec = Jvm.exec) (hb : c.code = b_Mod_feed) (hml : c.maxLocals = 8) (hown : s.vm.findClass R_Mod = some m.cls) (hT : ∀ w ∈ TG, w.before args s = true) (hK : va_K (dC, dI) CL (TY cI cB cJ cZ) s) (hN : NW s) (hA : ∀ q : Nat, s.heap.size ≤ q → A q) (hRc : cells ≤ R.cells) (hRs : slots ≤ R.slots) (hRf : 0 ≤ R.frames) (hRl : 0 ≤ R.locals) (hret : ∀ (r : Int32) (x : St) (H : Heap) (locs : List Loc) (pc : Nat) (ls : Array Slot), decode b_Mod_feed pc = .ok (.ireturn, 1) → narrow .boolean (.int r) = .int r → post r x → Wd dC dI cI cB cJ cZ ad stM kcM 115 A x H → va_S A s.heap H locs → W p l e R s m args below meth c H locs cells slots Q (F0 m pc ls [.int r]))  : ∀ n : Nat, ∀ (l1 : Int32) (l2 : Int32) (l3 : Int32) (l4 : Int32) (l5 : Int32) (l6 : Int32) (x : St) (H : Heap) (locs : List Loc) (ls : Array Slot), wl_Mod_feed_22 post n l1 l2 l3 l4 l5 l6 x → Wd dC dI cI cB cJ cZ ad stM kcM 115 A x H → va_S A s.heap H locs → lv_has ls 8 [(0, .ref (ad 0)), (1, .int l1), (2, .int l2), (3, .int l3), (4, .int l4), (5, .int l5), (6, .int l6)] → W p l e R s m args below meth c H locs cells slots Q (F0 m 22 ls []) := by
  intro n
  induction n with
  | zero => intro l1 l2 l3 l4 l5 l6 x H locs ls  hw; exact hw.elim
  | succ n ih => intro l1 l2 l3 l4 l5 l6 x H locs ls  hw hW hS hl; exact t_Mod_feed_22 hx hb hml hown hT hK hN hA hRc hRs hRf hRl hret  ih l1 l2 l3 l4 l5 l6 x H locs ls  hw hW hS hl
set_option maxRecDepth 100000 in
set_option maxHeartbeats 4000000 in
set_option maxRecDepth 100000 in
theorem t_Mod_feed_e {p : Program} {l : Launch} {e : Env} {R : Room} {s : State} {m : MethodId} {args : Array Value} {below : List Frame} {meth : Method} {c : Code} {cells slots : Nat} {Q : State → Prop} {dC : Nat → ClassId} {dI : Nat → Nat → Nat} {cI cB cJ cZ : ClassId} {A : Nat → Prop} {ad : Nat → Nat} {post : Int32 → St → Prop} (hx : p.tables.exec = Jvm.exec) (hb : c.code = b_Mod_feed) (hml : c.maxLocals = 8) (hown : s.vm.findClass R_Mod = some m.cls) (hT : ∀ w ∈ TG, w.before args s = true) (hK : va_K (dC, dI) CL (TY cI cB cJ cZ) s) (hN : NW s) (hA : ∀ q : Nat, s.heap.size ≤ q → A q) (hRc : cells ≤ R.cells) (hRs : slots ≤ R.slots) (hRf : 0 ≤ R.frames) (hRl : 0 ≤ R.locals) (hret : ∀ (r : Int32) (x : St) (H : Heap) (locs : List Loc) (pc : Nat) (ls : Array Slot), decode b_Mod_feed pc = .ok (.ireturn, 1) → narrow .boolean (.int r) = .int r → post r x → Wd dC dI cI cB cJ cZ ad stM kcM 115 A x H → va_S A s.heap H locs → W p l e R s m args below meth c H locs cells slots Q (F0 m pc ls [.int r])) : ∀ (l1 : Int32) (l2 : Int32) (l3 : Int32) (l4 : Int32) (l5 : Int32) (x : St) (H : Heap) (locs : List Loc) (ls : Array Slot), wp_Mod_feed post l1 l2 l3 l4 l5 x → Wd dC dI cI cB cJ cZ ad stM kcM 115 A x H → va_S A s.heap H locs → lv_has ls 8 [(0, .ref (ad 0)), (1, .int l1), (2, .int l2), (3, .int l3), (4, .int l4), (5, .int l5)] → W p l e R s m args below meth c H locs cells slots Q (F0 m 0 ls []) := by
  intro l1 l2 l3 l4 l5 x H locs ls  hw hW hS hl
  unfold wp_Mod_feed at hw
  refine lv_aload_n hx hb d_Mod_feed_0 rfl (lv_at hl 0 rfl) ?_
  refine lv_iconst (v := 0) hx hb d_Mod_feed_1 (by decide) ?_
  refine w_puti (ty := .int) (k := 0) (t := 12) (C := R_Mod) (T := F_Mod) (N := 167) hx hb hT hown hK hW hS ko_0.1 ko_0.2 (by decide) in_Mod t_Mod t_Mod_ok n_Mod rfl rfl (by decide) rfl fr_Mod_0 w_8_176 (by decide +kernel) rfl rfl d_Mod_feed_2 (fun H locs hW hS => ?_)
  obtain ⟨x8, ex8⟩ : ∃ y : St, y = setI x 0 0 0 := ⟨_, rfl⟩
  rw [← ex8] at hW
  have hw := hw x8 ex8
  refine lv_aload_n hx hb d_Mod_feed_5 rfl (lv_at hl 0 rfl) ?_
  refine w_geti (k := 3) (t := 12) (C := R_Mod) (T := F_Mod) (N := 167) hx hb hT hown hK hW ko_0.1 ko_0.2 (by decide) in_Mod rfl rfl (by decide) rfl fr_Mod_3 w_8_179 d_Mod_feed_6 ?_
  refine lv_bipush (v := 20) hx hb d_Mod_feed_9 (by decide) ?_
  refine lv_iadd hx hb d_Mod_feed_11 ?_
  refine lv_ldc hx hb hown (hT _ w_8_171) d_Mod_feed_12 ?_
  refine lv_icmp_le (tgt := 19) hx hb d_Mod_feed_14 (by decide) (fun c9 => ?_) (fun c9 => ?_)
  · have hw := hw.1 c9
    refine lv_iconst (v := 0) hx hb d_Mod_feed_19 (by decide) ?_
    refine lv_istore (lv' := [(6, .int 0), (0, .ref (ad 0)), (1, .int l1), (2, .int l2), (3, .int l3), (4, .int l4), (5, .int l5)]) hx hb d_Mod_feed_20 hl (by decide) rfl (fun ls hl => ?_)
    obtain ⟨n, hw⟩ := hw
    exact tl_Mod_feed_22 hx hb hml hown hT hK hN hA hRc hRs hRf hRl hret  n l1 l2 l3 l4 l5 0 x8 H locs ls  hw hW hS (lv_sub hl [1, 2, 3, 4, 5, 6, 0] rfl)
  · have hw := hw.2 c9
    refine lv_iconst (v := 0) hx hb d_Mod_feed_17 (by decide) ?_
    exact hret 0 x8 H locs 18 ls d_Mod_feed_18 rfl hw hW hS
set_option maxHeartbeats 4000000 in
set_option maxRecDepth 100000 in
theorem k_Mod_feed (l : Launch) (dC : Nat → ClassId) (dI : Nat → Nat → Nat) (cI cB cJ cZ : ClassId) (ad : Nat → Nat) (sz : Nat) (l1 : Int32) (l2 : Int32) (l3 : Int32) (l4 : Int32) (l5 : Int32) (x : St) {post : Int32 → St → Prop} (hw : wp_Mod_feed post l1 l2 l3 l4 l5 x) : Met l y_Mod_feed (wsOf y_Mod_feed b_Mod_feed 8 (some (.boolean))) ({ frames := 0, cells := 0, slots := 0, locals := 0 }) (va_Pc [.ref (ad 0), .int l1, .int l2, .int l3, .int l4, .int l5] (PW dC dI cI cB cJ cZ ad stM kcM 115 sz x)) (va_Qi (fun (r : Int32) (y : St) => post r y) (fun y t => Wd dC dI cI cB cJ cZ ad stM kcM 115 (va_A (pic ad stM kcM 115 cI cB cJ cZ x) sz) y t.heap) (va_A (pic ad stM kcM 115 cI cB cJ cZ x) sz)) 0 0 (va_A (pic ad stM kcM 115 cI cB cJ cZ x) sz) := by
  refine Met.ofW (cc := b_Mod_feed) (maxL := 8) (ret := some (.boolean)) (by decide) rfl ?_
  intro p e s m args below meth c s₁ B hml hv
  obtain ⟨rfl, hsz, hW0, hK, hN⟩ := hv
  have hx := B.exec
  have hb := B.bytes
  have hr := B.returns
  have hts := atoms_spec B.pre
  have hT : ∀ w ∈ TG, w.before _ s = true := fun w h => hts w (List.mem_cons_of_mem _ h)
  have hown : s.vm.findClass R_Mod = some m.cls := findClass_of_methodNamed B.named
  have hlocks := B.notSynchronized
  subst hsz
  have hW : Wd dC dI cI cB cJ cZ ad stM kcM 115 (va_A (pic ad stM kcM 115 cI cB cJ cZ x) s.heap.size) x s.heap := ⟨hW0.1, hW0.2.1.self (sz := s.heap.size), hW0.2.2⟩
  generalize hAe : va_A (pic ad stM kcM 115 cI cB cJ cZ x) s.heap.size = A at hW ⊢
  have hA : ∀ q : Nat, s.heap.size ≤ q → A q := fun q h => by rw [← hAe]; exact Or.inr h
  have hS : va_S A s.heap s.heap [] := va_S.rf
  have hl := lv_entry ([.ref (ad 0), .int l1, .int l2, .int l3, .int l4, .int l5]) (n := 8) (Nat.le_of_ble_eq_true rfl)
  rw [lg_entry_eq]
  generalize (lg_sl ([.ref (ad 0), .int l1, .int l2, .int l3, .int l4, .int l5]) ++ List.replicate (8 - (lg_sl ([.ref (ad 0), .int l1, .int l2, .int l3, .int l4, .int l5])).length) Slot.unset).toArray = ls at hl ⊢
  have hl : lv_has ls 8 [(0, .ref (ad 0)), (1, .int l1), (2, .int l2), (3, .int l3), (4, .int l4), (5, .int l5)] := hl
  exact t_Mod_feed_e hx hb hml hown hT hK hN hA (Nat.le_refl 0) (Nat.le_refl 0) (Nat.le_refl 0) (Nat.le_refl 0) (fun r x H locs pc ls hd hz hp hW hS => W.zret (v := r) (ty := .boolean) hx hb hr hz (fun t ht hM => ⟨⟨r, x, rfl, hp, Wd.back hW ht.symm (fun _ z => z)⟩, hS.F ht⟩) hS.2.2 hd hlocks)  l1 l2 l3 l4 l5 x _ _ ls  hw hW hS hl
set_option maxRecDepth 100000 in
set_option maxHeartbeats 4000000 in
set_option maxRecDepth 100000 in
theorem t_Mod_end_21 {p : Program} {l : Launch} {e : Env} {R : Room} {s : State} {m : MethodId} {args : Array Value} {below : List Frame} {meth : Method} {c : Code} {cells slots : Nat} {Q : State → Prop} {dC : Nat → ClassId} {dI : Nat → Nat → Nat} {cI cB cJ cZ : ClassId} {A : Nat → Prop} {ad : Nat → Nat} {post : Int32 → St → Prop} {rec21 : Int32 → Int32 → St → Prop} (hx : p.tables.exec = Jvm.exec) (hb : c.code = b_Mod_end) (hml : c.maxLocals = 3) (hown : s.vm.findClass R_Mod = some m.cls) (hT : ∀ w ∈ TG, w.before args s = true) (hK : va_K (dC, dI) CL (TY cI cB cJ cZ) s) (hN : NW s) (hA : ∀ q : Nat, s.heap.size ≤ q → A q) (hRc : cells ≤ R.cells) (hRs : slots ≤ R.slots) (hRf : 0 ≤ R.frames) (hRl : 0 ≤ R.locals) (hret : ∀ (r : Int32) (x : St) (H : Heap) (locs : List Loc) (pc : Nat) (ls : Array Slot), decode b_Mod_end pc = .ok (.ireturn, 1) → narrow .boolean (.int r) = .int r → post r x → Wd dC dI cI cB cJ cZ ad stM kcM 115 A x H → va_S A s.heap H locs → W p l e R s m args below meth c H locs cells slots Q (F0 m pc ls [.int r])) (hrec21 : ∀ (l1 : Int32) (l2 : Int32) (x : St) (H : Heap) (locs : List Loc) (ls : Array Slot), rec21 l1 l2 x → Wd dC dI cI cB cJ cZ ad stM kcM 115 A x H → va_S A s.heap H locs → lv_has ls 3 [(0, .ref (ad 0)), (1, .int l1), (2, .int l2)] → W p l e R s m args below meth c H locs cells slots Q (F0 m 21 ls [])) : ∀ (l1 : Int32) (l2 : Int32) (x : St) (H : Heap) (locs : List Loc) (ls : Array Slot), j_Mod_end_21 post rec21 l1 l2 x → Wd dC dI cI cB cJ cZ ad stM kcM 115 A x H → va_S A s.heap H locs → lv_has ls 3 [(0, .ref (ad 0)), (1, .int l1), (2, .int l2)] → W p l e R s m args below meth c H locs cells slots Q (F0 m 21 ls []) := by
  intro l1 l2 x H locs ls  hw hW hS hl
  unfold j_Mod_end_21 at hw
  refine lv_iload_n hx hb d_Mod_end_21 rfl (lv_at hl 2 rfl) ?_
  refine lv_iload_n hx hb d_Mod_end_22 rfl (lv_at hl 1 rfl) ?_
  refine lv_icmp_ge (tgt := 44) hx hb d_Mod_end_23 (by decide) (fun c10 => ?_) (fun c10 => ?_)
  · have hw := hw.1 c10
    refine lv_aload_n hx hb d_Mod_end_44 rfl (lv_at hl 0 rfl) ?_
    refine lv_iload_n hx hb d_Mod_end_45 rfl (lv_at hl 1 rfl) ?_
    refine w_puti (ty := .int) (k := 4) (t := 12) (C := R_Mod) (T := F_Mod) (N := 167) hx hb hT hown hK hW hS ko_0.1 ko_0.2 (by decide) in_Mod t_Mod t_Mod_ok n_Mod rfl rfl (by decide) rfl fr_Mod_4 w_8_180 (by decide +kernel) rfl rfl d_Mod_end_46 (fun H locs hW hS => ?_)
    obtain ⟨x11, ex11⟩ : ∃ y : St, y = setI x 0 4 l1 := ⟨_, rfl⟩
    rw [← ex11] at hW
    have hw := hw x11 ex11
    refine lv_aload_n hx hb d_Mod_end_49 rfl (lv_at hl 0 rfl) ?_
    refine lv_iconst (v := 0) hx hb d_Mod_end_50 (by decide) ?_
    refine w_puti (ty := .int) (k := 3) (t := 12) (C := R_Mod) (T := F_Mod) (N := 167) hx hb hT hown hK hW hS ko_0.1 ko_0.2 (by decide) in_Mod t_Mod t_Mod_ok n_Mod rfl rfl (by decide) rfl fr_Mod_3 w_8_179 (by decide +kernel) rfl rfl d_Mod_end_51 (fun H locs hW hS => ?_)
    obtain ⟨x12, ex12⟩ : ∃ y : St, y = setI x11 0 3 0 := ⟨_, rfl⟩
    rw [← ex12] at hW
    have hw := hw x12 ex12
    refine lv_iconst (v := 1) hx hb d_Mod_end_54 (by decide) ?_
    exact hret 1 x12 H locs 55 ls d_Mod_end_55 rfl hw hW hS
  · have hw := hw.2 c10
    refine lv_aload_n hx hb d_Mod_end_26 rfl (lv_at hl 0 rfl) ?_
    refine w_getf (q := 2) (k := 2) (t := 12) (C := R_Mod) (T := F_Mod) (N := 167) hx hb hT hown hK hW ko_0.1 ko_0.2 (by decide) in_Mod rfl rfl (by decide) rfl fr_Mod_2 w_8_178 d_Mod_end_27 rfl ?_
    refine lv_iload_n hx hb d_Mod_end_30 rfl (lv_at hl 2 rfl) ?_
    refine lv_aload_n hx hb d_Mod_end_31 rfl (lv_at hl 0 rfl) ?_
    refine w_getf (q := 1) (k := 1) (t := 12) (C := R_Mod) (T := F_Mod) (N := 167) hx hb hT hown hK hW ko_0.1 ko_0.2 (by decide) in_Mod rfl rfl (by decide) rfl fr_Mod_1 w_8_177 d_Mod_end_32 rfl ?_
    refine lv_iload_n hx hb d_Mod_end_35 rfl (lv_at hl 2 rfl) ?_
    obtain ⟨hi, hw⟩ := hw
    refine w_iald (o := 1) hx hb hK hW ko_1.1 ko_1.2 hi d_Mod_end_36 ?_
    obtain ⟨hi, hw⟩ := hw
    refine w_iast (o := 2) hx hb hK hW hS ko_2.1 ko_2.2 hi d_Mod_end_37 (fun H locs hW hS => ?_)
    obtain ⟨x13, ex13⟩ : ∃ y : St, y = setA x 2 l2 (rA x 1 l2) := ⟨_, rfl⟩
    rw [← ex13] at hW
    have hw := hw x13 ex13
    refine lv_iinc (v := (l2 + 1)) (lv' := [(2, .int (l2 + 1)), (0, .ref (ad 0)), (1, .int l1)]) hx hb d_Mod_end_38 hl (k := 2) rfl rfl (by decide) rfl (fun ls hl => ?_)
    refine lv_goto (tgt := 21) hx hb d_Mod_end_41 (by decide) ?_
    exact hrec21 l1 (l2 + 1) x13 H locs ls  hw hW hS (lv_sub hl [1, 2, 0] rfl)
set_option maxHeartbeats 4000000 in
set_option maxRecDepth 100000 in
theorem tl_Mod_end_21 {p : Program} {l : Launch} {e : Env} {R : Room} {s : State} {m : MethodId} {args : Array Value} {below : List Frame} {meth : Method} {c : Code} {cells slots : Nat} {Q : State → Prop} {dC : Nat → ClassId} {dI : Nat → Nat → Nat} {cI cB cJ cZ : ClassId} {A : Nat → Prop} {ad : Nat → Nat} {post : Int32 → St → Prop} (hx : p.tables.exec = Jvm.exec) (hb : c.code = b_Mod_end) (hml : c.maxLocals = 3) (hown : s.vm.findClass R_Mod = some m.cls) (hT : ∀ w ∈ TG, w.before args s = true) (hK : va_K (dC, dI) CL (TY cI cB cJ cZ) s) (hN : NW s) (hA : ∀ q : Nat, s.heap.size ≤ q → A q) (hRc : cells ≤ R.cells) (hRs : slots ≤ R.slots) (hRf : 0 ≤ R.frames) (hRl : 0 ≤ R.locals) (hret : ∀ (r : Int32) (x : St) (H : Heap) (locs : List Loc) (pc : Nat) (ls : Array Slot), decode b_Mod_end pc = .ok (.ireturn, 1) → narrow .boolean (.int r) = .int r → post r x → Wd dC dI cI cB cJ cZ ad stM kcM 115 A x H → va_S A s.heap H locs → W p l e R s m args below meth c H locs cells slots Q (F0 m pc ls [.int r]))  : ∀ n : Nat, ∀ (l1 : Int32) (l2 : Int32) (x : St) (H : Heap) (locs : List Loc) (ls : Array Slot), wl_Mod_end_21 post n l1 l2 x → Wd dC dI cI cB cJ cZ ad stM kcM 115 A x H → va_S A s.heap H locs → lv_has ls 3 [(0, .ref (ad 0)), (1, .int l1), (2, .int l2)] → W p l e R s m args below meth c H locs cells slots Q (F0 m 21 ls []) := by
  intro n
  induction n with
  | zero => intro l1 l2 x H locs ls  hw; exact hw.elim
  | succ n ih => intro l1 l2 x H locs ls  hw hW hS hl; exact t_Mod_end_21 hx hb hml hown hT hK hN hA hRc hRs hRf hRl hret  ih l1 l2 x H locs ls  hw hW hS hl
set_option maxRecDepth 100000 in
set_option maxHeartbeats 4000000 in
set_option maxRecDepth 100000 in
theorem t_Mod_end_17 {p : Program} {l : Launch} {e : Env} {R : Room} {s : State} {m : MethodId} {args : Array Value} {below : List Frame} {meth : Method} {c : Code} {cells slots : Nat} {Q : State → Prop} {dC : Nat → ClassId} {dI : Nat → Nat → Nat} {cI cB cJ cZ : ClassId} {A : Nat → Prop} {ad : Nat → Nat} {post : Int32 → St → Prop} (hx : p.tables.exec = Jvm.exec) (hb : c.code = b_Mod_end) (hml : c.maxLocals = 3) (hown : s.vm.findClass R_Mod = some m.cls) (hT : ∀ w ∈ TG, w.before args s = true) (hK : va_K (dC, dI) CL (TY cI cB cJ cZ) s) (hN : NW s) (hA : ∀ q : Nat, s.heap.size ≤ q → A q) (hRc : cells ≤ R.cells) (hRs : slots ≤ R.slots) (hRf : 0 ≤ R.frames) (hRl : 0 ≤ R.locals) (hret : ∀ (r : Int32) (x : St) (H : Heap) (locs : List Loc) (pc : Nat) (ls : Array Slot), decode b_Mod_end pc = .ok (.ireturn, 1) → narrow .boolean (.int r) = .int r → post r x → Wd dC dI cI cB cJ cZ ad stM kcM 115 A x H → va_S A s.heap H locs → W p l e R s m args below meth c H locs cells slots Q (F0 m pc ls [.int r]))  : ∀ (l1 : Int32) (x : St) (H : Heap) (locs : List Loc) (ls : Array Slot), j_Mod_end_17 post l1 x → Wd dC dI cI cB cJ cZ ad stM kcM 115 A x H → va_S A s.heap H locs → lv_has ls 3 [(0, .ref (ad 0)), (1, .int l1)] → W p l e R s m args below meth c H locs cells slots Q (F0 m 17 ls []) := by
  intro l1 x H locs ls  hw hW hS hl
  unfold j_Mod_end_17 at hw
  refine lv_iconst (v := 0) hx hb d_Mod_end_17 (by decide) ?_
  exact hret 0 x H locs 18 ls d_Mod_end_18 rfl hw hW hS
set_option maxRecDepth 100000 in
set_option maxHeartbeats 4000000 in
set_option maxRecDepth 100000 in
theorem t_Mod_end_e {p : Program} {l : Launch} {e : Env} {R : Room} {s : State} {m : MethodId} {args : Array Value} {below : List Frame} {meth : Method} {c : Code} {cells slots : Nat} {Q : State → Prop} {dC : Nat → ClassId} {dI : Nat → Nat → Nat} {cI cB cJ cZ : ClassId} {A : Nat → Prop} {ad : Nat → Nat} {post : Int32 → St → Prop} (hx : p.tables.exec = Jvm.exec) (hb : c.code = b_Mod_end) (hml : c.maxLocals = 3) (hown : s.vm.findClass R_Mod = some m.cls) (hT : ∀ w ∈ TG, w.before args s = true) (hK : va_K (dC, dI) CL (TY cI cB cJ cZ) s) (hN : NW s) (hA : ∀ q : Nat, s.heap.size ≤ q → A q) (hRc : cells ≤ R.cells) (hRs : slots ≤ R.slots) (hRf : 0 ≤ R.frames) (hRl : 0 ≤ R.locals) (hret : ∀ (r : Int32) (x : St) (H : Heap) (locs : List Loc) (pc : Nat) (ls : Array Slot), decode b_Mod_end pc = .ok (.ireturn, 1) → narrow .boolean (.int r) = .int r → post r x → Wd dC dI cI cB cJ cZ ad stM kcM 115 A x H → va_S A s.heap H locs → W p l e R s m args below meth c H locs cells slots Q (F0 m pc ls [.int r])) : ∀ (l1 : Int32) (x : St) (H : Heap) (locs : List Loc) (ls : Array Slot), wp_Mod_end post l1 x → Wd dC dI cI cB cJ cZ ad stM kcM 115 A x H → va_S A s.heap H locs → lv_has ls 3 [(0, .ref (ad 0)), (1, .int l1)] → W p l e R s m args below meth c H locs cells slots Q (F0 m 0 ls []) := by
  intro l1 x H locs ls  hw hW hS hl
  unfold wp_Mod_end at hw
  refine lv_aload_n hx hb d_Mod_end_0 rfl (lv_at hl 0 rfl) ?_
  refine lv_iconst (v := 0) hx hb d_Mod_end_1 (by decide) ?_
  refine w_puti (ty := .int) (k := 0) (t := 12) (C := R_Mod) (T := F_Mod) (N := 167) hx hb hT hown hK hW hS ko_0.1 ko_0.2 (by decide) in_Mod t_Mod t_Mod_ok n_Mod rfl rfl (by decide) rfl fr_Mod_0 w_8_176 (by decide +kernel) rfl rfl d_Mod_end_2 (fun H locs hW hS => ?_)
  obtain ⟨x14, ex14⟩ : ∃ y : St, y = setI x 0 0 0 := ⟨_, rfl⟩
  rw [← ex14] at hW
  have hw := hw x14 ex14
  refine lv_iload_n hx hb d_Mod_end_5 rfl (lv_at hl 1 rfl) ?_
  refine lv_if_lt (tgt := 17) hx hb d_Mod_end_6 (by decide) (fun c15 => ?_) (fun c15 => ?_)
  · have hw := hw.1 c15
    exact t_Mod_end_17 hx hb hml hown hT hK hN hA hRc hRs hRf hRl hret  l1 x14 H locs ls  hw hW hS (lv_sub hl [0, 1] rfl)
  · have hw := hw.2 c15
    refine lv_iload_n hx hb d_Mod_end_9 rfl (lv_at hl 1 rfl) ?_
    refine lv_aload_n hx hb d_Mod_end_10 rfl (lv_at hl 0 rfl) ?_
    refine w_geti (k := 3) (t := 12) (C := R_Mod) (T := F_Mod) (N := 167) hx hb hT hown hK hW ko_0.1 ko_0.2 (by decide) in_Mod rfl rfl (by decide) rfl fr_Mod_3 w_8_179 d_Mod_end_11 ?_
    refine lv_icmp_le (tgt := 19) hx hb d_Mod_end_14 (by decide) (fun c16 => ?_) (fun c16 => ?_)
    · have hw := hw.1 c16
      refine lv_iconst (v := 0) hx hb d_Mod_end_19 (by decide) ?_
      refine lv_istore_n (lv' := [(2, .int 0), (0, .ref (ad 0)), (1, .int l1)]) hx hb d_Mod_end_20 rfl hl (by decide) rfl (fun ls hl => ?_)
      obtain ⟨n, hw⟩ := hw
      exact tl_Mod_end_21 hx hb hml hown hT hK hN hA hRc hRs hRf hRl hret  n l1 0 x14 H locs ls  hw hW hS (lv_sub hl [1, 2, 0] rfl)
    · have hw := hw.2 c16
      exact t_Mod_end_17 hx hb hml hown hT hK hN hA hRc hRs hRf hRl hret  l1 x14 H locs ls  hw hW hS (lv_sub hl [0, 1] rfl)
set_option maxHeartbeats 4000000 in
set_option maxRecDepth 100000 in
theorem k_Mod_end (l : Launch) (dC : Nat → ClassId) (dI : Nat → Nat → Nat) (cI cB cJ cZ : ClassId) (ad : Nat → Nat) (sz : Nat) (l1 : Int32) (x : St) {post : Int32 → St → Prop} (hw : wp_Mod_end post l1 x) : Met l y_Mod_end (wsOf y_Mod_end b_Mod_end 3 (some (.boolean))) ({ frames := 0, cells := 0, slots := 0, locals := 0 }) (va_Pc [.ref (ad 0), .int l1] (PW dC dI cI cB cJ cZ ad stM kcM 115 sz x)) (va_Qi (fun (r : Int32) (y : St) => post r y) (fun y t => Wd dC dI cI cB cJ cZ ad stM kcM 115 (va_A (pic ad stM kcM 115 cI cB cJ cZ x) sz) y t.heap) (va_A (pic ad stM kcM 115 cI cB cJ cZ x) sz)) 0 0 (va_A (pic ad stM kcM 115 cI cB cJ cZ x) sz) := by
  refine Met.ofW (cc := b_Mod_end) (maxL := 3) (ret := some (.boolean)) (by decide) rfl ?_
  intro p e s m args below meth c s₁ B hml hv
  obtain ⟨rfl, hsz, hW0, hK, hN⟩ := hv
  have hx := B.exec
  have hb := B.bytes
  have hr := B.returns
  have hts := atoms_spec B.pre
  have hT : ∀ w ∈ TG, w.before _ s = true := fun w h => hts w (List.mem_cons_of_mem _ h)
  have hown : s.vm.findClass R_Mod = some m.cls := findClass_of_methodNamed B.named
  have hlocks := B.notSynchronized
  subst hsz
  have hW : Wd dC dI cI cB cJ cZ ad stM kcM 115 (va_A (pic ad stM kcM 115 cI cB cJ cZ x) s.heap.size) x s.heap := ⟨hW0.1, hW0.2.1.self (sz := s.heap.size), hW0.2.2⟩
  generalize hAe : va_A (pic ad stM kcM 115 cI cB cJ cZ x) s.heap.size = A at hW ⊢
  have hA : ∀ q : Nat, s.heap.size ≤ q → A q := fun q h => by rw [← hAe]; exact Or.inr h
  have hS : va_S A s.heap s.heap [] := va_S.rf
  have hl := lv_entry ([.ref (ad 0), .int l1]) (n := 3) (Nat.le_of_ble_eq_true rfl)
  rw [lg_entry_eq]
  generalize (lg_sl ([.ref (ad 0), .int l1]) ++ List.replicate (3 - (lg_sl ([.ref (ad 0), .int l1])).length) Slot.unset).toArray = ls at hl ⊢
  have hl : lv_has ls 3 [(0, .ref (ad 0)), (1, .int l1)] := hl
  exact t_Mod_end_e hx hb hml hown hT hK hN hA (Nat.le_refl 0) (Nat.le_refl 0) (Nat.le_refl 0) (Nat.le_refl 0) (fun r x H locs pc ls hd hz hp hW hS => W.zret (v := r) (ty := .boolean) hx hb hr hz (fun t ht hM => ⟨⟨r, x, rfl, hp, Wd.back hW ht.symm (fun _ z => z)⟩, hS.F ht⟩) hS.2.2 hd hlocks)  l1 x _ _ ls  hw hW hS hl
set_option maxRecDepth 100000 in
set_option maxHeartbeats 4000000 in
set_option maxRecDepth 100000 in
theorem t_Mod_begins_e {p : Program} {l : Launch} {e : Env} {R : Room} {s : State} {m : MethodId} {args : Array Value} {below : List Frame} {meth : Method} {c : Code} {cells slots : Nat} {Q : State → Prop} {dC : Nat → ClassId} {dI : Nat → Nat → Nat} {cI cB cJ cZ : ClassId} {A : Nat → Prop} {ad : Nat → Nat} {post : St → Prop} (hx : p.tables.exec = Jvm.exec) (hb : c.code = b_Mod_begins) (hml : c.maxLocals = 1) (hown : s.vm.findClass R_Mod = some m.cls) (hT : ∀ w ∈ TG, w.before args s = true) (hK : va_K (dC, dI) CL (TY cI cB cJ cZ) s) (hN : NW s) (hA : ∀ q : Nat, s.heap.size ≤ q → A q) (hRc : cells ≤ R.cells) (hRs : slots ≤ R.slots) (hRf : 0 ≤ R.frames) (hRl : 0 ≤ R.locals) (hret : ∀ (x : St) (H : Heap) (locs : List Loc) (pc : Nat) (ls : Array Slot), decode b_Mod_begins pc = .ok (.return_, 1) → post x → Wd dC dI cI cB cJ cZ ad stM kcM 115 A x H → va_S A s.heap H locs → W p l e R s m args below meth c H locs cells slots Q (F0 m pc ls [])) : ∀  (x : St) (H : Heap) (locs : List Loc) (ls : Array Slot), wp_Mod_begins post  x → Wd dC dI cI cB cJ cZ ad stM kcM 115 A x H → va_S A s.heap H locs → lv_has ls 1 [(0, .ref (ad 0))] → W p l e R s m args below meth c H locs cells slots Q (F0 m 0 ls []) := by
  intro  x H locs ls  hw hW hS hl
  unfold wp_Mod_begins at hw
  refine lv_aload_n hx hb d_Mod_begins_0 rfl (lv_at hl 0 rfl) ?_
  refine lv_aload_n hx hb d_Mod_begins_1 rfl (lv_at hl 0 rfl) ?_
  refine w_geti (k := 4) (t := 12) (C := R_Mod) (T := F_Mod) (N := 167) hx hb hT hown hK hW ko_0.1 ko_0.2 (by decide) in_Mod rfl rfl (by decide) rfl fr_Mod_4 w_8_180 d_Mod_begins_2 ?_
  refine w_puti (ty := .int) (k := 15) (t := 12) (C := R_Mod) (T := F_Mod) (N := 167) hx hb hT hown hK hW hS ko_0.1 ko_0.2 (by decide) in_Mod t_Mod t_Mod_ok n_Mod rfl rfl (by decide) rfl fr_Mod_15 w_8_191 (by decide +kernel) rfl rfl d_Mod_begins_5 (fun H locs hW hS => ?_)
  obtain ⟨x17, ex17⟩ : ∃ y : St, y = setI x 0 15 (fI x 0 4) := ⟨_, rfl⟩
  rw [← ex17] at hW
  have hw := hw x17 ex17
  refine lv_aload_n hx hb d_Mod_begins_8 rfl (lv_at hl 0 rfl) ?_
  refine lv_iconst (v := 0) hx hb d_Mod_begins_9 (by decide) ?_
  refine w_puti (ty := .int) (k := 4) (t := 12) (C := R_Mod) (T := F_Mod) (N := 167) hx hb hT hown hK hW hS ko_0.1 ko_0.2 (by decide) in_Mod t_Mod t_Mod_ok n_Mod rfl rfl (by decide) rfl fr_Mod_4 w_8_180 (by decide +kernel) rfl rfl d_Mod_begins_10 (fun H locs hW hS => ?_)
  obtain ⟨x18, ex18⟩ : ∃ y : St, y = setI x17 0 4 0 := ⟨_, rfl⟩
  rw [← ex18] at hW
  have hw := hw x18 ex18
  refine lv_aload_n hx hb d_Mod_begins_13 rfl (lv_at hl 0 rfl) ?_
  refine lv_iconst (v := 0) hx hb d_Mod_begins_14 (by decide) ?_
  refine w_puti (ty := .int) (k := 16) (t := 12) (C := R_Mod) (T := F_Mod) (N := 167) hx hb hT hown hK hW hS ko_0.1 ko_0.2 (by decide) in_Mod t_Mod t_Mod_ok n_Mod rfl rfl (by decide) rfl fr_Mod_16 w_8_192 (by decide +kernel) rfl rfl d_Mod_begins_15 (fun H locs hW hS => ?_)
  obtain ⟨x19, ex19⟩ : ∃ y : St, y = setI x18 0 16 0 := ⟨_, rfl⟩
  rw [← ex19] at hW
  have hw := hw x19 ex19
  refine lv_aload_n hx hb d_Mod_begins_18 rfl (lv_at hl 0 rfl) ?_
  refine lv_iconst (v := (-1)) hx hb d_Mod_begins_19 (by decide) ?_
  refine w_puti (ty := .int) (k := 17) (t := 12) (C := R_Mod) (T := F_Mod) (N := 167) hx hb hT hown hK hW hS ko_0.1 ko_0.2 (by decide) in_Mod t_Mod t_Mod_ok n_Mod rfl rfl (by decide) rfl fr_Mod_17 w_8_193 (by decide +kernel) rfl rfl d_Mod_begins_20 (fun H locs hW hS => ?_)
  obtain ⟨x20, ex20⟩ : ∃ y : St, y = setI x19 0 17 (-1) := ⟨_, rfl⟩
  rw [← ex20] at hW
  have hw := hw x20 ex20
  exact hret x20 H locs 23 ls d_Mod_begins_23 hw hW hS
set_option maxHeartbeats 4000000 in
set_option maxRecDepth 100000 in
theorem k_Mod_begins (l : Launch) (dC : Nat → ClassId) (dI : Nat → Nat → Nat) (cI cB cJ cZ : ClassId) (ad : Nat → Nat) (sz : Nat)  (x : St) {post : St → Prop} (hw : wp_Mod_begins post  x) : Met l y_Mod_begins (wsOf y_Mod_begins b_Mod_begins 1 (none)) ({ frames := 0, cells := 0, slots := 0, locals := 0 }) (va_Pc [.ref (ad 0)] (PW dC dI cI cB cJ cZ ad stM kcM 115 sz x)) (va_Qv (fun (y : St) => post y) (fun y t => Wd dC dI cI cB cJ cZ ad stM kcM 115 (va_A (pic ad stM kcM 115 cI cB cJ cZ x) sz) y t.heap) (va_A (pic ad stM kcM 115 cI cB cJ cZ x) sz)) 0 0 (va_A (pic ad stM kcM 115 cI cB cJ cZ x) sz) := by
  refine Met.ofW (cc := b_Mod_begins) (maxL := 1) (ret := none) (by decide) rfl ?_
  intro p e s m args below meth c s₁ B hml hv
  obtain ⟨rfl, hsz, hW0, hK, hN⟩ := hv
  have hx := B.exec
  have hb := B.bytes
  have hr := B.returns
  have hts := atoms_spec B.pre
  have hT : ∀ w ∈ TG, w.before _ s = true := fun w h => hts w (List.mem_cons_of_mem _ h)
  have hown : s.vm.findClass R_Mod = some m.cls := findClass_of_methodNamed B.named
  have hlocks := B.notSynchronized
  subst hsz
  have hW : Wd dC dI cI cB cJ cZ ad stM kcM 115 (va_A (pic ad stM kcM 115 cI cB cJ cZ x) s.heap.size) x s.heap := ⟨hW0.1, hW0.2.1.self (sz := s.heap.size), hW0.2.2⟩
  generalize hAe : va_A (pic ad stM kcM 115 cI cB cJ cZ x) s.heap.size = A at hW ⊢
  have hA : ∀ q : Nat, s.heap.size ≤ q → A q := fun q h => by rw [← hAe]; exact Or.inr h
  have hS : va_S A s.heap s.heap [] := va_S.rf
  have hl := lv_entry ([.ref (ad 0)]) (n := 1) (Nat.le_of_ble_eq_true rfl)
  rw [lg_entry_eq]
  generalize (lg_sl ([.ref (ad 0)]) ++ List.replicate (1 - (lg_sl ([.ref (ad 0)])).length) Slot.unset).toArray = ls at hl ⊢
  have hl : lv_has ls 1 [(0, .ref (ad 0))] := hl
  exact t_Mod_begins_e hx hb hml hown hT hK hN hA (Nat.le_refl 0) (Nat.le_refl 0) (Nat.le_refl 0) (Nat.le_refl 0) (fun x H locs pc ls hd hp hW hS => W.vret hx hb hr (fun t ht hM => ⟨⟨x, rfl, hp, Wd.back hW ht.symm (fun _ z => z)⟩, hS.F ht⟩) hS.2.2 hd hlocks)   x _ _ ls  hw hW hS hl
set_option maxRecDepth 100000 in
set_option maxHeartbeats 4000000 in
set_option maxRecDepth 100000 in
theorem t_Mod_look_e {p : Program} {l : Launch} {e : Env} {R : Room} {s : State} {m : MethodId} {args : Array Value} {below : List Frame} {meth : Method} {c : Code} {cells slots : Nat} {Q : State → Prop} {dC : Nat → ClassId} {dI : Nat → Nat → Nat} {cI cB cJ cZ : ClassId} {A : Nat → Prop} {ad : Nat → Nat} {post : Int32 → St → Prop} (hx : p.tables.exec = Jvm.exec) (hb : c.code = b_Mod_look) (hml : c.maxLocals = 1) (hown : s.vm.findClass R_Mod = some m.cls) (hT : ∀ w ∈ TG, w.before args s = true) (hK : va_K (dC, dI) CL (TY cI cB cJ cZ) s) (hN : NW s) (hA : ∀ q : Nat, s.heap.size ≤ q → A q) (hRc : cells ≤ R.cells) (hRs : slots ≤ R.slots) (hRf : 0 ≤ R.frames) (hRl : 0 ≤ R.locals) (hret : ∀ (r : Int32) (x : St) (H : Heap) (locs : List Loc) (pc : Nat) (ls : Array Slot), decode b_Mod_look pc = .ok (.ireturn, 1) → post r x → Wd dC dI cI cB cJ cZ ad stM kcM 115 A x H → va_S A s.heap H locs → W p l e R s m args below meth c H locs cells slots Q (F0 m pc ls [.int r])) : ∀  (x : St) (H : Heap) (locs : List Loc) (ls : Array Slot), wp_Mod_look post  x → Wd dC dI cI cB cJ cZ ad stM kcM 115 A x H → va_S A s.heap H locs → lv_has ls 1 [(0, .ref (ad 0))] → W p l e R s m args below meth c H locs cells slots Q (F0 m 0 ls []) := by
  intro  x H locs ls  hw hW hS hl
  unfold wp_Mod_look at hw
  refine lv_aload_n hx hb d_Mod_look_0 rfl (lv_at hl 0 rfl) ?_
  refine w_geti (k := 16) (t := 12) (C := R_Mod) (T := F_Mod) (N := 167) hx hb hT hown hK hW ko_0.1 ko_0.2 (by decide) in_Mod rfl rfl (by decide) rfl fr_Mod_16 w_8_192 d_Mod_look_1 ?_
  refine lv_aload_n hx hb d_Mod_look_4 rfl (lv_at hl 0 rfl) ?_
  refine w_geti (k := 15) (t := 12) (C := R_Mod) (T := F_Mod) (N := 167) hx hb hT hown hK hW ko_0.1 ko_0.2 (by decide) in_Mod rfl rfl (by decide) rfl fr_Mod_15 w_8_191 d_Mod_look_5 ?_
  refine lv_icmp_ge (tgt := 23) hx hb d_Mod_look_8 (by decide) (fun c21 => ?_) (fun c21 => ?_)
  · have hw := hw.1 c21
    refine lv_iconst (v := (-1)) hx hb d_Mod_look_23 (by decide) ?_
    exact hret (-1) x H locs 24 ls d_Mod_look_24 hw hW hS
  · have hw := hw.2 c21
    refine lv_aload_n hx hb d_Mod_look_11 rfl (lv_at hl 0 rfl) ?_
    refine w_getf (q := 2) (k := 2) (t := 12) (C := R_Mod) (T := F_Mod) (N := 167) hx hb hT hown hK hW ko_0.1 ko_0.2 (by decide) in_Mod rfl rfl (by decide) rfl fr_Mod_2 w_8_178 d_Mod_look_12 rfl ?_
    refine lv_aload_n hx hb d_Mod_look_15 rfl (lv_at hl 0 rfl) ?_
    refine w_geti (k := 16) (t := 12) (C := R_Mod) (T := F_Mod) (N := 167) hx hb hT hown hK hW ko_0.1 ko_0.2 (by decide) in_Mod rfl rfl (by decide) rfl fr_Mod_16 w_8_192 d_Mod_look_16 ?_
    obtain ⟨hi, hw⟩ := hw
    refine w_iald (o := 2) hx hb hK hW ko_2.1 ko_2.2 hi d_Mod_look_19 ?_
    refine lv_goto (tgt := 24) hx hb d_Mod_look_20 (by decide) ?_
    exact hret (rA x 2 (fI x 0 16)) x H locs 24 ls d_Mod_look_24 hw hW hS
set_option maxHeartbeats 4000000 in
set_option maxRecDepth 100000 in
theorem k_Mod_look (l : Launch) (dC : Nat → ClassId) (dI : Nat → Nat → Nat) (cI cB cJ cZ : ClassId) (ad : Nat → Nat) (sz : Nat)  (x : St) {post : Int32 → St → Prop} (hw : wp_Mod_look post  x) : Met l y_Mod_look (wsOf y_Mod_look b_Mod_look 1 (some (.int))) ({ frames := 0, cells := 0, slots := 0, locals := 0 }) (va_Pc [.ref (ad 0)] (PW dC dI cI cB cJ cZ ad stM kcM 115 sz x)) (va_Qi (fun (r : Int32) (y : St) => post r y) (fun y t => Wd dC dI cI cB cJ cZ ad stM kcM 115 (va_A (pic ad stM kcM 115 cI cB cJ cZ x) sz) y t.heap) (va_A (pic ad stM kcM 115 cI cB cJ cZ x) sz)) 0 0 (va_A (pic ad stM kcM 115 cI cB cJ cZ x) sz) := by
  refine Met.ofW (cc := b_Mod_look) (maxL := 1) (ret := some (.int)) (by decide) rfl ?_
  intro p e s m args below meth c s₁ B hml hv
  obtain ⟨rfl, hsz, hW0, hK, hN⟩ := hv
  have hx := B.exec
  have hb := B.bytes
  have hr := B.returns
  have hts := atoms_spec B.pre
  have hT : ∀ w ∈ TG, w.before _ s = true := fun w h => hts w (List.mem_cons_of_mem _ h)
  have hown : s.vm.findClass R_Mod = some m.cls := findClass_of_methodNamed B.named
  have hlocks := B.notSynchronized
  subst hsz
  have hW : Wd dC dI cI cB cJ cZ ad stM kcM 115 (va_A (pic ad stM kcM 115 cI cB cJ cZ x) s.heap.size) x s.heap := ⟨hW0.1, hW0.2.1.self (sz := s.heap.size), hW0.2.2⟩
  generalize hAe : va_A (pic ad stM kcM 115 cI cB cJ cZ x) s.heap.size = A at hW ⊢
  have hA : ∀ q : Nat, s.heap.size ≤ q → A q := fun q h => by rw [← hAe]; exact Or.inr h
  have hS : va_S A s.heap s.heap [] := va_S.rf
  have hl := lv_entry ([.ref (ad 0)]) (n := 1) (Nat.le_of_ble_eq_true rfl)
  rw [lg_entry_eq]
  generalize (lg_sl ([.ref (ad 0)]) ++ List.replicate (1 - (lg_sl ([.ref (ad 0)])).length) Slot.unset).toArray = ls at hl ⊢
  have hl : lv_has ls 1 [(0, .ref (ad 0))] := hl
  exact t_Mod_look_e hx hb hml hown hT hK hN hA (Nat.le_refl 0) (Nat.le_refl 0) (Nat.le_refl 0) (Nat.le_refl 0) (fun r x H locs pc ls hd hp hW hS => W.iret (v := r) hx hb hr (fun t ht hM => ⟨⟨r, x, rfl, hp, Wd.back hW ht.symm (fun _ z => z)⟩, hS.F ht⟩) hS.2.2 hd hlocks)   x _ _ ls  hw hW hS hl
set_option maxRecDepth 100000 in
set_option maxHeartbeats 4000000 in
set_option maxRecDepth 100000 in
theorem t_Mod_blanks_18 {p : Program} {l : Launch} {e : Env} {R : Room} {s : State} {m : MethodId} {args : Array Value} {below : List Frame} {meth : Method} {c : Code} {cells slots : Nat} {Q : State → Prop} {dC : Nat → ClassId} {dI : Nat → Nat → Nat} {cI cB cJ cZ : ClassId} {A : Nat → Prop} {ad : Nat → Nat} {post : St → Prop} {rec0 : St → Prop} (hx : p.tables.exec = Jvm.exec) (hb : c.code = b_Mod_blanks) (hml : c.maxLocals = 1) (hown : s.vm.findClass R_Mod = some m.cls) (hT : ∀ w ∈ TG, w.before args s = true) (hK : va_K (dC, dI) CL (TY cI cB cJ cZ) s) (hN : NW s) (hA : ∀ q : Nat, s.heap.size ≤ q → A q) (hRc : cells ≤ R.cells) (hRs : slots ≤ R.slots) (hRf : 1 ≤ R.frames) (hRl : 20 ≤ R.locals) (hret : ∀ (x : St) (H : Heap) (locs : List Loc) (pc : Nat) (ls : Array Slot), decode b_Mod_blanks pc = .ok (.return_, 1) → post x → Wd dC dI cI cB cJ cZ ad stM kcM 115 A x H → va_S A s.heap H locs → W p l e R s m args below meth c H locs cells slots Q (F0 m pc ls [])) (hrec0 : ∀  (x : St) (H : Heap) (locs : List Loc) (ls : Array Slot), rec0  x → Wd dC dI cI cB cJ cZ ad stM kcM 115 A x H → va_S A s.heap H locs → lv_has ls 1 [(0, .ref (ad 0))] → W p l e R s m args below meth c H locs cells slots Q (F0 m 0 ls [])) : ∀  (x : St) (H : Heap) (locs : List Loc) (ls : Array Slot), j_Mod_blanks_18 post rec0  x → Wd dC dI cI cB cJ cZ ad stM kcM 115 A x H → va_S A s.heap H locs → lv_has ls 1 [(0, .ref (ad 0))] → W p l e R s m args below meth c H locs cells slots Q (F0 m 18 ls []) := by
  intro  x H locs ls  hw hW hS hl
  unfold j_Mod_blanks_18 at hw
  refine lv_aload_n hx hb d_Mod_blanks_18 rfl (lv_at hl 0 rfl) ?_
  refine lv_dup hx hb d_Mod_blanks_19 rfl ?_
  refine w_geti (k := 16) (t := 12) (C := R_Mod) (T := F_Mod) (N := 167) hx hb hT hown hK hW ko_0.1 ko_0.2 (by decide) in_Mod rfl rfl (by decide) rfl fr_Mod_16 w_8_192 d_Mod_blanks_20 ?_
  refine lv_iconst (v := 1) hx hb d_Mod_blanks_23 (by decide) ?_
  refine lv_iadd hx hb d_Mod_blanks_24 ?_
  refine w_puti (ty := .int) (k := 16) (t := 12) (C := R_Mod) (T := F_Mod) (N := 167) hx hb hT hown hK hW hS ko_0.1 ko_0.2 (by decide) in_Mod t_Mod t_Mod_ok n_Mod rfl rfl (by decide) rfl fr_Mod_16 w_8_192 (by decide +kernel) rfl rfl d_Mod_blanks_25 (fun H locs hW hS => ?_)
  obtain ⟨x22, ex22⟩ : ∃ y : St, y = setI x 0 16 ((fI x 0 16) + 1) := ⟨_, rfl⟩
  rw [← ex22] at hW
  have hw := hw x22 ex22
  refine lv_goto (tgt := 0) hx hb d_Mod_blanks_28 (by decide) ?_
  exact hrec0  x22 H locs ls  hw hW hS (lv_sub hl [0] rfl)
set_option maxRecDepth 100000 in
set_option maxHeartbeats 4000000 in
set_option maxRecDepth 100000 in
theorem t_Mod_blanks_0 {p : Program} {l : Launch} {e : Env} {R : Room} {s : State} {m : MethodId} {args : Array Value} {below : List Frame} {meth : Method} {c : Code} {cells slots : Nat} {Q : State → Prop} {dC : Nat → ClassId} {dI : Nat → Nat → Nat} {cI cB cJ cZ : ClassId} {A : Nat → Prop} {ad : Nat → Nat} {post : St → Prop} {rec0 : St → Prop} (hx : p.tables.exec = Jvm.exec) (hb : c.code = b_Mod_blanks) (hml : c.maxLocals = 1) (hown : s.vm.findClass R_Mod = some m.cls) (hT : ∀ w ∈ TG, w.before args s = true) (hK : va_K (dC, dI) CL (TY cI cB cJ cZ) s) (hN : NW s) (hA : ∀ q : Nat, s.heap.size ≤ q → A q) (hRc : cells ≤ R.cells) (hRs : slots ≤ R.slots) (hRf : 1 ≤ R.frames) (hRl : 20 ≤ R.locals) (hret : ∀ (x : St) (H : Heap) (locs : List Loc) (pc : Nat) (ls : Array Slot), decode b_Mod_blanks pc = .ok (.return_, 1) → post x → Wd dC dI cI cB cJ cZ ad stM kcM 115 A x H → va_S A s.heap H locs → W p l e R s m args below meth c H locs cells slots Q (F0 m pc ls [])) (hrec0 : ∀  (x : St) (H : Heap) (locs : List Loc) (ls : Array Slot), rec0  x → Wd dC dI cI cB cJ cZ ad stM kcM 115 A x H → va_S A s.heap H locs → lv_has ls 1 [(0, .ref (ad 0))] → W p l e R s m args below meth c H locs cells slots Q (F0 m 0 ls [])) : ∀  (x : St) (H : Heap) (locs : List Loc) (ls : Array Slot), j_Mod_blanks_0 post rec0  x → Wd dC dI cI cB cJ cZ ad stM kcM 115 A x H → va_S A s.heap H locs → lv_has ls 1 [(0, .ref (ad 0))] → W p l e R s m args below meth c H locs cells slots Q (F0 m 0 ls []) := by
  intro  x H locs ls  hw hW hS hl
  unfold j_Mod_blanks_0 at hw
  refine lv_aload_n hx hb d_Mod_blanks_0 rfl (lv_at hl 0 rfl) ?_
  have hF := hW.free hS hA
  refine va_calli (va_runV (C := R_Mod) (As := []) (rest := []) ⟨hx, hb, hml, hown, hT⟩ (k_Mod_look l dC dI cI cB cJ cZ ad H.size  x  hw) ⟨callB_of 0 hT (gwt_in w_10_234) rfl rfl rfl (hT _ w_1_15) (hT _ w_10_231) (by decide +kernel) ⟨Nat.le_trans (Nat.le_of_ble_eq_true rfl) hRf, Nat.le_trans (Nat.le_of_ble_eq_true rfl) hRl⟩, hT _ w_10_233, hT _ ws_112⟩ ⟨PW.blind, va_recv hK hW.1 (ci := 12) (q0 := 0) rfl (pic_obj ko_0.1 ko_0.2 (by decide)), PW.at _ hW hK hN⟩ rfl rfl hl.1 rfl (lv_room (Nat.le_of_ble_eq_true rfl)) d_Mod_blanks_1 ⟨hRc, hRs⟩) hS (fun q _ h => hF q h) hF (fun r24 x23 t H locs ht hvm hw hB hz1 hk1 hS => ?_)
  have hW := Wd.back hB ht hF
  clear hB ht hF hz1 hk1 hvm
  refine lv_bipush (v := 32) hx hb d_Mod_blanks_4 (by decide) ?_
  refine lv_icmp_eq (tgt := 18) hx hb d_Mod_blanks_6 (by decide) (fun c25 => ?_) (fun c25 => ?_)
  · have hw := hw.1 c25
    exact t_Mod_blanks_18 hx hb hml hown hT hK hN hA hRc hRs hRf hRl hret hrec0  x23 H locs ls  hw hW hS (lv_sub hl [0] rfl)
  · have hw := hw.2 c25
    refine lv_aload_n hx hb d_Mod_blanks_9 rfl (lv_at hl 0 rfl) ?_
    have hF := hW.free hS hA
    refine va_calli (va_runV (C := R_Mod) (As := []) (rest := []) ⟨hx, hb, hml, hown, hT⟩ (k_Mod_look l dC dI cI cB cJ cZ ad H.size  x23  hw) ⟨callB_of 0 hT (gwt_in w_10_234) rfl rfl rfl (hT _ w_1_15) (hT _ w_10_231) (by decide +kernel) ⟨Nat.le_trans (Nat.le_of_ble_eq_true rfl) hRf, Nat.le_trans (Nat.le_of_ble_eq_true rfl) hRl⟩, hT _ w_10_233, hT _ ws_112⟩ ⟨PW.blind, va_recv hK hW.1 (ci := 12) (q0 := 0) rfl (pic_obj ko_0.1 ko_0.2 (by decide)), PW.at _ hW hK hN⟩ rfl rfl hl.1 rfl (lv_room (Nat.le_of_ble_eq_true rfl)) d_Mod_blanks_10 ⟨hRc, hRs⟩) hS (fun q _ h => hF q h) hF (fun r27 x26 t H locs ht hvm hw hB hz1 hk1 hS => ?_)
    have hW := Wd.back hB ht hF
    clear hB ht hF hz1 hk1 hvm
    refine lv_bipush (v := 10) hx hb d_Mod_blanks_13 (by decide) ?_
    refine lv_icmp_ne (tgt := 31) hx hb d_Mod_blanks_15 (by decide) (fun c28 => ?_) (fun c28 => ?_)
    · have hw := hw.1 c28
      exact hret x26 H locs 31 ls d_Mod_blanks_31 hw hW hS
    · have hw := hw.2 c28
      exact t_Mod_blanks_18 hx hb hml hown hT hK hN hA hRc hRs hRf hRl hret hrec0  x26 H locs ls  hw hW hS (lv_sub hl [0] rfl)
set_option maxHeartbeats 4000000 in
set_option maxRecDepth 100000 in
theorem tl_Mod_blanks_0 {p : Program} {l : Launch} {e : Env} {R : Room} {s : State} {m : MethodId} {args : Array Value} {below : List Frame} {meth : Method} {c : Code} {cells slots : Nat} {Q : State → Prop} {dC : Nat → ClassId} {dI : Nat → Nat → Nat} {cI cB cJ cZ : ClassId} {A : Nat → Prop} {ad : Nat → Nat} {post : St → Prop} (hx : p.tables.exec = Jvm.exec) (hb : c.code = b_Mod_blanks) (hml : c.maxLocals = 1) (hown : s.vm.findClass R_Mod = some m.cls) (hT : ∀ w ∈ TG, w.before args s = true) (hK : va_K (dC, dI) CL (TY cI cB cJ cZ) s) (hN : NW s) (hA : ∀ q : Nat, s.heap.size ≤ q → A q) (hRc : cells ≤ R.cells) (hRs : slots ≤ R.slots) (hRf : 1 ≤ R.frames) (hRl : 20 ≤ R.locals) (hret : ∀ (x : St) (H : Heap) (locs : List Loc) (pc : Nat) (ls : Array Slot), decode b_Mod_blanks pc = .ok (.return_, 1) → post x → Wd dC dI cI cB cJ cZ ad stM kcM 115 A x H → va_S A s.heap H locs → W p l e R s m args below meth c H locs cells slots Q (F0 m pc ls []))  : ∀ n : Nat, ∀  (x : St) (H : Heap) (locs : List Loc) (ls : Array Slot), wl_Mod_blanks_0 post n  x → Wd dC dI cI cB cJ cZ ad stM kcM 115 A x H → va_S A s.heap H locs → lv_has ls 1 [(0, .ref (ad 0))] → W p l e R s m args below meth c H locs cells slots Q (F0 m 0 ls []) := by
  intro n
  induction n with
  | zero => intro  x H locs ls  hw; exact hw.elim
  | succ n ih => intro  x H locs ls  hw hW hS hl; exact t_Mod_blanks_0 hx hb hml hown hT hK hN hA hRc hRs hRf hRl hret  ih  x H locs ls  hw hW hS hl
set_option maxRecDepth 100000 in
set_option maxHeartbeats 4000000 in
set_option maxRecDepth 100000 in
theorem t_Mod_blanks_e {p : Program} {l : Launch} {e : Env} {R : Room} {s : State} {m : MethodId} {args : Array Value} {below : List Frame} {meth : Method} {c : Code} {cells slots : Nat} {Q : State → Prop} {dC : Nat → ClassId} {dI : Nat → Nat → Nat} {cI cB cJ cZ : ClassId} {A : Nat → Prop} {ad : Nat → Nat} {post : St → Prop} (hx : p.tables.exec = Jvm.exec) (hb : c.code = b_Mod_blanks) (hml : c.maxLocals = 1) (hown : s.vm.findClass R_Mod = some m.cls) (hT : ∀ w ∈ TG, w.before args s = true) (hK : va_K (dC, dI) CL (TY cI cB cJ cZ) s) (hN : NW s) (hA : ∀ q : Nat, s.heap.size ≤ q → A q) (hRc : cells ≤ R.cells) (hRs : slots ≤ R.slots) (hRf : 1 ≤ R.frames) (hRl : 20 ≤ R.locals) (hret : ∀ (x : St) (H : Heap) (locs : List Loc) (pc : Nat) (ls : Array Slot), decode b_Mod_blanks pc = .ok (.return_, 1) → post x → Wd dC dI cI cB cJ cZ ad stM kcM 115 A x H → va_S A s.heap H locs → W p l e R s m args below meth c H locs cells slots Q (F0 m pc ls [])) : ∀  (x : St) (H : Heap) (locs : List Loc) (ls : Array Slot), wp_Mod_blanks post  x → Wd dC dI cI cB cJ cZ ad stM kcM 115 A x H → va_S A s.heap H locs → lv_has ls 1 [(0, .ref (ad 0))] → W p l e R s m args below meth c H locs cells slots Q (F0 m 0 ls []) := by
  intro  x H locs ls  hw hW hS hl
  unfold wp_Mod_blanks at hw
  obtain ⟨n, hw⟩ := hw
  exact tl_Mod_blanks_0 hx hb hml hown hT hK hN hA hRc hRs hRf hRl hret  n  x H locs ls  hw hW hS (lv_sub hl [0] rfl)
set_option maxHeartbeats 4000000 in
set_option maxRecDepth 100000 in
theorem k_Mod_blanks (l : Launch) (dC : Nat → ClassId) (dI : Nat → Nat → Nat) (cI cB cJ cZ : ClassId) (ad : Nat → Nat) (sz : Nat)  (x : St) {post : St → Prop} (hw : wp_Mod_blanks post  x) : Met l y_Mod_blanks (wsOf y_Mod_blanks b_Mod_blanks 1 (none)) ({ frames := 1, cells := 0, slots := 0, locals := 20 }) (va_Pc [.ref (ad 0)] (PW dC dI cI cB cJ cZ ad stM kcM 115 sz x)) (va_Qv (fun (y : St) => post y) (fun y t => Wd dC dI cI cB cJ cZ ad stM kcM 115 (va_A (pic ad stM kcM 115 cI cB cJ cZ x) sz) y t.heap) (va_A (pic ad stM kcM 115 cI cB cJ cZ x) sz)) 0 0 (va_A (pic ad stM kcM 115 cI cB cJ cZ x) sz) := by
  refine Met.ofW (cc := b_Mod_blanks) (maxL := 1) (ret := none) (by decide) rfl ?_
  intro p e s m args below meth c s₁ B hml hv
  obtain ⟨rfl, hsz, hW0, hK, hN⟩ := hv
  have hx := B.exec
  have hb := B.bytes
  have hr := B.returns
  have hts := atoms_spec B.pre
  have hT : ∀ w ∈ TG, w.before _ s = true := fun w h => hts w (List.mem_cons_of_mem _ h)
  have hown : s.vm.findClass R_Mod = some m.cls := findClass_of_methodNamed B.named
  have hlocks := B.notSynchronized
  subst hsz
  have hW : Wd dC dI cI cB cJ cZ ad stM kcM 115 (va_A (pic ad stM kcM 115 cI cB cJ cZ x) s.heap.size) x s.heap := ⟨hW0.1, hW0.2.1.self (sz := s.heap.size), hW0.2.2⟩
  generalize hAe : va_A (pic ad stM kcM 115 cI cB cJ cZ x) s.heap.size = A at hW ⊢
  have hA : ∀ q : Nat, s.heap.size ≤ q → A q := fun q h => by rw [← hAe]; exact Or.inr h
  have hS : va_S A s.heap s.heap [] := va_S.rf
  have hl := lv_entry ([.ref (ad 0)]) (n := 1) (Nat.le_of_ble_eq_true rfl)
  rw [lg_entry_eq]
  generalize (lg_sl ([.ref (ad 0)]) ++ List.replicate (1 - (lg_sl ([.ref (ad 0)])).length) Slot.unset).toArray = ls at hl ⊢
  have hl : lv_has ls 1 [(0, .ref (ad 0))] := hl
  exact t_Mod_blanks_e hx hb hml hown hT hK hN hA (Nat.le_refl 0) (Nat.le_refl 0) (Nat.le_refl 1) (Nat.le_refl 20) (fun x H locs pc ls hd hp hW hS => W.vret hx hb hr (fun t ht hM => ⟨⟨x, rfl, hp, Wd.back hW ht.symm (fun _ z => z)⟩, hS.F ht⟩) hS.2.2 hd hlocks)   x _ _ ls  hw hW hS hl
set_option maxRecDepth 100000 in
set_option maxHeartbeats 4000000 in
set_option maxRecDepth 100000 in
theorem t_Mod_isLetter_28 {p : Program} {l : Launch} {e : Env} {R : Room} {s : State} {m : MethodId} {args : Array Value} {below : List Frame} {meth : Method} {c : Code} {cells slots : Nat} {Q : State → Prop} {dC : Nat → ClassId} {dI : Nat → Nat → Nat} {cI cB cJ cZ : ClassId} {A : Nat → Prop} {ad : Nat → Nat} {post : Int32 → St → Prop} (hx : p.tables.exec = Jvm.exec) (hb : c.code = b_Mod_isLetter) (hml : c.maxLocals = 1) (hown : s.vm.findClass R_Mod = some m.cls) (hT : ∀ w ∈ TG, w.before args s = true) (hK : va_K (dC, dI) CL (TY cI cB cJ cZ) s) (hN : NW s) (hA : ∀ q : Nat, s.heap.size ≤ q → A q) (hRc : cells ≤ R.cells) (hRs : slots ≤ R.slots) (hRf : 0 ≤ R.frames) (hRl : 0 ≤ R.locals) (hret : ∀ (r : Int32) (x : St) (H : Heap) (locs : List Loc) (pc : Nat) (ls : Array Slot), decode b_Mod_isLetter pc = .ok (.ireturn, 1) → narrow .boolean (.int r) = .int r → post r x → Wd dC dI cI cB cJ cZ ad stM kcM 115 A x H → va_S A s.heap H locs → W p l e R s m args below meth c H locs cells slots Q (F0 m pc ls [.int r]))  : ∀ (l0 : Int32) (x : St) (H : Heap) (locs : List Loc) (ls : Array Slot), j_Mod_isLetter_28 post l0 x → Wd dC dI cI cB cJ cZ ad stM kcM 115 A x H → va_S A s.heap H locs → lv_has ls 1 [(0, .int l0)] → W p l e R s m args below meth c H locs cells slots Q (F0 m 28 ls []) := by
  intro l0 x H locs ls  hw hW hS hl
  unfold j_Mod_isLetter_28 at hw
  refine lv_iconst (v := 0) hx hb d_Mod_isLetter_28 (by decide) ?_
  exact hret 0 x H locs 29 ls d_Mod_isLetter_29 rfl hw hW hS
set_option maxRecDepth 100000 in
set_option maxHeartbeats 4000000 in
set_option maxRecDepth 100000 in
theorem t_Mod_isLetter_24 {p : Program} {l : Launch} {e : Env} {R : Room} {s : State} {m : MethodId} {args : Array Value} {below : List Frame} {meth : Method} {c : Code} {cells slots : Nat} {Q : State → Prop} {dC : Nat → ClassId} {dI : Nat → Nat → Nat} {cI cB cJ cZ : ClassId} {A : Nat → Prop} {ad : Nat → Nat} {post : Int32 → St → Prop} (hx : p.tables.exec = Jvm.exec) (hb : c.code = b_Mod_isLetter) (hml : c.maxLocals = 1) (hown : s.vm.findClass R_Mod = some m.cls) (hT : ∀ w ∈ TG, w.before args s = true) (hK : va_K (dC, dI) CL (TY cI cB cJ cZ) s) (hN : NW s) (hA : ∀ q : Nat, s.heap.size ≤ q → A q) (hRc : cells ≤ R.cells) (hRs : slots ≤ R.slots) (hRf : 0 ≤ R.frames) (hRl : 0 ≤ R.locals) (hret : ∀ (r : Int32) (x : St) (H : Heap) (locs : List Loc) (pc : Nat) (ls : Array Slot), decode b_Mod_isLetter pc = .ok (.ireturn, 1) → narrow .boolean (.int r) = .int r → post r x → Wd dC dI cI cB cJ cZ ad stM kcM 115 A x H → va_S A s.heap H locs → W p l e R s m args below meth c H locs cells slots Q (F0 m pc ls [.int r]))  : ∀ (l0 : Int32) (x : St) (H : Heap) (locs : List Loc) (ls : Array Slot), j_Mod_isLetter_24 post l0 x → Wd dC dI cI cB cJ cZ ad stM kcM 115 A x H → va_S A s.heap H locs → lv_has ls 1 [(0, .int l0)] → W p l e R s m args below meth c H locs cells slots Q (F0 m 24 ls []) := by
  intro l0 x H locs ls  hw hW hS hl
  unfold j_Mod_isLetter_24 at hw
  refine lv_iconst (v := 1) hx hb d_Mod_isLetter_24 (by decide) ?_
  refine lv_goto (tgt := 29) hx hb d_Mod_isLetter_25 (by decide) ?_
  exact hret 1 x H locs 29 ls d_Mod_isLetter_29 rfl hw hW hS
set_option maxRecDepth 100000 in
set_option maxHeartbeats 4000000 in
set_option maxRecDepth 100000 in
theorem t_Mod_isLetter_12 {p : Program} {l : Launch} {e : Env} {R : Room} {s : State} {m : MethodId} {args : Array Value} {below : List Frame} {meth : Method} {c : Code} {cells slots : Nat} {Q : State → Prop} {dC : Nat → ClassId} {dI : Nat → Nat → Nat} {cI cB cJ cZ : ClassId} {A : Nat → Prop} {ad : Nat → Nat} {post : Int32 → St → Prop} (hx : p.tables.exec = Jvm.exec) (hb : c.code = b_Mod_isLetter) (hml : c.maxLocals = 1) (hown : s.vm.findClass R_Mod = some m.cls) (hT : ∀ w ∈ TG, w.before args s = true) (hK : va_K (dC, dI) CL (TY cI cB cJ cZ) s) (hN : NW s) (hA : ∀ q : Nat, s.heap.size ≤ q → A q) (hRc : cells ≤ R.cells) (hRs : slots ≤ R.slots) (hRf : 0 ≤ R.frames) (hRl : 0 ≤ R.locals) (hret : ∀ (r : Int32) (x : St) (H : Heap) (locs : List Loc) (pc : Nat) (ls : Array Slot), decode b_Mod_isLetter pc = .ok (.ireturn, 1) → narrow .boolean (.int r) = .int r → post r x → Wd dC dI cI cB cJ cZ ad stM kcM 115 A x H → va_S A s.heap H locs → W p l e R s m args below meth c H locs cells slots Q (F0 m pc ls [.int r]))  : ∀ (l0 : Int32) (x : St) (H : Heap) (locs : List Loc) (ls : Array Slot), j_Mod_isLetter_12 post l0 x → Wd dC dI cI cB cJ cZ ad stM kcM 115 A x H → va_S A s.heap H locs → lv_has ls 1 [(0, .int l0)] → W p l e R s m args below meth c H locs cells slots Q (F0 m 12 ls []) := by
  intro l0 x H locs ls  hw hW hS hl
  unfold j_Mod_isLetter_12 at hw
  refine lv_iload_n hx hb d_Mod_isLetter_12 rfl (lv_at hl 0 rfl) ?_
  refine lv_bipush (v := 65) hx hb d_Mod_isLetter_13 (by decide) ?_
  refine lv_icmp_lt (tgt := 28) hx hb d_Mod_isLetter_15 (by decide) (fun c29 => ?_) (fun c29 => ?_)
  · have hw := hw.1 c29
    exact t_Mod_isLetter_28 hx hb hml hown hT hK hN hA hRc hRs hRf hRl hret  l0 x H locs ls  hw hW hS (lv_sub hl [0] rfl)
  · have hw := hw.2 c29
    refine lv_iload_n hx hb d_Mod_isLetter_18 rfl (lv_at hl 0 rfl) ?_
    refine lv_bipush (v := 90) hx hb d_Mod_isLetter_19 (by decide) ?_
    refine lv_icmp_gt (tgt := 28) hx hb d_Mod_isLetter_21 (by decide) (fun c30 => ?_) (fun c30 => ?_)
    · have hw := hw.1 c30
      exact t_Mod_isLetter_28 hx hb hml hown hT hK hN hA hRc hRs hRf hRl hret  l0 x H locs ls  hw hW hS (lv_sub hl [0] rfl)
    · have hw := hw.2 c30
      exact t_Mod_isLetter_24 hx hb hml hown hT hK hN hA hRc hRs hRf hRl hret  l0 x H locs ls  hw hW hS (lv_sub hl [0] rfl)
set_option maxRecDepth 100000 in
set_option maxHeartbeats 4000000 in
set_option maxRecDepth 100000 in
theorem t_Mod_isLetter_e {p : Program} {l : Launch} {e : Env} {R : Room} {s : State} {m : MethodId} {args : Array Value} {below : List Frame} {meth : Method} {c : Code} {cells slots : Nat} {Q : State → Prop} {dC : Nat → ClassId} {dI : Nat → Nat → Nat} {cI cB cJ cZ : ClassId} {A : Nat → Prop} {ad : Nat → Nat} {post : Int32 → St → Prop} (hx : p.tables.exec = Jvm.exec) (hb : c.code = b_Mod_isLetter) (hml : c.maxLocals = 1) (hown : s.vm.findClass R_Mod = some m.cls) (hT : ∀ w ∈ TG, w.before args s = true) (hK : va_K (dC, dI) CL (TY cI cB cJ cZ) s) (hN : NW s) (hA : ∀ q : Nat, s.heap.size ≤ q → A q) (hRc : cells ≤ R.cells) (hRs : slots ≤ R.slots) (hRf : 0 ≤ R.frames) (hRl : 0 ≤ R.locals) (hret : ∀ (r : Int32) (x : St) (H : Heap) (locs : List Loc) (pc : Nat) (ls : Array Slot), decode b_Mod_isLetter pc = .ok (.ireturn, 1) → narrow .boolean (.int r) = .int r → post r x → Wd dC dI cI cB cJ cZ ad stM kcM 115 A x H → va_S A s.heap H locs → W p l e R s m args below meth c H locs cells slots Q (F0 m pc ls [.int r])) : ∀ (l0 : Int32) (x : St) (H : Heap) (locs : List Loc) (ls : Array Slot), wp_Mod_isLetter post l0 x → Wd dC dI cI cB cJ cZ ad stM kcM 115 A x H → va_S A s.heap H locs → lv_has ls 1 [(0, .int l0)] → W p l e R s m args below meth c H locs cells slots Q (F0 m 0 ls []) := by
  intro l0 x H locs ls  hw hW hS hl
  unfold wp_Mod_isLetter at hw
  refine lv_iload_n hx hb d_Mod_isLetter_0 rfl (lv_at hl 0 rfl) ?_
  refine lv_bipush (v := 97) hx hb d_Mod_isLetter_1 (by decide) ?_
  refine lv_icmp_lt (tgt := 12) hx hb d_Mod_isLetter_3 (by decide) (fun c31 => ?_) (fun c31 => ?_)
  · have hw := hw.1 c31
    exact t_Mod_isLetter_12 hx hb hml hown hT hK hN hA hRc hRs hRf hRl hret  l0 x H locs ls  hw hW hS (lv_sub hl [0] rfl)
  · have hw := hw.2 c31
    refine lv_iload_n hx hb d_Mod_isLetter_6 rfl (lv_at hl 0 rfl) ?_
    refine lv_bipush (v := 122) hx hb d_Mod_isLetter_7 (by decide) ?_
    refine lv_icmp_le (tgt := 24) hx hb d_Mod_isLetter_9 (by decide) (fun c32 => ?_) (fun c32 => ?_)
    · have hw := hw.1 c32
      exact t_Mod_isLetter_24 hx hb hml hown hT hK hN hA hRc hRs hRf hRl hret  l0 x H locs ls  hw hW hS (lv_sub hl [0] rfl)
    · have hw := hw.2 c32
      exact t_Mod_isLetter_12 hx hb hml hown hT hK hN hA hRc hRs hRf hRl hret  l0 x H locs ls  hw hW hS (lv_sub hl [0] rfl)
set_option maxHeartbeats 4000000 in
set_option maxRecDepth 100000 in
theorem k_Mod_isLetter (l : Launch) (dC : Nat → ClassId) (dI : Nat → Nat → Nat) (cI cB cJ cZ : ClassId) (ad : Nat → Nat) (sz : Nat) (l0 : Int32) (x : St) {post : Int32 → St → Prop} (hw : wp_Mod_isLetter post l0 x) : Met l y_Mod_isLetter (wsOf y_Mod_isLetter b_Mod_isLetter 1 (some (.boolean))) ({ frames := 0, cells := 0, slots := 0, locals := 0 }) (va_Pc [.int l0] (PW dC dI cI cB cJ cZ ad stM kcM 115 sz x)) (va_Qi (fun (r : Int32) (y : St) => post r y) (fun y t => Wd dC dI cI cB cJ cZ ad stM kcM 115 (va_A (pic ad stM kcM 115 cI cB cJ cZ x) sz) y t.heap) (va_A (pic ad stM kcM 115 cI cB cJ cZ x) sz)) 0 0 (va_A (pic ad stM kcM 115 cI cB cJ cZ x) sz) := by
  refine Met.ofW (cc := b_Mod_isLetter) (maxL := 1) (ret := some (.boolean)) (by decide) rfl ?_
  intro p e s m args below meth c s₁ B hml hv
  obtain ⟨rfl, hsz, hW0, hK, hN⟩ := hv
  have hx := B.exec
  have hb := B.bytes
  have hr := B.returns
  have hts := atoms_spec B.pre
  have hT : ∀ w ∈ TG, w.before _ s = true := fun w h => hts w (List.mem_cons_of_mem _ h)
  have hown : s.vm.findClass R_Mod = some m.cls := findClass_of_methodNamed B.named
  have hlocks := B.notSynchronized
  subst hsz
  have hW : Wd dC dI cI cB cJ cZ ad stM kcM 115 (va_A (pic ad stM kcM 115 cI cB cJ cZ x) s.heap.size) x s.heap := ⟨hW0.1, hW0.2.1.self (sz := s.heap.size), hW0.2.2⟩
  generalize hAe : va_A (pic ad stM kcM 115 cI cB cJ cZ x) s.heap.size = A at hW ⊢
  have hA : ∀ q : Nat, s.heap.size ≤ q → A q := fun q h => by rw [← hAe]; exact Or.inr h
  have hS : va_S A s.heap s.heap [] := va_S.rf
  have hl := lv_entry ([.int l0]) (n := 1) (Nat.le_of_ble_eq_true rfl)
  rw [lg_entry_eq]
  generalize (lg_sl ([.int l0]) ++ List.replicate (1 - (lg_sl ([.int l0])).length) Slot.unset).toArray = ls at hl ⊢
  have hl : lv_has ls 1 [(0, .int l0)] := hl
  exact t_Mod_isLetter_e hx hb hml hown hT hK hN hA (Nat.le_refl 0) (Nat.le_refl 0) (Nat.le_refl 0) (Nat.le_refl 0) (fun r x H locs pc ls hd hz hp hW hS => W.zret (v := r) (ty := .boolean) hx hb hr hz (fun t ht hM => ⟨⟨r, x, rfl, hp, Wd.back hW ht.symm (fun _ z => z)⟩, hS.F ht⟩) hS.2.2 hd hlocks)  l0 x _ _ ls  hw hW hS hl
set_option maxRecDepth 100000 in
set_option maxHeartbeats 4000000 in
set_option maxRecDepth 100000 in
theorem t_Mod_isDigit_16 {p : Program} {l : Launch} {e : Env} {R : Room} {s : State} {m : MethodId} {args : Array Value} {below : List Frame} {meth : Method} {c : Code} {cells slots : Nat} {Q : State → Prop} {dC : Nat → ClassId} {dI : Nat → Nat → Nat} {cI cB cJ cZ : ClassId} {A : Nat → Prop} {ad : Nat → Nat} {post : Int32 → St → Prop} (hx : p.tables.exec = Jvm.exec) (hb : c.code = b_Mod_isDigit) (hml : c.maxLocals = 1) (hown : s.vm.findClass R_Mod = some m.cls) (hT : ∀ w ∈ TG, w.before args s = true) (hK : va_K (dC, dI) CL (TY cI cB cJ cZ) s) (hN : NW s) (hA : ∀ q : Nat, s.heap.size ≤ q → A q) (hRc : cells ≤ R.cells) (hRs : slots ≤ R.slots) (hRf : 0 ≤ R.frames) (hRl : 0 ≤ R.locals) (hret : ∀ (r : Int32) (x : St) (H : Heap) (locs : List Loc) (pc : Nat) (ls : Array Slot), decode b_Mod_isDigit pc = .ok (.ireturn, 1) → narrow .boolean (.int r) = .int r → post r x → Wd dC dI cI cB cJ cZ ad stM kcM 115 A x H → va_S A s.heap H locs → W p l e R s m args below meth c H locs cells slots Q (F0 m pc ls [.int r]))  : ∀ (l0 : Int32) (x : St) (H : Heap) (locs : List Loc) (ls : Array Slot), j_Mod_isDigit_16 post l0 x → Wd dC dI cI cB cJ cZ ad stM kcM 115 A x H → va_S A s.heap H locs → lv_has ls 1 [(0, .int l0)] → W p l e R s m args below meth c H locs cells slots Q (F0 m 16 ls []) := by
  intro l0 x H locs ls  hw hW hS hl
  unfold j_Mod_isDigit_16 at hw
  refine lv_iconst (v := 0) hx hb d_Mod_isDigit_16 (by decide) ?_
  exact hret 0 x H locs 17 ls d_Mod_isDigit_17 rfl hw hW hS
set_option maxRecDepth 100000 in
set_option maxHeartbeats 4000000 in
set_option maxRecDepth 100000 in
theorem t_Mod_isDigit_e {p : Program} {l : Launch} {e : Env} {R : Room} {s : State} {m : MethodId} {args : Array Value} {below : List Frame} {meth : Method} {c : Code} {cells slots : Nat} {Q : State → Prop} {dC : Nat → ClassId} {dI : Nat → Nat → Nat} {cI cB cJ cZ : ClassId} {A : Nat → Prop} {ad : Nat → Nat} {post : Int32 → St → Prop} (hx : p.tables.exec = Jvm.exec) (hb : c.code = b_Mod_isDigit) (hml : c.maxLocals = 1) (hown : s.vm.findClass R_Mod = some m.cls) (hT : ∀ w ∈ TG, w.before args s = true) (hK : va_K (dC, dI) CL (TY cI cB cJ cZ) s) (hN : NW s) (hA : ∀ q : Nat, s.heap.size ≤ q → A q) (hRc : cells ≤ R.cells) (hRs : slots ≤ R.slots) (hRf : 0 ≤ R.frames) (hRl : 0 ≤ R.locals) (hret : ∀ (r : Int32) (x : St) (H : Heap) (locs : List Loc) (pc : Nat) (ls : Array Slot), decode b_Mod_isDigit pc = .ok (.ireturn, 1) → narrow .boolean (.int r) = .int r → post r x → Wd dC dI cI cB cJ cZ ad stM kcM 115 A x H → va_S A s.heap H locs → W p l e R s m args below meth c H locs cells slots Q (F0 m pc ls [.int r])) : ∀ (l0 : Int32) (x : St) (H : Heap) (locs : List Loc) (ls : Array Slot), wp_Mod_isDigit post l0 x → Wd dC dI cI cB cJ cZ ad stM kcM 115 A x H → va_S A s.heap H locs → lv_has ls 1 [(0, .int l0)] → W p l e R s m args below meth c H locs cells slots Q (F0 m 0 ls []) := by
  intro l0 x H locs ls  hw hW hS hl
  unfold wp_Mod_isDigit at hw
  refine lv_iload_n hx hb d_Mod_isDigit_0 rfl (lv_at hl 0 rfl) ?_
  refine lv_bipush (v := 48) hx hb d_Mod_isDigit_1 (by decide) ?_
  refine lv_icmp_lt (tgt := 16) hx hb d_Mod_isDigit_3 (by decide) (fun c33 => ?_) (fun c33 => ?_)
  · have hw := hw.1 c33
    exact t_Mod_isDigit_16 hx hb hml hown hT hK hN hA hRc hRs hRf hRl hret  l0 x H locs ls  hw hW hS (lv_sub hl [0] rfl)
  · have hw := hw.2 c33
    refine lv_iload_n hx hb d_Mod_isDigit_6 rfl (lv_at hl 0 rfl) ?_
    refine lv_bipush (v := 57) hx hb d_Mod_isDigit_7 (by decide) ?_
    refine lv_icmp_gt (tgt := 16) hx hb d_Mod_isDigit_9 (by decide) (fun c34 => ?_) (fun c34 => ?_)
    · have hw := hw.1 c34
      exact t_Mod_isDigit_16 hx hb hml hown hT hK hN hA hRc hRs hRf hRl hret  l0 x H locs ls  hw hW hS (lv_sub hl [0] rfl)
    · have hw := hw.2 c34
      refine lv_iconst (v := 1) hx hb d_Mod_isDigit_12 (by decide) ?_
      refine lv_goto (tgt := 17) hx hb d_Mod_isDigit_13 (by decide) ?_
      exact hret 1 x H locs 17 ls d_Mod_isDigit_17 rfl hw hW hS
set_option maxHeartbeats 4000000 in
set_option maxRecDepth 100000 in
theorem k_Mod_isDigit (l : Launch) (dC : Nat → ClassId) (dI : Nat → Nat → Nat) (cI cB cJ cZ : ClassId) (ad : Nat → Nat) (sz : Nat) (l0 : Int32) (x : St) {post : Int32 → St → Prop} (hw : wp_Mod_isDigit post l0 x) : Met l y_Mod_isDigit (wsOf y_Mod_isDigit b_Mod_isDigit 1 (some (.boolean))) ({ frames := 0, cells := 0, slots := 0, locals := 0 }) (va_Pc [.int l0] (PW dC dI cI cB cJ cZ ad stM kcM 115 sz x)) (va_Qi (fun (r : Int32) (y : St) => post r y) (fun y t => Wd dC dI cI cB cJ cZ ad stM kcM 115 (va_A (pic ad stM kcM 115 cI cB cJ cZ x) sz) y t.heap) (va_A (pic ad stM kcM 115 cI cB cJ cZ x) sz)) 0 0 (va_A (pic ad stM kcM 115 cI cB cJ cZ x) sz) := by
  refine Met.ofW (cc := b_Mod_isDigit) (maxL := 1) (ret := some (.boolean)) (by decide) rfl ?_
  intro p e s m args below meth c s₁ B hml hv
  obtain ⟨rfl, hsz, hW0, hK, hN⟩ := hv
  have hx := B.exec
  have hb := B.bytes
  have hr := B.returns
  have hts := atoms_spec B.pre
  have hT : ∀ w ∈ TG, w.before _ s = true := fun w h => hts w (List.mem_cons_of_mem _ h)
  have hown : s.vm.findClass R_Mod = some m.cls := findClass_of_methodNamed B.named
  have hlocks := B.notSynchronized
  subst hsz
  have hW : Wd dC dI cI cB cJ cZ ad stM kcM 115 (va_A (pic ad stM kcM 115 cI cB cJ cZ x) s.heap.size) x s.heap := ⟨hW0.1, hW0.2.1.self (sz := s.heap.size), hW0.2.2⟩
  generalize hAe : va_A (pic ad stM kcM 115 cI cB cJ cZ x) s.heap.size = A at hW ⊢
  have hA : ∀ q : Nat, s.heap.size ≤ q → A q := fun q h => by rw [← hAe]; exact Or.inr h
  have hS : va_S A s.heap s.heap [] := va_S.rf
  have hl := lv_entry ([.int l0]) (n := 1) (Nat.le_of_ble_eq_true rfl)
  rw [lg_entry_eq]
  generalize (lg_sl ([.int l0]) ++ List.replicate (1 - (lg_sl ([.int l0])).length) Slot.unset).toArray = ls at hl ⊢
  have hl : lv_has ls 1 [(0, .int l0)] := hl
  exact t_Mod_isDigit_e hx hb hml hown hT hK hN hA (Nat.le_refl 0) (Nat.le_refl 0) (Nat.le_refl 0) (Nat.le_refl 0) (fun r x H locs pc ls hd hz hp hW hS => W.zret (v := r) (ty := .boolean) hx hb hr hz (fun t ht hM => ⟨⟨r, x, rfl, hp, Wd.back hW ht.symm (fun _ z => z)⟩, hS.F ht⟩) hS.2.2 hd hlocks)  l0 x _ _ ls  hw hW hS hl
set_option maxRecDepth 100000 in
set_option maxHeartbeats 4000000 in
set_option maxRecDepth 100000 in
theorem t_Mod_wordAt_56 {p : Program} {l : Launch} {e : Env} {R : Room} {s : State} {m : MethodId} {args : Array Value} {below : List Frame} {meth : Method} {c : Code} {cells slots : Nat} {Q : State → Prop} {dC : Nat → ClassId} {dI : Nat → Nat → Nat} {cI cB cJ cZ : ClassId} {A : Nat → Prop} {ad : Nat → Nat} {post : Int32 → St → Prop} (hx : p.tables.exec = Jvm.exec) (hb : c.code = b_Mod_wordAt) (hml : c.maxLocals = 3) (hown : s.vm.findClass R_Mod = some m.cls) (hT : ∀ w ∈ TG, w.before args s = true) (hK : va_K (dC, dI) CL (TY cI cB cJ cZ) s) (hN : NW s) (hA : ∀ q : Nat, s.heap.size ≤ q → A q) (hRc : cells ≤ R.cells) (hRs : slots ≤ R.slots) (hRf : 1 ≤ R.frames) (hRl : 20 ≤ R.locals) (hret : ∀ (r : Int32) (x : St) (H : Heap) (locs : List Loc) (pc : Nat) (ls : Array Slot), decode b_Mod_wordAt pc = .ok (.ireturn, 1) → post r x → Wd dC dI cI cB cJ cZ ad stM kcM 115 A x H → va_S A s.heap H locs → W p l e R s m args below meth c H locs cells slots Q (F0 m pc ls [.int r]))  : ∀ (l1 : Int32) (l2 : Int32) (x : St) (H : Heap) (locs : List Loc) (ls : Array Slot), j_Mod_wordAt_56 post l1 l2 x → Wd dC dI cI cB cJ cZ ad stM kcM 115 A x H → va_S A s.heap H locs → lv_has ls 3 [(0, .ref (ad 0)), (1, .int l1), (2, .int l2)] → W p l e R s m args below meth c H locs cells slots Q (F0 m 56 ls []) := by
  intro l1 l2 x H locs ls  hw hW hS hl
  unfold j_Mod_wordAt_56 at hw
  refine lv_iload_n hx hb d_Mod_wordAt_56 rfl (lv_at hl 2 rfl) ?_
  refine lv_iload_n hx hb d_Mod_wordAt_57 rfl (lv_at hl 1 rfl) ?_
  refine lv_isub hx hb d_Mod_wordAt_58 ?_
  exact hret (l2 - l1) x H locs 59 ls d_Mod_wordAt_59 hw hW hS
set_option maxRecDepth 100000 in
set_option maxHeartbeats 4000000 in
set_option maxRecDepth 100000 in
theorem t_Mod_wordAt_50 {p : Program} {l : Launch} {e : Env} {R : Room} {s : State} {m : MethodId} {args : Array Value} {below : List Frame} {meth : Method} {c : Code} {cells slots : Nat} {Q : State → Prop} {dC : Nat → ClassId} {dI : Nat → Nat → Nat} {cI cB cJ cZ : ClassId} {A : Nat → Prop} {ad : Nat → Nat} {post : Int32 → St → Prop} {rec2 : Int32 → Int32 → St → Prop} (hx : p.tables.exec = Jvm.exec) (hb : c.code = b_Mod_wordAt) (hml : c.maxLocals = 3) (hown : s.vm.findClass R_Mod = some m.cls) (hT : ∀ w ∈ TG, w.before args s = true) (hK : va_K (dC, dI) CL (TY cI cB cJ cZ) s) (hN : NW s) (hA : ∀ q : Nat, s.heap.size ≤ q → A q) (hRc : cells ≤ R.cells) (hRs : slots ≤ R.slots) (hRf : 1 ≤ R.frames) (hRl : 20 ≤ R.locals) (hret : ∀ (r : Int32) (x : St) (H : Heap) (locs : List Loc) (pc : Nat) (ls : Array Slot), decode b_Mod_wordAt pc = .ok (.ireturn, 1) → post r x → Wd dC dI cI cB cJ cZ ad stM kcM 115 A x H → va_S A s.heap H locs → W p l e R s m args below meth c H locs cells slots Q (F0 m pc ls [.int r])) (hrec2 : ∀ (l1 : Int32) (l2 : Int32) (x : St) (H : Heap) (locs : List Loc) (ls : Array Slot), rec2 l1 l2 x → Wd dC dI cI cB cJ cZ ad stM kcM 115 A x H → va_S A s.heap H locs → lv_has ls 3 [(0, .ref (ad 0)), (1, .int l1), (2, .int l2)] → W p l e R s m args below meth c H locs cells slots Q (F0 m 2 ls [])) : ∀ (l1 : Int32) (l2 : Int32) (x : St) (H : Heap) (locs : List Loc) (ls : Array Slot), j_Mod_wordAt_50 post rec2 l1 l2 x → Wd dC dI cI cB cJ cZ ad stM kcM 115 A x H → va_S A s.heap H locs → lv_has ls 3 [(0, .ref (ad 0)), (1, .int l1), (2, .int l2)] → W p l e R s m args below meth c H locs cells slots Q (F0 m 50 ls []) := by
  intro l1 l2 x H locs ls  hw hW hS hl
  unfold j_Mod_wordAt_50 at hw
  refine lv_iinc (v := (l2 + 1)) (lv' := [(2, .int (l2 + 1)), (0, .ref (ad 0)), (1, .int l1)]) hx hb d_Mod_wordAt_50 hl (k := 2) rfl rfl (by decide) rfl (fun ls hl => ?_)
  refine lv_goto (tgt := 2) hx hb d_Mod_wordAt_53 (by decide) ?_
  exact hrec2 l1 (l2 + 1) x H locs ls  hw hW hS (lv_sub hl [1, 2, 0] rfl)
set_option maxRecDepth 100000 in
set_option maxHeartbeats 4000000 in
set_option maxRecDepth 100000 in
theorem t_Mod_wordAt_2 {p : Program} {l : Launch} {e : Env} {R : Room} {s : State} {m : MethodId} {args : Array Value} {below : List Frame} {meth : Method} {c : Code} {cells slots : Nat} {Q : State → Prop} {dC : Nat → ClassId} {dI : Nat → Nat → Nat} {cI cB cJ cZ : ClassId} {A : Nat → Prop} {ad : Nat → Nat} {post : Int32 → St → Prop} {rec2 : Int32 → Int32 → St → Prop} (hx : p.tables.exec = Jvm.exec) (hb : c.code = b_Mod_wordAt) (hml : c.maxLocals = 3) (hown : s.vm.findClass R_Mod = some m.cls) (hT : ∀ w ∈ TG, w.before args s = true) (hK : va_K (dC, dI) CL (TY cI cB cJ cZ) s) (hN : NW s) (hA : ∀ q : Nat, s.heap.size ≤ q → A q) (hRc : cells ≤ R.cells) (hRs : slots ≤ R.slots) (hRf : 1 ≤ R.frames) (hRl : 20 ≤ R.locals) (hret : ∀ (r : Int32) (x : St) (H : Heap) (locs : List Loc) (pc : Nat) (ls : Array Slot), decode b_Mod_wordAt pc = .ok (.ireturn, 1) → post r x → Wd dC dI cI cB cJ cZ ad stM kcM 115 A x H → va_S A s.heap H locs → W p l e R s m args below meth c H locs cells slots Q (F0 m pc ls [.int r])) (hrec2 : ∀ (l1 : Int32) (l2 : Int32) (x : St) (H : Heap) (locs : List Loc) (ls : Array Slot), rec2 l1 l2 x → Wd dC dI cI cB cJ cZ ad stM kcM 115 A x H → va_S A s.heap H locs → lv_has ls 3 [(0, .ref (ad 0)), (1, .int l1), (2, .int l2)] → W p l e R s m args below meth c H locs cells slots Q (F0 m 2 ls [])) : ∀ (l1 : Int32) (l2 : Int32) (x : St) (H : Heap) (locs : List Loc) (ls : Array Slot), j_Mod_wordAt_2 post rec2 l1 l2 x → Wd dC dI cI cB cJ cZ ad stM kcM 115 A x H → va_S A s.heap H locs → lv_has ls 3 [(0, .ref (ad 0)), (1, .int l1), (2, .int l2)] → W p l e R s m args below meth c H locs cells slots Q (F0 m 2 ls []) := by
  intro l1 l2 x H locs ls  hw hW hS hl
  unfold j_Mod_wordAt_2 at hw
  refine lv_iload_n hx hb d_Mod_wordAt_2 rfl (lv_at hl 2 rfl) ?_
  refine lv_aload_n hx hb d_Mod_wordAt_3 rfl (lv_at hl 0 rfl) ?_
  refine w_geti (k := 15) (t := 12) (C := R_Mod) (T := F_Mod) (N := 167) hx hb hT hown hK hW ko_0.1 ko_0.2 (by decide) in_Mod rfl rfl (by decide) rfl fr_Mod_15 w_8_191 d_Mod_wordAt_4 ?_
  refine lv_icmp_ge (tgt := 56) hx hb d_Mod_wordAt_7 (by decide) (fun c35 => ?_) (fun c35 => ?_)
  · have hw := hw.1 c35
    exact t_Mod_wordAt_56 hx hb hml hown hT hK hN hA hRc hRs hRf hRl hret  l1 l2 x H locs ls  hw hW hS (lv_sub hl [0, 1, 2] rfl)
  · have hw := hw.2 c35
    refine lv_aload_n hx hb d_Mod_wordAt_10 rfl (lv_at hl 0 rfl) ?_
    refine w_getf (q := 2) (k := 2) (t := 12) (C := R_Mod) (T := F_Mod) (N := 167) hx hb hT hown hK hW ko_0.1 ko_0.2 (by decide) in_Mod rfl rfl (by decide) rfl fr_Mod_2 w_8_178 d_Mod_wordAt_11 rfl ?_
    refine lv_iload_n hx hb d_Mod_wordAt_14 rfl (lv_at hl 2 rfl) ?_
    obtain ⟨hi, hw⟩ := hw
    refine w_iald (o := 2) hx hb hK hW ko_2.1 ko_2.2 hi d_Mod_wordAt_15 ?_
    have hF := hW.free hS hA
    refine va_calli (va_runS (As := [.int (rA x 2 l2)]) (rest := []) ⟨hx, hb, hml, hown, hT⟩ (k_Mod_isLetter l dC dI cI cB cJ cZ ad H.size (rA x 2 l2) x  hw) ⟨callB_of 1 hT (gwt_in w_11_5) rfl rfl rfl (hT _ w_1_15) (hT _ w_11_3) (by decide +kernel) ⟨Nat.le_trans (Nat.le_of_ble_eq_true rfl) hRf, Nat.le_trans (Nat.le_of_ble_eq_true rfl) hRl⟩, hT _ w_11_4⟩ ⟨PW.blind, PW.at _ hW hK hN⟩ rfl rfl hl.1 rfl (lv_room (Nat.le_of_ble_eq_true rfl)) d_Mod_wordAt_16 ⟨hRc, hRs⟩) hS (fun q _ h => hF q h) hF (fun r37 x36 t H locs ht hvm hw hB hz1 hk1 hS => ?_)
    have hW := Wd.back hB ht hF
    clear hB ht hF hz1 hk1 hvm
    refine lv_if_ne (tgt := 50) hx hb d_Mod_wordAt_19 (by decide) (fun c38 => ?_) (fun c38 => ?_)
    · have hw := hw.1 c38
      exact t_Mod_wordAt_50 hx hb hml hown hT hK hN hA hRc hRs hRf hRl hret hrec2 l1 l2 x36 H locs ls  hw hW hS (lv_sub hl [0, 1, 2] rfl)
    · have hw := hw.2 c38
      refine lv_iload_n hx hb d_Mod_wordAt_22 rfl (lv_at hl 2 rfl) ?_
      refine lv_iload_n hx hb d_Mod_wordAt_23 rfl (lv_at hl 1 rfl) ?_
      refine lv_icmp_le (tgt := 56) hx hb d_Mod_wordAt_24 (by decide) (fun c39 => ?_) (fun c39 => ?_)
      · have hw := hw.1 c39
        exact t_Mod_wordAt_56 hx hb hml hown hT hK hN hA hRc hRs hRf hRl hret  l1 l2 x36 H locs ls  hw hW hS (lv_sub hl [0, 1, 2] rfl)
      · have hw := hw.2 c39
        refine lv_aload_n hx hb d_Mod_wordAt_27 rfl (lv_at hl 0 rfl) ?_
        refine w_getf (q := 2) (k := 2) (t := 12) (C := R_Mod) (T := F_Mod) (N := 167) hx hb hT hown hK hW ko_0.1 ko_0.2 (by decide) in_Mod rfl rfl (by decide) rfl fr_Mod_2 w_8_178 d_Mod_wordAt_28 rfl ?_
        refine lv_iload_n hx hb d_Mod_wordAt_31 rfl (lv_at hl 2 rfl) ?_
        obtain ⟨hi, hw⟩ := hw
        refine w_iald (o := 2) hx hb hK hW ko_2.1 ko_2.2 hi d_Mod_wordAt_32 ?_
        have hF := hW.free hS hA
        refine va_calli (va_runS (As := [.int (rA x36 2 l2)]) (rest := []) ⟨hx, hb, hml, hown, hT⟩ (k_Mod_isDigit l dC dI cI cB cJ cZ ad H.size (rA x36 2 l2) x36  hw) ⟨callB_of 1 hT (gwt_in w_11_8) rfl rfl rfl (hT _ w_1_15) (hT _ w_11_6) (by decide +kernel) ⟨Nat.le_trans (Nat.le_of_ble_eq_true rfl) hRf, Nat.le_trans (Nat.le_of_ble_eq_true rfl) hRl⟩, hT _ w_11_7⟩ ⟨PW.blind, PW.at _ hW hK hN⟩ rfl rfl hl.1 rfl (lv_room (Nat.le_of_ble_eq_true rfl)) d_Mod_wordAt_33 ⟨hRc, hRs⟩) hS (fun q _ h => hF q h) hF (fun r41 x40 t H locs ht hvm hw hB hz1 hk1 hS => ?_)
        have hW := Wd.back hB ht hF
        clear hB ht hF hz1 hk1 hvm
        refine lv_if_ne (tgt := 50) hx hb d_Mod_wordAt_36 (by decide) (fun c42 => ?_) (fun c42 => ?_)
        · have hw := hw.1 c42
          exact t_Mod_wordAt_50 hx hb hml hown hT hK hN hA hRc hRs hRf hRl hret hrec2 l1 l2 x40 H locs ls  hw hW hS (lv_sub hl [0, 1, 2] rfl)
        · have hw := hw.2 c42
          refine lv_aload_n hx hb d_Mod_wordAt_39 rfl (lv_at hl 0 rfl) ?_
          refine w_getf (q := 2) (k := 2) (t := 12) (C := R_Mod) (T := F_Mod) (N := 167) hx hb hT hown hK hW ko_0.1 ko_0.2 (by decide) in_Mod rfl rfl (by decide) rfl fr_Mod_2 w_8_178 d_Mod_wordAt_40 rfl ?_
          refine lv_iload_n hx hb d_Mod_wordAt_43 rfl (lv_at hl 2 rfl) ?_
          obtain ⟨hi, hw⟩ := hw
          refine w_iald (o := 2) hx hb hK hW ko_2.1 ko_2.2 hi d_Mod_wordAt_44 ?_
          refine lv_bipush (v := 95) hx hb d_Mod_wordAt_45 (by decide) ?_
          refine lv_icmp_ne (tgt := 56) hx hb d_Mod_wordAt_47 (by decide) (fun c43 => ?_) (fun c43 => ?_)
          · have hw := hw.1 c43
            exact t_Mod_wordAt_56 hx hb hml hown hT hK hN hA hRc hRs hRf hRl hret  l1 l2 x40 H locs ls  hw hW hS (lv_sub hl [0, 1, 2] rfl)
          · have hw := hw.2 c43
            exact t_Mod_wordAt_50 hx hb hml hown hT hK hN hA hRc hRs hRf hRl hret hrec2 l1 l2 x40 H locs ls  hw hW hS (lv_sub hl [0, 1, 2] rfl)
set_option maxHeartbeats 4000000 in
set_option maxRecDepth 100000 in
theorem tl_Mod_wordAt_2 {p : Program} {l : Launch} {e : Env} {R : Room} {s : State} {m : MethodId} {args : Array Value} {below : List Frame} {meth : Method} {c : Code} {cells slots : Nat} {Q : State → Prop} {dC : Nat → ClassId} {dI : Nat → Nat → Nat} {cI cB cJ cZ : ClassId} {A : Nat → Prop} {ad : Nat → Nat} {post : Int32 → St → Prop} (hx : p.tables.exec = Jvm.exec) (hb : c.code = b_Mod_wordAt) (hml : c.maxLocals = 3) (hown : s.vm.findClass R_Mod = some m.cls) (hT : ∀ w ∈ TG, w.before args s = true) (hK : va_K (dC, dI) CL (TY cI cB cJ cZ) s) (hN : NW s) (hA : ∀ q : Nat, s.heap.size ≤ q → A q) (hRc : cells ≤ R.cells) (hRs : slots ≤ R.slots) (hRf : 1 ≤ R.frames) (hRl : 20 ≤ R.locals) (hret : ∀ (r : Int32) (x : St) (H : Heap) (locs : List Loc) (pc : Nat) (ls : Array Slot), decode b_Mod_wordAt pc = .ok (.ireturn, 1) → post r x → Wd dC dI cI cB cJ cZ ad stM kcM 115 A x H → va_S A s.heap H locs → W p l e R s m args below meth c H locs cells slots Q (F0 m pc ls [.int r]))  : ∀ n : Nat, ∀ (l1 : Int32) (l2 : Int32) (x : St) (H : Heap) (locs : List Loc) (ls : Array Slot), wl_Mod_wordAt_2 post n l1 l2 x → Wd dC dI cI cB cJ cZ ad stM kcM 115 A x H → va_S A s.heap H locs → lv_has ls 3 [(0, .ref (ad 0)), (1, .int l1), (2, .int l2)] → W p l e R s m args below meth c H locs cells slots Q (F0 m 2 ls []) := by
  intro n
  induction n with
  | zero => intro l1 l2 x H locs ls  hw; exact hw.elim
  | succ n ih => intro l1 l2 x H locs ls  hw hW hS hl; exact t_Mod_wordAt_2 hx hb hml hown hT hK hN hA hRc hRs hRf hRl hret  ih l1 l2 x H locs ls  hw hW hS hl
set_option maxRecDepth 100000 in
set_option maxHeartbeats 4000000 in
set_option maxRecDepth 100000 in
theorem t_Mod_wordAt_e {p : Program} {l : Launch} {e : Env} {R : Room} {s : State} {m : MethodId} {args : Array Value} {below : List Frame} {meth : Method} {c : Code} {cells slots : Nat} {Q : State → Prop} {dC : Nat → ClassId} {dI : Nat → Nat → Nat} {cI cB cJ cZ : ClassId} {A : Nat → Prop} {ad : Nat → Nat} {post : Int32 → St → Prop} (hx : p.tables.exec = Jvm.exec) (hb : c.code = b_Mod_wordAt) (hml : c.maxLocals = 3) (hown : s.vm.findClass R_Mod = some m.cls) (hT : ∀ w ∈ TG, w.before args s = true) (hK : va_K (dC, dI) CL (TY cI cB cJ cZ) s) (hN : NW s) (hA : ∀ q : Nat, s.heap.size ≤ q → A q) (hRc : cells ≤ R.cells) (hRs : slots ≤ R.slots) (hRf : 1 ≤ R.frames) (hRl : 20 ≤ R.locals) (hret : ∀ (r : Int32) (x : St) (H : Heap) (locs : List Loc) (pc : Nat) (ls : Array Slot), decode b_Mod_wordAt pc = .ok (.ireturn, 1) → post r x → Wd dC dI cI cB cJ cZ ad stM kcM 115 A x H → va_S A s.heap H locs → W p l e R s m args below meth c H locs cells slots Q (F0 m pc ls [.int r])) : ∀ (l1 : Int32) (x : St) (H : Heap) (locs : List Loc) (ls : Array Slot), wp_Mod_wordAt post l1 x → Wd dC dI cI cB cJ cZ ad stM kcM 115 A x H → va_S A s.heap H locs → lv_has ls 3 [(0, .ref (ad 0)), (1, .int l1)] → W p l e R s m args below meth c H locs cells slots Q (F0 m 0 ls []) := by
  intro l1 x H locs ls  hw hW hS hl
  unfold wp_Mod_wordAt at hw
  refine lv_iload_n hx hb d_Mod_wordAt_0 rfl (lv_at hl 1 rfl) ?_
  refine lv_istore_n (lv' := [(2, .int l1), (0, .ref (ad 0)), (1, .int l1)]) hx hb d_Mod_wordAt_1 rfl hl (by decide) rfl (fun ls hl => ?_)
  obtain ⟨n, hw⟩ := hw
  exact tl_Mod_wordAt_2 hx hb hml hown hT hK hN hA hRc hRs hRf hRl hret  n l1 l1 x H locs ls  hw hW hS (lv_sub hl [1, 2, 0] rfl)
set_option maxHeartbeats 4000000 in
set_option maxRecDepth 100000 in
theorem k_Mod_wordAt (l : Launch) (dC : Nat → ClassId) (dI : Nat → Nat → Nat) (cI cB cJ cZ : ClassId) (ad : Nat → Nat) (sz : Nat) (l1 : Int32) (x : St) {post : Int32 → St → Prop} (hw : wp_Mod_wordAt post l1 x) : Met l y_Mod_wordAt (wsOf y_Mod_wordAt b_Mod_wordAt 3 (some (.int))) ({ frames := 1, cells := 0, slots := 0, locals := 20 }) (va_Pc [.ref (ad 0), .int l1] (PW dC dI cI cB cJ cZ ad stM kcM 115 sz x)) (va_Qi (fun (r : Int32) (y : St) => post r y) (fun y t => Wd dC dI cI cB cJ cZ ad stM kcM 115 (va_A (pic ad stM kcM 115 cI cB cJ cZ x) sz) y t.heap) (va_A (pic ad stM kcM 115 cI cB cJ cZ x) sz)) 0 0 (va_A (pic ad stM kcM 115 cI cB cJ cZ x) sz) := by
  refine Met.ofW (cc := b_Mod_wordAt) (maxL := 3) (ret := some (.int)) (by decide) rfl ?_
  intro p e s m args below meth c s₁ B hml hv
  obtain ⟨rfl, hsz, hW0, hK, hN⟩ := hv
  have hx := B.exec
  have hb := B.bytes
  have hr := B.returns
  have hts := atoms_spec B.pre
  have hT : ∀ w ∈ TG, w.before _ s = true := fun w h => hts w (List.mem_cons_of_mem _ h)
  have hown : s.vm.findClass R_Mod = some m.cls := findClass_of_methodNamed B.named
  have hlocks := B.notSynchronized
  subst hsz
  have hW : Wd dC dI cI cB cJ cZ ad stM kcM 115 (va_A (pic ad stM kcM 115 cI cB cJ cZ x) s.heap.size) x s.heap := ⟨hW0.1, hW0.2.1.self (sz := s.heap.size), hW0.2.2⟩
  generalize hAe : va_A (pic ad stM kcM 115 cI cB cJ cZ x) s.heap.size = A at hW ⊢
  have hA : ∀ q : Nat, s.heap.size ≤ q → A q := fun q h => by rw [← hAe]; exact Or.inr h
  have hS : va_S A s.heap s.heap [] := va_S.rf
  have hl := lv_entry ([.ref (ad 0), .int l1]) (n := 3) (Nat.le_of_ble_eq_true rfl)
  rw [lg_entry_eq]
  generalize (lg_sl ([.ref (ad 0), .int l1]) ++ List.replicate (3 - (lg_sl ([.ref (ad 0), .int l1])).length) Slot.unset).toArray = ls at hl ⊢
  have hl : lv_has ls 3 [(0, .ref (ad 0)), (1, .int l1)] := hl
  exact t_Mod_wordAt_e hx hb hml hown hT hK hN hA (Nat.le_refl 0) (Nat.le_refl 0) (Nat.le_refl 1) (Nat.le_refl 20) (fun r x H locs pc ls hd hp hW hS => W.iret (v := r) hx hb hr (fun t ht hM => ⟨⟨r, x, rfl, hp, Wd.back hW ht.symm (fun _ z => z)⟩, hS.F ht⟩) hS.2.2 hd hlocks)  l1 x _ _ ls  hw hW hS hl
set_option maxRecDepth 100000 in
set_option maxHeartbeats 4000000 in
set_option maxRecDepth 100000 in
theorem t_Mod_wordOf_11 {p : Program} {l : Launch} {e : Env} {R : Room} {s : State} {m : MethodId} {args : Array Value} {below : List Frame} {meth : Method} {c : Code} {cells slots : Nat} {Q : State → Prop} {dC : Nat → ClassId} {dI : Nat → Nat → Nat} {cI cB cJ cZ : ClassId} {A : Nat → Prop} {ad : Nat → Nat} {post : Int64 → St → Prop} {rec11 : Int32 → Int32 → Int64 → Int32 → St → Prop} (hx : p.tables.exec = Jvm.exec) (hb : c.code = b_Mod_wordOf) (hml : c.maxLocals = 6) (hown : s.vm.findClass R_Mod = some m.cls) (hT : ∀ w ∈ TG, w.before args s = true) (hK : va_K (dC, dI) CL (TY cI cB cJ cZ) s) (hN : NW s) (hA : ∀ q : Nat, s.heap.size ≤ q → A q) (hRc : cells ≤ R.cells) (hRs : slots ≤ R.slots) (hRf : 2 ≤ R.frames) (hRl : 42 ≤ R.locals) (hret : ∀ (r : Int64) (x : St) (H : Heap) (locs : List Loc) (pc : Nat) (ls : Array Slot), decode b_Mod_wordOf pc = .ok (.lreturn, 1) → post r x → Wd dC dI cI cB cJ cZ ad stM kcM 115 A x H → va_S A s.heap H locs → W p l e R s m args below meth c H locs cells slots Q (F0 m pc ls [.long r])) (hrec11 : ∀ (l1 : Int32) (l2 : Int32) (l3 : Int64) (l5 : Int32) (x : St) (H : Heap) (locs : List Loc) (ls : Array Slot), rec11 l1 l2 l3 l5 x → Wd dC dI cI cB cJ cZ ad stM kcM 115 A x H → va_S A s.heap H locs → lv_has ls 6 [(0, .ref (ad 0)), (1, .int l1), (2, .int l2), (3, .long l3), (5, .int l5)] → W p l e R s m args below meth c H locs cells slots Q (F0 m 11 ls [])) : ∀ (l1 : Int32) (l2 : Int32) (l3 : Int64) (l5 : Int32) (x : St) (H : Heap) (locs : List Loc) (ls : Array Slot), j_Mod_wordOf_11 post rec11 l1 l2 l3 l5 x → Wd dC dI cI cB cJ cZ ad stM kcM 115 A x H → va_S A s.heap H locs → lv_has ls 6 [(0, .ref (ad 0)), (1, .int l1), (2, .int l2), (3, .long l3), (5, .int l5)] → W p l e R s m args below meth c H locs cells slots Q (F0 m 11 ls []) := by
  intro l1 l2 l3 l5 x H locs ls  hw hW hS hl
  unfold j_Mod_wordOf_11 at hw
  refine lv_iload hx hb d_Mod_wordOf_11 (lv_at hl 4 rfl) ?_
  refine lv_iload_n hx hb d_Mod_wordOf_13 rfl (lv_at hl 2 rfl) ?_
  refine lv_icmp_ge (tgt := 39) hx hb d_Mod_wordOf_14 (by decide) (fun c44 => ?_) (fun c44 => ?_)
  · have hw := hw.1 c44
    refine lv_iload_n hx hb d_Mod_wordOf_39 rfl (lv_at hl 2 rfl) ?_
    refine lv_bipush (v := 8) hx hb d_Mod_wordOf_40 (by decide) ?_
    refine lv_icmp_le (tgt := 49) hx hb d_Mod_wordOf_42 (by decide) (fun c45 => ?_) (fun c45 => ?_)
    · have hw := hw.1 c45
      refine lv_lload_n hx hb d_Mod_wordOf_49 rfl (lv_at hl 3 rfl) ?_
      exact hret l3 x H locs 50 ls d_Mod_wordOf_50 hw hW hS
    · have hw := hw.2 c45
      refine lv_lconst (v := 0) hx hb d_Mod_wordOf_45 (by decide) ?_
      refine lv_goto (tgt := 50) hx hb d_Mod_wordOf_46 (by decide) ?_
      exact hret 0 x H locs 50 ls d_Mod_wordOf_50 hw hW hS
  · have hw := hw.2 c44
    refine lv_lload_n hx hb d_Mod_wordOf_17 rfl (lv_at hl 3 rfl) ?_
    refine lv_bipush (v := 8) hx hb d_Mod_wordOf_18 (by decide) ?_
    refine lv_lshl hx hb d_Mod_wordOf_20 rfl ?_
    refine lv_aload_n hx hb d_Mod_wordOf_21 rfl (lv_at hl 0 rfl) ?_
    refine w_getf (q := 2) (k := 2) (t := 12) (C := R_Mod) (T := F_Mod) (N := 167) hx hb hT hown hK hW ko_0.1 ko_0.2 (by decide) in_Mod rfl rfl (by decide) rfl fr_Mod_2 w_8_178 d_Mod_wordOf_22 rfl ?_
    refine lv_iload_n hx hb d_Mod_wordOf_25 rfl (lv_at hl 1 rfl) ?_
    refine lv_iload hx hb d_Mod_wordOf_26 (lv_at hl 4 rfl) ?_
    refine lv_iadd hx hb d_Mod_wordOf_28 ?_
    obtain ⟨hi, hw⟩ := hw
    refine w_iald (o := 2) hx hb hK hW ko_2.1 ko_2.2 hi d_Mod_wordOf_29 ?_
    refine lv_i2l hx hb d_Mod_wordOf_30 rfl ?_
    refine lv_lor hx hb d_Mod_wordOf_31 ?_
    refine lv_topl (fun v46 ev46 => ?_)
    have hw := hw v46 ev46
    refine lv_lstore_n (lv' := [(3, .long v46), (0, .ref (ad 0)), (1, .int l1), (2, .int l2), (5, .int l5)]) hx hb d_Mod_wordOf_32 rfl hl (by decide) rfl (fun ls hl => ?_)
    refine lv_iinc (v := (l5 + 1)) (lv' := [(5, .int (l5 + 1)), (3, .long v46), (0, .ref (ad 0)), (1, .int l1), (2, .int l2)]) hx hb d_Mod_wordOf_33 hl (k := 4) rfl rfl (by decide) rfl (fun ls hl => ?_)
    refine lv_goto (tgt := 11) hx hb d_Mod_wordOf_36 (by decide) ?_
    exact hrec11 l1 l2 v46 (l5 + 1) x H locs ls  hw hW hS (lv_sub hl [2, 3, 4, 1, 0] rfl)
set_option maxHeartbeats 4000000 in
set_option maxRecDepth 100000 in
theorem tl_Mod_wordOf_11 {p : Program} {l : Launch} {e : Env} {R : Room} {s : State} {m : MethodId} {args : Array Value} {below : List Frame} {meth : Method} {c : Code} {cells slots : Nat} {Q : State → Prop} {dC : Nat → ClassId} {dI : Nat → Nat → Nat} {cI cB cJ cZ : ClassId} {A : Nat → Prop} {ad : Nat → Nat} {post : Int64 → St → Prop} (hx : p.tables.exec = Jvm.exec) (hb : c.code = b_Mod_wordOf) (hml : c.maxLocals = 6) (hown : s.vm.findClass R_Mod = some m.cls) (hT : ∀ w ∈ TG, w.before args s = true) (hK : va_K (dC, dI) CL (TY cI cB cJ cZ) s) (hN : NW s) (hA : ∀ q : Nat, s.heap.size ≤ q → A q) (hRc : cells ≤ R.cells) (hRs : slots ≤ R.slots) (hRf : 2 ≤ R.frames) (hRl : 42 ≤ R.locals) (hret : ∀ (r : Int64) (x : St) (H : Heap) (locs : List Loc) (pc : Nat) (ls : Array Slot), decode b_Mod_wordOf pc = .ok (.lreturn, 1) → post r x → Wd dC dI cI cB cJ cZ ad stM kcM 115 A x H → va_S A s.heap H locs → W p l e R s m args below meth c H locs cells slots Q (F0 m pc ls [.long r]))  : ∀ n : Nat, ∀ (l1 : Int32) (l2 : Int32) (l3 : Int64) (l5 : Int32) (x : St) (H : Heap) (locs : List Loc) (ls : Array Slot), wl_Mod_wordOf_11 post n l1 l2 l3 l5 x → Wd dC dI cI cB cJ cZ ad stM kcM 115 A x H → va_S A s.heap H locs → lv_has ls 6 [(0, .ref (ad 0)), (1, .int l1), (2, .int l2), (3, .long l3), (5, .int l5)] → W p l e R s m args below meth c H locs cells slots Q (F0 m 11 ls []) := by
  intro n
  induction n with
  | zero => intro l1 l2 l3 l5 x H locs ls  hw; exact hw.elim
  | succ n ih => intro l1 l2 l3 l5 x H locs ls  hw hW hS hl; exact t_Mod_wordOf_11 hx hb hml hown hT hK hN hA hRc hRs hRf hRl hret  ih l1 l2 l3 l5 x H locs ls  hw hW hS hl
set_option maxRecDepth 100000 in
set_option maxHeartbeats 4000000 in
set_option maxRecDepth 100000 in
theorem t_Mod_wordOf_e {p : Program} {l : Launch} {e : Env} {R : Room} {s : State} {m : MethodId} {args : Array Value} {below : List Frame} {meth : Method} {c : Code} {cells slots : Nat} {Q : State → Prop} {dC : Nat → ClassId} {dI : Nat → Nat → Nat} {cI cB cJ cZ : ClassId} {A : Nat → Prop} {ad : Nat → Nat} {post : Int64 → St → Prop} (hx : p.tables.exec = Jvm.exec) (hb : c.code = b_Mod_wordOf) (hml : c.maxLocals = 6) (hown : s.vm.findClass R_Mod = some m.cls) (hT : ∀ w ∈ TG, w.before args s = true) (hK : va_K (dC, dI) CL (TY cI cB cJ cZ) s) (hN : NW s) (hA : ∀ q : Nat, s.heap.size ≤ q → A q) (hRc : cells ≤ R.cells) (hRs : slots ≤ R.slots) (hRf : 2 ≤ R.frames) (hRl : 42 ≤ R.locals) (hret : ∀ (r : Int64) (x : St) (H : Heap) (locs : List Loc) (pc : Nat) (ls : Array Slot), decode b_Mod_wordOf pc = .ok (.lreturn, 1) → post r x → Wd dC dI cI cB cJ cZ ad stM kcM 115 A x H → va_S A s.heap H locs → W p l e R s m args below meth c H locs cells slots Q (F0 m pc ls [.long r])) : ∀ (l1 : Int32) (x : St) (H : Heap) (locs : List Loc) (ls : Array Slot), wp_Mod_wordOf post l1 x → Wd dC dI cI cB cJ cZ ad stM kcM 115 A x H → va_S A s.heap H locs → lv_has ls 6 [(0, .ref (ad 0)), (1, .int l1)] → W p l e R s m args below meth c H locs cells slots Q (F0 m 0 ls []) := by
  intro l1 x H locs ls  hw hW hS hl
  unfold wp_Mod_wordOf at hw
  refine lv_aload_n hx hb d_Mod_wordOf_0 rfl (lv_at hl 0 rfl) ?_
  refine lv_iload_n hx hb d_Mod_wordOf_1 rfl (lv_at hl 1 rfl) ?_
  have hF := hW.free hS hA
  refine va_calli (va_runV (C := R_Mod) (As := [.int l1]) (rest := []) ⟨hx, hb, hml, hown, hT⟩ (k_Mod_wordAt l dC dI cI cB cJ cZ ad H.size l1 x  hw) ⟨callB_of 1 hT (gwt_in w_11_2) rfl rfl rfl (hT _ w_1_15) (hT _ w_10_239) (by decide +kernel) ⟨Nat.le_trans (Nat.le_of_ble_eq_true rfl) hRf, Nat.le_trans (Nat.le_of_ble_eq_true rfl) hRl⟩, hT _ w_11_1, hT _ ws_114⟩ ⟨PW.blind, va_recv hK hW.1 (ci := 12) (q0 := 0) rfl (pic_obj ko_0.1 ko_0.2 (by decide)), PW.at _ hW hK hN⟩ rfl rfl hl.1 rfl (lv_room (Nat.le_of_ble_eq_true rfl)) d_Mod_wordOf_2 ⟨hRc, hRs⟩) hS (fun q _ h => hF q h) hF (fun r48 x47 t H locs ht hvm hw hB hz1 hk1 hS => ?_)
  have hW := Wd.back hB ht hF
  clear hB ht hF hz1 hk1 hvm
  refine lv_istore_n (lv' := [(2, .int r48), (0, .ref (ad 0)), (1, .int l1)]) hx hb d_Mod_wordOf_5 rfl hl (by decide) rfl (fun ls hl => ?_)
  refine lv_lconst (v := 0) hx hb d_Mod_wordOf_6 (by decide) ?_
  refine lv_lstore_n (lv' := [(3, .long 0), (2, .int r48), (0, .ref (ad 0)), (1, .int l1)]) hx hb d_Mod_wordOf_7 rfl hl (by decide) rfl (fun ls hl => ?_)
  refine lv_iconst (v := 0) hx hb d_Mod_wordOf_8 (by decide) ?_
  refine lv_istore (lv' := [(5, .int 0), (3, .long 0), (2, .int r48), (0, .ref (ad 0)), (1, .int l1)]) hx hb d_Mod_wordOf_9 hl (by decide) rfl (fun ls hl => ?_)
  obtain ⟨n, hw⟩ := hw
  exact tl_Mod_wordOf_11 hx hb hml hown hT hK hN hA hRc hRs hRf hRl hret  n l1 r48 0 0 x47 H locs ls  hw hW hS (lv_sub hl [3, 4, 2, 1, 0] rfl)
set_option maxHeartbeats 4000000 in
set_option maxRecDepth 100000 in
theorem k_Mod_wordOf (l : Launch) (dC : Nat → ClassId) (dI : Nat → Nat → Nat) (cI cB cJ cZ : ClassId) (ad : Nat → Nat) (sz : Nat) (l1 : Int32) (x : St) {post : Int64 → St → Prop} (hw : wp_Mod_wordOf post l1 x) : Met l y_Mod_wordOf (wsOf y_Mod_wordOf b_Mod_wordOf 6 (some (.long))) ({ frames := 2, cells := 0, slots := 0, locals := 42 }) (va_Pc [.ref (ad 0), .int l1] (PW dC dI cI cB cJ cZ ad stM kcM 115 sz x)) (va_Ql (fun (r : Int64) (y : St) => post r y) (fun y t => Wd dC dI cI cB cJ cZ ad stM kcM 115 (va_A (pic ad stM kcM 115 cI cB cJ cZ x) sz) y t.heap) (va_A (pic ad stM kcM 115 cI cB cJ cZ x) sz)) 0 0 (va_A (pic ad stM kcM 115 cI cB cJ cZ x) sz) := by
  refine Met.ofW (cc := b_Mod_wordOf) (maxL := 6) (ret := some (.long)) (by decide) rfl ?_
  intro p e s m args below meth c s₁ B hml hv
  obtain ⟨rfl, hsz, hW0, hK, hN⟩ := hv
  have hx := B.exec
  have hb := B.bytes
  have hr := B.returns
  have hts := atoms_spec B.pre
  have hT : ∀ w ∈ TG, w.before _ s = true := fun w h => hts w (List.mem_cons_of_mem _ h)
  have hown : s.vm.findClass R_Mod = some m.cls := findClass_of_methodNamed B.named
  have hlocks := B.notSynchronized
  subst hsz
  have hW : Wd dC dI cI cB cJ cZ ad stM kcM 115 (va_A (pic ad stM kcM 115 cI cB cJ cZ x) s.heap.size) x s.heap := ⟨hW0.1, hW0.2.1.self (sz := s.heap.size), hW0.2.2⟩
  generalize hAe : va_A (pic ad stM kcM 115 cI cB cJ cZ x) s.heap.size = A at hW ⊢
  have hA : ∀ q : Nat, s.heap.size ≤ q → A q := fun q h => by rw [← hAe]; exact Or.inr h
  have hS : va_S A s.heap s.heap [] := va_S.rf
  have hl := lv_entry ([.ref (ad 0), .int l1]) (n := 6) (Nat.le_of_ble_eq_true rfl)
  rw [lg_entry_eq]
  generalize (lg_sl ([.ref (ad 0), .int l1]) ++ List.replicate (6 - (lg_sl ([.ref (ad 0), .int l1])).length) Slot.unset).toArray = ls at hl ⊢
  have hl : lv_has ls 6 [(0, .ref (ad 0)), (1, .int l1)] := hl
  exact t_Mod_wordOf_e hx hb hml hown hT hK hN hA (Nat.le_refl 0) (Nat.le_refl 0) (Nat.le_refl 2) (Nat.le_refl 42) (fun r x H locs pc ls hd hp hW hS => W.lret (v := r) hx hb hr (fun t ht hM => ⟨⟨r, x, rfl, hp, Wd.back hW ht.symm (fun _ z => z)⟩, hS.F ht⟩) hS.2.2 hd hlocks)  l1 x _ _ ls  hw hW hS hl
end
