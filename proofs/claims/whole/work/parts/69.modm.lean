theorem fr_Mod_113 : F_Mod 113 = (R_Mod, "outSize", "I", false) := rfl
theorem w_13_67 : (Jvm.Cond.methodLink "StripedVaultModel" (944 : Nat) ({ cls := "StripedVaultModel", name := "tell", desc := "(I)V" } : Jvm.MethodName)) ∈ TG := tw_13 67 (by decide +kernel) (by decide +kernel)
theorem w_13_69 : (Jvm.Cond.instanceMethod ({ cls := "StripedVaultModel", name := "tell", desc := "(I)V" } : Jvm.MethodName)) ∈ TG := tw_13 69 (by decide +kernel) (by decide +kernel)
theorem w_13_70 : (Jvm.Cond.code ({ cls := "StripedVaultModel", name := "tell", desc := "(I)V" } : Jvm.MethodName) prog_14_method_140_code (2 : Nat) (Option.none : Option Jvm.ClassFile.FieldType)) ∈ TG := tw_13 70 (by decide +kernel) (by decide +kernel)
theorem w_13_75 : (Jvm.Cond.methodLink "StripedVaultModel" (969 : Nat) ({ cls := "StripedVaultModel", name := "isUnder", desc := "(II)Z" } : Jvm.MethodName)) ∈ TG := tw_13 75 (by decide +kernel) (by decide +kernel)
theorem w_13_77 : (Jvm.Cond.instanceMethod ({ cls := "StripedVaultModel", name := "isUnder", desc := "(II)Z" } : Jvm.MethodName)) ∈ TG := tw_13 77 (by decide +kernel) (by decide +kernel)
theorem w_13_78 : (Jvm.Cond.code ({ cls := "StripedVaultModel", name := "isUnder", desc := "(II)Z" } : Jvm.MethodName) prog_14_method_150_code (5 : Nat) (Option.some Jvm.ClassFile.FieldType.boolean)) ∈ TG := tw_13 78 (by decide +kernel) (by decide +kernel)
theorem w_13_95 : (Jvm.Cond.methodLink "StripedVaultModel" (951 : Nat) ({ cls := "StripedVaultModel", name := "tellDigit", desc := "(I)V" } : Jvm.MethodName)) ∈ TG := tw_13 95 (by decide +kernel) (by decide +kernel)
theorem w_13_97 : (Jvm.Cond.instanceMethod ({ cls := "StripedVaultModel", name := "tellDigit", desc := "(I)V" } : Jvm.MethodName)) ∈ TG := tw_13 97 (by decide +kernel) (by decide +kernel)
theorem w_13_98 : (Jvm.Cond.code ({ cls := "StripedVaultModel", name := "tellDigit", desc := "(I)V" } : Jvm.MethodName) prog_14_method_144_code (2 : Nat) (Option.none : Option Jvm.ClassFile.FieldType)) ∈ TG := tw_13 98 (by decide +kernel) (by decide +kernel)
theorem w_9_49 : (Jvm.Cond.fieldLink "StripedVaultModel" (935 : Nat) "StripedVaultModel" "outSize" "I") ∈ TG := tw_9 49 (by decide +kernel) (by decide +kernel)
theorem ws_227 : Cond.selects R_Mod y_Mod_tell y_Mod_tell ∈ TG := tw_s 227 (by decide +kernel) (by decide +kernel)
theorem ws_229 : Cond.selects R_Mod y_Mod_isUnder y_Mod_isUnder ∈ TG := tw_s 229 (by decide +kernel) (by decide +kernel)
theorem ws_234 : Cond.selects R_Mod y_Mod_tellDigit y_Mod_tellDigit ∈ TG := tw_s 234 (by decide +kernel) (by decide +kernel)
theorem d_Mod_tell_23 : decode b_Mod_tell 23 = .ok (.aload_n 0, 1) := by decide +kernel
theorem d_Mod_tell_24 : decode b_Mod_tell 24 = .ok (.dup, 1) := by decide +kernel
theorem d_Mod_tell_25 : decode b_Mod_tell 25 = .ok (.getfield 935, 3) := by decide +kernel
theorem d_Mod_tell_28 : decode b_Mod_tell 28 = .ok (.iconst 1, 1) := by decide +kernel
theorem d_Mod_tell_29 : decode b_Mod_tell 29 = .ok (.iadd, 1) := by decide +kernel
theorem d_Mod_tell_30 : decode b_Mod_tell 30 = .ok (.putfield 935, 3) := by decide +kernel
theorem d_Mod_tell_33 : decode b_Mod_tell 33 = .ok (.return_, 1) := by decide +kernel
theorem d_Mod_tell_0 : decode b_Mod_tell 0 = .ok (.aload_n 0, 1) := by decide +kernel
theorem d_Mod_tell_1 : decode b_Mod_tell 1 = .ok (.getfield 935, 3) := by decide +kernel
theorem d_Mod_tell_4 : decode b_Mod_tell 4 = .ok (.aload_n 0, 1) := by decide +kernel
theorem d_Mod_tell_5 : decode b_Mod_tell 5 = .ok (.getfield 238, 3) := by decide +kernel
theorem d_Mod_tell_8 : decode b_Mod_tell 8 = .ok (.arraylength, 1) := by decide +kernel
theorem d_Mod_tell_9 : decode b_Mod_tell 9 = .ok (.if_icmp .ge 14, 3) := by decide +kernel
theorem d_Mod_tell_12 : decode b_Mod_tell 12 = .ok (.aload_n 0, 1) := by decide +kernel
theorem d_Mod_tell_13 : decode b_Mod_tell 13 = .ok (.getfield 238, 3) := by decide +kernel
theorem d_Mod_tell_16 : decode b_Mod_tell 16 = .ok (.aload_n 0, 1) := by decide +kernel
theorem d_Mod_tell_17 : decode b_Mod_tell 17 = .ok (.getfield 935, 3) := by decide +kernel
theorem d_Mod_tell_20 : decode b_Mod_tell 20 = .ok (.iload_n 1, 1) := by decide +kernel
theorem d_Mod_tell_21 : decode b_Mod_tell 21 = .ok (.i2b, 1) := by decide +kernel
theorem d_Mod_tell_22 : decode b_Mod_tell 22 = .ok (.bastore, 1) := by decide +kernel
theorem d_Mod_isUnder_34 : decode b_Mod_isUnder 34 = .ok (.istore_n 3, 1) := by decide +kernel
theorem d_Mod_isUnder_35 : decode b_Mod_isUnder 35 = .ok (.aload_n 0, 1) := by decide +kernel
theorem d_Mod_isUnder_36 : decode b_Mod_isUnder 36 = .ok (.getfield 23, 3) := by decide +kernel
theorem d_Mod_isUnder_39 : decode b_Mod_isUnder 39 = .ok (.iconst 1, 1) := by decide +kernel
theorem d_Mod_isUnder_40 : decode b_Mod_isUnder 40 = .ok (.iload 4, 2) := by decide +kernel
theorem d_Mod_isUnder_42 : decode b_Mod_isUnder 42 = .ok (.invokestatic 412, 3) := by decide +kernel
theorem d_Mod_isUnder_45 : decode b_Mod_isUnder 45 = .ok (.iaload, 1) := by decide +kernel
theorem d_Mod_isUnder_46 : decode b_Mod_isUnder 46 = .ok (.istore 4, 2) := by decide +kernel
theorem d_Mod_isUnder_48 : decode b_Mod_isUnder 48 = .ok (.goto (-35), 3) := by decide +kernel
theorem d_Mod_isUnder_29 : decode b_Mod_isUnder 29 = .ok (.iconst 1, 1) := by decide +kernel
theorem d_Mod_isUnder_30 : decode b_Mod_isUnder 30 = .ok (.goto 4, 3) := by decide +kernel
theorem d_Mod_isUnder_13 : decode b_Mod_isUnder 13 = .ok (.iload 4, 2) := by decide +kernel
theorem d_Mod_isUnder_15 : decode b_Mod_isUnder 15 = .ok (.iconst (-1), 1) := by decide +kernel
theorem d_Mod_isUnder_16 : decode b_Mod_isUnder 16 = .ok (.if_icmp .eq 35, 3) := by decide +kernel
theorem d_Mod_isUnder_51 : decode b_Mod_isUnder 51 = .ok (.iload_n 3, 1) := by decide +kernel
theorem d_Mod_isUnder_52 : decode b_Mod_isUnder 52 = .ok (.ireturn, 1) := by decide +kernel
theorem d_Mod_isUnder_19 : decode b_Mod_isUnder 19 = .ok (.iload_n 3, 1) := by decide +kernel
theorem d_Mod_isUnder_20 : decode b_Mod_isUnder 20 = .ok (.ifCond .ne 9, 3) := by decide +kernel
theorem d_Mod_isUnder_23 : decode b_Mod_isUnder 23 = .ok (.iload 4, 2) := by decide +kernel
theorem d_Mod_isUnder_25 : decode b_Mod_isUnder 25 = .ok (.iload_n 2, 1) := by decide +kernel
theorem d_Mod_isUnder_26 : decode b_Mod_isUnder 26 = .ok (.if_icmp .ne 7, 3) := by decide +kernel
theorem d_Mod_isUnder_33 : decode b_Mod_isUnder 33 = .ok (.iconst 0, 1) := by decide +kernel
theorem d_Mod_isUnder_0 : decode b_Mod_isUnder 0 = .ok (.iconst 0, 1) := by decide +kernel
theorem d_Mod_isUnder_1 : decode b_Mod_isUnder 1 = .ok (.istore_n 3, 1) := by decide +kernel
theorem d_Mod_isUnder_2 : decode b_Mod_isUnder 2 = .ok (.aload_n 0, 1) := by decide +kernel
theorem d_Mod_isUnder_3 : decode b_Mod_isUnder 3 = .ok (.getfield 41, 3) := by decide +kernel
theorem d_Mod_isUnder_6 : decode b_Mod_isUnder 6 = .ok (.bipush 64, 2) := by decide +kernel
theorem d_Mod_isUnder_8 : decode b_Mod_isUnder 8 = .ok (.iload_n 1, 1) := by decide +kernel
theorem d_Mod_isUnder_9 : decode b_Mod_isUnder 9 = .ok (.iadd, 1) := by decide +kernel
theorem d_Mod_isUnder_10 : decode b_Mod_isUnder 10 = .ok (.iaload, 1) := by decide +kernel
theorem d_Mod_isUnder_11 : decode b_Mod_isUnder 11 = .ok (.istore 4, 2) := by decide +kernel
theorem d_Mod_columnIn_38 : decode b_Mod_columnIn 38 = .ok (.istore_n 2, 1) := by decide +kernel
theorem d_Mod_columnIn_39 : decode b_Mod_columnIn 39 = .ok (.iinc 3 (-1), 3) := by decide +kernel
theorem d_Mod_columnIn_42 : decode b_Mod_columnIn 42 = .ok (.goto (-31), 3) := by decide +kernel
theorem d_Mod_columnIn_37 : decode b_Mod_columnIn 37 = .ok (.iload_n 2, 1) := by decide +kernel
theorem d_Mod_columnIn_11 : decode b_Mod_columnIn 11 = .ok (.iload_n 3, 1) := by decide +kernel
theorem d_Mod_columnIn_12 : decode b_Mod_columnIn 12 = .ok (.ifCond .lt 33, 3) := by decide +kernel
theorem d_Mod_columnIn_45 : decode b_Mod_columnIn 45 = .ok (.iload_n 2, 1) := by decide +kernel
theorem d_Mod_columnIn_46 : decode b_Mod_columnIn 46 = .ok (.ireturn, 1) := by decide +kernel
theorem d_Mod_columnIn_15 : decode b_Mod_columnIn 15 = .ok (.aload_n 0, 1) := by decide +kernel
theorem d_Mod_columnIn_16 : decode b_Mod_columnIn 16 = .ok (.getfield 248, 3) := by decide +kernel
theorem d_Mod_columnIn_19 : decode b_Mod_columnIn 19 = .ok (.iload_n 3, 1) := by decide +kernel
theorem d_Mod_columnIn_20 : decode b_Mod_columnIn 20 = .ok (.baload, 1) := by decide +kernel
theorem d_Mod_columnIn_21 : decode b_Mod_columnIn 21 = .ok (.ifCond .eq 16, 3) := by decide +kernel
theorem d_Mod_columnIn_24 : decode b_Mod_columnIn 24 = .ok (.aload_n 0, 1) := by decide +kernel
theorem d_Mod_columnIn_25 : decode b_Mod_columnIn 25 = .ok (.iload_n 3, 1) := by decide +kernel
theorem d_Mod_columnIn_26 : decode b_Mod_columnIn 26 = .ok (.iload_n 1, 1) := by decide +kernel
theorem d_Mod_columnIn_27 : decode b_Mod_columnIn 27 = .ok (.invokevirtual 969, 3) := by decide +kernel
theorem d_Mod_columnIn_30 : decode b_Mod_columnIn 30 = .ok (.ifCond .eq 7, 3) := by decide +kernel
theorem d_Mod_columnIn_33 : decode b_Mod_columnIn 33 = .ok (.iload_n 3, 1) := by decide +kernel
theorem d_Mod_columnIn_34 : decode b_Mod_columnIn 34 = .ok (.goto 4, 3) := by decide +kernel
theorem d_Mod_columnIn_0 : decode b_Mod_columnIn 0 = .ok (.iconst (-1), 1) := by decide +kernel
theorem d_Mod_columnIn_1 : decode b_Mod_columnIn 1 = .ok (.istore_n 2, 1) := by decide +kernel
theorem d_Mod_columnIn_2 : decode b_Mod_columnIn 2 = .ok (.aload_n 0, 1) := by decide +kernel
theorem d_Mod_columnIn_3 : decode b_Mod_columnIn 3 = .ok (.getfield 38, 3) := by decide +kernel
theorem d_Mod_columnIn_6 : decode b_Mod_columnIn 6 = .ok (.iconst 1, 1) := by decide +kernel
theorem d_Mod_columnIn_7 : decode b_Mod_columnIn 7 = .ok (.iaload, 1) := by decide +kernel
theorem d_Mod_columnIn_8 : decode b_Mod_columnIn 8 = .ok (.iconst 1, 1) := by decide +kernel
theorem d_Mod_columnIn_9 : decode b_Mod_columnIn 9 = .ok (.isub, 1) := by decide +kernel
theorem d_Mod_columnIn_10 : decode b_Mod_columnIn 10 = .ok (.istore_n 3, 1) := by decide +kernel
theorem d_Mod_pass_42 : decode b_Mod_pass 42 = .ok (.iadd, 1) := by decide +kernel
theorem d_Mod_pass_43 : decode b_Mod_pass 43 = .ok (.iastore, 1) := by decide +kernel
theorem d_Mod_pass_44 : decode b_Mod_pass 44 = .ok (.iinc 2 1, 3) := by decide +kernel
theorem d_Mod_pass_47 : decode b_Mod_pass 47 = .ok (.goto (-45), 3) := by decide +kernel
theorem d_Mod_pass_41 : decode b_Mod_pass 41 = .ok (.iconst 0, 1) := by decide +kernel
theorem d_Mod_pass_2 : decode b_Mod_pass 2 = .ok (.iload_n 2, 1) := by decide +kernel
theorem d_Mod_pass_3 : decode b_Mod_pass 3 = .ok (.aload_n 0, 1) := by decide +kernel
theorem d_Mod_pass_4 : decode b_Mod_pass 4 = .ok (.getfield 38, 3) := by decide +kernel
theorem d_Mod_pass_7 : decode b_Mod_pass 7 = .ok (.iconst 1, 1) := by decide +kernel
theorem d_Mod_pass_8 : decode b_Mod_pass 8 = .ok (.iaload, 1) := by decide +kernel
theorem d_Mod_pass_9 : decode b_Mod_pass 9 = .ok (.if_icmp .ge 41, 3) := by decide +kernel
theorem d_Mod_pass_50 : decode b_Mod_pass 50 = .ok (.return_, 1) := by decide +kernel
theorem d_Mod_pass_12 : decode b_Mod_pass 12 = .ok (.aload_n 0, 1) := by decide +kernel
theorem d_Mod_pass_13 : decode b_Mod_pass 13 = .ok (.getfield 242, 3) := by decide +kernel
theorem d_Mod_pass_16 : decode b_Mod_pass 16 = .ok (.iload_n 2, 1) := by decide +kernel
theorem d_Mod_pass_17 : decode b_Mod_pass 17 = .ok (.dup2, 1) := by decide +kernel
theorem d_Mod_pass_18 : decode b_Mod_pass 18 = .ok (.iaload, 1) := by decide +kernel
theorem d_Mod_pass_19 : decode b_Mod_pass 19 = .ok (.aload_n 0, 1) := by decide +kernel
theorem d_Mod_pass_20 : decode b_Mod_pass 20 = .ok (.getfield 248, 3) := by decide +kernel
theorem d_Mod_pass_23 : decode b_Mod_pass 23 = .ok (.iload_n 2, 1) := by decide +kernel
theorem d_Mod_pass_24 : decode b_Mod_pass 24 = .ok (.baload, 1) := by decide +kernel
theorem d_Mod_pass_25 : decode b_Mod_pass 25 = .ok (.ifCond .eq 16, 3) := by decide +kernel
theorem d_Mod_pass_28 : decode b_Mod_pass 28 = .ok (.aload_n 0, 1) := by decide +kernel
theorem d_Mod_pass_29 : decode b_Mod_pass 29 = .ok (.iload_n 2, 1) := by decide +kernel
theorem d_Mod_pass_30 : decode b_Mod_pass 30 = .ok (.iload_n 1, 1) := by decide +kernel
theorem d_Mod_pass_31 : decode b_Mod_pass 31 = .ok (.invokevirtual 969, 3) := by decide +kernel
theorem d_Mod_pass_34 : decode b_Mod_pass 34 = .ok (.ifCond .eq 7, 3) := by decide +kernel
theorem d_Mod_pass_37 : decode b_Mod_pass 37 = .ok (.iconst 1, 1) := by decide +kernel
theorem d_Mod_pass_38 : decode b_Mod_pass 38 = .ok (.goto 4, 3) := by decide +kernel
theorem d_Mod_pass_0 : decode b_Mod_pass 0 = .ok (.iconst 0, 1) := by decide +kernel
theorem d_Mod_pass_1 : decode b_Mod_pass 1 = .ok (.istore_n 2, 1) := by decide +kernel
theorem d_Mod_tellDigit_21 : decode b_Mod_tellDigit 21 = .ok (.invokevirtual 944, 3) := by decide +kernel
theorem d_Mod_tellDigit_24 : decode b_Mod_tellDigit 24 = .ok (.return_, 1) := by decide +kernel
theorem d_Mod_tellDigit_0 : decode b_Mod_tellDigit 0 = .ok (.aload_n 0, 1) := by decide +kernel
theorem d_Mod_tellDigit_1 : decode b_Mod_tellDigit 1 = .ok (.iload_n 1, 1) := by decide +kernel
theorem d_Mod_tellDigit_2 : decode b_Mod_tellDigit 2 = .ok (.bipush 10, 2) := by decide +kernel
theorem d_Mod_tellDigit_4 : decode b_Mod_tellDigit 4 = .ok (.if_icmp .ge 10, 3) := by decide +kernel
theorem d_Mod_tellDigit_14 : decode b_Mod_tellDigit 14 = .ok (.bipush 97, 2) := by decide +kernel
theorem d_Mod_tellDigit_16 : decode b_Mod_tellDigit 16 = .ok (.iload_n 1, 1) := by decide +kernel
theorem d_Mod_tellDigit_17 : decode b_Mod_tellDigit 17 = .ok (.iadd, 1) := by decide +kernel
theorem d_Mod_tellDigit_18 : decode b_Mod_tellDigit 18 = .ok (.bipush 10, 2) := by decide +kernel
theorem d_Mod_tellDigit_20 : decode b_Mod_tellDigit 20 = .ok (.isub, 1) := by decide +kernel
theorem d_Mod_tellDigit_7 : decode b_Mod_tellDigit 7 = .ok (.bipush 48, 2) := by decide +kernel
theorem d_Mod_tellDigit_9 : decode b_Mod_tellDigit 9 = .ok (.iload_n 1, 1) := by decide +kernel
theorem d_Mod_tellDigit_10 : decode b_Mod_tellDigit 10 = .ok (.iadd, 1) := by decide +kernel
theorem d_Mod_tellDigit_11 : decode b_Mod_tellDigit 11 = .ok (.goto 10, 3) := by decide +kernel
theorem d_Mod_tellText_97 : decode b_Mod_tellText 97 = .ok (.iinc 2 1, 3) := by decide +kernel
theorem d_Mod_tellText_100 : decode b_Mod_tellText 100 = .ok (.goto (-92), 3) := by decide +kernel
theorem d_Mod_tellText_92 : decode b_Mod_tellText 92 = .ok (.aload_n 0, 1) := by decide +kernel
theorem d_Mod_tellText_93 : decode b_Mod_tellText 93 = .ok (.iload_n 3, 1) := by decide +kernel
theorem d_Mod_tellText_94 : decode b_Mod_tellText 94 = .ok (.invokevirtual 944, 3) := by decide +kernel
theorem d_Mod_tellText_86 : decode b_Mod_tellText 86 = .ok (.aload_n 0, 1) := by decide +kernel
theorem d_Mod_tellText_87 : decode b_Mod_tellText 87 = .ok (.bipush 92, 2) := by decide +kernel
theorem d_Mod_tellText_89 : decode b_Mod_tellText 89 = .ok (.invokevirtual 944, 3) := by decide +kernel
theorem d_Mod_tellText_44 : decode b_Mod_tellText 44 = .ok (.aload_n 0, 1) := by decide +kernel
theorem d_Mod_tellText_45 : decode b_Mod_tellText 45 = .ok (.bipush 92, 2) := by decide +kernel
theorem d_Mod_tellText_47 : decode b_Mod_tellText 47 = .ok (.invokevirtual 944, 3) := by decide +kernel
theorem d_Mod_tellText_50 : decode b_Mod_tellText 50 = .ok (.aload_n 0, 1) := by decide +kernel
theorem d_Mod_tellText_51 : decode b_Mod_tellText 51 = .ok (.bipush 120, 2) := by decide +kernel
theorem d_Mod_tellText_53 : decode b_Mod_tellText 53 = .ok (.invokevirtual 944, 3) := by decide +kernel
theorem d_Mod_tellText_56 : decode b_Mod_tellText 56 = .ok (.aload_n 0, 1) := by decide +kernel
theorem d_Mod_tellText_57 : decode b_Mod_tellText 57 = .ok (.iload_n 3, 1) := by decide +kernel
theorem d_Mod_tellText_58 : decode b_Mod_tellText 58 = .ok (.iconst 4, 1) := by decide +kernel
theorem d_Mod_tellText_59 : decode b_Mod_tellText 59 = .ok (.ishr, 1) := by decide +kernel
theorem d_Mod_tellText_60 : decode b_Mod_tellText 60 = .ok (.invokevirtual 951, 3) := by decide +kernel
theorem d_Mod_tellText_63 : decode b_Mod_tellText 63 = .ok (.aload_n 0, 1) := by decide +kernel
theorem d_Mod_tellText_64 : decode b_Mod_tellText 64 = .ok (.iload_n 3, 1) := by decide +kernel
theorem d_Mod_tellText_65 : decode b_Mod_tellText 65 = .ok (.bipush 15, 2) := by decide +kernel
theorem d_Mod_tellText_67 : decode b_Mod_tellText 67 = .ok (.iand, 1) := by decide +kernel
theorem d_Mod_tellText_68 : decode b_Mod_tellText 68 = .ok (.invokevirtual 951, 3) := by decide +kernel
theorem d_Mod_tellText_71 : decode b_Mod_tellText 71 = .ok (.goto 26, 3) := by decide +kernel
theorem d_Mod_tellText_8 : decode b_Mod_tellText 8 = .ok (.iload_n 2, 1) := by decide +kernel
theorem d_Mod_tellText_9 : decode b_Mod_tellText 9 = .ok (.aload_n 0, 1) := by decide +kernel
theorem d_Mod_tellText_10 : decode b_Mod_tellText 10 = .ok (.getfield 179, 3) := by decide +kernel
theorem d_Mod_tellText_13 : decode b_Mod_tellText 13 = .ok (.iload_n 1, 1) := by decide +kernel
theorem d_Mod_tellText_14 : decode b_Mod_tellText 14 = .ok (.iaload, 1) := by decide +kernel
theorem d_Mod_tellText_15 : decode b_Mod_tellText 15 = .ok (.if_icmp .ge 88, 3) := by decide +kernel
theorem d_Mod_tellText_103 : decode b_Mod_tellText 103 = .ok (.aload_n 0, 1) := by decide +kernel
theorem d_Mod_tellText_104 : decode b_Mod_tellText 104 = .ok (.bipush 39, 2) := by decide +kernel
theorem d_Mod_tellText_106 : decode b_Mod_tellText 106 = .ok (.invokevirtual 944, 3) := by decide +kernel
theorem d_Mod_tellText_109 : decode b_Mod_tellText 109 = .ok (.return_, 1) := by decide +kernel
theorem d_Mod_tellText_18 : decode b_Mod_tellText 18 = .ok (.aload_n 0, 1) := by decide +kernel
theorem d_Mod_tellText_19 : decode b_Mod_tellText 19 = .ok (.getfield 183, 3) := by decide +kernel
theorem d_Mod_tellText_22 : decode b_Mod_tellText 22 = .ok (.aload_n 0, 1) := by decide +kernel
theorem d_Mod_tellText_23 : decode b_Mod_tellText 23 = .ok (.getfield 176, 3) := by decide +kernel
theorem d_Mod_tellText_26 : decode b_Mod_tellText 26 = .ok (.iload_n 1, 1) := by decide +kernel
theorem d_Mod_tellText_27 : decode b_Mod_tellText 27 = .ok (.iaload, 1) := by decide +kernel
theorem d_Mod_tellText_28 : decode b_Mod_tellText 28 = .ok (.iload_n 2, 1) := by decide +kernel
theorem d_Mod_tellText_29 : decode b_Mod_tellText 29 = .ok (.iadd, 1) := by decide +kernel
theorem d_Mod_tellText_30 : decode b_Mod_tellText 30 = .ok (.iaload, 1) := by decide +kernel
theorem d_Mod_tellText_31 : decode b_Mod_tellText 31 = .ok (.istore_n 3, 1) := by decide +kernel
theorem d_Mod_tellText_32 : decode b_Mod_tellText 32 = .ok (.iload_n 3, 1) := by decide +kernel
theorem d_Mod_tellText_33 : decode b_Mod_tellText 33 = .ok (.bipush 32, 2) := by decide +kernel
theorem d_Mod_tellText_35 : decode b_Mod_tellText 35 = .ok (.if_icmp .lt 9, 3) := by decide +kernel
theorem d_Mod_tellText_38 : decode b_Mod_tellText 38 = .ok (.iload_n 3, 1) := by decide +kernel
theorem d_Mod_tellText_39 : decode b_Mod_tellText 39 = .ok (.bipush 126, 2) := by decide +kernel
theorem d_Mod_tellText_41 : decode b_Mod_tellText 41 = .ok (.if_icmp .le 33, 3) := by decide +kernel
theorem d_Mod_tellText_74 : decode b_Mod_tellText 74 = .ok (.iload_n 3, 1) := by decide +kernel
theorem d_Mod_tellText_75 : decode b_Mod_tellText 75 = .ok (.bipush 39, 2) := by decide +kernel
theorem d_Mod_tellText_77 : decode b_Mod_tellText 77 = .ok (.if_icmp .eq 9, 3) := by decide +kernel
theorem d_Mod_tellText_80 : decode b_Mod_tellText 80 = .ok (.iload_n 3, 1) := by decide +kernel
theorem d_Mod_tellText_81 : decode b_Mod_tellText 81 = .ok (.bipush 92, 2) := by decide +kernel
theorem d_Mod_tellText_83 : decode b_Mod_tellText 83 = .ok (.if_icmp .ne 9, 3) := by decide +kernel
theorem d_Mod_tellText_0 : decode b_Mod_tellText 0 = .ok (.aload_n 0, 1) := by decide +kernel
theorem d_Mod_tellText_1 : decode b_Mod_tellText 1 = .ok (.bipush 39, 2) := by decide +kernel
theorem d_Mod_tellText_3 : decode b_Mod_tellText 3 = .ok (.invokevirtual 944, 3) := by decide +kernel
theorem d_Mod_tellText_6 : decode b_Mod_tellText 6 = .ok (.iconst 0, 1) := by decide +kernel
theorem d_Mod_tellText_7 : decode b_Mod_tellText 7 = .ok (.istore_n 2, 1) := by decide +kernel
theorem d_Mod_tellWord_31 : decode b_Mod_tellWord 31 = .ok (.iinc 3 (-8), 3) := by decide +kernel
theorem d_Mod_tellWord_34 : decode b_Mod_tellWord 34 = .ok (.goto (-31), 3) := by decide +kernel
theorem d_Mod_tellWord_3 : decode b_Mod_tellWord 3 = .ok (.iload_n 3, 1) := by decide +kernel
theorem d_Mod_tellWord_4 : decode b_Mod_tellWord 4 = .ok (.ifCond .lt 33, 3) := by decide +kernel
theorem d_Mod_tellWord_37 : decode b_Mod_tellWord 37 = .ok (.return_, 1) := by decide +kernel
theorem d_Mod_tellWord_7 : decode b_Mod_tellWord 7 = .ok (.lload_n 1, 1) := by decide +kernel
theorem d_Mod_tellWord_8 : decode b_Mod_tellWord 8 = .ok (.iload_n 3, 1) := by decide +kernel
theorem d_Mod_tellWord_9 : decode b_Mod_tellWord 9 = .ok (.lshr, 1) := by decide +kernel
theorem d_Mod_tellWord_10 : decode b_Mod_tellWord 10 = .ok (.ldc2_w 686, 3) := by decide +kernel
theorem d_Mod_tellWord_13 : decode b_Mod_tellWord 13 = .ok (.land, 1) := by decide +kernel
theorem d_Mod_tellWord_14 : decode b_Mod_tellWord 14 = .ok (.lconst 0, 1) := by decide +kernel
theorem d_Mod_tellWord_15 : decode b_Mod_tellWord 15 = .ok (.lcmp, 1) := by decide +kernel
theorem d_Mod_tellWord_16 : decode b_Mod_tellWord 16 = .ok (.ifCond .eq 15, 3) := by decide +kernel
theorem d_Mod_tellWord_19 : decode b_Mod_tellWord 19 = .ok (.aload_n 0, 1) := by decide +kernel
theorem d_Mod_tellWord_20 : decode b_Mod_tellWord 20 = .ok (.lload_n 1, 1) := by decide +kernel
theorem d_Mod_tellWord_21 : decode b_Mod_tellWord 21 = .ok (.iload_n 3, 1) := by decide +kernel
theorem d_Mod_tellWord_22 : decode b_Mod_tellWord 22 = .ok (.lshr, 1) := by decide +kernel
theorem d_Mod_tellWord_23 : decode b_Mod_tellWord 23 = .ok (.ldc2_w 686, 3) := by decide +kernel
theorem d_Mod_tellWord_26 : decode b_Mod_tellWord 26 = .ok (.land, 1) := by decide +kernel
theorem d_Mod_tellWord_27 : decode b_Mod_tellWord 27 = .ok (.l2i, 1) := by decide +kernel
theorem d_Mod_tellWord_28 : decode b_Mod_tellWord 28 = .ok (.invokevirtual 944, 3) := by decide +kernel
theorem d_Mod_tellWord_0 : decode b_Mod_tellWord 0 = .ok (.bipush 56, 2) := by decide +kernel
theorem d_Mod_tellWord_2 : decode b_Mod_tellWord 2 = .ok (.istore_n 3, 1) := by decide +kernel
section
variable (l : Launch) (dC : Nat → ClassId) (dI : Nat → Nat → Nat) (cI cB cJ cZ : ClassId)
set_option maxRecDepth 100000 in
set_option maxHeartbeats 4000000 in
set_option maxRecDepth 100000 in
theorem t_Mod_tell_23 {p : Program} {l : Launch} {e : Env} {R : Room} {s : State} {m : MethodId} {args : Array Value} {below : List Frame} {meth : Method} {c : Code} {cells slots : Nat} {Q : State → Prop} {dC : Nat → ClassId} {dI : Nat → Nat → Nat} {cI cB cJ cZ : ClassId} {A : Nat → Prop} {ad : Nat → Nat} {post : St → Prop} (hx : p.tables.exec = Jvm.exec) (hb : c.code = b_Mod_tell) (hml : c.maxLocals = 2) (hown : s.vm.findClass R_Mod = some m.cls) (hT : ∀ w ∈ TG, w.before args s = true) (hK : va_K (dC, dI) CL (TY cI cB cJ cZ) s) (hN : NW s) (hA : ∀ q : Nat, s.heap.size ≤ q → A q) (hRc : cells ≤ R.cells) (hRs : slots ≤ R.slots) (hRf : 0 ≤ R.frames) (hRl : 0 ≤ R.locals) (hret : ∀ (x : St) (H : Heap) (locs : List Loc) (pc : Nat) (ls : Array Slot), decode b_Mod_tell pc = .ok (.return_, 1) → post x → Wd dC dI cI cB cJ cZ ad stM kcM 115 A x H → va_S A s.heap H locs → W p l e R s m args below meth c H locs cells slots Q (F0 m pc ls []))  : ∀ (l1 : Int32) (x : St) (H : Heap) (locs : List Loc) (ls : Array Slot), j_Mod_tell_23 post l1 x → Wd dC dI cI cB cJ cZ ad stM kcM 115 A x H → va_S A s.heap H locs → lv_has ls 2 [(0, .ref (ad 0)), (1, .int l1)] → W p l e R s m args below meth c H locs cells slots Q (F0 m 23 ls []) := by
  intro l1 x H locs ls  hw hW hS hl
  unfold j_Mod_tell_23 at hw
  refine lv_aload_n hx hb d_Mod_tell_23 rfl (lv_at hl 0 rfl) ?_
  refine lv_dup hx hb d_Mod_tell_24 rfl ?_
  refine w_geti (k := 113) (t := 12) (C := R_Mod) (T := F_Mod) (N := 167) hx hb hT hown hK hW ko_0.1 ko_0.2 (by decide) in_Mod rfl rfl (by decide) rfl fr_Mod_113 w_9_49 d_Mod_tell_25 ?_
  refine lv_iconst (v := 1) hx hb d_Mod_tell_28 (by decide) ?_
  refine lv_iadd hx hb d_Mod_tell_29 ?_
  refine w_puti (ty := .int) (k := 113) (t := 12) (C := R_Mod) (T := F_Mod) (N := 167) hx hb hT hown hK hW hS ko_0.1 ko_0.2 (by decide) in_Mod t_Mod t_Mod_ok n_Mod rfl rfl (by decide) rfl fr_Mod_113 w_9_49 (by decide +kernel) rfl rfl d_Mod_tell_30 (fun H locs hW hS => ?_)
  obtain ⟨x1780, ex1780⟩ : ∃ y : St, y = setI x 0 113 ((fI x 0 113) + 1) := ⟨_, rfl⟩
  rw [← ex1780] at hW
  have hw := hw x1780 ex1780
  exact hret x1780 H locs 33 ls d_Mod_tell_33 hw hW hS
set_option maxRecDepth 100000 in
set_option maxHeartbeats 4000000 in
set_option maxRecDepth 100000 in
theorem t_Mod_tell_e {p : Program} {l : Launch} {e : Env} {R : Room} {s : State} {m : MethodId} {args : Array Value} {below : List Frame} {meth : Method} {c : Code} {cells slots : Nat} {Q : State → Prop} {dC : Nat → ClassId} {dI : Nat → Nat → Nat} {cI cB cJ cZ : ClassId} {A : Nat → Prop} {ad : Nat → Nat} {post : St → Prop} (hx : p.tables.exec = Jvm.exec) (hb : c.code = b_Mod_tell) (hml : c.maxLocals = 2) (hown : s.vm.findClass R_Mod = some m.cls) (hT : ∀ w ∈ TG, w.before args s = true) (hK : va_K (dC, dI) CL (TY cI cB cJ cZ) s) (hN : NW s) (hA : ∀ q : Nat, s.heap.size ≤ q → A q) (hRc : cells ≤ R.cells) (hRs : slots ≤ R.slots) (hRf : 0 ≤ R.frames) (hRl : 0 ≤ R.locals) (hret : ∀ (x : St) (H : Heap) (locs : List Loc) (pc : Nat) (ls : Array Slot), decode b_Mod_tell pc = .ok (.return_, 1) → post x → Wd dC dI cI cB cJ cZ ad stM kcM 115 A x H → va_S A s.heap H locs → W p l e R s m args below meth c H locs cells slots Q (F0 m pc ls [])) : ∀ (l1 : Int32) (x : St) (H : Heap) (locs : List Loc) (ls : Array Slot), wp_Mod_tell post l1 x → Wd dC dI cI cB cJ cZ ad stM kcM 115 A x H → va_S A s.heap H locs → lv_has ls 2 [(0, .ref (ad 0)), (1, .int l1)] → W p l e R s m args below meth c H locs cells slots Q (F0 m 0 ls []) := by
  intro l1 x H locs ls  hw hW hS hl
  unfold wp_Mod_tell at hw
  refine lv_aload_n hx hb d_Mod_tell_0 rfl (lv_at hl 0 rfl) ?_
  refine w_geti (k := 113) (t := 12) (C := R_Mod) (T := F_Mod) (N := 167) hx hb hT hown hK hW ko_0.1 ko_0.2 (by decide) in_Mod rfl rfl (by decide) rfl fr_Mod_113 w_9_49 d_Mod_tell_1 ?_
  refine lv_aload_n hx hb d_Mod_tell_4 rfl (lv_at hl 0 rfl) ?_
  refine w_getf (q := 75) (k := 112) (t := 12) (C := R_Mod) (T := F_Mod) (N := 167) hx hb hT hown hK hW ko_0.1 ko_0.2 (by decide) in_Mod rfl rfl (by decide) rfl fr_Mod_112 w_9_48 d_Mod_tell_5 rfl ?_
  refine w_alen (o := 75) (t0 := 1) hx hb hK hW (pic_byte ko_75.1 ko_75.2) rfl rfl d_Mod_tell_8 ?_
  refine lv_icmp_ge (tgt := 23) hx hb d_Mod_tell_9 (by decide) (fun c1781 => ?_) (fun c1781 => ?_)
  · have hw := hw.1 c1781
    exact t_Mod_tell_23 hx hb hml hown hT hK hN hA hRc hRs hRf hRl hret  l1 x H locs ls  hw hW hS (lv_sub hl [0, 1] rfl)
  · have hw := hw.2 c1781
    refine lv_aload_n hx hb d_Mod_tell_12 rfl (lv_at hl 0 rfl) ?_
    refine w_getf (q := 75) (k := 112) (t := 12) (C := R_Mod) (T := F_Mod) (N := 167) hx hb hT hown hK hW ko_0.1 ko_0.2 (by decide) in_Mod rfl rfl (by decide) rfl fr_Mod_112 w_9_48 d_Mod_tell_13 rfl ?_
    refine lv_aload_n hx hb d_Mod_tell_16 rfl (lv_at hl 0 rfl) ?_
    refine w_geti (k := 113) (t := 12) (C := R_Mod) (T := F_Mod) (N := 167) hx hb hT hown hK hW ko_0.1 ko_0.2 (by decide) in_Mod rfl rfl (by decide) rfl fr_Mod_113 w_9_49 d_Mod_tell_17 ?_
    refine lv_iload_n hx hb d_Mod_tell_20 rfl (lv_at hl 1 rfl) ?_
    refine lv_i2b hx hb d_Mod_tell_21 rfl ?_
    obtain ⟨hi, hw⟩ := hw
    refine w_bast (o := 75) hx hb hK hW hS ko_75.1 ko_75.2 hi d_Mod_tell_22 (fun H locs hW hS => ?_)
    obtain ⟨x1782, ex1782⟩ : ∃ y : St, y = setA x 75 (fI x 0 113) (vp_nar .byte (l1 : Int32).toInt8.toInt32) := ⟨_, rfl⟩
    rw [← ex1782] at hW
    have hw := hw x1782 ex1782
    exact t_Mod_tell_23 hx hb hml hown hT hK hN hA hRc hRs hRf hRl hret  l1 x1782 H locs ls  hw hW hS (lv_sub hl [0, 1] rfl)
set_option maxHeartbeats 4000000 in
set_option maxRecDepth 100000 in
theorem k_Mod_tell (l : Launch) (dC : Nat → ClassId) (dI : Nat → Nat → Nat) (cI cB cJ cZ : ClassId) (ad : Nat → Nat) (sz : Nat) (l1 : Int32) (x : St) {post : St → Prop} (hw : wp_Mod_tell post l1 x) : Met l y_Mod_tell (wsOf y_Mod_tell b_Mod_tell 2 (none)) ({ frames := 0, cells := 0, slots := 0, locals := 0 }) (va_Pc [.ref (ad 0), .int l1] (PW dC dI cI cB cJ cZ ad stM kcM 115 sz x)) (va_Qv (fun (y : St) => post y) (fun y t => Wd dC dI cI cB cJ cZ ad stM kcM 115 (va_A (pic ad stM kcM 115 cI cB cJ cZ x) sz) y t.heap) (va_A (pic ad stM kcM 115 cI cB cJ cZ x) sz)) 0 0 (va_A (pic ad stM kcM 115 cI cB cJ cZ x) sz) := by
  refine Met.ofW (cc := b_Mod_tell) (maxL := 2) (ret := none) (by decide) rfl ?_
  intro p e s m args below meth c s₁ B hml hv
  obtain ⟨rfl, hsz, hW0, hK, hN⟩ := hv
  have hx := B.exec
  have hb := B.bytes
  have hr := B.returns
  have hts := atoms_spec B.pre
  have hT : ∀ w ∈ TG, w.before _ s = true := fun w h => hts w (List.mem_cons_of_mem _ h)
  have hown : s.vm.findClass R_Mod = some m.cls := findClass_of_methodNamed B.named
  have hlocks := B.notSynchronized
  subst hsz
  have hW : Wd dC dI cI cB cJ cZ ad stM kcM 115 (va_A (pic ad stM kcM 115 cI cB cJ cZ x) s.heap.size) x s.heap := ⟨hW0.1, hW0.2.1.self (sz := s.heap.size), hW0.2.2⟩
  generalize hAe : va_A (pic ad stM kcM 115 cI cB cJ cZ x) s.heap.size = A at hW ⊢
  have hA : ∀ q : Nat, s.heap.size ≤ q → A q := fun q h => by rw [← hAe]; exact Or.inr h
  have hS : va_S A s.heap s.heap [] := va_S.rf
  have hl := lv_entry ([.ref (ad 0), .int l1]) (n := 2) (Nat.le_of_ble_eq_true rfl)
  rw [lg_entry_eq]
  generalize (lg_sl ([.ref (ad 0), .int l1]) ++ List.replicate (2 - (lg_sl ([.ref (ad 0), .int l1])).length) Slot.unset).toArray = ls at hl ⊢
  have hl : lv_has ls 2 [(0, .ref (ad 0)), (1, .int l1)] := hl
  exact t_Mod_tell_e hx hb hml hown hT hK hN hA (Nat.le_refl 0) (Nat.le_refl 0) (Nat.le_refl 0) (Nat.le_refl 0) (fun x H locs pc ls hd hp hW hS => W.vret hx hb hr (fun t ht hM => ⟨⟨x, rfl, hp, Wd.back hW ht.symm (fun _ z => z)⟩, hS.F ht⟩) hS.2.2 hd hlocks)  l1 x _ _ ls  hw hW hS hl
set_option maxRecDepth 100000 in
set_option maxHeartbeats 4000000 in
set_option maxRecDepth 100000 in
theorem t_Mod_isUnder_34 {p : Program} {l : Launch} {e : Env} {R : Room} {s : State} {m : MethodId} {args : Array Value} {below : List Frame} {meth : Method} {c : Code} {cells slots : Nat} {Q : State → Prop} {dC : Nat → ClassId} {dI : Nat → Nat → Nat} {cI cB cJ cZ : ClassId} {A : Nat → Prop} {ad : Nat → Nat} {post : Int32 → St → Prop} {rec13 : Int32 → Int32 → Int32 → Int32 → St → Prop} (hx : p.tables.exec = Jvm.exec) (hb : c.code = b_Mod_isUnder) (hml : c.maxLocals = 5) (hown : s.vm.findClass R_Mod = some m.cls) (hT : ∀ w ∈ TG, w.before args s = true) (hK : va_K (dC, dI) CL (TY cI cB cJ cZ) s) (hN : NW s) (hA : ∀ q : Nat, s.heap.size ≤ q → A q) (hRc : cells ≤ R.cells) (hRs : slots ≤ R.slots) (hRf : 1 ≤ R.frames) (hRl : 21 ≤ R.locals) (hret : ∀ (r : Int32) (x : St) (H : Heap) (locs : List Loc) (pc : Nat) (ls : Array Slot), decode b_Mod_isUnder pc = .ok (.ireturn, 1) → narrow .boolean (.int r) = .int r → post r x → Wd dC dI cI cB cJ cZ ad stM kcM 115 A x H → va_S A s.heap H locs → W p l e R s m args below meth c H locs cells slots Q (F0 m pc ls [.int r])) (hrec13 : ∀ (l1 : Int32) (l2 : Int32) (l3 : Int32) (l4 : Int32) (x : St) (H : Heap) (locs : List Loc) (ls : Array Slot), rec13 l1 l2 l3 l4 x → Wd dC dI cI cB cJ cZ ad stM kcM 115 A x H → va_S A s.heap H locs → lv_has ls 5 [(0, .ref (ad 0)), (1, .int l1), (2, .int l2), (3, .int l3), (4, .int l4)] → W p l e R s m args below meth c H locs cells slots Q (F0 m 13 ls [])) : ∀ (l1 : Int32) (l2 : Int32) (l3 : Int32) (l4 : Int32) (s0 : Int32) (x : St) (H : Heap) (locs : List Loc) (ls : Array Slot), j_Mod_isUnder_34 post rec13 l1 l2 l3 l4 s0 x → Wd dC dI cI cB cJ cZ ad stM kcM 115 A x H → va_S A s.heap H locs → lv_has ls 5 [(0, .ref (ad 0)), (1, .int l1), (2, .int l2), (3, .int l3), (4, .int l4)] → W p l e R s m args below meth c H locs cells slots Q (F0 m 34 ls [.int s0]) := by
  intro l1 l2 l3 l4 s0 x H locs ls  hw hW hS hl
  unfold j_Mod_isUnder_34 at hw
  refine lv_istore_n (lv' := [(3, .int s0), (0, .ref (ad 0)), (1, .int l1), (2, .int l2), (4, .int l4)]) hx hb d_Mod_isUnder_34 rfl hl (by decide) rfl (fun ls hl => ?_)
  refine lv_aload_n hx hb d_Mod_isUnder_35 rfl (lv_at hl 1 rfl) ?_
  refine w_getf (q := 5) (k := 7) (t := 12) (C := R_Mod) (T := F_Mod) (N := 167) hx hb hT hown hK hW ko_0.1 ko_0.2 (by decide) in_Mod rfl rfl (by decide) rfl fr_Mod_7 w_8_183 d_Mod_isUnder_36 rfl ?_
  refine lv_iconst (v := 1) hx hb d_Mod_isUnder_39 (by decide) ?_
  refine lv_iload hx hb d_Mod_isUnder_40 (lv_at hl 4 rfl) ?_
  have hF := hW.free hS hA
  refine va_calli (va_runS (As := [.int 1, .int l4]) (rest := [.ref (ad 5)]) ⟨hx, hb, hml, hown, hT⟩ (k_Mod_place l dC dI cI cB cJ cZ ad H.size 1 l4 x  hw) ⟨callB_of 2 hT (gwt_in w_11_30) rfl rfl rfl (hT _ w_1_15) (hT _ w_11_28) (by decide +kernel) ⟨Nat.le_trans (Nat.le_of_ble_eq_true rfl) hRf, Nat.le_trans (Nat.le_of_ble_eq_true rfl) hRl⟩, hT _ w_11_29⟩ ⟨PW.blind, PW.at _ hW hK hN⟩ rfl rfl hl.1 rfl (lv_room (Nat.le_of_ble_eq_true rfl)) d_Mod_isUnder_42 ⟨hRc, hRs⟩) hS (fun q _ h => hF q h) hF (fun r1784 x1783 t H locs ht hvm hw hB hz1 hk1 hS => ?_)
  have hW := Wd.back hB ht hF
  clear hB ht hF hz1 hk1 hvm
  obtain ⟨hi, hw⟩ := hw
  refine w_iald (o := 5) hx hb hK hW ko_5.1 ko_5.2 hi d_Mod_isUnder_45 ?_
  refine lv_topi (fun v1785 ev1785 => ?_)
  have hw := hw v1785 ev1785
  refine lv_istore (lv' := [(4, .int v1785), (3, .int s0), (0, .ref (ad 0)), (1, .int l1), (2, .int l2)]) hx hb d_Mod_isUnder_46 hl (by decide) rfl (fun ls hl => ?_)
  refine lv_goto (tgt := 13) hx hb d_Mod_isUnder_48 (by decide) ?_
  exact hrec13 l1 l2 s0 v1785 x1783 H locs ls  hw hW hS (lv_sub hl [2, 3, 4, 1, 0] rfl)
set_option maxRecDepth 100000 in
set_option maxHeartbeats 4000000 in
set_option maxRecDepth 100000 in
theorem t_Mod_isUnder_29 {p : Program} {l : Launch} {e : Env} {R : Room} {s : State} {m : MethodId} {args : Array Value} {below : List Frame} {meth : Method} {c : Code} {cells slots : Nat} {Q : State → Prop} {dC : Nat → ClassId} {dI : Nat → Nat → Nat} {cI cB cJ cZ : ClassId} {A : Nat → Prop} {ad : Nat → Nat} {post : Int32 → St → Prop} {rec13 : Int32 → Int32 → Int32 → Int32 → St → Prop} (hx : p.tables.exec = Jvm.exec) (hb : c.code = b_Mod_isUnder) (hml : c.maxLocals = 5) (hown : s.vm.findClass R_Mod = some m.cls) (hT : ∀ w ∈ TG, w.before args s = true) (hK : va_K (dC, dI) CL (TY cI cB cJ cZ) s) (hN : NW s) (hA : ∀ q : Nat, s.heap.size ≤ q → A q) (hRc : cells ≤ R.cells) (hRs : slots ≤ R.slots) (hRf : 1 ≤ R.frames) (hRl : 21 ≤ R.locals) (hret : ∀ (r : Int32) (x : St) (H : Heap) (locs : List Loc) (pc : Nat) (ls : Array Slot), decode b_Mod_isUnder pc = .ok (.ireturn, 1) → narrow .boolean (.int r) = .int r → post r x → Wd dC dI cI cB cJ cZ ad stM kcM 115 A x H → va_S A s.heap H locs → W p l e R s m args below meth c H locs cells slots Q (F0 m pc ls [.int r])) (hrec13 : ∀ (l1 : Int32) (l2 : Int32) (l3 : Int32) (l4 : Int32) (x : St) (H : Heap) (locs : List Loc) (ls : Array Slot), rec13 l1 l2 l3 l4 x → Wd dC dI cI cB cJ cZ ad stM kcM 115 A x H → va_S A s.heap H locs → lv_has ls 5 [(0, .ref (ad 0)), (1, .int l1), (2, .int l2), (3, .int l3), (4, .int l4)] → W p l e R s m args below meth c H locs cells slots Q (F0 m 13 ls [])) : ∀ (l1 : Int32) (l2 : Int32) (l3 : Int32) (l4 : Int32) (x : St) (H : Heap) (locs : List Loc) (ls : Array Slot), j_Mod_isUnder_29 post rec13 l1 l2 l3 l4 x → Wd dC dI cI cB cJ cZ ad stM kcM 115 A x H → va_S A s.heap H locs → lv_has ls 5 [(0, .ref (ad 0)), (1, .int l1), (2, .int l2), (3, .int l3), (4, .int l4)] → W p l e R s m args below meth c H locs cells slots Q (F0 m 29 ls []) := by
  intro l1 l2 l3 l4 x H locs ls  hw hW hS hl
  unfold j_Mod_isUnder_29 at hw
  refine lv_iconst (v := 1) hx hb d_Mod_isUnder_29 (by decide) ?_
  refine lv_goto (tgt := 34) hx hb d_Mod_isUnder_30 (by decide) ?_
  exact t_Mod_isUnder_34 hx hb hml hown hT hK hN hA hRc hRs hRf hRl hret hrec13 l1 l2 l3 l4 1 x H locs ls  hw hW hS (lv_sub hl [0, 1, 2, 3, 4] rfl)
set_option maxRecDepth 100000 in
set_option maxHeartbeats 4000000 in
set_option maxRecDepth 100000 in
theorem t_Mod_isUnder_13 {p : Program} {l : Launch} {e : Env} {R : Room} {s : State} {m : MethodId} {args : Array Value} {below : List Frame} {meth : Method} {c : Code} {cells slots : Nat} {Q : State → Prop} {dC : Nat → ClassId} {dI : Nat → Nat → Nat} {cI cB cJ cZ : ClassId} {A : Nat → Prop} {ad : Nat → Nat} {post : Int32 → St → Prop} {rec13 : Int32 → Int32 → Int32 → Int32 → St → Prop} (hx : p.tables.exec = Jvm.exec) (hb : c.code = b_Mod_isUnder) (hml : c.maxLocals = 5) (hown : s.vm.findClass R_Mod = some m.cls) (hT : ∀ w ∈ TG, w.before args s = true) (hK : va_K (dC, dI) CL (TY cI cB cJ cZ) s) (hN : NW s) (hA : ∀ q : Nat, s.heap.size ≤ q → A q) (hRc : cells ≤ R.cells) (hRs : slots ≤ R.slots) (hRf : 1 ≤ R.frames) (hRl : 21 ≤ R.locals) (hret : ∀ (r : Int32) (x : St) (H : Heap) (locs : List Loc) (pc : Nat) (ls : Array Slot), decode b_Mod_isUnder pc = .ok (.ireturn, 1) → narrow .boolean (.int r) = .int r → post r x → Wd dC dI cI cB cJ cZ ad stM kcM 115 A x H → va_S A s.heap H locs → W p l e R s m args below meth c H locs cells slots Q (F0 m pc ls [.int r])) (hrec13 : ∀ (l1 : Int32) (l2 : Int32) (l3 : Int32) (l4 : Int32) (x : St) (H : Heap) (locs : List Loc) (ls : Array Slot), rec13 l1 l2 l3 l4 x → Wd dC dI cI cB cJ cZ ad stM kcM 115 A x H → va_S A s.heap H locs → lv_has ls 5 [(0, .ref (ad 0)), (1, .int l1), (2, .int l2), (3, .int l3), (4, .int l4)] → W p l e R s m args below meth c H locs cells slots Q (F0 m 13 ls [])) : ∀ (l1 : Int32) (l2 : Int32) (l3 : Int32) (l4 : Int32) (x : St) (H : Heap) (locs : List Loc) (ls : Array Slot), j_Mod_isUnder_13 post rec13 l1 l2 l3 l4 x → Wd dC dI cI cB cJ cZ ad stM kcM 115 A x H → va_S A s.heap H locs → lv_has ls 5 [(0, .ref (ad 0)), (1, .int l1), (2, .int l2), (3, .int l3), (4, .int l4)] → W p l e R s m args below meth c H locs cells slots Q (F0 m 13 ls []) := by
  intro l1 l2 l3 l4 x H locs ls  hw hW hS hl
  unfold j_Mod_isUnder_13 at hw
  refine lv_iload hx hb d_Mod_isUnder_13 (lv_at hl 4 rfl) ?_
  refine lv_iconst (v := (-1)) hx hb d_Mod_isUnder_15 (by decide) ?_
  refine lv_icmp_eq (tgt := 51) hx hb d_Mod_isUnder_16 (by decide) (fun c1786 => ?_) (fun c1786 => ?_)
  · have hw := hw.1 c1786
    refine lv_iload_n hx hb d_Mod_isUnder_51 rfl (lv_at hl 3 rfl) ?_
    exact hret l3 x H locs 52 ls d_Mod_isUnder_52 hw.1 hw.2 hW hS
  · have hw := hw.2 c1786
    refine lv_iload_n hx hb d_Mod_isUnder_19 rfl (lv_at hl 3 rfl) ?_
    refine lv_if_ne (tgt := 29) hx hb d_Mod_isUnder_20 (by decide) (fun c1787 => ?_) (fun c1787 => ?_)
    · have hw := hw.1 c1787
      exact t_Mod_isUnder_29 hx hb hml hown hT hK hN hA hRc hRs hRf hRl hret hrec13 l1 l2 l3 l4 x H locs ls  hw hW hS (lv_sub hl [0, 1, 2, 3, 4] rfl)
    · have hw := hw.2 c1787
      refine lv_iload hx hb d_Mod_isUnder_23 (lv_at hl 4 rfl) ?_
      refine lv_iload_n hx hb d_Mod_isUnder_25 rfl (lv_at hl 2 rfl) ?_
      refine lv_icmp_ne (tgt := 33) hx hb d_Mod_isUnder_26 (by decide) (fun c1788 => ?_) (fun c1788 => ?_)
      · have hw := hw.1 c1788
        refine lv_iconst (v := 0) hx hb d_Mod_isUnder_33 (by decide) ?_
        exact t_Mod_isUnder_34 hx hb hml hown hT hK hN hA hRc hRs hRf hRl hret hrec13 l1 l2 l3 l4 0 x H locs ls  hw hW hS (lv_sub hl [0, 1, 2, 3, 4] rfl)
      · have hw := hw.2 c1788
        exact t_Mod_isUnder_29 hx hb hml hown hT hK hN hA hRc hRs hRf hRl hret hrec13 l1 l2 l3 l4 x H locs ls  hw hW hS (lv_sub hl [0, 1, 2, 3, 4] rfl)
set_option maxHeartbeats 4000000 in
set_option maxRecDepth 100000 in
theorem tl_Mod_isUnder_13 {p : Program} {l : Launch} {e : Env} {R : Room} {s : State} {m : MethodId} {args : Array Value} {below : List Frame} {meth : Method} {c : Code} {cells slots : Nat} {Q : State → Prop} {dC : Nat → ClassId} {dI : Nat → Nat → Nat} {cI cB cJ cZ : ClassId} {A : Nat → Prop} {ad : Nat → Nat} {post : Int32 → St → Prop} (hx : p.tables.exec = Jvm.exec) (hb : c.code = b_Mod_isUnder) (hml : c.maxLocals = 5) (hown : s.vm.findClass R_Mod = some m.cls) (hT : ∀ w ∈ TG, w.before args s = true) (hK : va_K (dC, dI) CL (TY cI cB cJ cZ) s) (hN : NW s) (hA : ∀ q : Nat, s.heap.size ≤ q → A q) (hRc : cells ≤ R.cells) (hRs : slots ≤ R.slots) (hRf : 1 ≤ R.frames) (hRl : 21 ≤ R.locals) (hret : ∀ (r : Int32) (x : St) (H : Heap) (locs : List Loc) (pc : Nat) (ls : Array Slot), decode b_Mod_isUnder pc = .ok (.ireturn, 1) → narrow .boolean (.int r) = .int r → post r x → Wd dC dI cI cB cJ cZ ad stM kcM 115 A x H → va_S A s.heap H locs → W p l e R s m args below meth c H locs cells slots Q (F0 m pc ls [.int r]))  : ∀ n : Nat, ∀ (l1 : Int32) (l2 : Int32) (l3 : Int32) (l4 : Int32) (x : St) (H : Heap) (locs : List Loc) (ls : Array Slot), wl_Mod_isUnder_13 post n l1 l2 l3 l4 x → Wd dC dI cI cB cJ cZ ad stM kcM 115 A x H → va_S A s.heap H locs → lv_has ls 5 [(0, .ref (ad 0)), (1, .int l1), (2, .int l2), (3, .int l3), (4, .int l4)] → W p l e R s m args below meth c H locs cells slots Q (F0 m 13 ls []) := by
  intro n
  induction n with
  | zero => intro l1 l2 l3 l4 x H locs ls  hw; exact hw.elim
  | succ n ih => intro l1 l2 l3 l4 x H locs ls  hw hW hS hl; exact t_Mod_isUnder_13 hx hb hml hown hT hK hN hA hRc hRs hRf hRl hret  ih l1 l2 l3 l4 x H locs ls  hw hW hS hl
set_option maxRecDepth 100000 in
set_option maxHeartbeats 4000000 in
set_option maxRecDepth 100000 in
theorem t_Mod_isUnder_e {p : Program} {l : Launch} {e : Env} {R : Room} {s : State} {m : MethodId} {args : Array Value} {below : List Frame} {meth : Method} {c : Code} {cells slots : Nat} {Q : State → Prop} {dC : Nat → ClassId} {dI : Nat → Nat → Nat} {cI cB cJ cZ : ClassId} {A : Nat → Prop} {ad : Nat → Nat} {post : Int32 → St → Prop} (hx : p.tables.exec = Jvm.exec) (hb : c.code = b_Mod_isUnder) (hml : c.maxLocals = 5) (hown : s.vm.findClass R_Mod = some m.cls) (hT : ∀ w ∈ TG, w.before args s = true) (hK : va_K (dC, dI) CL (TY cI cB cJ cZ) s) (hN : NW s) (hA : ∀ q : Nat, s.heap.size ≤ q → A q) (hRc : cells ≤ R.cells) (hRs : slots ≤ R.slots) (hRf : 1 ≤ R.frames) (hRl : 21 ≤ R.locals) (hret : ∀ (r : Int32) (x : St) (H : Heap) (locs : List Loc) (pc : Nat) (ls : Array Slot), decode b_Mod_isUnder pc = .ok (.ireturn, 1) → narrow .boolean (.int r) = .int r → post r x → Wd dC dI cI cB cJ cZ ad stM kcM 115 A x H → va_S A s.heap H locs → W p l e R s m args below meth c H locs cells slots Q (F0 m pc ls [.int r])) : ∀ (l1 : Int32) (l2 : Int32) (x : St) (H : Heap) (locs : List Loc) (ls : Array Slot), wp_Mod_isUnder post l1 l2 x → Wd dC dI cI cB cJ cZ ad stM kcM 115 A x H → va_S A s.heap H locs → lv_has ls 5 [(0, .ref (ad 0)), (1, .int l1), (2, .int l2)] → W p l e R s m args below meth c H locs cells slots Q (F0 m 0 ls []) := by
  intro l1 l2 x H locs ls  hw hW hS hl
  unfold wp_Mod_isUnder at hw
  refine lv_iconst (v := 0) hx hb d_Mod_isUnder_0 (by decide) ?_
  refine lv_istore_n (lv' := [(3, .int 0), (0, .ref (ad 0)), (1, .int l1), (2, .int l2)]) hx hb d_Mod_isUnder_1 rfl hl (by decide) rfl (fun ls hl => ?_)
  refine lv_aload_n hx hb d_Mod_isUnder_2 rfl (lv_at hl 1 rfl) ?_
  refine w_getf (q := 11) (k := 13) (t := 12) (C := R_Mod) (T := F_Mod) (N := 167) hx hb hT hown hK hW ko_0.1 ko_0.2 (by decide) in_Mod rfl rfl (by decide) rfl fr_Mod_13 w_8_189 d_Mod_isUnder_3 rfl ?_
  refine lv_bipush (v := 64) hx hb d_Mod_isUnder_6 (by decide) ?_
  refine lv_iload_n hx hb d_Mod_isUnder_8 rfl (lv_at hl 2 rfl) ?_
  refine lv_iadd hx hb d_Mod_isUnder_9 ?_
  obtain ⟨hi, hw⟩ := hw
  refine w_iald (o := 11) hx hb hK hW ko_11.1 ko_11.2 hi d_Mod_isUnder_10 ?_
  refine lv_topi (fun v1789 ev1789 => ?_)
  have hw := hw v1789 ev1789
  refine lv_istore (lv' := [(4, .int v1789), (3, .int 0), (0, .ref (ad 0)), (1, .int l1), (2, .int l2)]) hx hb d_Mod_isUnder_11 hl (by decide) rfl (fun ls hl => ?_)
  obtain ⟨n, hw⟩ := hw
  exact tl_Mod_isUnder_13 hx hb hml hown hT hK hN hA hRc hRs hRf hRl hret  n l1 l2 0 v1789 x H locs ls  hw hW hS (lv_sub hl [2, 3, 4, 1, 0] rfl)
set_option maxHeartbeats 4000000 in
set_option maxRecDepth 100000 in
theorem k_Mod_isUnder (l : Launch) (dC : Nat → ClassId) (dI : Nat → Nat → Nat) (cI cB cJ cZ : ClassId) (ad : Nat → Nat) (sz : Nat) (l1 : Int32) (l2 : Int32) (x : St) {post : Int32 → St → Prop} (hw : wp_Mod_isUnder post l1 l2 x) : Met l y_Mod_isUnder (wsOf y_Mod_isUnder b_Mod_isUnder 5 (some (.boolean))) ({ frames := 1, cells := 0, slots := 0, locals := 21 }) (va_Pc [.ref (ad 0), .int l1, .int l2] (PW dC dI cI cB cJ cZ ad stM kcM 115 sz x)) (va_Qi (fun (r : Int32) (y : St) => post r y) (fun y t => Wd dC dI cI cB cJ cZ ad stM kcM 115 (va_A (pic ad stM kcM 115 cI cB cJ cZ x) sz) y t.heap) (va_A (pic ad stM kcM 115 cI cB cJ cZ x) sz)) 0 0 (va_A (pic ad stM kcM 115 cI cB cJ cZ x) sz) := by
  refine Met.ofW (cc := b_Mod_isUnder) (maxL := 5) (ret := some (.boolean)) (by decide) rfl ?_
  intro p e s m args below meth c s₁ B hml hv
  obtain ⟨rfl, hsz, hW0, hK, hN⟩ := hv
  have hx := B.exec
  have hb := B.bytes
  have hr := B.returns
  have hts := atoms_spec B.pre
  have hT : ∀ w ∈ TG, w.before _ s = true := fun w h => hts w (List.mem_cons_of_mem _ h)
  have hown : s.vm.findClass R_Mod = some m.cls := findClass_of_methodNamed B.named
  have hlocks := B.notSynchronized
  subst hsz
  have hW : Wd dC dI cI cB cJ cZ ad stM kcM 115 (va_A (pic ad stM kcM 115 cI cB cJ cZ x) s.heap.size) x s.heap := ⟨hW0.1, hW0.2.1.self (sz := s.heap.size), hW0.2.2⟩
  generalize hAe : va_A (pic ad stM kcM 115 cI cB cJ cZ x) s.heap.size = A at hW ⊢
  have hA : ∀ q : Nat, s.heap.size ≤ q → A q := fun q h => by rw [← hAe]; exact Or.inr h
  have hS : va_S A s.heap s.heap [] := va_S.rf
  have hl := lv_entry ([.ref (ad 0), .int l1, .int l2]) (n := 5) (Nat.le_of_ble_eq_true rfl)
  rw [lg_entry_eq]
  generalize (lg_sl ([.ref (ad 0), .int l1, .int l2]) ++ List.replicate (5 - (lg_sl ([.ref (ad 0), .int l1, .int l2])).length) Slot.unset).toArray = ls at hl ⊢
  have hl : lv_has ls 5 [(0, .ref (ad 0)), (1, .int l1), (2, .int l2)] := hl
  exact t_Mod_isUnder_e hx hb hml hown hT hK hN hA (Nat.le_refl 0) (Nat.le_refl 0) (Nat.le_refl 1) (Nat.le_refl 21) (fun r x H locs pc ls hd hz hp hW hS => W.zret (v := r) (ty := .boolean) hx hb hr hz (fun t ht hM => ⟨⟨r, x, rfl, hp, Wd.back hW ht.symm (fun _ z => z)⟩, hS.F ht⟩) hS.2.2 hd hlocks)  l1 l2 x _ _ ls  hw hW hS hl
set_option maxRecDepth 100000 in
set_option maxHeartbeats 4000000 in
set_option maxRecDepth 100000 in
theorem t_Mod_columnIn_38 {p : Program} {l : Launch} {e : Env} {R : Room} {s : State} {m : MethodId} {args : Array Value} {below : List Frame} {meth : Method} {c : Code} {cells slots : Nat} {Q : State → Prop} {dC : Nat → ClassId} {dI : Nat → Nat → Nat} {cI cB cJ cZ : ClassId} {A : Nat → Prop} {ad : Nat → Nat} {post : Int32 → St → Prop} {rec11 : Int32 → Int32 → Int32 → St → Prop} (hx : p.tables.exec = Jvm.exec) (hb : c.code = b_Mod_columnIn) (hml : c.maxLocals = 4) (hown : s.vm.findClass R_Mod = some m.cls) (hT : ∀ w ∈ TG, w.before args s = true) (hK : va_K (dC, dI) CL (TY cI cB cJ cZ) s) (hN : NW s) (hA : ∀ q : Nat, s.heap.size ≤ q → A q) (hRc : cells ≤ R.cells) (hRs : slots ≤ R.slots) (hRf : 2 ≤ R.frames) (hRl : 45 ≤ R.locals) (hret : ∀ (r : Int32) (x : St) (H : Heap) (locs : List Loc) (pc : Nat) (ls : Array Slot), decode b_Mod_columnIn pc = .ok (.ireturn, 1) → post r x → Wd dC dI cI cB cJ cZ ad stM kcM 115 A x H → va_S A s.heap H locs → W p l e R s m args below meth c H locs cells slots Q (F0 m pc ls [.int r])) (hrec11 : ∀ (l1 : Int32) (l2 : Int32) (l3 : Int32) (x : St) (H : Heap) (locs : List Loc) (ls : Array Slot), rec11 l1 l2 l3 x → Wd dC dI cI cB cJ cZ ad stM kcM 115 A x H → va_S A s.heap H locs → lv_has ls 4 [(0, .ref (ad 0)), (1, .int l1), (2, .int l2), (3, .int l3)] → W p l e R s m args below meth c H locs cells slots Q (F0 m 11 ls [])) : ∀ (l1 : Int32) (l2 : Int32) (l3 : Int32) (s0 : Int32) (x : St) (H : Heap) (locs : List Loc) (ls : Array Slot), j_Mod_columnIn_38 post rec11 l1 l2 l3 s0 x → Wd dC dI cI cB cJ cZ ad stM kcM 115 A x H → va_S A s.heap H locs → lv_has ls 4 [(0, .ref (ad 0)), (1, .int l1), (2, .int l2), (3, .int l3)] → W p l e R s m args below meth c H locs cells slots Q (F0 m 38 ls [.int s0]) := by
  intro l1 l2 l3 s0 x H locs ls  hw hW hS hl
  unfold j_Mod_columnIn_38 at hw
  refine lv_istore_n (lv' := [(2, .int s0), (0, .ref (ad 0)), (1, .int l1), (3, .int l3)]) hx hb d_Mod_columnIn_38 rfl hl (by decide) rfl (fun ls hl => ?_)
  refine lv_iinc (v := (l3 + (-1))) (lv' := [(3, .int (l3 + (-1))), (2, .int s0), (0, .ref (ad 0)), (1, .int l1)]) hx hb d_Mod_columnIn_39 hl (k := 3) rfl rfl (by decide) rfl (fun ls hl => ?_)
  refine lv_goto (tgt := 11) hx hb d_Mod_columnIn_42 (by decide) ?_
  exact hrec11 l1 s0 (l3 + (-1)) x H locs ls  hw hW hS (lv_sub hl [2, 3, 1, 0] rfl)
set_option maxRecDepth 100000 in
set_option maxHeartbeats 4000000 in
set_option maxRecDepth 100000 in
theorem t_Mod_columnIn_37 {p : Program} {l : Launch} {e : Env} {R : Room} {s : State} {m : MethodId} {args : Array Value} {below : List Frame} {meth : Method} {c : Code} {cells slots : Nat} {Q : State → Prop} {dC : Nat → ClassId} {dI : Nat → Nat → Nat} {cI cB cJ cZ : ClassId} {A : Nat → Prop} {ad : Nat → Nat} {post : Int32 → St → Prop} {rec11 : Int32 → Int32 → Int32 → St → Prop} (hx : p.tables.exec = Jvm.exec) (hb : c.code = b_Mod_columnIn) (hml : c.maxLocals = 4) (hown : s.vm.findClass R_Mod = some m.cls) (hT : ∀ w ∈ TG, w.before args s = true) (hK : va_K (dC, dI) CL (TY cI cB cJ cZ) s) (hN : NW s) (hA : ∀ q : Nat, s.heap.size ≤ q → A q) (hRc : cells ≤ R.cells) (hRs : slots ≤ R.slots) (hRf : 2 ≤ R.frames) (hRl : 45 ≤ R.locals) (hret : ∀ (r : Int32) (x : St) (H : Heap) (locs : List Loc) (pc : Nat) (ls : Array Slot), decode b_Mod_columnIn pc = .ok (.ireturn, 1) → post r x → Wd dC dI cI cB cJ cZ ad stM kcM 115 A x H → va_S A s.heap H locs → W p l e R s m args below meth c H locs cells slots Q (F0 m pc ls [.int r])) (hrec11 : ∀ (l1 : Int32) (l2 : Int32) (l3 : Int32) (x : St) (H : Heap) (locs : List Loc) (ls : Array Slot), rec11 l1 l2 l3 x → Wd dC dI cI cB cJ cZ ad stM kcM 115 A x H → va_S A s.heap H locs → lv_has ls 4 [(0, .ref (ad 0)), (1, .int l1), (2, .int l2), (3, .int l3)] → W p l e R s m args below meth c H locs cells slots Q (F0 m 11 ls [])) : ∀ (l1 : Int32) (l2 : Int32) (l3 : Int32) (x : St) (H : Heap) (locs : List Loc) (ls : Array Slot), j_Mod_columnIn_37 post rec11 l1 l2 l3 x → Wd dC dI cI cB cJ cZ ad stM kcM 115 A x H → va_S A s.heap H locs → lv_has ls 4 [(0, .ref (ad 0)), (1, .int l1), (2, .int l2), (3, .int l3)] → W p l e R s m args below meth c H locs cells slots Q (F0 m 37 ls []) := by
  intro l1 l2 l3 x H locs ls  hw hW hS hl
  unfold j_Mod_columnIn_37 at hw
  refine lv_iload_n hx hb d_Mod_columnIn_37 rfl (lv_at hl 2 rfl) ?_
  exact t_Mod_columnIn_38 hx hb hml hown hT hK hN hA hRc hRs hRf hRl hret hrec11 l1 l2 l3 l2 x H locs ls  hw hW hS (lv_sub hl [0, 1, 2, 3] rfl)
set_option maxRecDepth 100000 in
set_option maxHeartbeats 4000000 in
set_option maxRecDepth 100000 in
theorem t_Mod_columnIn_11 {p : Program} {l : Launch} {e : Env} {R : Room} {s : State} {m : MethodId} {args : Array Value} {below : List Frame} {meth : Method} {c : Code} {cells slots : Nat} {Q : State → Prop} {dC : Nat → ClassId} {dI : Nat → Nat → Nat} {cI cB cJ cZ : ClassId} {A : Nat → Prop} {ad : Nat → Nat} {post : Int32 → St → Prop} {rec11 : Int32 → Int32 → Int32 → St → Prop} (hx : p.tables.exec = Jvm.exec) (hb : c.code = b_Mod_columnIn) (hml : c.maxLocals = 4) (hown : s.vm.findClass R_Mod = some m.cls) (hT : ∀ w ∈ TG, w.before args s = true) (hK : va_K (dC, dI) CL (TY cI cB cJ cZ) s) (hN : NW s) (hA : ∀ q : Nat, s.heap.size ≤ q → A q) (hRc : cells ≤ R.cells) (hRs : slots ≤ R.slots) (hRf : 2 ≤ R.frames) (hRl : 45 ≤ R.locals) (hret : ∀ (r : Int32) (x : St) (H : Heap) (locs : List Loc) (pc : Nat) (ls : Array Slot), decode b_Mod_columnIn pc = .ok (.ireturn, 1) → post r x → Wd dC dI cI cB cJ cZ ad stM kcM 115 A x H → va_S A s.heap H locs → W p l e R s m args below meth c H locs cells slots Q (F0 m pc ls [.int r])) (hrec11 : ∀ (l1 : Int32) (l2 : Int32) (l3 : Int32) (x : St) (H : Heap) (locs : List Loc) (ls : Array Slot), rec11 l1 l2 l3 x → Wd dC dI cI cB cJ cZ ad stM kcM 115 A x H → va_S A s.heap H locs → lv_has ls 4 [(0, .ref (ad 0)), (1, .int l1), (2, .int l2), (3, .int l3)] → W p l e R s m args below meth c H locs cells slots Q (F0 m 11 ls [])) : ∀ (l1 : Int32) (l2 : Int32) (l3 : Int32) (x : St) (H : Heap) (locs : List Loc) (ls : Array Slot), j_Mod_columnIn_11 post rec11 l1 l2 l3 x → Wd dC dI cI cB cJ cZ ad stM kcM 115 A x H → va_S A s.heap H locs → lv_has ls 4 [(0, .ref (ad 0)), (1, .int l1), (2, .int l2), (3, .int l3)] → W p l e R s m args below meth c H locs cells slots Q (F0 m 11 ls []) := by
  intro l1 l2 l3 x H locs ls  hw hW hS hl
  unfold j_Mod_columnIn_11 at hw
  refine lv_iload_n hx hb d_Mod_columnIn_11 rfl (lv_at hl 3 rfl) ?_
  refine lv_if_lt (tgt := 45) hx hb d_Mod_columnIn_12 (by decide) (fun c1790 => ?_) (fun c1790 => ?_)
  · have hw := hw.1 c1790
    refine lv_iload_n hx hb d_Mod_columnIn_45 rfl (lv_at hl 2 rfl) ?_
    exact hret l2 x H locs 46 ls d_Mod_columnIn_46 hw hW hS
  · have hw := hw.2 c1790
    refine lv_aload_n hx hb d_Mod_columnIn_15 rfl (lv_at hl 0 rfl) ?_
    refine w_getf (q := 78) (k := 116) (t := 12) (C := R_Mod) (T := F_Mod) (N := 167) hx hb hT hown hK hW ko_0.1 ko_0.2 (by decide) in_Mod rfl rfl (by decide) rfl fr_Mod_116 w_9_52 d_Mod_columnIn_16 rfl ?_
    refine lv_iload_n hx hb d_Mod_columnIn_19 rfl (lv_at hl 3 rfl) ?_
    obtain ⟨hi, hw⟩ := hw
    refine w_zald (o := 78) hx hb hK hW ko_78.1 ko_78.2 hi d_Mod_columnIn_20 ?_
    refine lv_if_eq (tgt := 37) hx hb d_Mod_columnIn_21 (by decide) (fun c1791 => ?_) (fun c1791 => ?_)
    · have hw := hw.1 c1791
      exact t_Mod_columnIn_37 hx hb hml hown hT hK hN hA hRc hRs hRf hRl hret hrec11 l1 l2 l3 x H locs ls  hw hW hS (lv_sub hl [0, 1, 2, 3] rfl)
    · have hw := hw.2 c1791
      refine lv_aload_n hx hb d_Mod_columnIn_24 rfl (lv_at hl 0 rfl) ?_
      refine lv_iload_n hx hb d_Mod_columnIn_25 rfl (lv_at hl 3 rfl) ?_
      refine lv_iload_n hx hb d_Mod_columnIn_26 rfl (lv_at hl 1 rfl) ?_
      have hF := hW.free hS hA
      refine va_calli (va_runV (C := R_Mod) (As := [.int l3, .int l1]) (rest := []) ⟨hx, hb, hml, hown, hT⟩ (k_Mod_isUnder l dC dI cI cB cJ cZ ad H.size l3 l1 x  hw) ⟨callB_of 2 hT (gwt_in w_13_78) rfl rfl rfl (hT _ w_1_15) (hT _ w_13_75) (by decide +kernel) ⟨Nat.le_trans (Nat.le_of_ble_eq_true rfl) hRf, Nat.le_trans (Nat.le_of_ble_eq_true rfl) hRl⟩, hT _ w_13_77, hT _ ws_229⟩ ⟨PW.blind, va_recv hK hW.1 (ci := 12) (q0 := 0) rfl (pic_obj ko_0.1 ko_0.2 (by decide)), PW.at _ hW hK hN⟩ rfl rfl hl.1 rfl (lv_room (Nat.le_of_ble_eq_true rfl)) d_Mod_columnIn_27 ⟨hRc, hRs⟩) hS (fun q _ h => hF q h) hF (fun r1793 x1792 t H locs ht hvm hw hB hz1 hk1 hS => ?_)
      have hW := Wd.back hB ht hF
      clear hB ht hF hz1 hk1 hvm
      refine lv_if_eq (tgt := 37) hx hb d_Mod_columnIn_30 (by decide) (fun c1794 => ?_) (fun c1794 => ?_)
      · have hw := hw.1 c1794
        exact t_Mod_columnIn_37 hx hb hml hown hT hK hN hA hRc hRs hRf hRl hret hrec11 l1 l2 l3 x1792 H locs ls  hw hW hS (lv_sub hl [0, 1, 2, 3] rfl)
      · have hw := hw.2 c1794
        refine lv_iload_n hx hb d_Mod_columnIn_33 rfl (lv_at hl 3 rfl) ?_
        refine lv_goto (tgt := 38) hx hb d_Mod_columnIn_34 (by decide) ?_
        exact t_Mod_columnIn_38 hx hb hml hown hT hK hN hA hRc hRs hRf hRl hret hrec11 l1 l2 l3 l3 x1792 H locs ls  hw hW hS (lv_sub hl [0, 1, 2, 3] rfl)
set_option maxHeartbeats 4000000 in
set_option maxRecDepth 100000 in
theorem tl_Mod_columnIn_11 {p : Program} {l : Launch} {e : Env} {R : Room} {s : State} {m : MethodId} {args : Array Value} {below : List Frame} {meth : Method} {c : Code} {cells slots : Nat} {Q : State → Prop} {dC : Nat → ClassId} {dI : Nat → Nat → Nat} {cI cB cJ cZ : ClassId} {A : Nat → Prop} {ad : Nat → Nat} {post : Int32 → St → Prop} (hx : p.tables.exec = Jvm.exec) (hb : c.code = b_Mod_columnIn) (hml : c.maxLocals = 4) (hown : s.vm.findClass R_Mod = some m.cls) (hT : ∀ w ∈ TG, w.before args s = true) (hK : va_K (dC, dI) CL (TY cI cB cJ cZ) s) (hN : NW s) (hA : ∀ q : Nat, s.heap.size ≤ q → A q) (hRc : cells ≤ R.cells) (hRs : slots ≤ R.slots) (hRf : 2 ≤ R.frames) (hRl : 45 ≤ R.locals) (hret : ∀ (r : Int32) (x : St) (H : Heap) (locs : List Loc) (pc : Nat) (ls : Array Slot), decode b_Mod_columnIn pc = .ok (.ireturn, 1) → post r x → Wd dC dI cI cB cJ cZ ad stM kcM 115 A x H → va_S A s.heap H locs → W p l e R s m args below meth c H locs cells slots Q (F0 m pc ls [.int r]))  : ∀ n : Nat, ∀ (l1 : Int32) (l2 : Int32) (l3 : Int32) (x : St) (H : Heap) (locs : List Loc) (ls : Array Slot), wl_Mod_columnIn_11 post n l1 l2 l3 x → Wd dC dI cI cB cJ cZ ad stM kcM 115 A x H → va_S A s.heap H locs → lv_has ls 4 [(0, .ref (ad 0)), (1, .int l1), (2, .int l2), (3, .int l3)] → W p l e R s m args below meth c H locs cells slots Q (F0 m 11 ls []) := by
  intro n
  induction n with
  | zero => intro l1 l2 l3 x H locs ls  hw; exact hw.elim
  | succ n ih => intro l1 l2 l3 x H locs ls  hw hW hS hl; exact t_Mod_columnIn_11 hx hb hml hown hT hK hN hA hRc hRs hRf hRl hret  ih l1 l2 l3 x H locs ls  hw hW hS hl
set_option maxRecDepth 100000 in
set_option maxHeartbeats 4000000 in
set_option maxRecDepth 100000 in
theorem t_Mod_columnIn_e {p : Program} {l : Launch} {e : Env} {R : Room} {s : State} {m : MethodId} {args : Array Value} {below : List Frame} {meth : Method} {c : Code} {cells slots : Nat} {Q : State → Prop} {dC : Nat → ClassId} {dI : Nat → Nat → Nat} {cI cB cJ cZ : ClassId} {A : Nat → Prop} {ad : Nat → Nat} {post : Int32 → St → Prop} (hx : p.tables.exec = Jvm.exec) (hb : c.code = b_Mod_columnIn) (hml : c.maxLocals = 4) (hown : s.vm.findClass R_Mod = some m.cls) (hT : ∀ w ∈ TG, w.before args s = true) (hK : va_K (dC, dI) CL (TY cI cB cJ cZ) s) (hN : NW s) (hA : ∀ q : Nat, s.heap.size ≤ q → A q) (hRc : cells ≤ R.cells) (hRs : slots ≤ R.slots) (hRf : 2 ≤ R.frames) (hRl : 45 ≤ R.locals) (hret : ∀ (r : Int32) (x : St) (H : Heap) (locs : List Loc) (pc : Nat) (ls : Array Slot), decode b_Mod_columnIn pc = .ok (.ireturn, 1) → post r x → Wd dC dI cI cB cJ cZ ad stM kcM 115 A x H → va_S A s.heap H locs → W p l e R s m args below meth c H locs cells slots Q (F0 m pc ls [.int r])) : ∀ (l1 : Int32) (x : St) (H : Heap) (locs : List Loc) (ls : Array Slot), wp_Mod_columnIn post l1 x → Wd dC dI cI cB cJ cZ ad stM kcM 115 A x H → va_S A s.heap H locs → lv_has ls 4 [(0, .ref (ad 0)), (1, .int l1)] → W p l e R s m args below meth c H locs cells slots Q (F0 m 0 ls []) := by
  intro l1 x H locs ls  hw hW hS hl
  unfold wp_Mod_columnIn at hw
  refine lv_iconst (v := (-1)) hx hb d_Mod_columnIn_0 (by decide) ?_
  refine lv_istore_n (lv' := [(2, .int (-1)), (0, .ref (ad 0)), (1, .int l1)]) hx hb d_Mod_columnIn_1 rfl hl (by decide) rfl (fun ls hl => ?_)
  refine lv_aload_n hx hb d_Mod_columnIn_2 rfl (lv_at hl 1 rfl) ?_
  refine w_getf (q := 10) (k := 12) (t := 12) (C := R_Mod) (T := F_Mod) (N := 167) hx hb hT hown hK hW ko_0.1 ko_0.2 (by decide) in_Mod rfl rfl (by decide) rfl fr_Mod_12 w_8_188 d_Mod_columnIn_3 rfl ?_
  refine lv_iconst (v := 1) hx hb d_Mod_columnIn_6 (by decide) ?_
  obtain ⟨hi, hw⟩ := hw
  refine w_iald (o := 10) hx hb hK hW ko_10.1 ko_10.2 hi d_Mod_columnIn_7 ?_
  refine lv_iconst (v := 1) hx hb d_Mod_columnIn_8 (by decide) ?_
  refine lv_isub hx hb d_Mod_columnIn_9 ?_
  refine lv_topi (fun v1795 ev1795 => ?_)
  have hw := hw v1795 ev1795
  refine lv_istore_n (lv' := [(3, .int v1795), (2, .int (-1)), (0, .ref (ad 0)), (1, .int l1)]) hx hb d_Mod_columnIn_10 rfl hl (by decide) rfl (fun ls hl => ?_)
  obtain ⟨n, hw⟩ := hw
  exact tl_Mod_columnIn_11 hx hb hml hown hT hK hN hA hRc hRs hRf hRl hret  n l1 (-1) v1795 x H locs ls  hw hW hS (lv_sub hl [2, 3, 1, 0] rfl)
set_option maxHeartbeats 4000000 in
set_option maxRecDepth 100000 in
theorem k_Mod_columnIn (l : Launch) (dC : Nat → ClassId) (dI : Nat → Nat → Nat) (cI cB cJ cZ : ClassId) (ad : Nat → Nat) (sz : Nat) (l1 : Int32) (x : St) {post : Int32 → St → Prop} (hw : wp_Mod_columnIn post l1 x) : Met l y_Mod_columnIn (wsOf y_Mod_columnIn b_Mod_columnIn 4 (some (.int))) ({ frames := 2, cells := 0, slots := 0, locals := 45 }) (va_Pc [.ref (ad 0), .int l1] (PW dC dI cI cB cJ cZ ad stM kcM 115 sz x)) (va_Qi (fun (r : Int32) (y : St) => post r y) (fun y t => Wd dC dI cI cB cJ cZ ad stM kcM 115 (va_A (pic ad stM kcM 115 cI cB cJ cZ x) sz) y t.heap) (va_A (pic ad stM kcM 115 cI cB cJ cZ x) sz)) 0 0 (va_A (pic ad stM kcM 115 cI cB cJ cZ x) sz) := by
  refine Met.ofW (cc := b_Mod_columnIn) (maxL := 4) (ret := some (.int)) (by decide) rfl ?_
  intro p e s m args below meth c s₁ B hml hv
  obtain ⟨rfl, hsz, hW0, hK, hN⟩ := hv
  have hx := B.exec
  have hb := B.bytes
  have hr := B.returns
  have hts := atoms_spec B.pre
  have hT : ∀ w ∈ TG, w.before _ s = true := fun w h => hts w (List.mem_cons_of_mem _ h)
  have hown : s.vm.findClass R_Mod = some m.cls := findClass_of_methodNamed B.named
  have hlocks := B.notSynchronized
  subst hsz
  have hW : Wd dC dI cI cB cJ cZ ad stM kcM 115 (va_A (pic ad stM kcM 115 cI cB cJ cZ x) s.heap.size) x s.heap := ⟨hW0.1, hW0.2.1.self (sz := s.heap.size), hW0.2.2⟩
  generalize hAe : va_A (pic ad stM kcM 115 cI cB cJ cZ x) s.heap.size = A at hW ⊢
  have hA : ∀ q : Nat, s.heap.size ≤ q → A q := fun q h => by rw [← hAe]; exact Or.inr h
  have hS : va_S A s.heap s.heap [] := va_S.rf
  have hl := lv_entry ([.ref (ad 0), .int l1]) (n := 4) (Nat.le_of_ble_eq_true rfl)
  rw [lg_entry_eq]
  generalize (lg_sl ([.ref (ad 0), .int l1]) ++ List.replicate (4 - (lg_sl ([.ref (ad 0), .int l1])).length) Slot.unset).toArray = ls at hl ⊢
  have hl : lv_has ls 4 [(0, .ref (ad 0)), (1, .int l1)] := hl
  exact t_Mod_columnIn_e hx hb hml hown hT hK hN hA (Nat.le_refl 0) (Nat.le_refl 0) (Nat.le_refl 2) (Nat.le_refl 45) (fun r x H locs pc ls hd hp hW hS => W.iret (v := r) hx hb hr (fun t ht hM => ⟨⟨r, x, rfl, hp, Wd.back hW ht.symm (fun _ z => z)⟩, hS.F ht⟩) hS.2.2 hd hlocks)  l1 x _ _ ls  hw hW hS hl
set_option maxRecDepth 100000 in
set_option maxHeartbeats 4000000 in
set_option maxRecDepth 100000 in
theorem t_Mod_pass_42 {p : Program} {l : Launch} {e : Env} {R : Room} {s : State} {m : MethodId} {args : Array Value} {below : List Frame} {meth : Method} {c : Code} {cells slots : Nat} {Q : State → Prop} {dC : Nat → ClassId} {dI : Nat → Nat → Nat} {cI cB cJ cZ : ClassId} {A : Nat → Prop} {ad : Nat → Nat} {post : St → Prop} {rec2 : Int32 → Int32 → St → Prop} (hx : p.tables.exec = Jvm.exec) (hb : c.code = b_Mod_pass) (hml : c.maxLocals = 3) (hown : s.vm.findClass R_Mod = some m.cls) (hT : ∀ w ∈ TG, w.before args s = true) (hK : va_K (dC, dI) CL (TY cI cB cJ cZ) s) (hN : NW s) (hA : ∀ q : Nat, s.heap.size ≤ q → A q) (hRc : cells ≤ R.cells) (hRs : slots ≤ R.slots) (hRf : 2 ≤ R.frames) (hRl : 45 ≤ R.locals) (hret : ∀ (x : St) (H : Heap) (locs : List Loc) (pc : Nat) (ls : Array Slot), decode b_Mod_pass pc = .ok (.return_, 1) → post x → Wd dC dI cI cB cJ cZ ad stM kcM 115 A x H → va_S A s.heap H locs → W p l e R s m args below meth c H locs cells slots Q (F0 m pc ls [])) (hrec2 : ∀ (l1 : Int32) (l2 : Int32) (x : St) (H : Heap) (locs : List Loc) (ls : Array Slot), rec2 l1 l2 x → Wd dC dI cI cB cJ cZ ad stM kcM 115 A x H → va_S A s.heap H locs → lv_has ls 3 [(0, .ref (ad 0)), (1, .int l1), (2, .int l2)] → W p l e R s m args below meth c H locs cells slots Q (F0 m 2 ls [])) : ∀ (l1 : Int32) (l2 : Int32) (s0 : Int32) (s1 : Int32) (s2 : Int32) (s3 : Nat) (x : St) (H : Heap) (locs : List Loc) (ls : Array Slot), (s3 < 115 ∧ kcM s3 = 20) → j_Mod_pass_42 post rec2 l1 l2 s0 s1 s2 s3 x → Wd dC dI cI cB cJ cZ ad stM kcM 115 A x H → va_S A s.heap H locs → lv_has ls 3 [(0, .ref (ad 0)), (1, .int l1), (2, .int l2)] → W p l e R s m args below meth c H locs cells slots Q (F0 m 42 ls [.int s0, .int s1, .int s2, .ref (ad s3)]) := by
  intro l1 l2 s0 s1 s2 s3 x H locs ls fs3 hw hW hS hl
  unfold j_Mod_pass_42 at hw
  refine lv_iadd hx hb d_Mod_pass_42 ?_
  obtain ⟨hi, hw⟩ := hw
  refine w_iast (o := s3) hx hb hK hW hS fs3.1 fs3.2 hi d_Mod_pass_43 (fun H locs hW hS => ?_)
  obtain ⟨x1796, ex1796⟩ : ∃ y : St, y = setA x s3 s2 (s1 + s0) := ⟨_, rfl⟩
  rw [← ex1796] at hW
  have hw := hw x1796 ex1796
  refine lv_iinc (v := (l2 + 1)) (lv' := [(2, .int (l2 + 1)), (0, .ref (ad 0)), (1, .int l1)]) hx hb d_Mod_pass_44 hl (k := 2) rfl rfl (by decide) rfl (fun ls hl => ?_)
  refine lv_goto (tgt := 2) hx hb d_Mod_pass_47 (by decide) ?_
  exact hrec2 l1 (l2 + 1) x1796 H locs ls  hw hW hS (lv_sub hl [1, 2, 0] rfl)
set_option maxRecDepth 100000 in
set_option maxHeartbeats 4000000 in
set_option maxRecDepth 100000 in
theorem t_Mod_pass_41 {p : Program} {l : Launch} {e : Env} {R : Room} {s : State} {m : MethodId} {args : Array Value} {below : List Frame} {meth : Method} {c : Code} {cells slots : Nat} {Q : State → Prop} {dC : Nat → ClassId} {dI : Nat → Nat → Nat} {cI cB cJ cZ : ClassId} {A : Nat → Prop} {ad : Nat → Nat} {post : St → Prop} {rec2 : Int32 → Int32 → St → Prop} (hx : p.tables.exec = Jvm.exec) (hb : c.code = b_Mod_pass) (hml : c.maxLocals = 3) (hown : s.vm.findClass R_Mod = some m.cls) (hT : ∀ w ∈ TG, w.before args s = true) (hK : va_K (dC, dI) CL (TY cI cB cJ cZ) s) (hN : NW s) (hA : ∀ q : Nat, s.heap.size ≤ q → A q) (hRc : cells ≤ R.cells) (hRs : slots ≤ R.slots) (hRf : 2 ≤ R.frames) (hRl : 45 ≤ R.locals) (hret : ∀ (x : St) (H : Heap) (locs : List Loc) (pc : Nat) (ls : Array Slot), decode b_Mod_pass pc = .ok (.return_, 1) → post x → Wd dC dI cI cB cJ cZ ad stM kcM 115 A x H → va_S A s.heap H locs → W p l e R s m args below meth c H locs cells slots Q (F0 m pc ls [])) (hrec2 : ∀ (l1 : Int32) (l2 : Int32) (x : St) (H : Heap) (locs : List Loc) (ls : Array Slot), rec2 l1 l2 x → Wd dC dI cI cB cJ cZ ad stM kcM 115 A x H → va_S A s.heap H locs → lv_has ls 3 [(0, .ref (ad 0)), (1, .int l1), (2, .int l2)] → W p l e R s m args below meth c H locs cells slots Q (F0 m 2 ls [])) : ∀ (l1 : Int32) (l2 : Int32) (s0 : Int32) (s1 : Int32) (s2 : Nat) (x : St) (H : Heap) (locs : List Loc) (ls : Array Slot), (s2 < 115 ∧ kcM s2 = 20) → j_Mod_pass_41 post rec2 l1 l2 s0 s1 s2 x → Wd dC dI cI cB cJ cZ ad stM kcM 115 A x H → va_S A s.heap H locs → lv_has ls 3 [(0, .ref (ad 0)), (1, .int l1), (2, .int l2)] → W p l e R s m args below meth c H locs cells slots Q (F0 m 41 ls [.int s0, .int s1, .ref (ad s2)]) := by
  intro l1 l2 s0 s1 s2 x H locs ls fs2 hw hW hS hl
  unfold j_Mod_pass_41 at hw
  refine lv_iconst (v := 0) hx hb d_Mod_pass_41 (by decide) ?_
  exact t_Mod_pass_42 hx hb hml hown hT hK hN hA hRc hRs hRf hRl hret hrec2 l1 l2 0 s0 s1 s2 x H locs ls fs2 hw hW hS (lv_sub hl [0, 1, 2] rfl)
set_option maxRecDepth 100000 in
set_option maxHeartbeats 4000000 in
set_option maxRecDepth 100000 in
theorem t_Mod_pass_2 {p : Program} {l : Launch} {e : Env} {R : Room} {s : State} {m : MethodId} {args : Array Value} {below : List Frame} {meth : Method} {c : Code} {cells slots : Nat} {Q : State → Prop} {dC : Nat → ClassId} {dI : Nat → Nat → Nat} {cI cB cJ cZ : ClassId} {A : Nat → Prop} {ad : Nat → Nat} {post : St → Prop} {rec2 : Int32 → Int32 → St → Prop} (hx : p.tables.exec = Jvm.exec) (hb : c.code = b_Mod_pass) (hml : c.maxLocals = 3) (hown : s.vm.findClass R_Mod = some m.cls) (hT : ∀ w ∈ TG, w.before args s = true) (hK : va_K (dC, dI) CL (TY cI cB cJ cZ) s) (hN : NW s) (hA : ∀ q : Nat, s.heap.size ≤ q → A q) (hRc : cells ≤ R.cells) (hRs : slots ≤ R.slots) (hRf : 2 ≤ R.frames) (hRl : 45 ≤ R.locals) (hret : ∀ (x : St) (H : Heap) (locs : List Loc) (pc : Nat) (ls : Array Slot), decode b_Mod_pass pc = .ok (.return_, 1) → post x → Wd dC dI cI cB cJ cZ ad stM kcM 115 A x H → va_S A s.heap H locs → W p l e R s m args below meth c H locs cells slots Q (F0 m pc ls [])) (hrec2 : ∀ (l1 : Int32) (l2 : Int32) (x : St) (H : Heap) (locs : List Loc) (ls : Array Slot), rec2 l1 l2 x → Wd dC dI cI cB cJ cZ ad stM kcM 115 A x H → va_S A s.heap H locs → lv_has ls 3 [(0, .ref (ad 0)), (1, .int l1), (2, .int l2)] → W p l e R s m args below meth c H locs cells slots Q (F0 m 2 ls [])) : ∀ (l1 : Int32) (l2 : Int32) (x : St) (H : Heap) (locs : List Loc) (ls : Array Slot), j_Mod_pass_2 post rec2 l1 l2 x → Wd dC dI cI cB cJ cZ ad stM kcM 115 A x H → va_S A s.heap H locs → lv_has ls 3 [(0, .ref (ad 0)), (1, .int l1), (2, .int l2)] → W p l e R s m args below meth c H locs cells slots Q (F0 m 2 ls []) := by
  intro l1 l2 x H locs ls  hw hW hS hl
  unfold j_Mod_pass_2 at hw
  refine lv_iload_n hx hb d_Mod_pass_2 rfl (lv_at hl 2 rfl) ?_
  refine lv_aload_n hx hb d_Mod_pass_3 rfl (lv_at hl 0 rfl) ?_
  refine w_getf (q := 10) (k := 12) (t := 12) (C := R_Mod) (T := F_Mod) (N := 167) hx hb hT hown hK hW ko_0.1 ko_0.2 (by decide) in_Mod rfl rfl (by decide) rfl fr_Mod_12 w_8_188 d_Mod_pass_4 rfl ?_
  refine lv_iconst (v := 1) hx hb d_Mod_pass_7 (by decide) ?_
  obtain ⟨hi, hw⟩ := hw
  refine w_iald (o := 10) hx hb hK hW ko_10.1 ko_10.2 hi d_Mod_pass_8 ?_
  refine lv_icmp_ge (tgt := 50) hx hb d_Mod_pass_9 (by decide) (fun c1797 => ?_) (fun c1797 => ?_)
  · have hw := hw.1 c1797
    exact hret x H locs 50 ls d_Mod_pass_50 hw hW hS
  · have hw := hw.2 c1797
    refine lv_aload_n hx hb d_Mod_pass_12 rfl (lv_at hl 0 rfl) ?_
    refine w_getf (q := 76) (k := 114) (t := 12) (C := R_Mod) (T := F_Mod) (N := 167) hx hb hT hown hK hW ko_0.1 ko_0.2 (by decide) in_Mod rfl rfl (by decide) rfl fr_Mod_114 w_9_50 d_Mod_pass_13 rfl ?_
    refine lv_iload_n hx hb d_Mod_pass_16 rfl (lv_at hl 2 rfl) ?_
    refine lv_dup2_11 hx hb d_Mod_pass_17 rfl rfl ?_
    obtain ⟨hi, hw⟩ := hw
    refine w_iald (o := 76) hx hb hK hW ko_76.1 ko_76.2 hi d_Mod_pass_18 ?_
    refine lv_aload_n hx hb d_Mod_pass_19 rfl (lv_at hl 0 rfl) ?_
    refine w_getf (q := 78) (k := 116) (t := 12) (C := R_Mod) (T := F_Mod) (N := 167) hx hb hT hown hK hW ko_0.1 ko_0.2 (by decide) in_Mod rfl rfl (by decide) rfl fr_Mod_116 w_9_52 d_Mod_pass_20 rfl ?_
    refine lv_iload_n hx hb d_Mod_pass_23 rfl (lv_at hl 2 rfl) ?_
    obtain ⟨hi, hw⟩ := hw
    refine w_zald (o := 78) hx hb hK hW ko_78.1 ko_78.2 hi d_Mod_pass_24 ?_
    refine lv_if_eq (tgt := 41) hx hb d_Mod_pass_25 (by decide) (fun c1798 => ?_) (fun c1798 => ?_)
    · have hw := hw.1 c1798
      exact t_Mod_pass_41 hx hb hml hown hT hK hN hA hRc hRs hRf hRl hret hrec2 l1 l2 (rA x 76 l2) l2 76 x H locs ls ko_76 hw hW hS (lv_sub hl [0, 1, 2] rfl)
    · have hw := hw.2 c1798
      refine lv_aload_n hx hb d_Mod_pass_28 rfl (lv_at hl 0 rfl) ?_
      refine lv_iload_n hx hb d_Mod_pass_29 rfl (lv_at hl 2 rfl) ?_
      refine lv_iload_n hx hb d_Mod_pass_30 rfl (lv_at hl 1 rfl) ?_
      have hF := hW.free hS hA
      refine va_calli (va_runV (C := R_Mod) (As := [.int l2, .int l1]) (rest := [.int (rA x 76 l2), .int l2, .ref (ad 76)]) ⟨hx, hb, hml, hown, hT⟩ (k_Mod_isUnder l dC dI cI cB cJ cZ ad H.size l2 l1 x  hw) ⟨callB_of 2 hT (gwt_in w_13_78) rfl rfl rfl (hT _ w_1_15) (hT _ w_13_75) (by decide +kernel) ⟨Nat.le_trans (Nat.le_of_ble_eq_true rfl) hRf, Nat.le_trans (Nat.le_of_ble_eq_true rfl) hRl⟩, hT _ w_13_77, hT _ ws_229⟩ ⟨PW.blind, va_recv hK hW.1 (ci := 12) (q0 := 0) rfl (pic_obj ko_0.1 ko_0.2 (by decide)), PW.at _ hW hK hN⟩ rfl rfl hl.1 rfl (lv_room (Nat.le_of_ble_eq_true rfl)) d_Mod_pass_31 ⟨hRc, hRs⟩) hS (fun q _ h => hF q h) hF (fun r1800 x1799 t H locs ht hvm hw hB hz1 hk1 hS => ?_)
      have hW := Wd.back hB ht hF
      clear hB ht hF hz1 hk1 hvm
      refine lv_if_eq (tgt := 41) hx hb d_Mod_pass_34 (by decide) (fun c1801 => ?_) (fun c1801 => ?_)
      · have hw := hw.1 c1801
        exact t_Mod_pass_41 hx hb hml hown hT hK hN hA hRc hRs hRf hRl hret hrec2 l1 l2 (rA x 76 l2) l2 76 x1799 H locs ls ko_76 hw hW hS (lv_sub hl [0, 1, 2] rfl)
      · have hw := hw.2 c1801
        refine lv_iconst (v := 1) hx hb d_Mod_pass_37 (by decide) ?_
        refine lv_goto (tgt := 42) hx hb d_Mod_pass_38 (by decide) ?_
        exact t_Mod_pass_42 hx hb hml hown hT hK hN hA hRc hRs hRf hRl hret hrec2 l1 l2 1 (rA x 76 l2) l2 76 x1799 H locs ls ko_76 hw hW hS (lv_sub hl [0, 1, 2] rfl)
set_option maxHeartbeats 4000000 in
set_option maxRecDepth 100000 in
theorem tl_Mod_pass_2 {p : Program} {l : Launch} {e : Env} {R : Room} {s : State} {m : MethodId} {args : Array Value} {below : List Frame} {meth : Method} {c : Code} {cells slots : Nat} {Q : State → Prop} {dC : Nat → ClassId} {dI : Nat → Nat → Nat} {cI cB cJ cZ : ClassId} {A : Nat → Prop} {ad : Nat → Nat} {post : St → Prop} (hx : p.tables.exec = Jvm.exec) (hb : c.code = b_Mod_pass) (hml : c.maxLocals = 3) (hown : s.vm.findClass R_Mod = some m.cls) (hT : ∀ w ∈ TG, w.before args s = true) (hK : va_K (dC, dI) CL (TY cI cB cJ cZ) s) (hN : NW s) (hA : ∀ q : Nat, s.heap.size ≤ q → A q) (hRc : cells ≤ R.cells) (hRs : slots ≤ R.slots) (hRf : 2 ≤ R.frames) (hRl : 45 ≤ R.locals) (hret : ∀ (x : St) (H : Heap) (locs : List Loc) (pc : Nat) (ls : Array Slot), decode b_Mod_pass pc = .ok (.return_, 1) → post x → Wd dC dI cI cB cJ cZ ad stM kcM 115 A x H → va_S A s.heap H locs → W p l e R s m args below meth c H locs cells slots Q (F0 m pc ls []))  : ∀ n : Nat, ∀ (l1 : Int32) (l2 : Int32) (x : St) (H : Heap) (locs : List Loc) (ls : Array Slot), wl_Mod_pass_2 post n l1 l2 x → Wd dC dI cI cB cJ cZ ad stM kcM 115 A x H → va_S A s.heap H locs → lv_has ls 3 [(0, .ref (ad 0)), (1, .int l1), (2, .int l2)] → W p l e R s m args below meth c H locs cells slots Q (F0 m 2 ls []) := by
  intro n
  induction n with
  | zero => intro l1 l2 x H locs ls  hw; exact hw.elim
  | succ n ih => intro l1 l2 x H locs ls  hw hW hS hl; exact t_Mod_pass_2 hx hb hml hown hT hK hN hA hRc hRs hRf hRl hret  ih l1 l2 x H locs ls  hw hW hS hl
set_option maxRecDepth 100000 in
set_option maxHeartbeats 4000000 in
set_option maxRecDepth 100000 in
theorem t_Mod_pass_e {p : Program} {l : Launch} {e : Env} {R : Room} {s : State} {m : MethodId} {args : Array Value} {below : List Frame} {meth : Method} {c : Code} {cells slots : Nat} {Q : State → Prop} {dC : Nat → ClassId} {dI : Nat → Nat → Nat} {cI cB cJ cZ : ClassId} {A : Nat → Prop} {ad : Nat → Nat} {post : St → Prop} (hx : p.tables.exec = Jvm.exec) (hb : c.code = b_Mod_pass) (hml : c.maxLocals = 3) (hown : s.vm.findClass R_Mod = some m.cls) (hT : ∀ w ∈ TG, w.before args s = true) (hK : va_K (dC, dI) CL (TY cI cB cJ cZ) s) (hN : NW s) (hA : ∀ q : Nat, s.heap.size ≤ q → A q) (hRc : cells ≤ R.cells) (hRs : slots ≤ R.slots) (hRf : 2 ≤ R.frames) (hRl : 45 ≤ R.locals) (hret : ∀ (x : St) (H : Heap) (locs : List Loc) (pc : Nat) (ls : Array Slot), decode b_Mod_pass pc = .ok (.return_, 1) → post x → Wd dC dI cI cB cJ cZ ad stM kcM 115 A x H → va_S A s.heap H locs → W p l e R s m args below meth c H locs cells slots Q (F0 m pc ls [])) : ∀ (l1 : Int32) (x : St) (H : Heap) (locs : List Loc) (ls : Array Slot), wp_Mod_pass post l1 x → Wd dC dI cI cB cJ cZ ad stM kcM 115 A x H → va_S A s.heap H locs → lv_has ls 3 [(0, .ref (ad 0)), (1, .int l1)] → W p l e R s m args below meth c H locs cells slots Q (F0 m 0 ls []) := by
  intro l1 x H locs ls  hw hW hS hl
  unfold wp_Mod_pass at hw
  refine lv_iconst (v := 0) hx hb d_Mod_pass_0 (by decide) ?_
  refine lv_istore_n (lv' := [(2, .int 0), (0, .ref (ad 0)), (1, .int l1)]) hx hb d_Mod_pass_1 rfl hl (by decide) rfl (fun ls hl => ?_)
  obtain ⟨n, hw⟩ := hw
  exact tl_Mod_pass_2 hx hb hml hown hT hK hN hA hRc hRs hRf hRl hret  n l1 0 x H locs ls  hw hW hS (lv_sub hl [1, 2, 0] rfl)
set_option maxHeartbeats 4000000 in
set_option maxRecDepth 100000 in
theorem k_Mod_pass (l : Launch) (dC : Nat → ClassId) (dI : Nat → Nat → Nat) (cI cB cJ cZ : ClassId) (ad : Nat → Nat) (sz : Nat) (l1 : Int32) (x : St) {post : St → Prop} (hw : wp_Mod_pass post l1 x) : Met l y_Mod_pass (wsOf y_Mod_pass b_Mod_pass 3 (none)) ({ frames := 2, cells := 0, slots := 0, locals := 45 }) (va_Pc [.ref (ad 0), .int l1] (PW dC dI cI cB cJ cZ ad stM kcM 115 sz x)) (va_Qv (fun (y : St) => post y) (fun y t => Wd dC dI cI cB cJ cZ ad stM kcM 115 (va_A (pic ad stM kcM 115 cI cB cJ cZ x) sz) y t.heap) (va_A (pic ad stM kcM 115 cI cB cJ cZ x) sz)) 0 0 (va_A (pic ad stM kcM 115 cI cB cJ cZ x) sz) := by
  refine Met.ofW (cc := b_Mod_pass) (maxL := 3) (ret := none) (by decide) rfl ?_
  intro p e s m args below meth c s₁ B hml hv
  obtain ⟨rfl, hsz, hW0, hK, hN⟩ := hv
  have hx := B.exec
  have hb := B.bytes
  have hr := B.returns
  have hts := atoms_spec B.pre
  have hT : ∀ w ∈ TG, w.before _ s = true := fun w h => hts w (List.mem_cons_of_mem _ h)
  have hown : s.vm.findClass R_Mod = some m.cls := findClass_of_methodNamed B.named
  have hlocks := B.notSynchronized
  subst hsz
  have hW : Wd dC dI cI cB cJ cZ ad stM kcM 115 (va_A (pic ad stM kcM 115 cI cB cJ cZ x) s.heap.size) x s.heap := ⟨hW0.1, hW0.2.1.self (sz := s.heap.size), hW0.2.2⟩
  generalize hAe : va_A (pic ad stM kcM 115 cI cB cJ cZ x) s.heap.size = A at hW ⊢
  have hA : ∀ q : Nat, s.heap.size ≤ q → A q := fun q h => by rw [← hAe]; exact Or.inr h
  have hS : va_S A s.heap s.heap [] := va_S.rf
  have hl := lv_entry ([.ref (ad 0), .int l1]) (n := 3) (Nat.le_of_ble_eq_true rfl)
  rw [lg_entry_eq]
  generalize (lg_sl ([.ref (ad 0), .int l1]) ++ List.replicate (3 - (lg_sl ([.ref (ad 0), .int l1])).length) Slot.unset).toArray = ls at hl ⊢
  have hl : lv_has ls 3 [(0, .ref (ad 0)), (1, .int l1)] := hl
  exact t_Mod_pass_e hx hb hml hown hT hK hN hA (Nat.le_refl 0) (Nat.le_refl 0) (Nat.le_refl 2) (Nat.le_refl 45) (fun x H locs pc ls hd hp hW hS => W.vret hx hb hr (fun t ht hM => ⟨⟨x, rfl, hp, Wd.back hW ht.symm (fun _ z => z)⟩, hS.F ht⟩) hS.2.2 hd hlocks)  l1 x _ _ ls  hw hW hS hl
set_option maxRecDepth 100000 in
set_option maxHeartbeats 4000000 in
set_option maxRecDepth 100000 in
theorem t_Mod_tellDigit_21 {p : Program} {l : Launch} {e : Env} {R : Room} {s : State} {m : MethodId} {args : Array Value} {below : List Frame} {meth : Method} {c : Code} {cells slots : Nat} {Q : State → Prop} {dC : Nat → ClassId} {dI : Nat → Nat → Nat} {cI cB cJ cZ : ClassId} {A : Nat → Prop} {ad : Nat → Nat} {post : St → Prop} (hx : p.tables.exec = Jvm.exec) (hb : c.code = b_Mod_tellDigit) (hml : c.maxLocals = 2) (hown : s.vm.findClass R_Mod = some m.cls) (hT : ∀ w ∈ TG, w.before args s = true) (hK : va_K (dC, dI) CL (TY cI cB cJ cZ) s) (hN : NW s) (hA : ∀ q : Nat, s.heap.size ≤ q → A q) (hRc : cells ≤ R.cells) (hRs : slots ≤ R.slots) (hRf : 1 ≤ R.frames) (hRl : 21 ≤ R.locals) (hret : ∀ (x : St) (H : Heap) (locs : List Loc) (pc : Nat) (ls : Array Slot), decode b_Mod_tellDigit pc = .ok (.return_, 1) → post x → Wd dC dI cI cB cJ cZ ad stM kcM 115 A x H → va_S A s.heap H locs → W p l e R s m args below meth c H locs cells slots Q (F0 m pc ls []))  : ∀ (l1 : Int32) (s0 : Int32) (x : St) (H : Heap) (locs : List Loc) (ls : Array Slot), j_Mod_tellDigit_21 post l1 s0 x → Wd dC dI cI cB cJ cZ ad stM kcM 115 A x H → va_S A s.heap H locs → lv_has ls 2 [(0, .ref (ad 0)), (1, .int l1)] → W p l e R s m args below meth c H locs cells slots Q (F0 m 21 ls [.int s0, .ref (ad 0)]) := by
  intro l1 s0 x H locs ls  hw hW hS hl
  unfold j_Mod_tellDigit_21 at hw
  have hF := hW.free hS hA
  refine va_callv (va_runV (C := R_Mod) (As := [.int s0]) (rest := []) ⟨hx, hb, hml, hown, hT⟩ (k_Mod_tell l dC dI cI cB cJ cZ ad H.size s0 x  hw) ⟨callB_of 1 hT (gwt_in w_13_70) rfl rfl rfl (hT _ w_1_15) (hT _ w_13_67) (by decide +kernel) ⟨Nat.le_trans (Nat.le_of_ble_eq_true rfl) hRf, Nat.le_trans (Nat.le_of_ble_eq_true rfl) hRl⟩, hT _ w_13_69, hT _ ws_227⟩ ⟨PW.blind, va_recv hK hW.1 (ci := 12) (q0 := 0) rfl (pic_obj ko_0.1 ko_0.2 (by decide)), PW.at _ hW hK hN⟩ rfl rfl hl.1 rfl (lv_room (Nat.le_of_ble_eq_true rfl)) d_Mod_tellDigit_21 ⟨hRc, hRs⟩) hS (fun q _ h => hF q h) hF (fun  x1802 t H locs ht hvm hw hB hz1 hk1 hS => ?_)
  have hW := Wd.back hB ht hF
  clear hB ht hF hz1 hk1 hvm
  exact hret x1802 H locs 24 ls d_Mod_tellDigit_24 hw hW hS
set_option maxRecDepth 100000 in
set_option maxHeartbeats 4000000 in
set_option maxRecDepth 100000 in
theorem t_Mod_tellDigit_e {p : Program} {l : Launch} {e : Env} {R : Room} {s : State} {m : MethodId} {args : Array Value} {below : List Frame} {meth : Method} {c : Code} {cells slots : Nat} {Q : State → Prop} {dC : Nat → ClassId} {dI : Nat → Nat → Nat} {cI cB cJ cZ : ClassId} {A : Nat → Prop} {ad : Nat → Nat} {post : St → Prop} (hx : p.tables.exec = Jvm.exec) (hb : c.code = b_Mod_tellDigit) (hml : c.maxLocals = 2) (hown : s.vm.findClass R_Mod = some m.cls) (hT : ∀ w ∈ TG, w.before args s = true) (hK : va_K (dC, dI) CL (TY cI cB cJ cZ) s) (hN : NW s) (hA : ∀ q : Nat, s.heap.size ≤ q → A q) (hRc : cells ≤ R.cells) (hRs : slots ≤ R.slots) (hRf : 1 ≤ R.frames) (hRl : 21 ≤ R.locals) (hret : ∀ (x : St) (H : Heap) (locs : List Loc) (pc : Nat) (ls : Array Slot), decode b_Mod_tellDigit pc = .ok (.return_, 1) → post x → Wd dC dI cI cB cJ cZ ad stM kcM 115 A x H → va_S A s.heap H locs → W p l e R s m args below meth c H locs cells slots Q (F0 m pc ls [])) : ∀ (l1 : Int32) (x : St) (H : Heap) (locs : List Loc) (ls : Array Slot), wp_Mod_tellDigit post l1 x → Wd dC dI cI cB cJ cZ ad stM kcM 115 A x H → va_S A s.heap H locs → lv_has ls 2 [(0, .ref (ad 0)), (1, .int l1)] → W p l e R s m args below meth c H locs cells slots Q (F0 m 0 ls []) := by
  intro l1 x H locs ls  hw hW hS hl
  unfold wp_Mod_tellDigit at hw
  refine lv_aload_n hx hb d_Mod_tellDigit_0 rfl (lv_at hl 0 rfl) ?_
  refine lv_iload_n hx hb d_Mod_tellDigit_1 rfl (lv_at hl 1 rfl) ?_
  refine lv_bipush (v := 10) hx hb d_Mod_tellDigit_2 (by decide) ?_
  refine lv_icmp_ge (tgt := 14) hx hb d_Mod_tellDigit_4 (by decide) (fun c1803 => ?_) (fun c1803 => ?_)
  · have hw := hw.1 c1803
    refine lv_bipush (v := 97) hx hb d_Mod_tellDigit_14 (by decide) ?_
    refine lv_iload_n hx hb d_Mod_tellDigit_16 rfl (lv_at hl 1 rfl) ?_
    refine lv_iadd hx hb d_Mod_tellDigit_17 ?_
    refine lv_bipush (v := 10) hx hb d_Mod_tellDigit_18 (by decide) ?_
    refine lv_isub hx hb d_Mod_tellDigit_20 ?_
    exact t_Mod_tellDigit_21 hx hb hml hown hT hK hN hA hRc hRs hRf hRl hret  l1 ((97 + l1) - 10) x H locs ls  hw hW hS (lv_sub hl [0, 1] rfl)
  · have hw := hw.2 c1803
    refine lv_bipush (v := 48) hx hb d_Mod_tellDigit_7 (by decide) ?_
    refine lv_iload_n hx hb d_Mod_tellDigit_9 rfl (lv_at hl 1 rfl) ?_
    refine lv_iadd hx hb d_Mod_tellDigit_10 ?_
    refine lv_goto (tgt := 21) hx hb d_Mod_tellDigit_11 (by decide) ?_
    exact t_Mod_tellDigit_21 hx hb hml hown hT hK hN hA hRc hRs hRf hRl hret  l1 (48 + l1) x H locs ls  hw hW hS (lv_sub hl [0, 1] rfl)
set_option maxHeartbeats 4000000 in
set_option maxRecDepth 100000 in
theorem k_Mod_tellDigit (l : Launch) (dC : Nat → ClassId) (dI : Nat → Nat → Nat) (cI cB cJ cZ : ClassId) (ad : Nat → Nat) (sz : Nat) (l1 : Int32) (x : St) {post : St → Prop} (hw : wp_Mod_tellDigit post l1 x) : Met l y_Mod_tellDigit (wsOf y_Mod_tellDigit b_Mod_tellDigit 2 (none)) ({ frames := 1, cells := 0, slots := 0, locals := 21 }) (va_Pc [.ref (ad 0), .int l1] (PW dC dI cI cB cJ cZ ad stM kcM 115 sz x)) (va_Qv (fun (y : St) => post y) (fun y t => Wd dC dI cI cB cJ cZ ad stM kcM 115 (va_A (pic ad stM kcM 115 cI cB cJ cZ x) sz) y t.heap) (va_A (pic ad stM kcM 115 cI cB cJ cZ x) sz)) 0 0 (va_A (pic ad stM kcM 115 cI cB cJ cZ x) sz) := by
  refine Met.ofW (cc := b_Mod_tellDigit) (maxL := 2) (ret := none) (by decide) rfl ?_
  intro p e s m args below meth c s₁ B hml hv
  obtain ⟨rfl, hsz, hW0, hK, hN⟩ := hv
  have hx := B.exec
  have hb := B.bytes
  have hr := B.returns
  have hts := atoms_spec B.pre
  have hT : ∀ w ∈ TG, w.before _ s = true := fun w h => hts w (List.mem_cons_of_mem _ h)
  have hown : s.vm.findClass R_Mod = some m.cls := findClass_of_methodNamed B.named
  have hlocks := B.notSynchronized
  subst hsz
  have hW : Wd dC dI cI cB cJ cZ ad stM kcM 115 (va_A (pic ad stM kcM 115 cI cB cJ cZ x) s.heap.size) x s.heap := ⟨hW0.1, hW0.2.1.self (sz := s.heap.size), hW0.2.2⟩
  generalize hAe : va_A (pic ad stM kcM 115 cI cB cJ cZ x) s.heap.size = A at hW ⊢
  have hA : ∀ q : Nat, s.heap.size ≤ q → A q := fun q h => by rw [← hAe]; exact Or.inr h
  have hS : va_S A s.heap s.heap [] := va_S.rf
  have hl := lv_entry ([.ref (ad 0), .int l1]) (n := 2) (Nat.le_of_ble_eq_true rfl)
  rw [lg_entry_eq]
  generalize (lg_sl ([.ref (ad 0), .int l1]) ++ List.replicate (2 - (lg_sl ([.ref (ad 0), .int l1])).length) Slot.unset).toArray = ls at hl ⊢
  have hl : lv_has ls 2 [(0, .ref (ad 0)), (1, .int l1)] := hl
  exact t_Mod_tellDigit_e hx hb hml hown hT hK hN hA (Nat.le_refl 0) (Nat.le_refl 0) (Nat.le_refl 1) (Nat.le_refl 21) (fun x H locs pc ls hd hp hW hS => W.vret hx hb hr (fun t ht hM => ⟨⟨x, rfl, hp, Wd.back hW ht.symm (fun _ z => z)⟩, hS.F ht⟩) hS.2.2 hd hlocks)  l1 x _ _ ls  hw hW hS hl
set_option maxRecDepth 100000 in
set_option maxHeartbeats 4000000 in
set_option maxRecDepth 100000 in
theorem t_Mod_tellText_97 {p : Program} {l : Launch} {e : Env} {R : Room} {s : State} {m : MethodId} {args : Array Value} {below : List Frame} {meth : Method} {c : Code} {cells slots : Nat} {Q : State → Prop} {dC : Nat → ClassId} {dI : Nat → Nat → Nat} {cI cB cJ cZ : ClassId} {A : Nat → Prop} {ad : Nat → Nat} {post : St → Prop} {rec8 : Int32 → Int32 → St → Prop} (hx : p.tables.exec = Jvm.exec) (hb : c.code = b_Mod_tellText) (hml : c.maxLocals = 4) (hown : s.vm.findClass R_Mod = some m.cls) (hT : ∀ w ∈ TG, w.before args s = true) (hK : va_K (dC, dI) CL (TY cI cB cJ cZ) s) (hN : NW s) (hA : ∀ q : Nat, s.heap.size ≤ q → A q) (hRc : cells ≤ R.cells) (hRs : slots ≤ R.slots) (hRf : 2 ≤ R.frames) (hRl : 42 ≤ R.locals) (hret : ∀ (x : St) (H : Heap) (locs : List Loc) (pc : Nat) (ls : Array Slot), decode b_Mod_tellText pc = .ok (.return_, 1) → post x → Wd dC dI cI cB cJ cZ ad stM kcM 115 A x H → va_S A s.heap H locs → W p l e R s m args below meth c H locs cells slots Q (F0 m pc ls [])) (hrec8 : ∀ (l1 : Int32) (l2 : Int32) (x : St) (H : Heap) (locs : List Loc) (ls : Array Slot), rec8 l1 l2 x → Wd dC dI cI cB cJ cZ ad stM kcM 115 A x H → va_S A s.heap H locs → lv_has ls 4 [(0, .ref (ad 0)), (1, .int l1), (2, .int l2)] → W p l e R s m args below meth c H locs cells slots Q (F0 m 8 ls [])) : ∀ (l1 : Int32) (l2 : Int32) (l3 : Int32) (x : St) (H : Heap) (locs : List Loc) (ls : Array Slot), j_Mod_tellText_97 post rec8 l1 l2 l3 x → Wd dC dI cI cB cJ cZ ad stM kcM 115 A x H → va_S A s.heap H locs → lv_has ls 4 [(0, .ref (ad 0)), (1, .int l1), (2, .int l2), (3, .int l3)] → W p l e R s m args below meth c H locs cells slots Q (F0 m 97 ls []) := by
  intro l1 l2 l3 x H locs ls  hw hW hS hl
  unfold j_Mod_tellText_97 at hw
  refine lv_iinc (v := (l2 + 1)) (lv' := [(2, .int (l2 + 1)), (0, .ref (ad 0)), (1, .int l1), (3, .int l3)]) hx hb d_Mod_tellText_97 hl (k := 2) rfl rfl (by decide) rfl (fun ls hl => ?_)
  refine lv_goto (tgt := 8) hx hb d_Mod_tellText_100 (by decide) ?_
  exact hrec8 l1 (l2 + 1) x H locs ls  hw hW hS (lv_sub hl [1, 2, 0] rfl)
set_option maxRecDepth 100000 in
set_option maxHeartbeats 4000000 in
set_option maxRecDepth 100000 in
theorem t_Mod_tellText_92 {p : Program} {l : Launch} {e : Env} {R : Room} {s : State} {m : MethodId} {args : Array Value} {below : List Frame} {meth : Method} {c : Code} {cells slots : Nat} {Q : State → Prop} {dC : Nat → ClassId} {dI : Nat → Nat → Nat} {cI cB cJ cZ : ClassId} {A : Nat → Prop} {ad : Nat → Nat} {post : St → Prop} {rec8 : Int32 → Int32 → St → Prop} (hx : p.tables.exec = Jvm.exec) (hb : c.code = b_Mod_tellText) (hml : c.maxLocals = 4) (hown : s.vm.findClass R_Mod = some m.cls) (hT : ∀ w ∈ TG, w.before args s = true) (hK : va_K (dC, dI) CL (TY cI cB cJ cZ) s) (hN : NW s) (hA : ∀ q : Nat, s.heap.size ≤ q → A q) (hRc : cells ≤ R.cells) (hRs : slots ≤ R.slots) (hRf : 2 ≤ R.frames) (hRl : 42 ≤ R.locals) (hret : ∀ (x : St) (H : Heap) (locs : List Loc) (pc : Nat) (ls : Array Slot), decode b_Mod_tellText pc = .ok (.return_, 1) → post x → Wd dC dI cI cB cJ cZ ad stM kcM 115 A x H → va_S A s.heap H locs → W p l e R s m args below meth c H locs cells slots Q (F0 m pc ls [])) (hrec8 : ∀ (l1 : Int32) (l2 : Int32) (x : St) (H : Heap) (locs : List Loc) (ls : Array Slot), rec8 l1 l2 x → Wd dC dI cI cB cJ cZ ad stM kcM 115 A x H → va_S A s.heap H locs → lv_has ls 4 [(0, .ref (ad 0)), (1, .int l1), (2, .int l2)] → W p l e R s m args below meth c H locs cells slots Q (F0 m 8 ls [])) : ∀ (l1 : Int32) (l2 : Int32) (l3 : Int32) (x : St) (H : Heap) (locs : List Loc) (ls : Array Slot), j_Mod_tellText_92 post rec8 l1 l2 l3 x → Wd dC dI cI cB cJ cZ ad stM kcM 115 A x H → va_S A s.heap H locs → lv_has ls 4 [(0, .ref (ad 0)), (1, .int l1), (2, .int l2), (3, .int l3)] → W p l e R s m args below meth c H locs cells slots Q (F0 m 92 ls []) := by
  intro l1 l2 l3 x H locs ls  hw hW hS hl
  unfold j_Mod_tellText_92 at hw
  refine lv_aload_n hx hb d_Mod_tellText_92 rfl (lv_at hl 0 rfl) ?_
  refine lv_iload_n hx hb d_Mod_tellText_93 rfl (lv_at hl 3 rfl) ?_
  have hF := hW.free hS hA
  refine va_callv (va_runV (C := R_Mod) (As := [.int l3]) (rest := []) ⟨hx, hb, hml, hown, hT⟩ (k_Mod_tell l dC dI cI cB cJ cZ ad H.size l3 x  hw) ⟨callB_of 1 hT (gwt_in w_13_70) rfl rfl rfl (hT _ w_1_15) (hT _ w_13_67) (by decide +kernel) ⟨Nat.le_trans (Nat.le_of_ble_eq_true rfl) hRf, Nat.le_trans (Nat.le_of_ble_eq_true rfl) hRl⟩, hT _ w_13_69, hT _ ws_227⟩ ⟨PW.blind, va_recv hK hW.1 (ci := 12) (q0 := 0) rfl (pic_obj ko_0.1 ko_0.2 (by decide)), PW.at _ hW hK hN⟩ rfl rfl hl.1 rfl (lv_room (Nat.le_of_ble_eq_true rfl)) d_Mod_tellText_94 ⟨hRc, hRs⟩) hS (fun q _ h => hF q h) hF (fun  x1804 t H locs ht hvm hw hB hz1 hk1 hS => ?_)
  have hW := Wd.back hB ht hF
  clear hB ht hF hz1 hk1 hvm
  exact t_Mod_tellText_97 hx hb hml hown hT hK hN hA hRc hRs hRf hRl hret hrec8 l1 l2 l3 x1804 H locs ls  hw hW hS (lv_sub hl [0, 1, 2, 3] rfl)
set_option maxRecDepth 100000 in
set_option maxHeartbeats 4000000 in
set_option maxRecDepth 100000 in
theorem t_Mod_tellText_86 {p : Program} {l : Launch} {e : Env} {R : Room} {s : State} {m : MethodId} {args : Array Value} {below : List Frame} {meth : Method} {c : Code} {cells slots : Nat} {Q : State → Prop} {dC : Nat → ClassId} {dI : Nat → Nat → Nat} {cI cB cJ cZ : ClassId} {A : Nat → Prop} {ad : Nat → Nat} {post : St → Prop} {rec8 : Int32 → Int32 → St → Prop} (hx : p.tables.exec = Jvm.exec) (hb : c.code = b_Mod_tellText) (hml : c.maxLocals = 4) (hown : s.vm.findClass R_Mod = some m.cls) (hT : ∀ w ∈ TG, w.before args s = true) (hK : va_K (dC, dI) CL (TY cI cB cJ cZ) s) (hN : NW s) (hA : ∀ q : Nat, s.heap.size ≤ q → A q) (hRc : cells ≤ R.cells) (hRs : slots ≤ R.slots) (hRf : 2 ≤ R.frames) (hRl : 42 ≤ R.locals) (hret : ∀ (x : St) (H : Heap) (locs : List Loc) (pc : Nat) (ls : Array Slot), decode b_Mod_tellText pc = .ok (.return_, 1) → post x → Wd dC dI cI cB cJ cZ ad stM kcM 115 A x H → va_S A s.heap H locs → W p l e R s m args below meth c H locs cells slots Q (F0 m pc ls [])) (hrec8 : ∀ (l1 : Int32) (l2 : Int32) (x : St) (H : Heap) (locs : List Loc) (ls : Array Slot), rec8 l1 l2 x → Wd dC dI cI cB cJ cZ ad stM kcM 115 A x H → va_S A s.heap H locs → lv_has ls 4 [(0, .ref (ad 0)), (1, .int l1), (2, .int l2)] → W p l e R s m args below meth c H locs cells slots Q (F0 m 8 ls [])) : ∀ (l1 : Int32) (l2 : Int32) (l3 : Int32) (x : St) (H : Heap) (locs : List Loc) (ls : Array Slot), j_Mod_tellText_86 post rec8 l1 l2 l3 x → Wd dC dI cI cB cJ cZ ad stM kcM 115 A x H → va_S A s.heap H locs → lv_has ls 4 [(0, .ref (ad 0)), (1, .int l1), (2, .int l2), (3, .int l3)] → W p l e R s m args below meth c H locs cells slots Q (F0 m 86 ls []) := by
  intro l1 l2 l3 x H locs ls  hw hW hS hl
  unfold j_Mod_tellText_86 at hw
  refine lv_aload_n hx hb d_Mod_tellText_86 rfl (lv_at hl 0 rfl) ?_
  refine lv_bipush (v := 92) hx hb d_Mod_tellText_87 (by decide) ?_
  have hF := hW.free hS hA
  refine va_callv (va_runV (C := R_Mod) (As := [.int 92]) (rest := []) ⟨hx, hb, hml, hown, hT⟩ (k_Mod_tell l dC dI cI cB cJ cZ ad H.size 92 x  hw) ⟨callB_of 1 hT (gwt_in w_13_70) rfl rfl rfl (hT _ w_1_15) (hT _ w_13_67) (by decide +kernel) ⟨Nat.le_trans (Nat.le_of_ble_eq_true rfl) hRf, Nat.le_trans (Nat.le_of_ble_eq_true rfl) hRl⟩, hT _ w_13_69, hT _ ws_227⟩ ⟨PW.blind, va_recv hK hW.1 (ci := 12) (q0 := 0) rfl (pic_obj ko_0.1 ko_0.2 (by decide)), PW.at _ hW hK hN⟩ rfl rfl hl.1 rfl (lv_room (Nat.le_of_ble_eq_true rfl)) d_Mod_tellText_89 ⟨hRc, hRs⟩) hS (fun q _ h => hF q h) hF (fun  x1805 t H locs ht hvm hw hB hz1 hk1 hS => ?_)
  have hW := Wd.back hB ht hF
  clear hB ht hF hz1 hk1 hvm
  exact t_Mod_tellText_92 hx hb hml hown hT hK hN hA hRc hRs hRf hRl hret hrec8 l1 l2 l3 x1805 H locs ls  hw hW hS (lv_sub hl [0, 1, 2, 3] rfl)
set_option maxRecDepth 100000 in
set_option maxHeartbeats 4000000 in
set_option maxRecDepth 100000 in
theorem t_Mod_tellText_44 {p : Program} {l : Launch} {e : Env} {R : Room} {s : State} {m : MethodId} {args : Array Value} {below : List Frame} {meth : Method} {c : Code} {cells slots : Nat} {Q : State → Prop} {dC : Nat → ClassId} {dI : Nat → Nat → Nat} {cI cB cJ cZ : ClassId} {A : Nat → Prop} {ad : Nat → Nat} {post : St → Prop} {rec8 : Int32 → Int32 → St → Prop} (hx : p.tables.exec = Jvm.exec) (hb : c.code = b_Mod_tellText) (hml : c.maxLocals = 4) (hown : s.vm.findClass R_Mod = some m.cls) (hT : ∀ w ∈ TG, w.before args s = true) (hK : va_K (dC, dI) CL (TY cI cB cJ cZ) s) (hN : NW s) (hA : ∀ q : Nat, s.heap.size ≤ q → A q) (hRc : cells ≤ R.cells) (hRs : slots ≤ R.slots) (hRf : 2 ≤ R.frames) (hRl : 42 ≤ R.locals) (hret : ∀ (x : St) (H : Heap) (locs : List Loc) (pc : Nat) (ls : Array Slot), decode b_Mod_tellText pc = .ok (.return_, 1) → post x → Wd dC dI cI cB cJ cZ ad stM kcM 115 A x H → va_S A s.heap H locs → W p l e R s m args below meth c H locs cells slots Q (F0 m pc ls [])) (hrec8 : ∀ (l1 : Int32) (l2 : Int32) (x : St) (H : Heap) (locs : List Loc) (ls : Array Slot), rec8 l1 l2 x → Wd dC dI cI cB cJ cZ ad stM kcM 115 A x H → va_S A s.heap H locs → lv_has ls 4 [(0, .ref (ad 0)), (1, .int l1), (2, .int l2)] → W p l e R s m args below meth c H locs cells slots Q (F0 m 8 ls [])) : ∀ (l1 : Int32) (l2 : Int32) (l3 : Int32) (x : St) (H : Heap) (locs : List Loc) (ls : Array Slot), j_Mod_tellText_44 post rec8 l1 l2 l3 x → Wd dC dI cI cB cJ cZ ad stM kcM 115 A x H → va_S A s.heap H locs → lv_has ls 4 [(0, .ref (ad 0)), (1, .int l1), (2, .int l2), (3, .int l3)] → W p l e R s m args below meth c H locs cells slots Q (F0 m 44 ls []) := by
  intro l1 l2 l3 x H locs ls  hw hW hS hl
  unfold j_Mod_tellText_44 at hw
  refine lv_aload_n hx hb d_Mod_tellText_44 rfl (lv_at hl 0 rfl) ?_
  refine lv_bipush (v := 92) hx hb d_Mod_tellText_45 (by decide) ?_
  have hF := hW.free hS hA
  refine va_callv (va_runV (C := R_Mod) (As := [.int 92]) (rest := []) ⟨hx, hb, hml, hown, hT⟩ (k_Mod_tell l dC dI cI cB cJ cZ ad H.size 92 x  hw) ⟨callB_of 1 hT (gwt_in w_13_70) rfl rfl rfl (hT _ w_1_15) (hT _ w_13_67) (by decide +kernel) ⟨Nat.le_trans (Nat.le_of_ble_eq_true rfl) hRf, Nat.le_trans (Nat.le_of_ble_eq_true rfl) hRl⟩, hT _ w_13_69, hT _ ws_227⟩ ⟨PW.blind, va_recv hK hW.1 (ci := 12) (q0 := 0) rfl (pic_obj ko_0.1 ko_0.2 (by decide)), PW.at _ hW hK hN⟩ rfl rfl hl.1 rfl (lv_room (Nat.le_of_ble_eq_true rfl)) d_Mod_tellText_47 ⟨hRc, hRs⟩) hS (fun q _ h => hF q h) hF (fun  x1806 t H locs ht hvm hw hB hz1 hk1 hS => ?_)
  have hW := Wd.back hB ht hF
  clear hB ht hF hz1 hk1 hvm
  refine lv_aload_n hx hb d_Mod_tellText_50 rfl (lv_at hl 0 rfl) ?_
  refine lv_bipush (v := 120) hx hb d_Mod_tellText_51 (by decide) ?_
  have hF := hW.free hS hA
  refine va_callv (va_runV (C := R_Mod) (As := [.int 120]) (rest := []) ⟨hx, hb, hml, hown, hT⟩ (k_Mod_tell l dC dI cI cB cJ cZ ad H.size 120 x1806  hw) ⟨callB_of 1 hT (gwt_in w_13_70) rfl rfl rfl (hT _ w_1_15) (hT _ w_13_67) (by decide +kernel) ⟨Nat.le_trans (Nat.le_of_ble_eq_true rfl) hRf, Nat.le_trans (Nat.le_of_ble_eq_true rfl) hRl⟩, hT _ w_13_69, hT _ ws_227⟩ ⟨PW.blind, va_recv hK hW.1 (ci := 12) (q0 := 0) rfl (pic_obj ko_0.1 ko_0.2 (by decide)), PW.at _ hW hK hN⟩ rfl rfl hl.1 rfl (lv_room (Nat.le_of_ble_eq_true rfl)) d_Mod_tellText_53 ⟨hRc, hRs⟩) hS (fun q _ h => hF q h) hF (fun  x1807 t H locs ht hvm hw hB hz1 hk1 hS => ?_)
  have hW := Wd.back hB ht hF
  clear hB ht hF hz1 hk1 hvm
  refine lv_aload_n hx hb d_Mod_tellText_56 rfl (lv_at hl 0 rfl) ?_
  refine lv_iload_n hx hb d_Mod_tellText_57 rfl (lv_at hl 3 rfl) ?_
  refine lv_iconst (v := 4) hx hb d_Mod_tellText_58 (by decide) ?_
  refine lv_ishr hx hb d_Mod_tellText_59 ?_
  have hF := hW.free hS hA
  refine va_callv (va_runV (C := R_Mod) (As := [.int (l3 >>> (4 &&& 31))]) (rest := []) ⟨hx, hb, hml, hown, hT⟩ (k_Mod_tellDigit l dC dI cI cB cJ cZ ad H.size (l3 >>> (4 &&& 31)) x1807  hw) ⟨callB_of 1 hT (gwt_in w_13_98) rfl rfl rfl (hT _ w_1_15) (hT _ w_13_95) (by decide +kernel) ⟨Nat.le_trans (Nat.le_of_ble_eq_true rfl) hRf, Nat.le_trans (Nat.le_of_ble_eq_true rfl) hRl⟩, hT _ w_13_97, hT _ ws_234⟩ ⟨PW.blind, va_recv hK hW.1 (ci := 12) (q0 := 0) rfl (pic_obj ko_0.1 ko_0.2 (by decide)), PW.at _ hW hK hN⟩ rfl rfl hl.1 rfl (lv_room (Nat.le_of_ble_eq_true rfl)) d_Mod_tellText_60 ⟨hRc, hRs⟩) hS (fun q _ h => hF q h) hF (fun  x1808 t H locs ht hvm hw hB hz1 hk1 hS => ?_)
  have hW := Wd.back hB ht hF
  clear hB ht hF hz1 hk1 hvm
  refine lv_aload_n hx hb d_Mod_tellText_63 rfl (lv_at hl 0 rfl) ?_
  refine lv_iload_n hx hb d_Mod_tellText_64 rfl (lv_at hl 3 rfl) ?_
  refine lv_bipush (v := 15) hx hb d_Mod_tellText_65 (by decide) ?_
  refine lv_iand hx hb d_Mod_tellText_67 ?_
  have hF := hW.free hS hA
  refine va_callv (va_runV (C := R_Mod) (As := [.int (l3 &&& 15)]) (rest := []) ⟨hx, hb, hml, hown, hT⟩ (k_Mod_tellDigit l dC dI cI cB cJ cZ ad H.size (l3 &&& 15) x1808  hw) ⟨callB_of 1 hT (gwt_in w_13_98) rfl rfl rfl (hT _ w_1_15) (hT _ w_13_95) (by decide +kernel) ⟨Nat.le_trans (Nat.le_of_ble_eq_true rfl) hRf, Nat.le_trans (Nat.le_of_ble_eq_true rfl) hRl⟩, hT _ w_13_97, hT _ ws_234⟩ ⟨PW.blind, va_recv hK hW.1 (ci := 12) (q0 := 0) rfl (pic_obj ko_0.1 ko_0.2 (by decide)), PW.at _ hW hK hN⟩ rfl rfl hl.1 rfl (lv_room (Nat.le_of_ble_eq_true rfl)) d_Mod_tellText_68 ⟨hRc, hRs⟩) hS (fun q _ h => hF q h) hF (fun  x1809 t H locs ht hvm hw hB hz1 hk1 hS => ?_)
  have hW := Wd.back hB ht hF
  clear hB ht hF hz1 hk1 hvm
  refine lv_goto (tgt := 97) hx hb d_Mod_tellText_71 (by decide) ?_
  exact t_Mod_tellText_97 hx hb hml hown hT hK hN hA hRc hRs hRf hRl hret hrec8 l1 l2 l3 x1809 H locs ls  hw hW hS (lv_sub hl [0, 1, 2, 3] rfl)
set_option maxRecDepth 100000 in
set_option maxHeartbeats 4000000 in
set_option maxRecDepth 100000 in
theorem t_Mod_tellText_8 {p : Program} {l : Launch} {e : Env} {R : Room} {s : State} {m : MethodId} {args : Array Value} {below : List Frame} {meth : Method} {c : Code} {cells slots : Nat} {Q : State → Prop} {dC : Nat → ClassId} {dI : Nat → Nat → Nat} {cI cB cJ cZ : ClassId} {A : Nat → Prop} {ad : Nat → Nat} {post : St → Prop} {rec8 : Int32 → Int32 → St → Prop} (hx : p.tables.exec = Jvm.exec) (hb : c.code = b_Mod_tellText) (hml : c.maxLocals = 4) (hown : s.vm.findClass R_Mod = some m.cls) (hT : ∀ w ∈ TG, w.before args s = true) (hK : va_K (dC, dI) CL (TY cI cB cJ cZ) s) (hN : NW s) (hA : ∀ q : Nat, s.heap.size ≤ q → A q) (hRc : cells ≤ R.cells) (hRs : slots ≤ R.slots) (hRf : 2 ≤ R.frames) (hRl : 42 ≤ R.locals) (hret : ∀ (x : St) (H : Heap) (locs : List Loc) (pc : Nat) (ls : Array Slot), decode b_Mod_tellText pc = .ok (.return_, 1) → post x → Wd dC dI cI cB cJ cZ ad stM kcM 115 A x H → va_S A s.heap H locs → W p l e R s m args below meth c H locs cells slots Q (F0 m pc ls [])) (hrec8 : ∀ (l1 : Int32) (l2 : Int32) (x : St) (H : Heap) (locs : List Loc) (ls : Array Slot), rec8 l1 l2 x → Wd dC dI cI cB cJ cZ ad stM kcM 115 A x H → va_S A s.heap H locs → lv_has ls 4 [(0, .ref (ad 0)), (1, .int l1), (2, .int l2)] → W p l e R s m args below meth c H locs cells slots Q (F0 m 8 ls [])) : ∀ (l1 : Int32) (l2 : Int32) (x : St) (H : Heap) (locs : List Loc) (ls : Array Slot), j_Mod_tellText_8 post rec8 l1 l2 x → Wd dC dI cI cB cJ cZ ad stM kcM 115 A x H → va_S A s.heap H locs → lv_has ls 4 [(0, .ref (ad 0)), (1, .int l1), (2, .int l2)] → W p l e R s m args below meth c H locs cells slots Q (F0 m 8 ls []) := by
  intro l1 l2 x H locs ls  hw hW hS hl
  unfold j_Mod_tellText_8 at hw
  refine lv_iload_n hx hb d_Mod_tellText_8 rfl (lv_at hl 2 rfl) ?_
  refine lv_aload_n hx hb d_Mod_tellText_9 rfl (lv_at hl 0 rfl) ?_
  refine w_getf (q := 56) (k := 91) (t := 12) (C := R_Mod) (T := F_Mod) (N := 167) hx hb hT hown hK hW ko_0.1 ko_0.2 (by decide) in_Mod rfl rfl (by decide) rfl fr_Mod_91 w_9_27 d_Mod_tellText_10 rfl ?_
  refine lv_iload_n hx hb d_Mod_tellText_13 rfl (lv_at hl 1 rfl) ?_
  obtain ⟨hi, hw⟩ := hw
  refine w_iald (o := 56) hx hb hK hW ko_56.1 ko_56.2 hi d_Mod_tellText_14 ?_
  refine lv_icmp_ge (tgt := 103) hx hb d_Mod_tellText_15 (by decide) (fun c1810 => ?_) (fun c1810 => ?_)
  · have hw := hw.1 c1810
    refine lv_aload_n hx hb d_Mod_tellText_103 rfl (lv_at hl 0 rfl) ?_
    refine lv_bipush (v := 39) hx hb d_Mod_tellText_104 (by decide) ?_
    have hF := hW.free hS hA
    refine va_callv (va_runV (C := R_Mod) (As := [.int 39]) (rest := []) ⟨hx, hb, hml, hown, hT⟩ (k_Mod_tell l dC dI cI cB cJ cZ ad H.size 39 x  hw) ⟨callB_of 1 hT (gwt_in w_13_70) rfl rfl rfl (hT _ w_1_15) (hT _ w_13_67) (by decide +kernel) ⟨Nat.le_trans (Nat.le_of_ble_eq_true rfl) hRf, Nat.le_trans (Nat.le_of_ble_eq_true rfl) hRl⟩, hT _ w_13_69, hT _ ws_227⟩ ⟨PW.blind, va_recv hK hW.1 (ci := 12) (q0 := 0) rfl (pic_obj ko_0.1 ko_0.2 (by decide)), PW.at _ hW hK hN⟩ rfl rfl hl.1 rfl (lv_room (Nat.le_of_ble_eq_true rfl)) d_Mod_tellText_106 ⟨hRc, hRs⟩) hS (fun q _ h => hF q h) hF (fun  x1811 t H locs ht hvm hw hB hz1 hk1 hS => ?_)
    have hW := Wd.back hB ht hF
    clear hB ht hF hz1 hk1 hvm
    exact hret x1811 H locs 109 ls d_Mod_tellText_109 hw hW hS
  · have hw := hw.2 c1810
    refine lv_aload_n hx hb d_Mod_tellText_18 rfl (lv_at hl 0 rfl) ?_
    refine w_getf (q := 57) (k := 92) (t := 12) (C := R_Mod) (T := F_Mod) (N := 167) hx hb hT hown hK hW ko_0.1 ko_0.2 (by decide) in_Mod rfl rfl (by decide) rfl fr_Mod_92 w_9_28 d_Mod_tellText_19 rfl ?_
    refine lv_aload_n hx hb d_Mod_tellText_22 rfl (lv_at hl 0 rfl) ?_
    refine w_getf (q := 55) (k := 90) (t := 12) (C := R_Mod) (T := F_Mod) (N := 167) hx hb hT hown hK hW ko_0.1 ko_0.2 (by decide) in_Mod rfl rfl (by decide) rfl fr_Mod_90 w_9_26 d_Mod_tellText_23 rfl ?_
    refine lv_iload_n hx hb d_Mod_tellText_26 rfl (lv_at hl 1 rfl) ?_
    obtain ⟨hi, hw⟩ := hw
    refine w_iald (o := 55) hx hb hK hW ko_55.1 ko_55.2 hi d_Mod_tellText_27 ?_
    refine lv_iload_n hx hb d_Mod_tellText_28 rfl (lv_at hl 2 rfl) ?_
    refine lv_iadd hx hb d_Mod_tellText_29 ?_
    obtain ⟨hi, hw⟩ := hw
    refine w_iald (o := 57) hx hb hK hW ko_57.1 ko_57.2 hi d_Mod_tellText_30 ?_
    refine lv_topi (fun v1812 ev1812 => ?_)
    have hw := hw v1812 ev1812
    refine lv_istore_n (lv' := [(3, .int v1812), (0, .ref (ad 0)), (1, .int l1), (2, .int l2)]) hx hb d_Mod_tellText_31 rfl hl (by decide) rfl (fun ls hl => ?_)
    refine lv_iload_n hx hb d_Mod_tellText_32 rfl (lv_at hl 0 rfl) ?_
    refine lv_bipush (v := 32) hx hb d_Mod_tellText_33 (by decide) ?_
    refine lv_icmp_lt (tgt := 44) hx hb d_Mod_tellText_35 (by decide) (fun c1813 => ?_) (fun c1813 => ?_)
    · have hw := hw.1 c1813
      exact t_Mod_tellText_44 hx hb hml hown hT hK hN hA hRc hRs hRf hRl hret hrec8 l1 l2 v1812 x H locs ls  hw hW hS (lv_sub hl [1, 2, 3, 0] rfl)
    · have hw := hw.2 c1813
      refine lv_iload_n hx hb d_Mod_tellText_38 rfl (lv_at hl 0 rfl) ?_
      refine lv_bipush (v := 126) hx hb d_Mod_tellText_39 (by decide) ?_
      refine lv_icmp_le (tgt := 74) hx hb d_Mod_tellText_41 (by decide) (fun c1814 => ?_) (fun c1814 => ?_)
      · have hw := hw.1 c1814
        refine lv_iload_n hx hb d_Mod_tellText_74 rfl (lv_at hl 0 rfl) ?_
        refine lv_bipush (v := 39) hx hb d_Mod_tellText_75 (by decide) ?_
        refine lv_icmp_eq (tgt := 86) hx hb d_Mod_tellText_77 (by decide) (fun c1815 => ?_) (fun c1815 => ?_)
        · have hw := hw.1 c1815
          exact t_Mod_tellText_86 hx hb hml hown hT hK hN hA hRc hRs hRf hRl hret hrec8 l1 l2 v1812 x H locs ls  hw hW hS (lv_sub hl [1, 2, 3, 0] rfl)
        · have hw := hw.2 c1815
          refine lv_iload_n hx hb d_Mod_tellText_80 rfl (lv_at hl 0 rfl) ?_
          refine lv_bipush (v := 92) hx hb d_Mod_tellText_81 (by decide) ?_
          refine lv_icmp_ne (tgt := 92) hx hb d_Mod_tellText_83 (by decide) (fun c1816 => ?_) (fun c1816 => ?_)
          · have hw := hw.1 c1816
            exact t_Mod_tellText_92 hx hb hml hown hT hK hN hA hRc hRs hRf hRl hret hrec8 l1 l2 v1812 x H locs ls  hw hW hS (lv_sub hl [1, 2, 3, 0] rfl)
          · have hw := hw.2 c1816
            exact t_Mod_tellText_86 hx hb hml hown hT hK hN hA hRc hRs hRf hRl hret hrec8 l1 l2 v1812 x H locs ls  hw hW hS (lv_sub hl [1, 2, 3, 0] rfl)
      · have hw := hw.2 c1814
        exact t_Mod_tellText_44 hx hb hml hown hT hK hN hA hRc hRs hRf hRl hret hrec8 l1 l2 v1812 x H locs ls  hw hW hS (lv_sub hl [1, 2, 3, 0] rfl)
set_option maxHeartbeats 4000000 in
set_option maxRecDepth 100000 in
theorem tl_Mod_tellText_8 {p : Program} {l : Launch} {e : Env} {R : Room} {s : State} {m : MethodId} {args : Array Value} {below : List Frame} {meth : Method} {c : Code} {cells slots : Nat} {Q : State → Prop} {dC : Nat → ClassId} {dI : Nat → Nat → Nat} {cI cB cJ cZ : ClassId} {A : Nat → Prop} {ad : Nat → Nat} {post : St → Prop} (hx : p.tables.exec = Jvm.exec) (hb : c.code = b_Mod_tellText) (hml : c.maxLocals = 4) (hown : s.vm.findClass R_Mod = some m.cls) (hT : ∀ w ∈ TG, w.before args s = true) (hK : va_K (dC, dI) CL (TY cI cB cJ cZ) s) (hN : NW s) (hA : ∀ q : Nat, s.heap.size ≤ q → A q) (hRc : cells ≤ R.cells) (hRs : slots ≤ R.slots) (hRf : 2 ≤ R.frames) (hRl : 42 ≤ R.locals) (hret : ∀ (x : St) (H : Heap) (locs : List Loc) (pc : Nat) (ls : Array Slot), decode b_Mod_tellText pc = .ok (.return_, 1) → post x → Wd dC dI cI cB cJ cZ ad stM kcM 115 A x H → va_S A s.heap H locs → W p l e R s m args below meth c H locs cells slots Q (F0 m pc ls []))  : ∀ n : Nat, ∀ (l1 : Int32) (l2 : Int32) (x : St) (H : Heap) (locs : List Loc) (ls : Array Slot), wl_Mod_tellText_8 post n l1 l2 x → Wd dC dI cI cB cJ cZ ad stM kcM 115 A x H → va_S A s.heap H locs → lv_has ls 4 [(0, .ref (ad 0)), (1, .int l1), (2, .int l2)] → W p l e R s m args below meth c H locs cells slots Q (F0 m 8 ls []) := by
  intro n
  induction n with
  | zero => intro l1 l2 x H locs ls  hw; exact hw.elim
  | succ n ih => intro l1 l2 x H locs ls  hw hW hS hl; exact t_Mod_tellText_8 hx hb hml hown hT hK hN hA hRc hRs hRf hRl hret  ih l1 l2 x H locs ls  hw hW hS hl
set_option maxRecDepth 100000 in
set_option maxHeartbeats 4000000 in
set_option maxRecDepth 100000 in
theorem t_Mod_tellText_e {p : Program} {l : Launch} {e : Env} {R : Room} {s : State} {m : MethodId} {args : Array Value} {below : List Frame} {meth : Method} {c : Code} {cells slots : Nat} {Q : State → Prop} {dC : Nat → ClassId} {dI : Nat → Nat → Nat} {cI cB cJ cZ : ClassId} {A : Nat → Prop} {ad : Nat → Nat} {post : St → Prop} (hx : p.tables.exec = Jvm.exec) (hb : c.code = b_Mod_tellText) (hml : c.maxLocals = 4) (hown : s.vm.findClass R_Mod = some m.cls) (hT : ∀ w ∈ TG, w.before args s = true) (hK : va_K (dC, dI) CL (TY cI cB cJ cZ) s) (hN : NW s) (hA : ∀ q : Nat, s.heap.size ≤ q → A q) (hRc : cells ≤ R.cells) (hRs : slots ≤ R.slots) (hRf : 2 ≤ R.frames) (hRl : 42 ≤ R.locals) (hret : ∀ (x : St) (H : Heap) (locs : List Loc) (pc : Nat) (ls : Array Slot), decode b_Mod_tellText pc = .ok (.return_, 1) → post x → Wd dC dI cI cB cJ cZ ad stM kcM 115 A x H → va_S A s.heap H locs → W p l e R s m args below meth c H locs cells slots Q (F0 m pc ls [])) : ∀ (l1 : Int32) (x : St) (H : Heap) (locs : List Loc) (ls : Array Slot), wp_Mod_tellText post l1 x → Wd dC dI cI cB cJ cZ ad stM kcM 115 A x H → va_S A s.heap H locs → lv_has ls 4 [(0, .ref (ad 0)), (1, .int l1)] → W p l e R s m args below meth c H locs cells slots Q (F0 m 0 ls []) := by
  intro l1 x H locs ls  hw hW hS hl
  unfold wp_Mod_tellText at hw
  refine lv_aload_n hx hb d_Mod_tellText_0 rfl (lv_at hl 0 rfl) ?_
  refine lv_bipush (v := 39) hx hb d_Mod_tellText_1 (by decide) ?_
  have hF := hW.free hS hA
  refine va_callv (va_runV (C := R_Mod) (As := [.int 39]) (rest := []) ⟨hx, hb, hml, hown, hT⟩ (k_Mod_tell l dC dI cI cB cJ cZ ad H.size 39 x  hw) ⟨callB_of 1 hT (gwt_in w_13_70) rfl rfl rfl (hT _ w_1_15) (hT _ w_13_67) (by decide +kernel) ⟨Nat.le_trans (Nat.le_of_ble_eq_true rfl) hRf, Nat.le_trans (Nat.le_of_ble_eq_true rfl) hRl⟩, hT _ w_13_69, hT _ ws_227⟩ ⟨PW.blind, va_recv hK hW.1 (ci := 12) (q0 := 0) rfl (pic_obj ko_0.1 ko_0.2 (by decide)), PW.at _ hW hK hN⟩ rfl rfl hl.1 rfl (lv_room (Nat.le_of_ble_eq_true rfl)) d_Mod_tellText_3 ⟨hRc, hRs⟩) hS (fun q _ h => hF q h) hF (fun  x1817 t H locs ht hvm hw hB hz1 hk1 hS => ?_)
  have hW := Wd.back hB ht hF
  clear hB ht hF hz1 hk1 hvm
  refine lv_iconst (v := 0) hx hb d_Mod_tellText_6 (by decide) ?_
  refine lv_istore_n (lv' := [(2, .int 0), (0, .ref (ad 0)), (1, .int l1)]) hx hb d_Mod_tellText_7 rfl hl (by decide) rfl (fun ls hl => ?_)
  obtain ⟨n, hw⟩ := hw
  exact tl_Mod_tellText_8 hx hb hml hown hT hK hN hA hRc hRs hRf hRl hret  n l1 0 x1817 H locs ls  hw hW hS (lv_sub hl [1, 2, 0] rfl)
set_option maxHeartbeats 4000000 in
set_option maxRecDepth 100000 in
theorem k_Mod_tellText (l : Launch) (dC : Nat → ClassId) (dI : Nat → Nat → Nat) (cI cB cJ cZ : ClassId) (ad : Nat → Nat) (sz : Nat) (l1 : Int32) (x : St) {post : St → Prop} (hw : wp_Mod_tellText post l1 x) : Met l y_Mod_tellText (wsOf y_Mod_tellText b_Mod_tellText 4 (none)) ({ frames := 2, cells := 0, slots := 0, locals := 42 }) (va_Pc [.ref (ad 0), .int l1] (PW dC dI cI cB cJ cZ ad stM kcM 115 sz x)) (va_Qv (fun (y : St) => post y) (fun y t => Wd dC dI cI cB cJ cZ ad stM kcM 115 (va_A (pic ad stM kcM 115 cI cB cJ cZ x) sz) y t.heap) (va_A (pic ad stM kcM 115 cI cB cJ cZ x) sz)) 0 0 (va_A (pic ad stM kcM 115 cI cB cJ cZ x) sz) := by
  refine Met.ofW (cc := b_Mod_tellText) (maxL := 4) (ret := none) (by decide) rfl ?_
  intro p e s m args below meth c s₁ B hml hv
  obtain ⟨rfl, hsz, hW0, hK, hN⟩ := hv
  have hx := B.exec
  have hb := B.bytes
  have hr := B.returns
  have hts := atoms_spec B.pre
  have hT : ∀ w ∈ TG, w.before _ s = true := fun w h => hts w (List.mem_cons_of_mem _ h)
  have hown : s.vm.findClass R_Mod = some m.cls := findClass_of_methodNamed B.named
  have hlocks := B.notSynchronized
  subst hsz
  have hW : Wd dC dI cI cB cJ cZ ad stM kcM 115 (va_A (pic ad stM kcM 115 cI cB cJ cZ x) s.heap.size) x s.heap := ⟨hW0.1, hW0.2.1.self (sz := s.heap.size), hW0.2.2⟩
  generalize hAe : va_A (pic ad stM kcM 115 cI cB cJ cZ x) s.heap.size = A at hW ⊢
  have hA : ∀ q : Nat, s.heap.size ≤ q → A q := fun q h => by rw [← hAe]; exact Or.inr h
  have hS : va_S A s.heap s.heap [] := va_S.rf
  have hl := lv_entry ([.ref (ad 0), .int l1]) (n := 4) (Nat.le_of_ble_eq_true rfl)
  rw [lg_entry_eq]
  generalize (lg_sl ([.ref (ad 0), .int l1]) ++ List.replicate (4 - (lg_sl ([.ref (ad 0), .int l1])).length) Slot.unset).toArray = ls at hl ⊢
  have hl : lv_has ls 4 [(0, .ref (ad 0)), (1, .int l1)] := hl
  exact t_Mod_tellText_e hx hb hml hown hT hK hN hA (Nat.le_refl 0) (Nat.le_refl 0) (Nat.le_refl 2) (Nat.le_refl 42) (fun x H locs pc ls hd hp hW hS => W.vret hx hb hr (fun t ht hM => ⟨⟨x, rfl, hp, Wd.back hW ht.symm (fun _ z => z)⟩, hS.F ht⟩) hS.2.2 hd hlocks)  l1 x _ _ ls  hw hW hS hl
set_option maxRecDepth 100000 in
set_option maxHeartbeats 4000000 in
set_option maxRecDepth 100000 in
theorem t_Mod_tellWord_31 {p : Program} {l : Launch} {e : Env} {R : Room} {s : State} {m : MethodId} {args : Array Value} {below : List Frame} {meth : Method} {c : Code} {cells slots : Nat} {Q : State → Prop} {dC : Nat → ClassId} {dI : Nat → Nat → Nat} {cI cB cJ cZ : ClassId} {A : Nat → Prop} {ad : Nat → Nat} {post : St → Prop} {rec3 : Int64 → Int32 → St → Prop} (hx : p.tables.exec = Jvm.exec) (hb : c.code = b_Mod_tellWord) (hml : c.maxLocals = 4) (hown : s.vm.findClass R_Mod = some m.cls) (hT : ∀ w ∈ TG, w.before args s = true) (hK : va_K (dC, dI) CL (TY cI cB cJ cZ) s) (hN : NW s) (hA : ∀ q : Nat, s.heap.size ≤ q → A q) (hRc : cells ≤ R.cells) (hRs : slots ≤ R.slots) (hRf : 1 ≤ R.frames) (hRl : 21 ≤ R.locals) (hret : ∀ (x : St) (H : Heap) (locs : List Loc) (pc : Nat) (ls : Array Slot), decode b_Mod_tellWord pc = .ok (.return_, 1) → post x → Wd dC dI cI cB cJ cZ ad stM kcM 115 A x H → va_S A s.heap H locs → W p l e R s m args below meth c H locs cells slots Q (F0 m pc ls [])) (hrec3 : ∀ (l1 : Int64) (l3 : Int32) (x : St) (H : Heap) (locs : List Loc) (ls : Array Slot), rec3 l1 l3 x → Wd dC dI cI cB cJ cZ ad stM kcM 115 A x H → va_S A s.heap H locs → lv_has ls 4 [(0, .ref (ad 0)), (1, .long l1), (3, .int l3)] → W p l e R s m args below meth c H locs cells slots Q (F0 m 3 ls [])) : ∀ (l1 : Int64) (l3 : Int32) (x : St) (H : Heap) (locs : List Loc) (ls : Array Slot), j_Mod_tellWord_31 post rec3 l1 l3 x → Wd dC dI cI cB cJ cZ ad stM kcM 115 A x H → va_S A s.heap H locs → lv_has ls 4 [(0, .ref (ad 0)), (1, .long l1), (3, .int l3)] → W p l e R s m args below meth c H locs cells slots Q (F0 m 31 ls []) := by
  intro l1 l3 x H locs ls  hw hW hS hl
  unfold j_Mod_tellWord_31 at hw
  refine lv_iinc (v := (l3 + (-8))) (lv' := [(3, .int (l3 + (-8))), (0, .ref (ad 0)), (1, .long l1)]) hx hb d_Mod_tellWord_31 hl (k := 2) rfl rfl (by decide) rfl (fun ls hl => ?_)
  refine lv_goto (tgt := 3) hx hb d_Mod_tellWord_34 (by decide) ?_
  exact hrec3 l1 (l3 + (-8)) x H locs ls  hw hW hS (lv_sub hl [1, 2, 0] rfl)
set_option maxRecDepth 100000 in
set_option maxHeartbeats 4000000 in
set_option maxRecDepth 100000 in
theorem t_Mod_tellWord_3 {p : Program} {l : Launch} {e : Env} {R : Room} {s : State} {m : MethodId} {args : Array Value} {below : List Frame} {meth : Method} {c : Code} {cells slots : Nat} {Q : State → Prop} {dC : Nat → ClassId} {dI : Nat → Nat → Nat} {cI cB cJ cZ : ClassId} {A : Nat → Prop} {ad : Nat → Nat} {post : St → Prop} {rec3 : Int64 → Int32 → St → Prop} (hx : p.tables.exec = Jvm.exec) (hb : c.code = b_Mod_tellWord) (hml : c.maxLocals = 4) (hown : s.vm.findClass R_Mod = some m.cls) (hT : ∀ w ∈ TG, w.before args s = true) (hK : va_K (dC, dI) CL (TY cI cB cJ cZ) s) (hN : NW s) (hA : ∀ q : Nat, s.heap.size ≤ q → A q) (hRc : cells ≤ R.cells) (hRs : slots ≤ R.slots) (hRf : 1 ≤ R.frames) (hRl : 21 ≤ R.locals) (hret : ∀ (x : St) (H : Heap) (locs : List Loc) (pc : Nat) (ls : Array Slot), decode b_Mod_tellWord pc = .ok (.return_, 1) → post x → Wd dC dI cI cB cJ cZ ad stM kcM 115 A x H → va_S A s.heap H locs → W p l e R s m args below meth c H locs cells slots Q (F0 m pc ls [])) (hrec3 : ∀ (l1 : Int64) (l3 : Int32) (x : St) (H : Heap) (locs : List Loc) (ls : Array Slot), rec3 l1 l3 x → Wd dC dI cI cB cJ cZ ad stM kcM 115 A x H → va_S A s.heap H locs → lv_has ls 4 [(0, .ref (ad 0)), (1, .long l1), (3, .int l3)] → W p l e R s m args below meth c H locs cells slots Q (F0 m 3 ls [])) : ∀ (l1 : Int64) (l3 : Int32) (x : St) (H : Heap) (locs : List Loc) (ls : Array Slot), j_Mod_tellWord_3 post rec3 l1 l3 x → Wd dC dI cI cB cJ cZ ad stM kcM 115 A x H → va_S A s.heap H locs → lv_has ls 4 [(0, .ref (ad 0)), (1, .long l1), (3, .int l3)] → W p l e R s m args below meth c H locs cells slots Q (F0 m 3 ls []) := by
  intro l1 l3 x H locs ls  hw hW hS hl
  unfold j_Mod_tellWord_3 at hw
  refine lv_iload_n hx hb d_Mod_tellWord_3 rfl (lv_at hl 2 rfl) ?_
  refine lv_if_lt (tgt := 37) hx hb d_Mod_tellWord_4 (by decide) (fun c1818 => ?_) (fun c1818 => ?_)
  · have hw := hw.1 c1818
    exact hret x H locs 37 ls d_Mod_tellWord_37 hw hW hS
  · have hw := hw.2 c1818
    refine lv_lload_n hx hb d_Mod_tellWord_7 rfl (lv_at hl 1 rfl) ?_
    refine lv_iload_n hx hb d_Mod_tellWord_8 rfl (lv_at hl 2 rfl) ?_
    refine lv_lshr hx hb d_Mod_tellWord_9 rfl ?_
    refine lv_ldc2 hx hb hown (hT _ w_12_152) d_Mod_tellWord_10 ?_
    refine lv_land hx hb d_Mod_tellWord_13 ?_
    refine lv_lconst (v := 0) hx hb d_Mod_tellWord_14 (by decide) ?_
    refine W.lcmp hx hb d_Mod_tellWord_15 ?_
    refine lv_if_eq (tgt := 31) hx hb d_Mod_tellWord_16 (by decide) (fun c1819 => ?_) (fun c1819 => ?_)
    · have hw := hw.1 c1819
      exact t_Mod_tellWord_31 hx hb hml hown hT hK hN hA hRc hRs hRf hRl hret hrec3 l1 l3 x H locs ls  hw hW hS (lv_sub hl [0, 1, 2] rfl)
    · have hw := hw.2 c1819
      refine lv_aload_n hx hb d_Mod_tellWord_19 rfl (lv_at hl 0 rfl) ?_
      refine lv_lload_n hx hb d_Mod_tellWord_20 rfl (lv_at hl 1 rfl) ?_
      refine lv_iload_n hx hb d_Mod_tellWord_21 rfl (lv_at hl 2 rfl) ?_
      refine lv_lshr hx hb d_Mod_tellWord_22 rfl ?_
      refine lv_ldc2 hx hb hown (hT _ w_12_152) d_Mod_tellWord_23 ?_
      refine lv_land hx hb d_Mod_tellWord_26 ?_
      refine lv_l2i hx hb d_Mod_tellWord_27 rfl ?_
      have hF := hW.free hS hA
      refine va_callv (va_runV (C := R_Mod) (As := [.int (((l1 >>> ((l3 : Int32).toInt64 &&& 63)) &&& 255) : Int64).toInt32]) (rest := []) ⟨hx, hb, hml, hown, hT⟩ (k_Mod_tell l dC dI cI cB cJ cZ ad H.size (((l1 >>> ((l3 : Int32).toInt64 &&& 63)) &&& 255) : Int64).toInt32 x  hw) ⟨callB_of 1 hT (gwt_in w_13_70) rfl rfl rfl (hT _ w_1_15) (hT _ w_13_67) (by decide +kernel) ⟨Nat.le_trans (Nat.le_of_ble_eq_true rfl) hRf, Nat.le_trans (Nat.le_of_ble_eq_true rfl) hRl⟩, hT _ w_13_69, hT _ ws_227⟩ ⟨PW.blind, va_recv hK hW.1 (ci := 12) (q0 := 0) rfl (pic_obj ko_0.1 ko_0.2 (by decide)), PW.at _ hW hK hN⟩ rfl rfl hl.1 rfl (lv_room (Nat.le_of_ble_eq_true rfl)) d_Mod_tellWord_28 ⟨hRc, hRs⟩) hS (fun q _ h => hF q h) hF (fun  x1820 t H locs ht hvm hw hB hz1 hk1 hS => ?_)
      have hW := Wd.back hB ht hF
      clear hB ht hF hz1 hk1 hvm
      exact t_Mod_tellWord_31 hx hb hml hown hT hK hN hA hRc hRs hRf hRl hret hrec3 l1 l3 x1820 H locs ls  hw hW hS (lv_sub hl [0, 1, 2] rfl)
set_option maxHeartbeats 4000000 in
set_option maxRecDepth 100000 in
theorem tl_Mod_tellWord_3 {p : Program} {l : Launch} {e : Env} {R : Room} {s : State} {m : MethodId} {args : Array Value} {below : List Frame} {meth : Method} {c : Code} {cells slots : Nat} {Q : State → Prop} {dC : Nat → ClassId} {dI : Nat → Nat → Nat} {cI cB cJ cZ : ClassId} {A : Nat → Prop} {ad : Nat → Nat} {post : St → Prop} (hx : p.tables.exec = Jvm.exec) (hb : c.code = b_Mod_tellWord) (hml : c.maxLocals = 4) (hown : s.vm.findClass R_Mod = some m.cls) (hT : ∀ w ∈ TG, w.before args s = true) (hK : va_K (dC, dI) CL (TY cI cB cJ cZ) s) (hN : NW s) (hA : ∀ q : Nat, s.heap.size ≤ q → A q) (hRc : cells ≤ R.cells) (hRs : slots ≤ R.slots) (hRf : 1 ≤ R.frames) (hRl : 21 ≤ R.locals) (hret : ∀ (x : St) (H : Heap) (locs : List Loc) (pc : Nat) (ls : Array Slot), decode b_Mod_tellWord pc = .ok (.return_, 1) → post x → Wd dC dI cI cB cJ cZ ad stM kcM 115 A x H → va_S A s.heap H locs → W p l e R s m args below meth c H locs cells slots Q (F0 m pc ls []))  : ∀ n : Nat, ∀ (l1 : Int64) (l3 : Int32) (x : St) (H : Heap) (locs : List Loc) (ls : Array Slot), wl_Mod_tellWord_3 post n l1 l3 x → Wd dC dI cI cB cJ cZ ad stM kcM 115 A x H → va_S A s.heap H locs → lv_has ls 4 [(0, .ref (ad 0)), (1, .long l1), (3, .int l3)] → W p l e R s m args below meth c H locs cells slots Q (F0 m 3 ls []) := by
  intro n
  induction n with
  | zero => intro l1 l3 x H locs ls  hw; exact hw.elim
  | succ n ih => intro l1 l3 x H locs ls  hw hW hS hl; exact t_Mod_tellWord_3 hx hb hml hown hT hK hN hA hRc hRs hRf hRl hret  ih l1 l3 x H locs ls  hw hW hS hl
set_option maxRecDepth 100000 in
set_option maxHeartbeats 4000000 in
set_option maxRecDepth 100000 in
theorem t_Mod_tellWord_e {p : Program} {l : Launch} {e : Env} {R : Room} {s : State} {m : MethodId} {args : Array Value} {below : List Frame} {meth : Method} {c : Code} {cells slots : Nat} {Q : State → Prop} {dC : Nat → ClassId} {dI : Nat → Nat → Nat} {cI cB cJ cZ : ClassId} {A : Nat → Prop} {ad : Nat → Nat} {post : St → Prop} (hx : p.tables.exec = Jvm.exec) (hb : c.code = b_Mod_tellWord) (hml : c.maxLocals = 4) (hown : s.vm.findClass R_Mod = some m.cls) (hT : ∀ w ∈ TG, w.before args s = true) (hK : va_K (dC, dI) CL (TY cI cB cJ cZ) s) (hN : NW s) (hA : ∀ q : Nat, s.heap.size ≤ q → A q) (hRc : cells ≤ R.cells) (hRs : slots ≤ R.slots) (hRf : 1 ≤ R.frames) (hRl : 21 ≤ R.locals) (hret : ∀ (x : St) (H : Heap) (locs : List Loc) (pc : Nat) (ls : Array Slot), decode b_Mod_tellWord pc = .ok (.return_, 1) → post x → Wd dC dI cI cB cJ cZ ad stM kcM 115 A x H → va_S A s.heap H locs → W p l e R s m args below meth c H locs cells slots Q (F0 m pc ls [])) : ∀ (l1 : Int64) (x : St) (H : Heap) (locs : List Loc) (ls : Array Slot), wp_Mod_tellWord post l1 x → Wd dC dI cI cB cJ cZ ad stM kcM 115 A x H → va_S A s.heap H locs → lv_has ls 4 [(0, .ref (ad 0)), (1, .long l1)] → W p l e R s m args below meth c H locs cells slots Q (F0 m 0 ls []) := by
  intro l1 x H locs ls  hw hW hS hl
  unfold wp_Mod_tellWord at hw
  refine lv_bipush (v := 56) hx hb d_Mod_tellWord_0 (by decide) ?_
  refine lv_istore_n (lv' := [(3, .int 56), (0, .ref (ad 0)), (1, .long l1)]) hx hb d_Mod_tellWord_2 rfl hl (by decide) rfl (fun ls hl => ?_)
  obtain ⟨n, hw⟩ := hw
  exact tl_Mod_tellWord_3 hx hb hml hown hT hK hN hA hRc hRs hRf hRl hret  n l1 56 x H locs ls  hw hW hS (lv_sub hl [1, 2, 0] rfl)
set_option maxHeartbeats 4000000 in
set_option maxRecDepth 100000 in
theorem k_Mod_tellWord (l : Launch) (dC : Nat → ClassId) (dI : Nat → Nat → Nat) (cI cB cJ cZ : ClassId) (ad : Nat → Nat) (sz : Nat) (l1 : Int64) (x : St) {post : St → Prop} (hw : wp_Mod_tellWord post l1 x) : Met l y_Mod_tellWord (wsOf y_Mod_tellWord b_Mod_tellWord 4 (none)) ({ frames := 1, cells := 0, slots := 0, locals := 21 }) (va_Pc [.ref (ad 0), .long l1] (PW dC dI cI cB cJ cZ ad stM kcM 115 sz x)) (va_Qv (fun (y : St) => post y) (fun y t => Wd dC dI cI cB cJ cZ ad stM kcM 115 (va_A (pic ad stM kcM 115 cI cB cJ cZ x) sz) y t.heap) (va_A (pic ad stM kcM 115 cI cB cJ cZ x) sz)) 0 0 (va_A (pic ad stM kcM 115 cI cB cJ cZ x) sz) := by
  refine Met.ofW (cc := b_Mod_tellWord) (maxL := 4) (ret := none) (by decide) rfl ?_
  intro p e s m args below meth c s₁ B hml hv
  obtain ⟨rfl, hsz, hW0, hK, hN⟩ := hv
  have hx := B.exec
  have hb := B.bytes
  have hr := B.returns
  have hts := atoms_spec B.pre
  have hT : ∀ w ∈ TG, w.before _ s = true := fun w h => hts w (List.mem_cons_of_mem _ h)
  have hown : s.vm.findClass R_Mod = some m.cls := findClass_of_methodNamed B.named
  have hlocks := B.notSynchronized
  subst hsz
  have hW : Wd dC dI cI cB cJ cZ ad stM kcM 115 (va_A (pic ad stM kcM 115 cI cB cJ cZ x) s.heap.size) x s.heap := ⟨hW0.1, hW0.2.1.self (sz := s.heap.size), hW0.2.2⟩
  generalize hAe : va_A (pic ad stM kcM 115 cI cB cJ cZ x) s.heap.size = A at hW ⊢
  have hA : ∀ q : Nat, s.heap.size ≤ q → A q := fun q h => by rw [← hAe]; exact Or.inr h
  have hS : va_S A s.heap s.heap [] := va_S.rf
  have hl := lv_entry ([.ref (ad 0), .long l1]) (n := 4) (Nat.le_of_ble_eq_true rfl)
  rw [lg_entry_eq]
  generalize (lg_sl ([.ref (ad 0), .long l1]) ++ List.replicate (4 - (lg_sl ([.ref (ad 0), .long l1])).length) Slot.unset).toArray = ls at hl ⊢
  have hl : lv_has ls 4 [(0, .ref (ad 0)), (1, .long l1)] := hl
  exact t_Mod_tellWord_e hx hb hml hown hT hK hN hA (Nat.le_refl 0) (Nat.le_refl 0) (Nat.le_refl 1) (Nat.le_refl 21) (fun x H locs pc ls hd hp hW hS => W.vret hx hb hr (fun t ht hM => ⟨⟨x, rfl, hp, Wd.back hW ht.symm (fun _ z => z)⟩, hS.F ht⟩) hS.2.2 hd hlocks)  l1 x _ _ ls  hw hW hS hl
end
