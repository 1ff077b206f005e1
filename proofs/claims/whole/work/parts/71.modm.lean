theorem w_13_117 : (Jvm.Cond.constantLong "StripedVaultModel" (987 : Nat) (126879447475060 : Int64)) ∈ TG := tw_13 117 (by decide +kernel) (by decide +kernel)
theorem w_13_122 : (Jvm.Cond.constantLong "StripedVaultModel" (1005 : Nat) (427071729268 : Int64)) ∈ TG := tw_13 122 (by decide +kernel) (by decide +kernel)
theorem w_13_123 : (Jvm.Cond.constantLong "StripedVaultModel" (1007 : Nat) (7566701 : Int64)) ∈ TG := tw_13 123 (by decide +kernel) (by decide +kernel)
theorem w_13_124 : (Jvm.Cond.constantLong "StripedVaultModel" (1009 : Nat) (7170414 : Int64)) ∈ TG := tw_13 124 (by decide +kernel) (by decide +kernel)
theorem w_13_125 : (Jvm.Cond.constantLong "StripedVaultModel" (1011 : Nat) (7168376 : Int64)) ∈ TG := tw_13 125 (by decide +kernel) (by decide +kernel)
theorem w_13_126 : (Jvm.Cond.methodLink "StripedVaultModel" (1016 : Nat) ({ cls := "StripedVaultModel", name := "path", desc := "()I" } : Jvm.MethodName)) ∈ TG := tw_13 126 (by decide +kernel) (by decide +kernel)
theorem w_13_128 : (Jvm.Cond.instanceMethod ({ cls := "StripedVaultModel", name := "path", desc := "()I" } : Jvm.MethodName)) ∈ TG := tw_13 128 (by decide +kernel) (by decide +kernel)
theorem w_13_129 : (Jvm.Cond.code ({ cls := "StripedVaultModel", name := "path", desc := "()I" } : Jvm.MethodName) prog_14_method_158_code (4 : Nat) (Option.some Jvm.ClassFile.FieldType.int)) ∈ TG := tw_13 129 (by decide +kernel) (by decide +kernel)
theorem w_13_130 : (Jvm.Cond.methodLink "StripedVaultModel" (1013 : Nat) ({ cls := "StripedVaultModel", name := "isKept", desc := "(J)Z" } : Jvm.MethodName)) ∈ TG := tw_13 130 (by decide +kernel) (by decide +kernel)
theorem w_13_131 : (Jvm.Cond.static ({ cls := "StripedVaultModel", name := "isKept", desc := "(J)Z" } : Jvm.MethodName)) ∈ TG := tw_13 131 (by decide +kernel) (by decide +kernel)
theorem w_13_132 : (Jvm.Cond.code ({ cls := "StripedVaultModel", name := "isKept", desc := "(J)Z" } : Jvm.MethodName) prog_14_method_157_code (2 : Nat) (Option.some Jvm.ClassFile.FieldType.boolean)) ∈ TG := tw_13 132 (by decide +kernel) (by decide +kernel)
theorem w_13_133 : (Jvm.Cond.constantLong "StripedVaultModel" (989 : Nat) (512852587109 : Int64)) ∈ TG := tw_13 133 (by decide +kernel) (by decide +kernel)
theorem w_13_134 : (Jvm.Cond.constantLong "StripedVaultModel" (991 : Nat) (25209 : Int64)) ∈ TG := tw_13 134 (by decide +kernel) (by decide +kernel)
theorem w_13_135 : (Jvm.Cond.constantLong "StripedVaultModel" (993 : Nat) (6385252 : Int64)) ∈ TG := tw_13 135 (by decide +kernel) (by decide +kernel)
theorem w_13_136 : (Jvm.Cond.constantLong "StripedVaultModel" (995 : Nat) (28530 : Int64)) ∈ TG := tw_13 136 (by decide +kernel) (by decide +kernel)
theorem w_13_137 : (Jvm.Cond.constantLong "StripedVaultModel" (997 : Nat) (7237492 : Int64)) ∈ TG := tw_13 137 (by decide +kernel) (by decide +kernel)
theorem w_13_138 : (Jvm.Cond.constantLong "StripedVaultModel" (999 : Nat) (26995 : Int64)) ∈ TG := tw_13 138 (by decide +kernel) (by decide +kernel)
theorem w_13_139 : (Jvm.Cond.constantLong "StripedVaultModel" (1001 : Nat) (1853189228 : Int64)) ∈ TG := tw_13 139 (by decide +kernel) (by decide +kernel)
theorem w_13_140 : (Jvm.Cond.constantLong "StripedVaultModel" (1003 : Nat) (26990 : Int64)) ∈ TG := tw_13 140 (by decide +kernel) (by decide +kernel)
theorem w_13_145 : (Jvm.Cond.methodLink "StripedVaultModel" (1019 : Nat) ({ cls := "StripedVaultModel", name := "isFlat", desc := "(I)Z" } : Jvm.MethodName)) ∈ TG := tw_13 145 (by decide +kernel) (by decide +kernel)
theorem w_13_147 : (Jvm.Cond.instanceMethod ({ cls := "StripedVaultModel", name := "isFlat", desc := "(I)Z" } : Jvm.MethodName)) ∈ TG := tw_13 147 (by decide +kernel) (by decide +kernel)
theorem w_13_148 : (Jvm.Cond.code ({ cls := "StripedVaultModel", name := "isFlat", desc := "(I)Z" } : Jvm.MethodName) prog_14_method_159_code (4 : Nat) (Option.some Jvm.ClassFile.FieldType.boolean)) ∈ TG := tw_13 148 (by decide +kernel) (by decide +kernel)
theorem w_13_47 : (Jvm.Cond.methodLink "StripedVaultModel" (984 : Nat) ({ cls := "StripedVaultModel", name := "tellRecord", desc := "(I)I" } : Jvm.MethodName)) ∈ TG := tw_13 47 (by decide +kernel) (by decide +kernel)
theorem w_13_49 : (Jvm.Cond.instanceMethod ({ cls := "StripedVaultModel", name := "tellRecord", desc := "(I)I" } : Jvm.MethodName)) ∈ TG := tw_13 49 (by decide +kernel) (by decide +kernel)
theorem w_13_50 : (Jvm.Cond.code ({ cls := "StripedVaultModel", name := "tellRecord", desc := "(I)I" } : Jvm.MethodName) prog_14_method_141_code (2 : Nat) (Option.some Jvm.ClassFile.FieldType.int)) ∈ TG := tw_13 50 (by decide +kernel) (by decide +kernel)
theorem w_13_51 : (Jvm.Cond.methodLink "StripedVaultModel" (938 : Nat) ({ cls := "StripedVaultModel", name := "goTo", desc := "(I)V" } : Jvm.MethodName)) ∈ TG := tw_13 51 (by decide +kernel) (by decide +kernel)
theorem w_13_53 : (Jvm.Cond.instanceMethod ({ cls := "StripedVaultModel", name := "goTo", desc := "(I)V" } : Jvm.MethodName)) ∈ TG := tw_13 53 (by decide +kernel) (by decide +kernel)
theorem w_13_54 : (Jvm.Cond.code ({ cls := "StripedVaultModel", name := "goTo", desc := "(I)V" } : Jvm.MethodName) prog_14_method_149_code (7 : Nat) (Option.none : Option Jvm.ClassFile.FieldType)) ∈ TG := tw_13 54 (by decide +kernel) (by decide +kernel)
theorem ws_222 : Cond.selects R_Mod y_Mod_tellRecord y_Mod_tellRecord ∈ TG := tw_s 222 (by decide +kernel) (by decide +kernel)
theorem ws_223 : Cond.selects R_Mod y_Mod_goTo y_Mod_goTo ∈ TG := tw_s 223 (by decide +kernel) (by decide +kernel)
theorem ws_238 : Cond.selects R_Mod y_Mod_path y_Mod_path ∈ TG := tw_s 238 (by decide +kernel) (by decide +kernel)
theorem ws_240 : Cond.selects R_Mod y_Mod_isFlat y_Mod_isFlat ∈ TG := tw_s 240 (by decide +kernel) (by decide +kernel)
theorem d_Mod_tellRecord_0 : decode b_Mod_tellRecord 0 = .ok (.aload_n 0, 1) := by decide +kernel
theorem d_Mod_tellRecord_1 : decode b_Mod_tellRecord 1 = .ok (.iload_n 1, 1) := by decide +kernel
theorem d_Mod_tellRecord_2 : decode b_Mod_tellRecord 2 = .ok (.invokevirtual 938, 3) := by decide +kernel
theorem d_Mod_tellRecord_5 : decode b_Mod_tellRecord 5 = .ok (.aload_n 0, 1) := by decide +kernel
theorem d_Mod_tellRecord_6 : decode b_Mod_tellRecord 6 = .ok (.iconst (-1), 1) := by decide +kernel
theorem d_Mod_tellRecord_7 : decode b_Mod_tellRecord 7 = .ok (.invokevirtual 941, 3) := by decide +kernel
theorem d_Mod_tellRecord_10 : decode b_Mod_tellRecord 10 = .ok (.aload_n 0, 1) := by decide +kernel
theorem d_Mod_tellRecord_11 : decode b_Mod_tellRecord 11 = .ok (.getfield 935, 3) := by decide +kernel
theorem d_Mod_tellRecord_14 : decode b_Mod_tellRecord 14 = .ok (.aload_n 0, 1) := by decide +kernel
theorem d_Mod_tellRecord_15 : decode b_Mod_tellRecord 15 = .ok (.getfield 238, 3) := by decide +kernel
theorem d_Mod_tellRecord_18 : decode b_Mod_tellRecord 18 = .ok (.arraylength, 1) := by decide +kernel
theorem d_Mod_tellRecord_19 : decode b_Mod_tellRecord 19 = .ok (.if_icmp .gt 8, 3) := by decide +kernel
theorem d_Mod_tellRecord_27 : decode b_Mod_tellRecord 27 = .ok (.aload_n 0, 1) := by decide +kernel
theorem d_Mod_tellRecord_28 : decode b_Mod_tellRecord 28 = .ok (.iconst 0, 1) := by decide +kernel
theorem d_Mod_tellRecord_29 : decode b_Mod_tellRecord 29 = .ok (.putfield 935, 3) := by decide +kernel
theorem d_Mod_tellRecord_32 : decode b_Mod_tellRecord 32 = .ok (.iconst (-1), 1) := by decide +kernel
theorem d_Mod_tellRecord_33 : decode b_Mod_tellRecord 33 = .ok (.ireturn, 1) := by decide +kernel
theorem d_Mod_tellRecord_22 : decode b_Mod_tellRecord 22 = .ok (.aload_n 0, 1) := by decide +kernel
theorem d_Mod_tellRecord_23 : decode b_Mod_tellRecord 23 = .ok (.getfield 935, 3) := by decide +kernel
theorem d_Mod_tellRecord_26 : decode b_Mod_tellRecord 26 = .ok (.ireturn, 1) := by decide +kernel
theorem d_Mod_show_33 : decode b_Mod_show 33 = .ok (.iload_n 2, 1) := by decide +kernel
theorem d_Mod_show_34 : decode b_Mod_show 34 = .ok (.aload_n 0, 1) := by decide +kernel
theorem d_Mod_show_35 : decode b_Mod_show 35 = .ok (.getfield 38, 3) := by decide +kernel
theorem d_Mod_show_38 : decode b_Mod_show 38 = .ok (.iconst 1, 1) := by decide +kernel
theorem d_Mod_show_39 : decode b_Mod_show 39 = .ok (.iaload, 1) := by decide +kernel
theorem d_Mod_show_40 : decode b_Mod_show 40 = .ok (.if_icmp .ge 16, 3) := by decide +kernel
theorem d_Mod_show_56 : decode b_Mod_show 56 = .ok (.aload_n 0, 1) := by decide +kernel
theorem d_Mod_show_57 : decode b_Mod_show 57 = .ok (.iload_n 1, 1) := by decide +kernel
theorem d_Mod_show_58 : decode b_Mod_show 58 = .ok (.invokevirtual 984, 3) := by decide +kernel
theorem d_Mod_show_61 : decode b_Mod_show 61 = .ok (.ireturn, 1) := by decide +kernel
theorem d_Mod_show_43 : decode b_Mod_show 43 = .ok (.aload_n 0, 1) := by decide +kernel
theorem d_Mod_show_44 : decode b_Mod_show 44 = .ok (.getfield 248, 3) := by decide +kernel
theorem d_Mod_show_47 : decode b_Mod_show 47 = .ok (.iload_n 2, 1) := by decide +kernel
theorem d_Mod_show_48 : decode b_Mod_show 48 = .ok (.iconst 1, 1) := by decide +kernel
theorem d_Mod_show_49 : decode b_Mod_show 49 = .ok (.bastore, 1) := by decide +kernel
theorem d_Mod_show_50 : decode b_Mod_show 50 = .ok (.iinc 2 1, 3) := by decide +kernel
theorem d_Mod_show_53 : decode b_Mod_show 53 = .ok (.goto (-20), 3) := by decide +kernel
theorem d_Mod_show_29 : decode b_Mod_show 29 = .ok (.iconst (-1), 1) := by decide +kernel
theorem d_Mod_show_30 : decode b_Mod_show 30 = .ok (.ireturn, 1) := by decide +kernel
theorem d_Mod_show_0 : decode b_Mod_show 0 = .ok (.aload_n 0, 1) := by decide +kernel
theorem d_Mod_show_1 : decode b_Mod_show 1 = .ok (.iconst 0, 1) := by decide +kernel
theorem d_Mod_show_2 : decode b_Mod_show 2 = .ok (.putfield 360, 3) := by decide +kernel
theorem d_Mod_show_5 : decode b_Mod_show 5 = .ok (.aload_n 0, 1) := by decide +kernel
theorem d_Mod_show_6 : decode b_Mod_show 6 = .ok (.iconst 0, 1) := by decide +kernel
theorem d_Mod_show_7 : decode b_Mod_show 7 = .ok (.putfield 935, 3) := by decide +kernel
theorem d_Mod_show_10 : decode b_Mod_show 10 = .ok (.aload_n 0, 1) := by decide +kernel
theorem d_Mod_show_11 : decode b_Mod_show 11 = .ok (.getfield 917, 3) := by decide +kernel
theorem d_Mod_show_14 : decode b_Mod_show 14 = .ok (.ifCond .eq 15, 3) := by decide +kernel
theorem d_Mod_show_17 : decode b_Mod_show 17 = .ok (.iload_n 1, 1) := by decide +kernel
theorem d_Mod_show_18 : decode b_Mod_show 18 = .ok (.ifCond .lt 11, 3) := by decide +kernel
theorem d_Mod_show_21 : decode b_Mod_show 21 = .ok (.iload_n 1, 1) := by decide +kernel
theorem d_Mod_show_22 : decode b_Mod_show 22 = .ok (.aload_n 0, 1) := by decide +kernel
theorem d_Mod_show_23 : decode b_Mod_show 23 = .ok (.getfield 874, 3) := by decide +kernel
theorem d_Mod_show_26 : decode b_Mod_show 26 = .ok (.if_icmp .lt 5, 3) := by decide +kernel
theorem d_Mod_show_31 : decode b_Mod_show 31 = .ok (.iconst 0, 1) := by decide +kernel
theorem d_Mod_show_32 : decode b_Mod_show 32 = .ok (.istore_n 2, 1) := by decide +kernel
theorem d_Mod_output_17 : decode b_Mod_output 17 = .ok (.iconst (-1), 1) := by decide +kernel
theorem d_Mod_output_18 : decode b_Mod_output 18 = .ok (.goto 13, 3) := by decide +kernel
theorem d_Mod_output_31 : decode b_Mod_output 31 = .ok (.ireturn, 1) := by decide +kernel
theorem d_Mod_output_0 : decode b_Mod_output 0 = .ok (.aload_n 0, 1) := by decide +kernel
theorem d_Mod_output_1 : decode b_Mod_output 1 = .ok (.iconst 0, 1) := by decide +kernel
theorem d_Mod_output_2 : decode b_Mod_output 2 = .ok (.putfield 360, 3) := by decide +kernel
theorem d_Mod_output_5 : decode b_Mod_output 5 = .ok (.iload_n 1, 1) := by decide +kernel
theorem d_Mod_output_6 : decode b_Mod_output 6 = .ok (.ifCond .lt 11, 3) := by decide +kernel
theorem d_Mod_output_9 : decode b_Mod_output 9 = .ok (.iload_n 1, 1) := by decide +kernel
theorem d_Mod_output_10 : decode b_Mod_output 10 = .ok (.aload_n 0, 1) := by decide +kernel
theorem d_Mod_output_11 : decode b_Mod_output 11 = .ok (.getfield 935, 3) := by decide +kernel
theorem d_Mod_output_14 : decode b_Mod_output 14 = .ok (.if_icmp .lt 7, 3) := by decide +kernel
theorem d_Mod_output_21 : decode b_Mod_output 21 = .ok (.aload_n 0, 1) := by decide +kernel
theorem d_Mod_output_22 : decode b_Mod_output 22 = .ok (.getfield 238, 3) := by decide +kernel
theorem d_Mod_output_25 : decode b_Mod_output 25 = .ok (.iload_n 1, 1) := by decide +kernel
theorem d_Mod_output_26 : decode b_Mod_output 26 = .ok (.baload, 1) := by decide +kernel
theorem d_Mod_output_27 : decode b_Mod_output 27 = .ok (.sipush 255, 3) := by decide +kernel
theorem d_Mod_output_30 : decode b_Mod_output 30 = .ok (.iand, 1) := by decide +kernel
theorem d_Mod_isKept_128 : decode b_Mod_isKept 128 = .ok (.iconst 1, 1) := by decide +kernel
theorem d_Mod_isKept_129 : decode b_Mod_isKept 129 = .ok (.goto 4, 3) := by decide +kernel
theorem d_Mod_isKept_133 : decode b_Mod_isKept 133 = .ok (.ireturn, 1) := by decide +kernel
theorem d_Mod_isKept_0 : decode b_Mod_isKept 0 = .ok (.lload_n 0, 1) := by decide +kernel
theorem d_Mod_isKept_1 : decode b_Mod_isKept 1 = .ok (.ldc2_w 987, 3) := by decide +kernel
theorem d_Mod_isKept_4 : decode b_Mod_isKept 4 = .ok (.lcmp, 1) := by decide +kernel
theorem d_Mod_isKept_5 : decode b_Mod_isKept 5 = .ok (.ifCond .eq 123, 3) := by decide +kernel
theorem d_Mod_isKept_8 : decode b_Mod_isKept 8 = .ok (.lload_n 0, 1) := by decide +kernel
theorem d_Mod_isKept_9 : decode b_Mod_isKept 9 = .ok (.ldc2_w 989, 3) := by decide +kernel
theorem d_Mod_isKept_12 : decode b_Mod_isKept 12 = .ok (.lcmp, 1) := by decide +kernel
theorem d_Mod_isKept_13 : decode b_Mod_isKept 13 = .ok (.ifCond .eq 115, 3) := by decide +kernel
theorem d_Mod_isKept_16 : decode b_Mod_isKept 16 = .ok (.lload_n 0, 1) := by decide +kernel
theorem d_Mod_isKept_17 : decode b_Mod_isKept 17 = .ok (.ldc2_w 440, 3) := by decide +kernel
theorem d_Mod_isKept_20 : decode b_Mod_isKept 20 = .ok (.lcmp, 1) := by decide +kernel
theorem d_Mod_isKept_21 : decode b_Mod_isKept 21 = .ok (.ifCond .eq 107, 3) := by decide +kernel
theorem d_Mod_isKept_24 : decode b_Mod_isKept 24 = .ok (.lload_n 0, 1) := by decide +kernel
theorem d_Mod_isKept_25 : decode b_Mod_isKept 25 = .ok (.ldc2_w 991, 3) := by decide +kernel
theorem d_Mod_isKept_28 : decode b_Mod_isKept 28 = .ok (.lcmp, 1) := by decide +kernel
theorem d_Mod_isKept_29 : decode b_Mod_isKept 29 = .ok (.ifCond .eq 99, 3) := by decide +kernel
theorem d_Mod_isKept_32 : decode b_Mod_isKept 32 = .ok (.lload_n 0, 1) := by decide +kernel
theorem d_Mod_isKept_33 : decode b_Mod_isKept 33 = .ok (.ldc2_w 993, 3) := by decide +kernel
theorem d_Mod_isKept_36 : decode b_Mod_isKept 36 = .ok (.lcmp, 1) := by decide +kernel
theorem d_Mod_isKept_37 : decode b_Mod_isKept 37 = .ok (.ifCond .eq 91, 3) := by decide +kernel
theorem d_Mod_isKept_40 : decode b_Mod_isKept 40 = .ok (.lload_n 0, 1) := by decide +kernel
theorem d_Mod_isKept_41 : decode b_Mod_isKept 41 = .ok (.ldc2_w 995, 3) := by decide +kernel
theorem d_Mod_isKept_44 : decode b_Mod_isKept 44 = .ok (.lcmp, 1) := by decide +kernel
theorem d_Mod_isKept_45 : decode b_Mod_isKept 45 = .ok (.ifCond .eq 83, 3) := by decide +kernel
theorem d_Mod_isKept_48 : decode b_Mod_isKept 48 = .ok (.lload_n 0, 1) := by decide +kernel
theorem d_Mod_isKept_49 : decode b_Mod_isKept 49 = .ok (.ldc2_w 997, 3) := by decide +kernel
theorem d_Mod_isKept_52 : decode b_Mod_isKept 52 = .ok (.lcmp, 1) := by decide +kernel
theorem d_Mod_isKept_53 : decode b_Mod_isKept 53 = .ok (.ifCond .eq 75, 3) := by decide +kernel
theorem d_Mod_isKept_56 : decode b_Mod_isKept 56 = .ok (.lload_n 0, 1) := by decide +kernel
theorem d_Mod_isKept_57 : decode b_Mod_isKept 57 = .ok (.ldc2_w 999, 3) := by decide +kernel
theorem d_Mod_isKept_60 : decode b_Mod_isKept 60 = .ok (.lcmp, 1) := by decide +kernel
theorem d_Mod_isKept_61 : decode b_Mod_isKept 61 = .ok (.ifCond .eq 67, 3) := by decide +kernel
theorem d_Mod_isKept_64 : decode b_Mod_isKept 64 = .ok (.lload_n 0, 1) := by decide +kernel
theorem d_Mod_isKept_65 : decode b_Mod_isKept 65 = .ok (.ldc2_w 1001, 3) := by decide +kernel
theorem d_Mod_isKept_68 : decode b_Mod_isKept 68 = .ok (.lcmp, 1) := by decide +kernel
theorem d_Mod_isKept_69 : decode b_Mod_isKept 69 = .ok (.ifCond .eq 59, 3) := by decide +kernel
theorem d_Mod_isKept_72 : decode b_Mod_isKept 72 = .ok (.lload_n 0, 1) := by decide +kernel
theorem d_Mod_isKept_73 : decode b_Mod_isKept 73 = .ok (.ldc2_w 1003, 3) := by decide +kernel
theorem d_Mod_isKept_76 : decode b_Mod_isKept 76 = .ok (.lcmp, 1) := by decide +kernel
theorem d_Mod_isKept_77 : decode b_Mod_isKept 77 = .ok (.ifCond .eq 51, 3) := by decide +kernel
theorem d_Mod_isKept_80 : decode b_Mod_isKept 80 = .ok (.lload_n 0, 1) := by decide +kernel
theorem d_Mod_isKept_81 : decode b_Mod_isKept 81 = .ok (.ldc2_w 502, 3) := by decide +kernel
theorem d_Mod_isKept_84 : decode b_Mod_isKept 84 = .ok (.lcmp, 1) := by decide +kernel
theorem d_Mod_isKept_85 : decode b_Mod_isKept 85 = .ok (.ifCond .eq 43, 3) := by decide +kernel
theorem d_Mod_isKept_88 : decode b_Mod_isKept 88 = .ok (.lload_n 0, 1) := by decide +kernel
theorem d_Mod_isKept_89 : decode b_Mod_isKept 89 = .ok (.ldc2_w 504, 3) := by decide +kernel
theorem d_Mod_isKept_92 : decode b_Mod_isKept 92 = .ok (.lcmp, 1) := by decide +kernel
theorem d_Mod_isKept_93 : decode b_Mod_isKept 93 = .ok (.ifCond .eq 35, 3) := by decide +kernel
theorem d_Mod_isKept_96 : decode b_Mod_isKept 96 = .ok (.lload_n 0, 1) := by decide +kernel
theorem d_Mod_isKept_97 : decode b_Mod_isKept 97 = .ok (.ldc2_w 1005, 3) := by decide +kernel
theorem d_Mod_isKept_100 : decode b_Mod_isKept 100 = .ok (.lcmp, 1) := by decide +kernel
theorem d_Mod_isKept_101 : decode b_Mod_isKept 101 = .ok (.ifCond .eq 27, 3) := by decide +kernel
theorem d_Mod_isKept_104 : decode b_Mod_isKept 104 = .ok (.lload_n 0, 1) := by decide +kernel
theorem d_Mod_isKept_105 : decode b_Mod_isKept 105 = .ok (.ldc2_w 1007, 3) := by decide +kernel
theorem d_Mod_isKept_108 : decode b_Mod_isKept 108 = .ok (.lcmp, 1) := by decide +kernel
theorem d_Mod_isKept_109 : decode b_Mod_isKept 109 = .ok (.ifCond .eq 19, 3) := by decide +kernel
theorem d_Mod_isKept_112 : decode b_Mod_isKept 112 = .ok (.lload_n 0, 1) := by decide +kernel
theorem d_Mod_isKept_113 : decode b_Mod_isKept 113 = .ok (.ldc2_w 1009, 3) := by decide +kernel
theorem d_Mod_isKept_116 : decode b_Mod_isKept 116 = .ok (.lcmp, 1) := by decide +kernel
theorem d_Mod_isKept_117 : decode b_Mod_isKept 117 = .ok (.ifCond .eq 11, 3) := by decide +kernel
theorem d_Mod_isKept_120 : decode b_Mod_isKept 120 = .ok (.lload_n 0, 1) := by decide +kernel
theorem d_Mod_isKept_121 : decode b_Mod_isKept 121 = .ok (.ldc2_w 1011, 3) := by decide +kernel
theorem d_Mod_isKept_124 : decode b_Mod_isKept 124 = .ok (.lcmp, 1) := by decide +kernel
theorem d_Mod_isKept_125 : decode b_Mod_isKept 125 = .ok (.ifCond .ne 7, 3) := by decide +kernel
theorem d_Mod_isKept_132 : decode b_Mod_isKept 132 = .ok (.iconst 0, 1) := by decide +kernel
theorem d_Mod_path_91 : decode b_Mod_path 91 = .ok (.istore_n 2, 1) := by decide +kernel
theorem d_Mod_path_92 : decode b_Mod_path 92 = .ok (.aload_n 0, 1) := by decide +kernel
theorem d_Mod_path_93 : decode b_Mod_path 93 = .ok (.dup, 1) := by decide +kernel
theorem d_Mod_path_94 : decode b_Mod_path 94 = .ok (.getfield 373, 3) := by decide +kernel
theorem d_Mod_path_97 : decode b_Mod_path 97 = .ok (.iload_n 3, 1) := by decide +kernel
theorem d_Mod_path_98 : decode b_Mod_path 98 = .ok (.iadd, 1) := by decide +kernel
theorem d_Mod_path_99 : decode b_Mod_path 99 = .ok (.putfield 373, 3) := by decide +kernel
theorem d_Mod_path_102 : decode b_Mod_path 102 = .ok (.aload_n 0, 1) := by decide +kernel
theorem d_Mod_path_103 : decode b_Mod_path 103 = .ok (.invokevirtual 379, 3) := by decide +kernel
theorem d_Mod_path_106 : decode b_Mod_path 106 = .ok (.bipush 46, 2) := by decide +kernel
theorem d_Mod_path_108 : decode b_Mod_path 108 = .ok (.if_icmp .eq 5, 3) := by decide +kernel
theorem d_Mod_path_113 : decode b_Mod_path 113 = .ok (.aload_n 0, 1) := by decide +kernel
theorem d_Mod_path_114 : decode b_Mod_path 114 = .ok (.dup, 1) := by decide +kernel
theorem d_Mod_path_115 : decode b_Mod_path 115 = .ok (.getfield 373, 3) := by decide +kernel
theorem d_Mod_path_118 : decode b_Mod_path 118 = .ok (.iconst 1, 1) := by decide +kernel
theorem d_Mod_path_119 : decode b_Mod_path 119 = .ok (.iadd, 1) := by decide +kernel
theorem d_Mod_path_120 : decode b_Mod_path 120 = .ok (.putfield 373, 3) := by decide +kernel
theorem d_Mod_path_123 : decode b_Mod_path 123 = .ok (.goto (-115), 3) := by decide +kernel
theorem d_Mod_path_111 : decode b_Mod_path 111 = .ok (.iload_n 1, 1) := by decide +kernel
theorem d_Mod_path_112 : decode b_Mod_path 112 = .ok (.ireturn, 1) := by decide +kernel
theorem d_Mod_path_86 : decode b_Mod_path 86 = .ok (.iconst 1, 1) := by decide +kernel
theorem d_Mod_path_87 : decode b_Mod_path 87 = .ok (.goto 4, 3) := by decide +kernel
theorem d_Mod_path_76 : decode b_Mod_path 76 = .ok (.istore_n 1, 1) := by decide +kernel
theorem d_Mod_path_77 : decode b_Mod_path 77 = .ok (.iload_n 2, 1) := by decide +kernel
theorem d_Mod_path_78 : decode b_Mod_path 78 = .ok (.ifCond .ne 8, 3) := by decide +kernel
theorem d_Mod_path_81 : decode b_Mod_path 81 = .ok (.iload_n 1, 1) := by decide +kernel
theorem d_Mod_path_82 : decode b_Mod_path 82 = .ok (.iconst (-1), 1) := by decide +kernel
theorem d_Mod_path_83 : decode b_Mod_path 83 = .ok (.if_icmp .ne 7, 3) := by decide +kernel
theorem d_Mod_path_90 : decode b_Mod_path 90 = .ok (.iconst 0, 1) := by decide +kernel
theorem d_Mod_path_43 : decode b_Mod_path 43 = .ok (.aload_n 0, 1) := by decide +kernel
theorem d_Mod_path_44 : decode b_Mod_path 44 = .ok (.aload_n 0, 1) := by decide +kernel
theorem d_Mod_path_45 : decode b_Mod_path 45 = .ok (.getfield 373, 3) := by decide +kernel
theorem d_Mod_path_48 : decode b_Mod_path 48 = .ok (.invokevirtual 408, 3) := by decide +kernel
theorem d_Mod_path_51 : decode b_Mod_path 51 = .ok (.iconst (-1), 1) := by decide +kernel
theorem d_Mod_path_52 : decode b_Mod_path 52 = .ok (.ireturn, 1) := by decide +kernel
theorem d_Mod_path_8 : decode b_Mod_path 8 = .ok (.aload_n 0, 1) := by decide +kernel
theorem d_Mod_path_9 : decode b_Mod_path 9 = .ok (.getfield 376, 3) := by decide +kernel
theorem d_Mod_path_12 : decode b_Mod_path 12 = .ok (.iconst (-1), 1) := by decide +kernel
theorem d_Mod_path_13 : decode b_Mod_path 13 = .ok (.if_icmp .ne 113, 3) := by decide +kernel
theorem d_Mod_path_126 : decode b_Mod_path 126 = .ok (.iconst (-1), 1) := by decide +kernel
theorem d_Mod_path_127 : decode b_Mod_path 127 = .ok (.ireturn, 1) := by decide +kernel
theorem d_Mod_path_16 : decode b_Mod_path 16 = .ok (.aload_n 0, 1) := by decide +kernel
theorem d_Mod_path_17 : decode b_Mod_path 17 = .ok (.aload_n 0, 1) := by decide +kernel
theorem d_Mod_path_18 : decode b_Mod_path 18 = .ok (.getfield 373, 3) := by decide +kernel
theorem d_Mod_path_21 : decode b_Mod_path 21 = .ok (.invokevirtual 390, 3) := by decide +kernel
theorem d_Mod_path_24 : decode b_Mod_path 24 = .ok (.istore_n 3, 1) := by decide +kernel
theorem d_Mod_path_25 : decode b_Mod_path 25 = .ok (.iload_n 3, 1) := by decide +kernel
theorem d_Mod_path_26 : decode b_Mod_path 26 = .ok (.ifCond .eq 17, 3) := by decide +kernel
theorem d_Mod_path_29 : decode b_Mod_path 29 = .ok (.aload_n 0, 1) := by decide +kernel
theorem d_Mod_path_30 : decode b_Mod_path 30 = .ok (.aload_n 0, 1) := by decide +kernel
theorem d_Mod_path_31 : decode b_Mod_path 31 = .ok (.getfield 373, 3) := by decide +kernel
theorem d_Mod_path_34 : decode b_Mod_path 34 = .ok (.invokevirtual 397, 3) := by decide +kernel
theorem d_Mod_path_37 : decode b_Mod_path 37 = .ok (.invokestatic 1013, 3) := by decide +kernel
theorem d_Mod_path_40 : decode b_Mod_path 40 = .ok (.ifCond .eq 13, 3) := by decide +kernel
theorem d_Mod_path_53 : decode b_Mod_path 53 = .ok (.iload_n 2, 1) := by decide +kernel
theorem d_Mod_path_54 : decode b_Mod_path 54 = .ok (.ifCond .eq 7, 3) := by decide +kernel
theorem d_Mod_path_61 : decode b_Mod_path 61 = .ok (.aload_n 0, 1) := by decide +kernel
theorem d_Mod_path_62 : decode b_Mod_path 62 = .ok (.iconst 1, 1) := by decide +kernel
theorem d_Mod_path_63 : decode b_Mod_path 63 = .ok (.iload_n 1, 1) := by decide +kernel
theorem d_Mod_path_64 : decode b_Mod_path 64 = .ok (.aload_n 0, 1) := by decide +kernel
theorem d_Mod_path_65 : decode b_Mod_path 65 = .ok (.getfield 14, 3) := by decide +kernel
theorem d_Mod_path_68 : decode b_Mod_path 68 = .ok (.aload_n 0, 1) := by decide +kernel
theorem d_Mod_path_69 : decode b_Mod_path 69 = .ok (.getfield 373, 3) := by decide +kernel
theorem d_Mod_path_72 : decode b_Mod_path 72 = .ok (.iload_n 3, 1) := by decide +kernel
theorem d_Mod_path_73 : decode b_Mod_path 73 = .ok (.invokevirtual 446, 3) := by decide +kernel
theorem d_Mod_path_57 : decode b_Mod_path 57 = .ok (.iconst (-1), 1) := by decide +kernel
theorem d_Mod_path_58 : decode b_Mod_path 58 = .ok (.goto 18, 3) := by decide +kernel
theorem d_Mod_path_0 : decode b_Mod_path 0 = .ok (.aload_n 0, 1) := by decide +kernel
theorem d_Mod_path_1 : decode b_Mod_path 1 = .ok (.invokevirtual 394, 3) := by decide +kernel
theorem d_Mod_path_4 : decode b_Mod_path 4 = .ok (.iconst (-1), 1) := by decide +kernel
theorem d_Mod_path_5 : decode b_Mod_path 5 = .ok (.istore_n 1, 1) := by decide +kernel
theorem d_Mod_path_6 : decode b_Mod_path 6 = .ok (.iconst 0, 1) := by decide +kernel
theorem d_Mod_path_7 : decode b_Mod_path 7 = .ok (.istore_n 2, 1) := by decide +kernel
theorem d_Mod_isFlat_32 : decode b_Mod_isFlat 32 = .ok (.istore_n 2, 1) := by decide +kernel
theorem d_Mod_isFlat_33 : decode b_Mod_isFlat 33 = .ok (.aload_n 0, 1) := by decide +kernel
theorem d_Mod_isFlat_34 : decode b_Mod_isFlat 34 = .ok (.getfield 23, 3) := by decide +kernel
theorem d_Mod_isFlat_37 : decode b_Mod_isFlat 37 = .ok (.iconst 1, 1) := by decide +kernel
theorem d_Mod_isFlat_38 : decode b_Mod_isFlat 38 = .ok (.iload_n 3, 1) := by decide +kernel
theorem d_Mod_isFlat_39 : decode b_Mod_isFlat 39 = .ok (.invokestatic 412, 3) := by decide +kernel
theorem d_Mod_isFlat_42 : decode b_Mod_isFlat 42 = .ok (.iaload, 1) := by decide +kernel
theorem d_Mod_isFlat_43 : decode b_Mod_isFlat 43 = .ok (.istore_n 3, 1) := by decide +kernel
theorem d_Mod_isFlat_44 : decode b_Mod_isFlat 44 = .ok (.goto (-40), 3) := by decide +kernel
theorem d_Mod_isFlat_31 : decode b_Mod_isFlat 31 = .ok (.iconst 0, 1) := by decide +kernel
theorem d_Mod_isFlat_4 : decode b_Mod_isFlat 4 = .ok (.iload_n 3, 1) := by decide +kernel
theorem d_Mod_isFlat_5 : decode b_Mod_isFlat 5 = .ok (.iconst (-1), 1) := by decide +kernel
theorem d_Mod_isFlat_6 : decode b_Mod_isFlat 6 = .ok (.if_icmp .eq 41, 3) := by decide +kernel
theorem d_Mod_isFlat_47 : decode b_Mod_isFlat 47 = .ok (.iload_n 2, 1) := by decide +kernel
theorem d_Mod_isFlat_48 : decode b_Mod_isFlat 48 = .ok (.ireturn, 1) := by decide +kernel
theorem d_Mod_isFlat_9 : decode b_Mod_isFlat 9 = .ok (.iload_n 2, 1) := by decide +kernel
theorem d_Mod_isFlat_10 : decode b_Mod_isFlat 10 = .ok (.ifCond .eq 21, 3) := by decide +kernel
theorem d_Mod_isFlat_13 : decode b_Mod_isFlat 13 = .ok (.aload_n 0, 1) := by decide +kernel
theorem d_Mod_isFlat_14 : decode b_Mod_isFlat 14 = .ok (.getfield 17, 3) := by decide +kernel
theorem d_Mod_isFlat_17 : decode b_Mod_isFlat 17 = .ok (.iconst 1, 1) := by decide +kernel
theorem d_Mod_isFlat_18 : decode b_Mod_isFlat 18 = .ok (.iload_n 3, 1) := by decide +kernel
theorem d_Mod_isFlat_19 : decode b_Mod_isFlat 19 = .ok (.invokestatic 412, 3) := by decide +kernel
theorem d_Mod_isFlat_22 : decode b_Mod_isFlat 22 = .ok (.iaload, 1) := by decide +kernel
theorem d_Mod_isFlat_23 : decode b_Mod_isFlat 23 = .ok (.iconst 2, 1) := by decide +kernel
theorem d_Mod_isFlat_24 : decode b_Mod_isFlat 24 = .ok (.if_icmp .ge 7, 3) := by decide +kernel
theorem d_Mod_isFlat_27 : decode b_Mod_isFlat 27 = .ok (.iconst 1, 1) := by decide +kernel
theorem d_Mod_isFlat_28 : decode b_Mod_isFlat 28 = .ok (.goto 4, 3) := by decide +kernel
theorem d_Mod_isFlat_0 : decode b_Mod_isFlat 0 = .ok (.iconst 1, 1) := by decide +kernel
theorem d_Mod_isFlat_1 : decode b_Mod_isFlat 1 = .ok (.istore_n 2, 1) := by decide +kernel
theorem d_Mod_isFlat_2 : decode b_Mod_isFlat 2 = .ok (.iload_n 1, 1) := by decide +kernel
theorem d_Mod_isFlat_3 : decode b_Mod_isFlat 3 = .ok (.istore_n 3, 1) := by decide +kernel
theorem d_Mod_flatColumn_54 : decode b_Mod_flatColumn 54 = .ok (.iload_n 2, 1) := by decide +kernel
theorem d_Mod_flatColumn_55 : decode b_Mod_flatColumn 55 = .ok (.ireturn, 1) := by decide +kernel
theorem d_Mod_flatColumn_49 : decode b_Mod_flatColumn 49 = .ok (.aload_n 0, 1) := by decide +kernel
theorem d_Mod_flatColumn_50 : decode b_Mod_flatColumn 50 = .ok (.iload_n 1, 1) := by decide +kernel
theorem d_Mod_flatColumn_51 : decode b_Mod_flatColumn 51 = .ok (.invokevirtual 408, 3) := by decide +kernel
theorem d_Mod_flatColumn_0 : decode b_Mod_flatColumn 0 = .ok (.aload_n 0, 1) := by decide +kernel
theorem d_Mod_flatColumn_1 : decode b_Mod_flatColumn 1 = .ok (.invokevirtual 394, 3) := by decide +kernel
theorem d_Mod_flatColumn_4 : decode b_Mod_flatColumn 4 = .ok (.aload_n 0, 1) := by decide +kernel
theorem d_Mod_flatColumn_5 : decode b_Mod_flatColumn 5 = .ok (.getfield 373, 3) := by decide +kernel
theorem d_Mod_flatColumn_8 : decode b_Mod_flatColumn 8 = .ok (.istore_n 1, 1) := by decide +kernel
theorem d_Mod_flatColumn_9 : decode b_Mod_flatColumn 9 = .ok (.aload_n 0, 1) := by decide +kernel
theorem d_Mod_flatColumn_10 : decode b_Mod_flatColumn 10 = .ok (.invokevirtual 1016, 3) := by decide +kernel
theorem d_Mod_flatColumn_13 : decode b_Mod_flatColumn 13 = .ok (.istore_n 2, 1) := by decide +kernel
theorem d_Mod_flatColumn_14 : decode b_Mod_flatColumn 14 = .ok (.aload_n 0, 1) := by decide +kernel
theorem d_Mod_flatColumn_15 : decode b_Mod_flatColumn 15 = .ok (.getfield 376, 3) := by decide +kernel
theorem d_Mod_flatColumn_18 : decode b_Mod_flatColumn 18 = .ok (.iconst (-1), 1) := by decide +kernel
theorem d_Mod_flatColumn_19 : decode b_Mod_flatColumn 19 = .ok (.if_icmp .ne 35, 3) := by decide +kernel
theorem d_Mod_flatColumn_22 : decode b_Mod_flatColumn 22 = .ok (.iload_n 2, 1) := by decide +kernel
theorem d_Mod_flatColumn_23 : decode b_Mod_flatColumn 23 = .ok (.iconst (-1), 1) := by decide +kernel
theorem d_Mod_flatColumn_24 : decode b_Mod_flatColumn 24 = .ok (.if_icmp .eq 25, 3) := by decide +kernel
theorem d_Mod_flatColumn_27 : decode b_Mod_flatColumn 27 = .ok (.aload_n 0, 1) := by decide +kernel
theorem d_Mod_flatColumn_28 : decode b_Mod_flatColumn 28 = .ok (.getfield 20, 3) := by decide +kernel
theorem d_Mod_flatColumn_31 : decode b_Mod_flatColumn 31 = .ok (.iconst 1, 1) := by decide +kernel
theorem d_Mod_flatColumn_32 : decode b_Mod_flatColumn 32 = .ok (.iload_n 2, 1) := by decide +kernel
theorem d_Mod_flatColumn_33 : decode b_Mod_flatColumn 33 = .ok (.invokestatic 412, 3) := by decide +kernel
theorem d_Mod_flatColumn_36 : decode b_Mod_flatColumn 36 = .ok (.iaload, 1) := by decide +kernel
theorem d_Mod_flatColumn_37 : decode b_Mod_flatColumn 37 = .ok (.iconst 4, 1) := by decide +kernel
theorem d_Mod_flatColumn_38 : decode b_Mod_flatColumn 38 = .ok (.if_icmp .eq 11, 3) := by decide +kernel
theorem d_Mod_flatColumn_41 : decode b_Mod_flatColumn 41 = .ok (.aload_n 0, 1) := by decide +kernel
theorem d_Mod_flatColumn_42 : decode b_Mod_flatColumn 42 = .ok (.iload_n 2, 1) := by decide +kernel
theorem d_Mod_flatColumn_43 : decode b_Mod_flatColumn 43 = .ok (.invokevirtual 1019, 3) := by decide +kernel
theorem d_Mod_flatColumn_46 : decode b_Mod_flatColumn 46 = .ok (.ifCond .ne 8, 3) := by decide +kernel
section
variable (l : Launch) (dC : Nat → ClassId) (dI : Nat → Nat → Nat) (cI cB cJ cZ : ClassId)
set_option maxRecDepth 100000 in
set_option maxHeartbeats 4000000 in
set_option maxRecDepth 100000 in
theorem t_Mod_tellRecord_e {p : Program} {l : Launch} {e : Env} {R : Room} {s : State} {m : MethodId} {args : Array Value} {below : List Frame} {meth : Method} {c : Code} {cells slots : Nat} {Q : State → Prop} {dC : Nat → ClassId} {dI : Nat → Nat → Nat} {cI cB cJ cZ : ClassId} {A : Nat → Prop} {ad : Nat → Nat} {post : Int32 → St → Prop} (hx : p.tables.exec = Jvm.exec) (hb : c.code = b_Mod_tellRecord) (hml : c.maxLocals = 2) (hown : s.vm.findClass R_Mod = some m.cls) (hT : ∀ w ∈ TG, w.before args s = true) (hK : va_K (dC, dI) CL (TY cI cB cJ cZ) s) (hN : NW s) (hA : ∀ q : Nat, s.heap.size ≤ q → A q) (hRc : cells ≤ R.cells) (hRs : slots ≤ R.slots) (hRf : 205 ≤ R.frames) (hRl : 5112 ≤ R.locals) (hret : ∀ (r : Int32) (x : St) (H : Heap) (locs : List Loc) (pc : Nat) (ls : Array Slot), decode b_Mod_tellRecord pc = .ok (.ireturn, 1) → post r x → Wd dC dI cI cB cJ cZ ad stM kcM 115 A x H → va_S A s.heap H locs → W p l e R s m args below meth c H locs cells slots Q (F0 m pc ls [.int r])) : ∀ (l1 : Int32) (x : St) (H : Heap) (locs : List Loc) (ls : Array Slot), wp_Mod_tellRecord post l1 x → Wd dC dI cI cB cJ cZ ad stM kcM 115 A x H → va_S A s.heap H locs → lv_has ls 2 [(0, .ref (ad 0)), (1, .int l1)] → W p l e R s m args below meth c H locs cells slots Q (F0 m 0 ls []) := by
  intro l1 x H locs ls  hw hW hS hl
  unfold wp_Mod_tellRecord at hw
  refine lv_aload_n hx hb d_Mod_tellRecord_0 rfl (lv_at hl 0 rfl) ?_
  refine lv_iload_n hx hb d_Mod_tellRecord_1 rfl (lv_at hl 1 rfl) ?_
  have hF := hW.free hS hA
  refine va_callv (va_runV (C := R_Mod) (As := [.int l1]) (rest := []) ⟨hx, hb, hml, hown, hT⟩ (k_Mod_goTo l dC dI cI cB cJ cZ ad H.size l1 x  hw) ⟨callB_of 1 hT (gwt_in w_13_54) rfl rfl rfl (hT _ w_1_15) (hT _ w_13_51) (by decide +kernel) ⟨Nat.le_trans (Nat.le_of_ble_eq_true rfl) hRf, Nat.le_trans (Nat.le_of_ble_eq_true rfl) hRl⟩, hT _ w_13_53, hT _ ws_223⟩ ⟨PW.blind, va_recv hK hW.1 (ci := 12) (q0 := 0) rfl (pic_obj ko_0.1 ko_0.2 (by decide)), PW.at _ hW hK hN⟩ rfl rfl hl.1 rfl (lv_room (Nat.le_of_ble_eq_true rfl)) d_Mod_tellRecord_2 ⟨hRc, hRs⟩) hS (fun q _ h => hF q h) hF (fun  x1882 t H locs ht hvm hw hB hz1 hk1 hS => ?_)
  have hW := Wd.back hB ht hF
  clear hB ht hF hz1 hk1 hvm
  refine lv_aload_n hx hb d_Mod_tellRecord_5 rfl (lv_at hl 0 rfl) ?_
  refine lv_iconst (v := (-1)) hx hb d_Mod_tellRecord_6 (by decide) ?_
  have hF := hW.free hS hA
  refine va_callv (va_runV (C := R_Mod) (As := [.int (-1)]) (rest := []) ⟨hx, hb, hml, hown, hT⟩ (k_Mod_tellGroup l dC dI cI cB cJ cZ ad H.size (-1) x1882  hw) ⟨callB_of 1 hT (gwt_in w_13_66) rfl rfl rfl (hT _ w_1_15) (hT _ w_13_63) (by decide +kernel) ⟨Nat.le_trans (Nat.le_of_ble_eq_true rfl) hRf, Nat.le_trans (Nat.le_of_ble_eq_true rfl) hRl⟩, hT _ w_13_65, hT _ ws_226⟩ ⟨PW.blind, va_recv hK hW.1 (ci := 12) (q0 := 0) rfl (pic_obj ko_0.1 ko_0.2 (by decide)), PW.at _ hW hK hN⟩ rfl rfl hl.1 rfl (lv_room (Nat.le_of_ble_eq_true rfl)) d_Mod_tellRecord_7 ⟨hRc, hRs⟩) hS (fun q _ h => hF q h) hF (fun  x1883 t H locs ht hvm hw hB hz1 hk1 hS => ?_)
  have hW := Wd.back hB ht hF
  clear hB ht hF hz1 hk1 hvm
  refine lv_aload_n hx hb d_Mod_tellRecord_10 rfl (lv_at hl 0 rfl) ?_
  refine w_geti (k := 113) (t := 12) (C := R_Mod) (T := F_Mod) (N := 167) hx hb hT hown hK hW ko_0.1 ko_0.2 (by decide) in_Mod rfl rfl (by decide) rfl fr_Mod_113 w_9_49 d_Mod_tellRecord_11 ?_
  refine lv_aload_n hx hb d_Mod_tellRecord_14 rfl (lv_at hl 0 rfl) ?_
  refine w_getf (q := 75) (k := 112) (t := 12) (C := R_Mod) (T := F_Mod) (N := 167) hx hb hT hown hK hW ko_0.1 ko_0.2 (by decide) in_Mod rfl rfl (by decide) rfl fr_Mod_112 w_9_48 d_Mod_tellRecord_15 rfl ?_
  refine w_alen (o := 75) (t0 := 1) hx hb hK hW (pic_byte ko_75.1 ko_75.2) rfl rfl d_Mod_tellRecord_18 ?_
  refine lv_icmp_gt (tgt := 27) hx hb d_Mod_tellRecord_19 (by decide) (fun c1884 => ?_) (fun c1884 => ?_)
  · have hw := hw.1 c1884
    refine lv_aload_n hx hb d_Mod_tellRecord_27 rfl (lv_at hl 0 rfl) ?_
    refine lv_iconst (v := 0) hx hb d_Mod_tellRecord_28 (by decide) ?_
    refine w_puti (ty := .int) (k := 113) (t := 12) (C := R_Mod) (T := F_Mod) (N := 167) hx hb hT hown hK hW hS ko_0.1 ko_0.2 (by decide) in_Mod t_Mod t_Mod_ok n_Mod rfl rfl (by decide) rfl fr_Mod_113 w_9_49 (by decide +kernel) rfl rfl d_Mod_tellRecord_29 (fun H locs hW hS => ?_)
    obtain ⟨x1885, ex1885⟩ : ∃ y : St, y = setI x1883 0 113 0 := ⟨_, rfl⟩
    rw [← ex1885] at hW
    have hw := hw x1885 ex1885
    refine lv_iconst (v := (-1)) hx hb d_Mod_tellRecord_32 (by decide) ?_
    exact hret (-1) x1885 H locs 33 ls d_Mod_tellRecord_33 hw hW hS
  · have hw := hw.2 c1884
    refine lv_aload_n hx hb d_Mod_tellRecord_22 rfl (lv_at hl 0 rfl) ?_
    refine w_geti (k := 113) (t := 12) (C := R_Mod) (T := F_Mod) (N := 167) hx hb hT hown hK hW ko_0.1 ko_0.2 (by decide) in_Mod rfl rfl (by decide) rfl fr_Mod_113 w_9_49 d_Mod_tellRecord_23 ?_
    exact hret (fI x1883 0 113) x1883 H locs 26 ls d_Mod_tellRecord_26 hw hW hS
set_option maxHeartbeats 4000000 in
set_option maxRecDepth 100000 in
theorem k_Mod_tellRecord (l : Launch) (dC : Nat → ClassId) (dI : Nat → Nat → Nat) (cI cB cJ cZ : ClassId) (ad : Nat → Nat) (sz : Nat) (l1 : Int32) (x : St) {post : Int32 → St → Prop} (hw : wp_Mod_tellRecord post l1 x) : Met l y_Mod_tellRecord (wsOf y_Mod_tellRecord b_Mod_tellRecord 2 (some (.int))) ({ frames := 205, cells := 0, slots := 0, locals := 5112 }) (va_Pc [.ref (ad 0), .int l1] (PW dC dI cI cB cJ cZ ad stM kcM 115 sz x)) (va_Qi (fun (r : Int32) (y : St) => post r y) (fun y t => Wd dC dI cI cB cJ cZ ad stM kcM 115 (va_A (pic ad stM kcM 115 cI cB cJ cZ x) sz) y t.heap) (va_A (pic ad stM kcM 115 cI cB cJ cZ x) sz)) 0 0 (va_A (pic ad stM kcM 115 cI cB cJ cZ x) sz) := by
  refine Met.ofW (cc := b_Mod_tellRecord) (maxL := 2) (ret := some (.int)) (by decide) rfl ?_
  intro p e s m args below meth c s₁ B hml hv
  obtain ⟨rfl, hsz, hW0, hK, hN⟩ := hv
  have hx := B.exec
  have hb := B.bytes
  have hr := B.returns
  have hts := atoms_spec B.pre
  have hT : ∀ w ∈ TG, w.before _ s = true := fun w h => hts w (List.mem_cons_of_mem _ h)
  have hown : s.vm.findClass R_Mod = some m.cls := findClass_of_methodNamed B.named
  have hlocks := B.notSynchronized
  subst hsz
  have hW : Wd dC dI cI cB cJ cZ ad stM kcM 115 (va_A (pic ad stM kcM 115 cI cB cJ cZ x) s.heap.size) x s.heap := ⟨hW0.1, hW0.2.1.self (sz := s.heap.size), hW0.2.2⟩
  generalize hAe : va_A (pic ad stM kcM 115 cI cB cJ cZ x) s.heap.size = A at hW ⊢
  have hA : ∀ q : Nat, s.heap.size ≤ q → A q := fun q h => by rw [← hAe]; exact Or.inr h
  have hS : va_S A s.heap s.heap [] := va_S.rf
  have hl := lv_entry ([.ref (ad 0), .int l1]) (n := 2) (Nat.le_of_ble_eq_true rfl)
  rw [lg_entry_eq]
  generalize (lg_sl ([.ref (ad 0), .int l1]) ++ List.replicate (2 - (lg_sl ([.ref (ad 0), .int l1])).length) Slot.unset).toArray = ls at hl ⊢
  have hl : lv_has ls 2 [(0, .ref (ad 0)), (1, .int l1)] := hl
  exact t_Mod_tellRecord_e hx hb hml hown hT hK hN hA (Nat.le_refl 0) (Nat.le_refl 0) (Nat.le_refl 205) (Nat.le_refl 5112) (fun r x H locs pc ls hd hp hW hS => W.iret (v := r) hx hb hr (fun t ht hM => ⟨⟨r, x, rfl, hp, Wd.back hW ht.symm (fun _ z => z)⟩, hS.F ht⟩) hS.2.2 hd hlocks)  l1 x _ _ ls  hw hW hS hl
set_option maxRecDepth 100000 in
set_option maxHeartbeats 4000000 in
set_option maxRecDepth 100000 in
theorem t_Mod_show_33 {p : Program} {l : Launch} {e : Env} {R : Room} {s : State} {m : MethodId} {args : Array Value} {below : List Frame} {meth : Method} {c : Code} {cells slots : Nat} {Q : State → Prop} {dC : Nat → ClassId} {dI : Nat → Nat → Nat} {cI cB cJ cZ : ClassId} {A : Nat → Prop} {ad : Nat → Nat} {post : Int32 → St → Prop} {rec33 : Int32 → Int32 → St → Prop} (hx : p.tables.exec = Jvm.exec) (hb : c.code = b_Mod_show) (hml : c.maxLocals = 3) (hown : s.vm.findClass R_Mod = some m.cls) (hT : ∀ w ∈ TG, w.before args s = true) (hK : va_K (dC, dI) CL (TY cI cB cJ cZ) s) (hN : NW s) (hA : ∀ q : Nat, s.heap.size ≤ q → A q) (hRc : cells ≤ R.cells) (hRs : slots ≤ R.slots) (hRf : 206 ≤ R.frames) (hRl : 5133 ≤ R.locals) (hret : ∀ (r : Int32) (x : St) (H : Heap) (locs : List Loc) (pc : Nat) (ls : Array Slot), decode b_Mod_show pc = .ok (.ireturn, 1) → post r x → Wd dC dI cI cB cJ cZ ad stM kcM 115 A x H → va_S A s.heap H locs → W p l e R s m args below meth c H locs cells slots Q (F0 m pc ls [.int r])) (hrec33 : ∀ (l1 : Int32) (l2 : Int32) (x : St) (H : Heap) (locs : List Loc) (ls : Array Slot), rec33 l1 l2 x → Wd dC dI cI cB cJ cZ ad stM kcM 115 A x H → va_S A s.heap H locs → lv_has ls 3 [(0, .ref (ad 0)), (1, .int l1), (2, .int l2)] → W p l e R s m args below meth c H locs cells slots Q (F0 m 33 ls [])) : ∀ (l1 : Int32) (l2 : Int32) (x : St) (H : Heap) (locs : List Loc) (ls : Array Slot), j_Mod_show_33 post rec33 l1 l2 x → Wd dC dI cI cB cJ cZ ad stM kcM 115 A x H → va_S A s.heap H locs → lv_has ls 3 [(0, .ref (ad 0)), (1, .int l1), (2, .int l2)] → W p l e R s m args below meth c H locs cells slots Q (F0 m 33 ls []) := by
  intro l1 l2 x H locs ls  hw hW hS hl
  unfold j_Mod_show_33 at hw
  refine lv_iload_n hx hb d_Mod_show_33 rfl (lv_at hl 2 rfl) ?_
  refine lv_aload_n hx hb d_Mod_show_34 rfl (lv_at hl 0 rfl) ?_
  refine w_getf (q := 10) (k := 12) (t := 12) (C := R_Mod) (T := F_Mod) (N := 167) hx hb hT hown hK hW ko_0.1 ko_0.2 (by decide) in_Mod rfl rfl (by decide) rfl fr_Mod_12 w_8_188 d_Mod_show_35 rfl ?_
  refine lv_iconst (v := 1) hx hb d_Mod_show_38 (by decide) ?_
  obtain ⟨hi, hw⟩ := hw
  refine w_iald (o := 10) hx hb hK hW ko_10.1 ko_10.2 hi d_Mod_show_39 ?_
  refine lv_icmp_ge (tgt := 56) hx hb d_Mod_show_40 (by decide) (fun c1886 => ?_) (fun c1886 => ?_)
  · have hw := hw.1 c1886
    refine lv_aload_n hx hb d_Mod_show_56 rfl (lv_at hl 0 rfl) ?_
    refine lv_iload_n hx hb d_Mod_show_57 rfl (lv_at hl 1 rfl) ?_
    have hF := hW.free hS hA
    refine va_calli (va_runV (C := R_Mod) (As := [.int l1]) (rest := []) ⟨hx, hb, hml, hown, hT⟩ (k_Mod_tellRecord l dC dI cI cB cJ cZ ad H.size l1 x  hw) ⟨callB_of 1 hT (gwt_in w_13_50) rfl rfl rfl (hT _ w_1_15) (hT _ w_13_47) (by decide +kernel) ⟨Nat.le_trans (Nat.le_of_ble_eq_true rfl) hRf, Nat.le_trans (Nat.le_of_ble_eq_true rfl) hRl⟩, hT _ w_13_49, hT _ ws_222⟩ ⟨PW.blind, va_recv hK hW.1 (ci := 12) (q0 := 0) rfl (pic_obj ko_0.1 ko_0.2 (by decide)), PW.at _ hW hK hN⟩ rfl rfl hl.1 rfl (lv_room (Nat.le_of_ble_eq_true rfl)) d_Mod_show_58 ⟨hRc, hRs⟩) hS (fun q _ h => hF q h) hF (fun r1888 x1887 t H locs ht hvm hw hB hz1 hk1 hS => ?_)
    have hW := Wd.back hB ht hF
    clear hB ht hF hz1 hk1 hvm
    exact hret r1888 x1887 H locs 61 ls d_Mod_show_61 hw hW hS
  · have hw := hw.2 c1886
    refine lv_aload_n hx hb d_Mod_show_43 rfl (lv_at hl 0 rfl) ?_
    refine w_getf (q := 78) (k := 116) (t := 12) (C := R_Mod) (T := F_Mod) (N := 167) hx hb hT hown hK hW ko_0.1 ko_0.2 (by decide) in_Mod rfl rfl (by decide) rfl fr_Mod_116 w_9_52 d_Mod_show_44 rfl ?_
    refine lv_iload_n hx hb d_Mod_show_47 rfl (lv_at hl 2 rfl) ?_
    refine lv_iconst (v := 1) hx hb d_Mod_show_48 (by decide) ?_
    obtain ⟨hi, hw⟩ := hw
    refine w_zast (o := 78) hx hb hK hW hS ko_78.1 ko_78.2 hi d_Mod_show_49 (fun H locs hW hS => ?_)
    obtain ⟨x1889, ex1889⟩ : ∃ y : St, y = setA x 78 l2 (vp_nar .boolean 1) := ⟨_, rfl⟩
    rw [← ex1889] at hW
    have hw := hw x1889 ex1889
    refine lv_iinc (v := (l2 + 1)) (lv' := [(2, .int (l2 + 1)), (0, .ref (ad 0)), (1, .int l1)]) hx hb d_Mod_show_50 hl (k := 2) rfl rfl (by decide) rfl (fun ls hl => ?_)
    refine lv_goto (tgt := 33) hx hb d_Mod_show_53 (by decide) ?_
    exact hrec33 l1 (l2 + 1) x1889 H locs ls  hw hW hS (lv_sub hl [1, 2, 0] rfl)
set_option maxHeartbeats 4000000 in
set_option maxRecDepth 100000 in
theorem tl_Mod_show_33 {p : Program} {l : Launch} {e : Env} {R : Room} {s : State} {m : MethodId} {args : Array Value} {below : List Frame} {meth : Method} {c : Code} {cells slots : Nat} {Q : State → Prop} {dC : Nat → ClassId} {dI : Nat → Nat → Nat} {cI cB cJ cZ : ClassId} {A : Nat → Prop} {ad : Nat → Nat} {post : Int32 → St → Prop} (hx : p.tables.exec = Jvm.exec) (hb : c.code = b_Mod_show) (hml : c.maxLocals = 3) (hown : s.vm.findClass R_Mod = some m.cls) (hT : ∀ w ∈ TG, w.before args s = true) (hK : va_K (dC, dI) CL (TY cI cB cJ cZ) s) (hN : NW s) (hA : ∀ q : Nat, s.heap.size ≤ q → A q) (hRc : cells ≤ R.cells) (hRs : slots ≤ R.slots) (hRf : 206 ≤ R.frames) (hRl : 5133 ≤ R.locals) (hret : ∀ (r : Int32) (x : St) (H : Heap) (locs : List Loc) (pc : Nat) (ls : Array Slot), decode b_Mod_show pc = .ok (.ireturn, 1) → post r x → Wd dC dI cI cB cJ cZ ad stM kcM 115 A x H → va_S A s.heap H locs → W p l e R s m args below meth c H locs cells slots Q (F0 m pc ls [.int r]))  : ∀ n : Nat, ∀ (l1 : Int32) (l2 : Int32) (x : St) (H : Heap) (locs : List Loc) (ls : Array Slot), wl_Mod_show_33 post n l1 l2 x → Wd dC dI cI cB cJ cZ ad stM kcM 115 A x H → va_S A s.heap H locs → lv_has ls 3 [(0, .ref (ad 0)), (1, .int l1), (2, .int l2)] → W p l e R s m args below meth c H locs cells slots Q (F0 m 33 ls []) := by
  intro n
  induction n with
  | zero => intro l1 l2 x H locs ls  hw; exact hw.elim
  | succ n ih => intro l1 l2 x H locs ls  hw hW hS hl; exact t_Mod_show_33 hx hb hml hown hT hK hN hA hRc hRs hRf hRl hret  ih l1 l2 x H locs ls  hw hW hS hl
set_option maxRecDepth 100000 in
set_option maxHeartbeats 4000000 in
set_option maxRecDepth 100000 in
theorem t_Mod_show_29 {p : Program} {l : Launch} {e : Env} {R : Room} {s : State} {m : MethodId} {args : Array Value} {below : List Frame} {meth : Method} {c : Code} {cells slots : Nat} {Q : State → Prop} {dC : Nat → ClassId} {dI : Nat → Nat → Nat} {cI cB cJ cZ : ClassId} {A : Nat → Prop} {ad : Nat → Nat} {post : Int32 → St → Prop} (hx : p.tables.exec = Jvm.exec) (hb : c.code = b_Mod_show) (hml : c.maxLocals = 3) (hown : s.vm.findClass R_Mod = some m.cls) (hT : ∀ w ∈ TG, w.before args s = true) (hK : va_K (dC, dI) CL (TY cI cB cJ cZ) s) (hN : NW s) (hA : ∀ q : Nat, s.heap.size ≤ q → A q) (hRc : cells ≤ R.cells) (hRs : slots ≤ R.slots) (hRf : 206 ≤ R.frames) (hRl : 5133 ≤ R.locals) (hret : ∀ (r : Int32) (x : St) (H : Heap) (locs : List Loc) (pc : Nat) (ls : Array Slot), decode b_Mod_show pc = .ok (.ireturn, 1) → post r x → Wd dC dI cI cB cJ cZ ad stM kcM 115 A x H → va_S A s.heap H locs → W p l e R s m args below meth c H locs cells slots Q (F0 m pc ls [.int r]))  : ∀ (l1 : Int32) (x : St) (H : Heap) (locs : List Loc) (ls : Array Slot), j_Mod_show_29 post l1 x → Wd dC dI cI cB cJ cZ ad stM kcM 115 A x H → va_S A s.heap H locs → lv_has ls 3 [(0, .ref (ad 0)), (1, .int l1)] → W p l e R s m args below meth c H locs cells slots Q (F0 m 29 ls []) := by
  intro l1 x H locs ls  hw hW hS hl
  unfold j_Mod_show_29 at hw
  refine lv_iconst (v := (-1)) hx hb d_Mod_show_29 (by decide) ?_
  exact hret (-1) x H locs 30 ls d_Mod_show_30 hw hW hS
set_option maxRecDepth 100000 in
set_option maxHeartbeats 4000000 in
set_option maxRecDepth 100000 in
theorem t_Mod_show_e {p : Program} {l : Launch} {e : Env} {R : Room} {s : State} {m : MethodId} {args : Array Value} {below : List Frame} {meth : Method} {c : Code} {cells slots : Nat} {Q : State → Prop} {dC : Nat → ClassId} {dI : Nat → Nat → Nat} {cI cB cJ cZ : ClassId} {A : Nat → Prop} {ad : Nat → Nat} {post : Int32 → St → Prop} (hx : p.tables.exec = Jvm.exec) (hb : c.code = b_Mod_show) (hml : c.maxLocals = 3) (hown : s.vm.findClass R_Mod = some m.cls) (hT : ∀ w ∈ TG, w.before args s = true) (hK : va_K (dC, dI) CL (TY cI cB cJ cZ) s) (hN : NW s) (hA : ∀ q : Nat, s.heap.size ≤ q → A q) (hRc : cells ≤ R.cells) (hRs : slots ≤ R.slots) (hRf : 206 ≤ R.frames) (hRl : 5133 ≤ R.locals) (hret : ∀ (r : Int32) (x : St) (H : Heap) (locs : List Loc) (pc : Nat) (ls : Array Slot), decode b_Mod_show pc = .ok (.ireturn, 1) → post r x → Wd dC dI cI cB cJ cZ ad stM kcM 115 A x H → va_S A s.heap H locs → W p l e R s m args below meth c H locs cells slots Q (F0 m pc ls [.int r])) : ∀ (l1 : Int32) (x : St) (H : Heap) (locs : List Loc) (ls : Array Slot), wp_Mod_show post l1 x → Wd dC dI cI cB cJ cZ ad stM kcM 115 A x H → va_S A s.heap H locs → lv_has ls 3 [(0, .ref (ad 0)), (1, .int l1)] → W p l e R s m args below meth c H locs cells slots Q (F0 m 0 ls []) := by
  intro l1 x H locs ls  hw hW hS hl
  unfold wp_Mod_show at hw
  refine lv_aload_n hx hb d_Mod_show_0 rfl (lv_at hl 0 rfl) ?_
  refine lv_iconst (v := 0) hx hb d_Mod_show_1 (by decide) ?_
  refine w_puti (ty := .int) (k := 0) (t := 12) (C := R_Mod) (T := F_Mod) (N := 167) hx hb hT hown hK hW hS ko_0.1 ko_0.2 (by decide) in_Mod t_Mod t_Mod_ok n_Mod rfl rfl (by decide) rfl fr_Mod_0 w_8_176 (by decide +kernel) rfl rfl d_Mod_show_2 (fun H locs hW hS => ?_)
  obtain ⟨x1890, ex1890⟩ : ∃ y : St, y = setI x 0 0 0 := ⟨_, rfl⟩
  rw [← ex1890] at hW
  have hw := hw x1890 ex1890
  refine lv_aload_n hx hb d_Mod_show_5 rfl (lv_at hl 0 rfl) ?_
  refine lv_iconst (v := 0) hx hb d_Mod_show_6 (by decide) ?_
  refine w_puti (ty := .int) (k := 113) (t := 12) (C := R_Mod) (T := F_Mod) (N := 167) hx hb hT hown hK hW hS ko_0.1 ko_0.2 (by decide) in_Mod t_Mod t_Mod_ok n_Mod rfl rfl (by decide) rfl fr_Mod_113 w_9_49 (by decide +kernel) rfl rfl d_Mod_show_7 (fun H locs hW hS => ?_)
  obtain ⟨x1891, ex1891⟩ : ∃ y : St, y = setI x1890 0 113 0 := ⟨_, rfl⟩
  rw [← ex1891] at hW
  have hw := hw x1891 ex1891
  refine lv_aload_n hx hb d_Mod_show_10 rfl (lv_at hl 0 rfl) ?_
  refine w_geti (k := 82) (t := 12) (C := R_Mod) (T := F_Mod) (N := 167) hx hb hT hown hK hW ko_0.1 ko_0.2 (by decide) in_Mod rfl rfl (by decide) rfl fr_Mod_82 w_9_18 d_Mod_show_11 ?_
  refine lv_if_eq (tgt := 29) hx hb d_Mod_show_14 (by decide) (fun c1892 => ?_) (fun c1892 => ?_)
  · have hw := hw.1 c1892
    exact t_Mod_show_29 hx hb hml hown hT hK hN hA hRc hRs hRf hRl hret  l1 x1891 H locs ls  hw hW hS (lv_sub hl [0, 1] rfl)
  · have hw := hw.2 c1892
    refine lv_iload_n hx hb d_Mod_show_17 rfl (lv_at hl 1 rfl) ?_
    refine lv_if_lt (tgt := 29) hx hb d_Mod_show_18 (by decide) (fun c1893 => ?_) (fun c1893 => ?_)
    · have hw := hw.1 c1893
      exact t_Mod_show_29 hx hb hml hown hT hK hN hA hRc hRs hRf hRl hret  l1 x1891 H locs ls  hw hW hS (lv_sub hl [0, 1] rfl)
    · have hw := hw.2 c1893
      refine lv_iload_n hx hb d_Mod_show_21 rfl (lv_at hl 1 rfl) ?_
      refine lv_aload_n hx hb d_Mod_show_22 rfl (lv_at hl 0 rfl) ?_
      refine w_geti (k := 84) (t := 12) (C := R_Mod) (T := F_Mod) (N := 167) hx hb hT hown hK hW ko_0.1 ko_0.2 (by decide) in_Mod rfl rfl (by decide) rfl fr_Mod_84 w_9_20 d_Mod_show_23 ?_
      refine lv_icmp_lt (tgt := 31) hx hb d_Mod_show_26 (by decide) (fun c1894 => ?_) (fun c1894 => ?_)
      · have hw := hw.1 c1894
        refine lv_iconst (v := 0) hx hb d_Mod_show_31 (by decide) ?_
        refine lv_istore_n (lv' := [(2, .int 0), (0, .ref (ad 0)), (1, .int l1)]) hx hb d_Mod_show_32 rfl hl (by decide) rfl (fun ls hl => ?_)
        obtain ⟨n, hw⟩ := hw
        exact tl_Mod_show_33 hx hb hml hown hT hK hN hA hRc hRs hRf hRl hret  n l1 0 x1891 H locs ls  hw hW hS (lv_sub hl [1, 2, 0] rfl)
      · have hw := hw.2 c1894
        exact t_Mod_show_29 hx hb hml hown hT hK hN hA hRc hRs hRf hRl hret  l1 x1891 H locs ls  hw hW hS (lv_sub hl [0, 1] rfl)
set_option maxHeartbeats 4000000 in
set_option maxRecDepth 100000 in
theorem k_Mod_show (l : Launch) (dC : Nat → ClassId) (dI : Nat → Nat → Nat) (cI cB cJ cZ : ClassId) (ad : Nat → Nat) (sz : Nat) (l1 : Int32) (x : St) {post : Int32 → St → Prop} (hw : wp_Mod_show post l1 x) : Met l y_Mod_show (wsOf y_Mod_show b_Mod_show 3 (some (.int))) ({ frames := 206, cells := 0, slots := 0, locals := 5133 }) (va_Pc [.ref (ad 0), .int l1] (PW dC dI cI cB cJ cZ ad stM kcM 115 sz x)) (va_Qi (fun (r : Int32) (y : St) => post r y) (fun y t => Wd dC dI cI cB cJ cZ ad stM kcM 115 (va_A (pic ad stM kcM 115 cI cB cJ cZ x) sz) y t.heap) (va_A (pic ad stM kcM 115 cI cB cJ cZ x) sz)) 0 0 (va_A (pic ad stM kcM 115 cI cB cJ cZ x) sz) := by
  refine Met.ofW (cc := b_Mod_show) (maxL := 3) (ret := some (.int)) (by decide) rfl ?_
  intro p e s m args below meth c s₁ B hml hv
  obtain ⟨rfl, hsz, hW0, hK, hN⟩ := hv
  have hx := B.exec
  have hb := B.bytes
  have hr := B.returns
  have hts := atoms_spec B.pre
  have hT : ∀ w ∈ TG, w.before _ s = true := fun w h => hts w (List.mem_cons_of_mem _ h)
  have hown : s.vm.findClass R_Mod = some m.cls := findClass_of_methodNamed B.named
  have hlocks := B.notSynchronized
  subst hsz
  have hW : Wd dC dI cI cB cJ cZ ad stM kcM 115 (va_A (pic ad stM kcM 115 cI cB cJ cZ x) s.heap.size) x s.heap := ⟨hW0.1, hW0.2.1.self (sz := s.heap.size), hW0.2.2⟩
  generalize hAe : va_A (pic ad stM kcM 115 cI cB cJ cZ x) s.heap.size = A at hW ⊢
  have hA : ∀ q : Nat, s.heap.size ≤ q → A q := fun q h => by rw [← hAe]; exact Or.inr h
  have hS : va_S A s.heap s.heap [] := va_S.rf
  have hl := lv_entry ([.ref (ad 0), .int l1]) (n := 3) (Nat.le_of_ble_eq_true rfl)
  rw [lg_entry_eq]
  generalize (lg_sl ([.ref (ad 0), .int l1]) ++ List.replicate (3 - (lg_sl ([.ref (ad 0), .int l1])).length) Slot.unset).toArray = ls at hl ⊢
  have hl : lv_has ls 3 [(0, .ref (ad 0)), (1, .int l1)] := hl
  exact t_Mod_show_e hx hb hml hown hT hK hN hA (Nat.le_refl 0) (Nat.le_refl 0) (Nat.le_refl 206) (Nat.le_refl 5133) (fun r x H locs pc ls hd hp hW hS => W.iret (v := r) hx hb hr (fun t ht hM => ⟨⟨r, x, rfl, hp, Wd.back hW ht.symm (fun _ z => z)⟩, hS.F ht⟩) hS.2.2 hd hlocks)  l1 x _ _ ls  hw hW hS hl
set_option maxRecDepth 100000 in
set_option maxHeartbeats 4000000 in
set_option maxRecDepth 100000 in
theorem t_Mod_output_17 {p : Program} {l : Launch} {e : Env} {R : Room} {s : State} {m : MethodId} {args : Array Value} {below : List Frame} {meth : Method} {c : Code} {cells slots : Nat} {Q : State → Prop} {dC : Nat → ClassId} {dI : Nat → Nat → Nat} {cI cB cJ cZ : ClassId} {A : Nat → Prop} {ad : Nat → Nat} {post : Int32 → St → Prop} (hx : p.tables.exec = Jvm.exec) (hb : c.code = b_Mod_output) (hml : c.maxLocals = 2) (hown : s.vm.findClass R_Mod = some m.cls) (hT : ∀ w ∈ TG, w.before args s = true) (hK : va_K (dC, dI) CL (TY cI cB cJ cZ) s) (hN : NW s) (hA : ∀ q : Nat, s.heap.size ≤ q → A q) (hRc : cells ≤ R.cells) (hRs : slots ≤ R.slots) (hRf : 0 ≤ R.frames) (hRl : 0 ≤ R.locals) (hret : ∀ (r : Int32) (x : St) (H : Heap) (locs : List Loc) (pc : Nat) (ls : Array Slot), decode b_Mod_output pc = .ok (.ireturn, 1) → post r x → Wd dC dI cI cB cJ cZ ad stM kcM 115 A x H → va_S A s.heap H locs → W p l e R s m args below meth c H locs cells slots Q (F0 m pc ls [.int r]))  : ∀ (l1 : Int32) (x : St) (H : Heap) (locs : List Loc) (ls : Array Slot), j_Mod_output_17 post l1 x → Wd dC dI cI cB cJ cZ ad stM kcM 115 A x H → va_S A s.heap H locs → lv_has ls 2 [(0, .ref (ad 0)), (1, .int l1)] → W p l e R s m args below meth c H locs cells slots Q (F0 m 17 ls []) := by
  intro l1 x H locs ls  hw hW hS hl
  unfold j_Mod_output_17 at hw
  refine lv_iconst (v := (-1)) hx hb d_Mod_output_17 (by decide) ?_
  refine lv_goto (tgt := 31) hx hb d_Mod_output_18 (by decide) ?_
  exact hret (-1) x H locs 31 ls d_Mod_output_31 hw hW hS
set_option maxRecDepth 100000 in
set_option maxHeartbeats 4000000 in
set_option maxRecDepth 100000 in
theorem t_Mod_output_e {p : Program} {l : Launch} {e : Env} {R : Room} {s : State} {m : MethodId} {args : Array Value} {below : List Frame} {meth : Method} {c : Code} {cells slots : Nat} {Q : State → Prop} {dC : Nat → ClassId} {dI : Nat → Nat → Nat} {cI cB cJ cZ : ClassId} {A : Nat → Prop} {ad : Nat → Nat} {post : Int32 → St → Prop} (hx : p.tables.exec = Jvm.exec) (hb : c.code = b_Mod_output) (hml : c.maxLocals = 2) (hown : s.vm.findClass R_Mod = some m.cls) (hT : ∀ w ∈ TG, w.before args s = true) (hK : va_K (dC, dI) CL (TY cI cB cJ cZ) s) (hN : NW s) (hA : ∀ q : Nat, s.heap.size ≤ q → A q) (hRc : cells ≤ R.cells) (hRs : slots ≤ R.slots) (hRf : 0 ≤ R.frames) (hRl : 0 ≤ R.locals) (hret : ∀ (r : Int32) (x : St) (H : Heap) (locs : List Loc) (pc : Nat) (ls : Array Slot), decode b_Mod_output pc = .ok (.ireturn, 1) → post r x → Wd dC dI cI cB cJ cZ ad stM kcM 115 A x H → va_S A s.heap H locs → W p l e R s m args below meth c H locs cells slots Q (F0 m pc ls [.int r])) : ∀ (l1 : Int32) (x : St) (H : Heap) (locs : List Loc) (ls : Array Slot), wp_Mod_output post l1 x → Wd dC dI cI cB cJ cZ ad stM kcM 115 A x H → va_S A s.heap H locs → lv_has ls 2 [(0, .ref (ad 0)), (1, .int l1)] → W p l e R s m args below meth c H locs cells slots Q (F0 m 0 ls []) := by
  intro l1 x H locs ls  hw hW hS hl
  unfold wp_Mod_output at hw
  refine lv_aload_n hx hb d_Mod_output_0 rfl (lv_at hl 0 rfl) ?_
  refine lv_iconst (v := 0) hx hb d_Mod_output_1 (by decide) ?_
  refine w_puti (ty := .int) (k := 0) (t := 12) (C := R_Mod) (T := F_Mod) (N := 167) hx hb hT hown hK hW hS ko_0.1 ko_0.2 (by decide) in_Mod t_Mod t_Mod_ok n_Mod rfl rfl (by decide) rfl fr_Mod_0 w_8_176 (by decide +kernel) rfl rfl d_Mod_output_2 (fun H locs hW hS => ?_)
  obtain ⟨x1895, ex1895⟩ : ∃ y : St, y = setI x 0 0 0 := ⟨_, rfl⟩
  rw [← ex1895] at hW
  have hw := hw x1895 ex1895
  refine lv_iload_n hx hb d_Mod_output_5 rfl (lv_at hl 1 rfl) ?_
  refine lv_if_lt (tgt := 17) hx hb d_Mod_output_6 (by decide) (fun c1896 => ?_) (fun c1896 => ?_)
  · have hw := hw.1 c1896
    exact t_Mod_output_17 hx hb hml hown hT hK hN hA hRc hRs hRf hRl hret  l1 x1895 H locs ls  hw hW hS (lv_sub hl [0, 1] rfl)
  · have hw := hw.2 c1896
    refine lv_iload_n hx hb d_Mod_output_9 rfl (lv_at hl 1 rfl) ?_
    refine lv_aload_n hx hb d_Mod_output_10 rfl (lv_at hl 0 rfl) ?_
    refine w_geti (k := 113) (t := 12) (C := R_Mod) (T := F_Mod) (N := 167) hx hb hT hown hK hW ko_0.1 ko_0.2 (by decide) in_Mod rfl rfl (by decide) rfl fr_Mod_113 w_9_49 d_Mod_output_11 ?_
    refine lv_icmp_lt (tgt := 21) hx hb d_Mod_output_14 (by decide) (fun c1897 => ?_) (fun c1897 => ?_)
    · have hw := hw.1 c1897
      refine lv_aload_n hx hb d_Mod_output_21 rfl (lv_at hl 0 rfl) ?_
      refine w_getf (q := 75) (k := 112) (t := 12) (C := R_Mod) (T := F_Mod) (N := 167) hx hb hT hown hK hW ko_0.1 ko_0.2 (by decide) in_Mod rfl rfl (by decide) rfl fr_Mod_112 w_9_48 d_Mod_output_22 rfl ?_
      refine lv_iload_n hx hb d_Mod_output_25 rfl (lv_at hl 1 rfl) ?_
      obtain ⟨hi, hw⟩ := hw
      refine w_bald (o := 75) hx hb hK hW ko_75.1 ko_75.2 hi d_Mod_output_26 ?_
      refine lv_sipush (v := 255) hx hb d_Mod_output_27 (by decide) ?_
      refine lv_iand hx hb d_Mod_output_30 ?_
      exact hret ((rA x1895 75 l1) &&& 255) x1895 H locs 31 ls d_Mod_output_31 hw hW hS
    · have hw := hw.2 c1897
      exact t_Mod_output_17 hx hb hml hown hT hK hN hA hRc hRs hRf hRl hret  l1 x1895 H locs ls  hw hW hS (lv_sub hl [0, 1] rfl)
set_option maxHeartbeats 4000000 in
set_option maxRecDepth 100000 in
theorem k_Mod_output (l : Launch) (dC : Nat → ClassId) (dI : Nat → Nat → Nat) (cI cB cJ cZ : ClassId) (ad : Nat → Nat) (sz : Nat) (l1 : Int32) (x : St) {post : Int32 → St → Prop} (hw : wp_Mod_output post l1 x) : Met l y_Mod_output (wsOf y_Mod_output b_Mod_output 2 (some (.int))) ({ frames := 0, cells := 0, slots := 0, locals := 0 }) (va_Pc [.ref (ad 0), .int l1] (PW dC dI cI cB cJ cZ ad stM kcM 115 sz x)) (va_Qi (fun (r : Int32) (y : St) => post r y) (fun y t => Wd dC dI cI cB cJ cZ ad stM kcM 115 (va_A (pic ad stM kcM 115 cI cB cJ cZ x) sz) y t.heap) (va_A (pic ad stM kcM 115 cI cB cJ cZ x) sz)) 0 0 (va_A (pic ad stM kcM 115 cI cB cJ cZ x) sz) := by
  refine Met.ofW (cc := b_Mod_output) (maxL := 2) (ret := some (.int)) (by decide) rfl ?_
  intro p e s m args below meth c s₁ B hml hv
  obtain ⟨rfl, hsz, hW0, hK, hN⟩ := hv
  have hx := B.exec
  have hb := B.bytes
  have hr := B.returns
  have hts := atoms_spec B.pre
  have hT : ∀ w ∈ TG, w.before _ s = true := fun w h => hts w (List.mem_cons_of_mem _ h)
  have hown : s.vm.findClass R_Mod = some m.cls := findClass_of_methodNamed B.named
  have hlocks := B.notSynchronized
  subst hsz
  have hW : Wd dC dI cI cB cJ cZ ad stM kcM 115 (va_A (pic ad stM kcM 115 cI cB cJ cZ x) s.heap.size) x s.heap := ⟨hW0.1, hW0.2.1.self (sz := s.heap.size), hW0.2.2⟩
  generalize hAe : va_A (pic ad stM kcM 115 cI cB cJ cZ x) s.heap.size = A at hW ⊢
  have hA : ∀ q : Nat, s.heap.size ≤ q → A q := fun q h => by rw [← hAe]; exact Or.inr h
  have hS : va_S A s.heap s.heap [] := va_S.rf
  have hl := lv_entry ([.ref (ad 0), .int l1]) (n := 2) (Nat.le_of_ble_eq_true rfl)
  rw [lg_entry_eq]
  generalize (lg_sl ([.ref (ad 0), .int l1]) ++ List.replicate (2 - (lg_sl ([.ref (ad 0), .int l1])).length) Slot.unset).toArray = ls at hl ⊢
  have hl : lv_has ls 2 [(0, .ref (ad 0)), (1, .int l1)] := hl
  exact t_Mod_output_e hx hb hml hown hT hK hN hA (Nat.le_refl 0) (Nat.le_refl 0) (Nat.le_refl 0) (Nat.le_refl 0) (fun r x H locs pc ls hd hp hW hS => W.iret (v := r) hx hb hr (fun t ht hM => ⟨⟨r, x, rfl, hp, Wd.back hW ht.symm (fun _ z => z)⟩, hS.F ht⟩) hS.2.2 hd hlocks)  l1 x _ _ ls  hw hW hS hl
set_option maxRecDepth 100000 in
set_option maxHeartbeats 4000000 in
set_option maxRecDepth 100000 in
theorem t_Mod_isKept_128 {p : Program} {l : Launch} {e : Env} {R : Room} {s : State} {m : MethodId} {args : Array Value} {below : List Frame} {meth : Method} {c : Code} {cells slots : Nat} {Q : State → Prop} {dC : Nat → ClassId} {dI : Nat → Nat → Nat} {cI cB cJ cZ : ClassId} {A : Nat → Prop} {ad : Nat → Nat} {post : Int32 → St → Prop} (hx : p.tables.exec = Jvm.exec) (hb : c.code = b_Mod_isKept) (hml : c.maxLocals = 2) (hown : s.vm.findClass R_Mod = some m.cls) (hT : ∀ w ∈ TG, w.before args s = true) (hK : va_K (dC, dI) CL (TY cI cB cJ cZ) s) (hN : NW s) (hA : ∀ q : Nat, s.heap.size ≤ q → A q) (hRc : cells ≤ R.cells) (hRs : slots ≤ R.slots) (hRf : 0 ≤ R.frames) (hRl : 0 ≤ R.locals) (hret : ∀ (r : Int32) (x : St) (H : Heap) (locs : List Loc) (pc : Nat) (ls : Array Slot), decode b_Mod_isKept pc = .ok (.ireturn, 1) → narrow .boolean (.int r) = .int r → post r x → Wd dC dI cI cB cJ cZ ad stM kcM 115 A x H → va_S A s.heap H locs → W p l e R s m args below meth c H locs cells slots Q (F0 m pc ls [.int r]))  : ∀ (l0 : Int64) (x : St) (H : Heap) (locs : List Loc) (ls : Array Slot), j_Mod_isKept_128 post l0 x → Wd dC dI cI cB cJ cZ ad stM kcM 115 A x H → va_S A s.heap H locs → lv_has ls 2 [(0, .long l0)] → W p l e R s m args below meth c H locs cells slots Q (F0 m 128 ls []) := by
  intro l0 x H locs ls  hw hW hS hl
  unfold j_Mod_isKept_128 at hw
  refine lv_iconst (v := 1) hx hb d_Mod_isKept_128 (by decide) ?_
  refine lv_goto (tgt := 133) hx hb d_Mod_isKept_129 (by decide) ?_
  exact hret 1 x H locs 133 ls d_Mod_isKept_133 rfl hw hW hS
set_option maxRecDepth 100000 in
set_option maxHeartbeats 4000000 in
set_option maxRecDepth 100000 in
theorem t_Mod_isKept_e {p : Program} {l : Launch} {e : Env} {R : Room} {s : State} {m : MethodId} {args : Array Value} {below : List Frame} {meth : Method} {c : Code} {cells slots : Nat} {Q : State → Prop} {dC : Nat → ClassId} {dI : Nat → Nat → Nat} {cI cB cJ cZ : ClassId} {A : Nat → Prop} {ad : Nat → Nat} {post : Int32 → St → Prop} (hx : p.tables.exec = Jvm.exec) (hb : c.code = b_Mod_isKept) (hml : c.maxLocals = 2) (hown : s.vm.findClass R_Mod = some m.cls) (hT : ∀ w ∈ TG, w.before args s = true) (hK : va_K (dC, dI) CL (TY cI cB cJ cZ) s) (hN : NW s) (hA : ∀ q : Nat, s.heap.size ≤ q → A q) (hRc : cells ≤ R.cells) (hRs : slots ≤ R.slots) (hRf : 0 ≤ R.frames) (hRl : 0 ≤ R.locals) (hret : ∀ (r : Int32) (x : St) (H : Heap) (locs : List Loc) (pc : Nat) (ls : Array Slot), decode b_Mod_isKept pc = .ok (.ireturn, 1) → narrow .boolean (.int r) = .int r → post r x → Wd dC dI cI cB cJ cZ ad stM kcM 115 A x H → va_S A s.heap H locs → W p l e R s m args below meth c H locs cells slots Q (F0 m pc ls [.int r])) : ∀ (l0 : Int64) (x : St) (H : Heap) (locs : List Loc) (ls : Array Slot), wp_Mod_isKept post l0 x → Wd dC dI cI cB cJ cZ ad stM kcM 115 A x H → va_S A s.heap H locs → lv_has ls 2 [(0, .long l0)] → W p l e R s m args below meth c H locs cells slots Q (F0 m 0 ls []) := by
  intro l0 x H locs ls  hw hW hS hl
  unfold wp_Mod_isKept at hw
  refine lv_lload_n hx hb d_Mod_isKept_0 rfl (lv_at hl 0 rfl) ?_
  refine lv_ldc2 hx hb hown (hT _ w_13_117) d_Mod_isKept_1 ?_
  refine W.lcmp hx hb d_Mod_isKept_4 ?_
  refine lv_if_eq (tgt := 128) hx hb d_Mod_isKept_5 (by decide) (fun c1898 => ?_) (fun c1898 => ?_)
  · have hw := hw.1 c1898
    exact t_Mod_isKept_128 hx hb hml hown hT hK hN hA hRc hRs hRf hRl hret  l0 x H locs ls  hw hW hS (lv_sub hl [0] rfl)
  · have hw := hw.2 c1898
    refine lv_lload_n hx hb d_Mod_isKept_8 rfl (lv_at hl 0 rfl) ?_
    refine lv_ldc2 hx hb hown (hT _ w_13_133) d_Mod_isKept_9 ?_
    refine W.lcmp hx hb d_Mod_isKept_12 ?_
    refine lv_if_eq (tgt := 128) hx hb d_Mod_isKept_13 (by decide) (fun c1899 => ?_) (fun c1899 => ?_)
    · have hw := hw.1 c1899
      exact t_Mod_isKept_128 hx hb hml hown hT hK hN hA hRc hRs hRf hRl hret  l0 x H locs ls  hw hW hS (lv_sub hl [0] rfl)
    · have hw := hw.2 c1899
      refine lv_lload_n hx hb d_Mod_isKept_16 rfl (lv_at hl 0 rfl) ?_
      refine lv_ldc2 hx hb hown (hT _ w_11_19) d_Mod_isKept_17 ?_
      refine W.lcmp hx hb d_Mod_isKept_20 ?_
      refine lv_if_eq (tgt := 128) hx hb d_Mod_isKept_21 (by decide) (fun c1900 => ?_) (fun c1900 => ?_)
      · have hw := hw.1 c1900
        exact t_Mod_isKept_128 hx hb hml hown hT hK hN hA hRc hRs hRf hRl hret  l0 x H locs ls  hw hW hS (lv_sub hl [0] rfl)
      · have hw := hw.2 c1900
        refine lv_lload_n hx hb d_Mod_isKept_24 rfl (lv_at hl 0 rfl) ?_
        refine lv_ldc2 hx hb hown (hT _ w_13_134) d_Mod_isKept_25 ?_
        refine W.lcmp hx hb d_Mod_isKept_28 ?_
        refine lv_if_eq (tgt := 128) hx hb d_Mod_isKept_29 (by decide) (fun c1901 => ?_) (fun c1901 => ?_)
        · have hw := hw.1 c1901
          exact t_Mod_isKept_128 hx hb hml hown hT hK hN hA hRc hRs hRf hRl hret  l0 x H locs ls  hw hW hS (lv_sub hl [0] rfl)
        · have hw := hw.2 c1901
          refine lv_lload_n hx hb d_Mod_isKept_32 rfl (lv_at hl 0 rfl) ?_
          refine lv_ldc2 hx hb hown (hT _ w_13_135) d_Mod_isKept_33 ?_
          refine W.lcmp hx hb d_Mod_isKept_36 ?_
          refine lv_if_eq (tgt := 128) hx hb d_Mod_isKept_37 (by decide) (fun c1902 => ?_) (fun c1902 => ?_)
          · have hw := hw.1 c1902
            exact t_Mod_isKept_128 hx hb hml hown hT hK hN hA hRc hRs hRf hRl hret  l0 x H locs ls  hw hW hS (lv_sub hl [0] rfl)
          · have hw := hw.2 c1902
            refine lv_lload_n hx hb d_Mod_isKept_40 rfl (lv_at hl 0 rfl) ?_
            refine lv_ldc2 hx hb hown (hT _ w_13_136) d_Mod_isKept_41 ?_
            refine W.lcmp hx hb d_Mod_isKept_44 ?_
            refine lv_if_eq (tgt := 128) hx hb d_Mod_isKept_45 (by decide) (fun c1903 => ?_) (fun c1903 => ?_)
            · have hw := hw.1 c1903
              exact t_Mod_isKept_128 hx hb hml hown hT hK hN hA hRc hRs hRf hRl hret  l0 x H locs ls  hw hW hS (lv_sub hl [0] rfl)
            · have hw := hw.2 c1903
              refine lv_lload_n hx hb d_Mod_isKept_48 rfl (lv_at hl 0 rfl) ?_
              refine lv_ldc2 hx hb hown (hT _ w_13_137) d_Mod_isKept_49 ?_
              refine W.lcmp hx hb d_Mod_isKept_52 ?_
              refine lv_if_eq (tgt := 128) hx hb d_Mod_isKept_53 (by decide) (fun c1904 => ?_) (fun c1904 => ?_)
              · have hw := hw.1 c1904
                exact t_Mod_isKept_128 hx hb hml hown hT hK hN hA hRc hRs hRf hRl hret  l0 x H locs ls  hw hW hS (lv_sub hl [0] rfl)
              · have hw := hw.2 c1904
                refine lv_lload_n hx hb d_Mod_isKept_56 rfl (lv_at hl 0 rfl) ?_
                refine lv_ldc2 hx hb hown (hT _ w_13_138) d_Mod_isKept_57 ?_
                refine W.lcmp hx hb d_Mod_isKept_60 ?_
                refine lv_if_eq (tgt := 128) hx hb d_Mod_isKept_61 (by decide) (fun c1905 => ?_) (fun c1905 => ?_)
                · have hw := hw.1 c1905
                  exact t_Mod_isKept_128 hx hb hml hown hT hK hN hA hRc hRs hRf hRl hret  l0 x H locs ls  hw hW hS (lv_sub hl [0] rfl)
                · have hw := hw.2 c1905
                  refine lv_lload_n hx hb d_Mod_isKept_64 rfl (lv_at hl 0 rfl) ?_
                  refine lv_ldc2 hx hb hown (hT _ w_13_139) d_Mod_isKept_65 ?_
                  refine W.lcmp hx hb d_Mod_isKept_68 ?_
                  refine lv_if_eq (tgt := 128) hx hb d_Mod_isKept_69 (by decide) (fun c1906 => ?_) (fun c1906 => ?_)
                  · have hw := hw.1 c1906
                    exact t_Mod_isKept_128 hx hb hml hown hT hK hN hA hRc hRs hRf hRl hret  l0 x H locs ls  hw hW hS (lv_sub hl [0] rfl)
                  · have hw := hw.2 c1906
                    refine lv_lload_n hx hb d_Mod_isKept_72 rfl (lv_at hl 0 rfl) ?_
                    refine lv_ldc2 hx hb hown (hT _ w_13_140) d_Mod_isKept_73 ?_
                    refine W.lcmp hx hb d_Mod_isKept_76 ?_
                    refine lv_if_eq (tgt := 128) hx hb d_Mod_isKept_77 (by decide) (fun c1907 => ?_) (fun c1907 => ?_)
                    · have hw := hw.1 c1907
                      exact t_Mod_isKept_128 hx hb hml hown hT hK hN hA hRc hRs hRf hRl hret  l0 x H locs ls  hw hW hS (lv_sub hl [0] rfl)
                    · have hw := hw.2 c1907
                      refine lv_lload_n hx hb d_Mod_isKept_80 rfl (lv_at hl 0 rfl) ?_
                      refine lv_ldc2 hx hb hown (hT _ w_11_95) d_Mod_isKept_81 ?_
                      refine W.lcmp hx hb d_Mod_isKept_84 ?_
                      refine lv_if_eq (tgt := 128) hx hb d_Mod_isKept_85 (by decide) (fun c1908 => ?_) (fun c1908 => ?_)
                      · have hw := hw.1 c1908
                        exact t_Mod_isKept_128 hx hb hml hown hT hK hN hA hRc hRs hRf hRl hret  l0 x H locs ls  hw hW hS (lv_sub hl [0] rfl)
                      · have hw := hw.2 c1908
                        refine lv_lload_n hx hb d_Mod_isKept_88 rfl (lv_at hl 0 rfl) ?_
                        refine lv_ldc2 hx hb hown (hT _ w_11_96) d_Mod_isKept_89 ?_
                        refine W.lcmp hx hb d_Mod_isKept_92 ?_
                        refine lv_if_eq (tgt := 128) hx hb d_Mod_isKept_93 (by decide) (fun c1909 => ?_) (fun c1909 => ?_)
                        · have hw := hw.1 c1909
                          exact t_Mod_isKept_128 hx hb hml hown hT hK hN hA hRc hRs hRf hRl hret  l0 x H locs ls  hw hW hS (lv_sub hl [0] rfl)
                        · have hw := hw.2 c1909
                          refine lv_lload_n hx hb d_Mod_isKept_96 rfl (lv_at hl 0 rfl) ?_
                          refine lv_ldc2 hx hb hown (hT _ w_13_122) d_Mod_isKept_97 ?_
                          refine W.lcmp hx hb d_Mod_isKept_100 ?_
                          refine lv_if_eq (tgt := 128) hx hb d_Mod_isKept_101 (by decide) (fun c1910 => ?_) (fun c1910 => ?_)
                          · have hw := hw.1 c1910
                            exact t_Mod_isKept_128 hx hb hml hown hT hK hN hA hRc hRs hRf hRl hret  l0 x H locs ls  hw hW hS (lv_sub hl [0] rfl)
                          · have hw := hw.2 c1910
                            refine lv_lload_n hx hb d_Mod_isKept_104 rfl (lv_at hl 0 rfl) ?_
                            refine lv_ldc2 hx hb hown (hT _ w_13_123) d_Mod_isKept_105 ?_
                            refine W.lcmp hx hb d_Mod_isKept_108 ?_
                            refine lv_if_eq (tgt := 128) hx hb d_Mod_isKept_109 (by decide) (fun c1911 => ?_) (fun c1911 => ?_)
                            · have hw := hw.1 c1911
                              exact t_Mod_isKept_128 hx hb hml hown hT hK hN hA hRc hRs hRf hRl hret  l0 x H locs ls  hw hW hS (lv_sub hl [0] rfl)
                            · have hw := hw.2 c1911
                              refine lv_lload_n hx hb d_Mod_isKept_112 rfl (lv_at hl 0 rfl) ?_
                              refine lv_ldc2 hx hb hown (hT _ w_13_124) d_Mod_isKept_113 ?_
                              refine W.lcmp hx hb d_Mod_isKept_116 ?_
                              refine lv_if_eq (tgt := 128) hx hb d_Mod_isKept_117 (by decide) (fun c1912 => ?_) (fun c1912 => ?_)
                              · have hw := hw.1 c1912
                                exact t_Mod_isKept_128 hx hb hml hown hT hK hN hA hRc hRs hRf hRl hret  l0 x H locs ls  hw hW hS (lv_sub hl [0] rfl)
                              · have hw := hw.2 c1912
                                refine lv_lload_n hx hb d_Mod_isKept_120 rfl (lv_at hl 0 rfl) ?_
                                refine lv_ldc2 hx hb hown (hT _ w_13_125) d_Mod_isKept_121 ?_
                                refine W.lcmp hx hb d_Mod_isKept_124 ?_
                                refine lv_if_ne (tgt := 132) hx hb d_Mod_isKept_125 (by decide) (fun c1913 => ?_) (fun c1913 => ?_)
                                · have hw := hw.1 c1913
                                  refine lv_iconst (v := 0) hx hb d_Mod_isKept_132 (by decide) ?_
                                  exact hret 0 x H locs 133 ls d_Mod_isKept_133 rfl hw hW hS
                                · have hw := hw.2 c1913
                                  exact t_Mod_isKept_128 hx hb hml hown hT hK hN hA hRc hRs hRf hRl hret  l0 x H locs ls  hw hW hS (lv_sub hl [0] rfl)
set_option maxHeartbeats 4000000 in
set_option maxRecDepth 100000 in
theorem k_Mod_isKept (l : Launch) (dC : Nat → ClassId) (dI : Nat → Nat → Nat) (cI cB cJ cZ : ClassId) (ad : Nat → Nat) (sz : Nat) (l0 : Int64) (x : St) {post : Int32 → St → Prop} (hw : wp_Mod_isKept post l0 x) : Met l y_Mod_isKept (wsOf y_Mod_isKept b_Mod_isKept 2 (some (.boolean))) ({ frames := 0, cells := 0, slots := 0, locals := 0 }) (va_Pc [.long l0] (PW dC dI cI cB cJ cZ ad stM kcM 115 sz x)) (va_Qi (fun (r : Int32) (y : St) => post r y) (fun y t => Wd dC dI cI cB cJ cZ ad stM kcM 115 (va_A (pic ad stM kcM 115 cI cB cJ cZ x) sz) y t.heap) (va_A (pic ad stM kcM 115 cI cB cJ cZ x) sz)) 0 0 (va_A (pic ad stM kcM 115 cI cB cJ cZ x) sz) := by
  refine Met.ofW (cc := b_Mod_isKept) (maxL := 2) (ret := some (.boolean)) (by decide) rfl ?_
  intro p e s m args below meth c s₁ B hml hv
  obtain ⟨rfl, hsz, hW0, hK, hN⟩ := hv
  have hx := B.exec
  have hb := B.bytes
  have hr := B.returns
  have hts := atoms_spec B.pre
  have hT : ∀ w ∈ TG, w.before _ s = true := fun w h => hts w (List.mem_cons_of_mem _ h)
  have hown : s.vm.findClass R_Mod = some m.cls := findClass_of_methodNamed B.named
  have hlocks := B.notSynchronized
  subst hsz
  have hW : Wd dC dI cI cB cJ cZ ad stM kcM 115 (va_A (pic ad stM kcM 115 cI cB cJ cZ x) s.heap.size) x s.heap := ⟨hW0.1, hW0.2.1.self (sz := s.heap.size), hW0.2.2⟩
  generalize hAe : va_A (pic ad stM kcM 115 cI cB cJ cZ x) s.heap.size = A at hW ⊢
  have hA : ∀ q : Nat, s.heap.size ≤ q → A q := fun q h => by rw [← hAe]; exact Or.inr h
  have hS : va_S A s.heap s.heap [] := va_S.rf
  have hl := lv_entry ([.long l0]) (n := 2) (Nat.le_of_ble_eq_true rfl)
  rw [lg_entry_eq]
  generalize (lg_sl ([.long l0]) ++ List.replicate (2 - (lg_sl ([.long l0])).length) Slot.unset).toArray = ls at hl ⊢
  have hl : lv_has ls 2 [(0, .long l0)] := hl
  exact t_Mod_isKept_e hx hb hml hown hT hK hN hA (Nat.le_refl 0) (Nat.le_refl 0) (Nat.le_refl 0) (Nat.le_refl 0) (fun r x H locs pc ls hd hz hp hW hS => W.zret (v := r) (ty := .boolean) hx hb hr hz (fun t ht hM => ⟨⟨r, x, rfl, hp, Wd.back hW ht.symm (fun _ z => z)⟩, hS.F ht⟩) hS.2.2 hd hlocks)  l0 x _ _ ls  hw hW hS hl
set_option maxRecDepth 100000 in
set_option maxHeartbeats 4000000 in
set_option maxRecDepth 100000 in
theorem t_Mod_path_91 {p : Program} {l : Launch} {e : Env} {R : Room} {s : State} {m : MethodId} {args : Array Value} {below : List Frame} {meth : Method} {c : Code} {cells slots : Nat} {Q : State → Prop} {dC : Nat → ClassId} {dI : Nat → Nat → Nat} {cI cB cJ cZ : ClassId} {A : Nat → Prop} {ad : Nat → Nat} {post : Int32 → St → Prop} {rec8 : Int32 → Int32 → St → Prop} (hx : p.tables.exec = Jvm.exec) (hb : c.code = b_Mod_path) (hml : c.maxLocals = 4) (hown : s.vm.findClass R_Mod = some m.cls) (hT : ∀ w ∈ TG, w.before args s = true) (hK : va_K (dC, dI) CL (TY cI cB cJ cZ) s) (hN : NW s) (hA : ∀ q : Nat, s.heap.size ≤ q → A q) (hRc : cells ≤ R.cells) (hRs : slots ≤ R.slots) (hRf : 3 ≤ R.frames) (hRl : 67 ≤ R.locals) (hret : ∀ (r : Int32) (x : St) (H : Heap) (locs : List Loc) (pc : Nat) (ls : Array Slot), decode b_Mod_path pc = .ok (.ireturn, 1) → post r x → Wd dC dI cI cB cJ cZ ad stM kcM 115 A x H → va_S A s.heap H locs → W p l e R s m args below meth c H locs cells slots Q (F0 m pc ls [.int r])) (hrec8 : ∀ (l1 : Int32) (l2 : Int32) (x : St) (H : Heap) (locs : List Loc) (ls : Array Slot), rec8 l1 l2 x → Wd dC dI cI cB cJ cZ ad stM kcM 115 A x H → va_S A s.heap H locs → lv_has ls 4 [(0, .ref (ad 0)), (1, .int l1), (2, .int l2)] → W p l e R s m args below meth c H locs cells slots Q (F0 m 8 ls [])) : ∀ (l1 : Int32) (l2 : Int32) (l3 : Int32) (s0 : Int32) (x : St) (H : Heap) (locs : List Loc) (ls : Array Slot), j_Mod_path_91 post rec8 l1 l2 l3 s0 x → Wd dC dI cI cB cJ cZ ad stM kcM 115 A x H → va_S A s.heap H locs → lv_has ls 4 [(0, .ref (ad 0)), (1, .int l1), (2, .int l2), (3, .int l3)] → W p l e R s m args below meth c H locs cells slots Q (F0 m 91 ls [.int s0]) := by
  intro l1 l2 l3 s0 x H locs ls  hw hW hS hl
  unfold j_Mod_path_91 at hw
  refine lv_istore_n (lv' := [(2, .int s0), (0, .ref (ad 0)), (1, .int l1), (3, .int l3)]) hx hb d_Mod_path_91 rfl hl (by decide) rfl (fun ls hl => ?_)
  refine lv_aload_n hx hb d_Mod_path_92 rfl (lv_at hl 1 rfl) ?_
  refine lv_dup hx hb d_Mod_path_93 rfl ?_
  refine w_geti (k := 16) (t := 12) (C := R_Mod) (T := F_Mod) (N := 167) hx hb hT hown hK hW ko_0.1 ko_0.2 (by decide) in_Mod rfl rfl (by decide) rfl fr_Mod_16 w_8_192 d_Mod_path_94 ?_
  refine lv_iload_n hx hb d_Mod_path_97 rfl (lv_at hl 3 rfl) ?_
  refine lv_iadd hx hb d_Mod_path_98 ?_
  refine w_puti (ty := .int) (k := 16) (t := 12) (C := R_Mod) (T := F_Mod) (N := 167) hx hb hT hown hK hW hS ko_0.1 ko_0.2 (by decide) in_Mod t_Mod t_Mod_ok n_Mod rfl rfl (by decide) rfl fr_Mod_16 w_8_192 (by decide +kernel) rfl rfl d_Mod_path_99 (fun H locs hW hS => ?_)
  obtain ⟨x1914, ex1914⟩ : ∃ y : St, y = setI x 0 16 ((fI x 0 16) + l3) := ⟨_, rfl⟩
  rw [← ex1914] at hW
  have hw := hw x1914 ex1914
  refine lv_aload_n hx hb d_Mod_path_102 rfl (lv_at hl 1 rfl) ?_
  have hF := hW.free hS hA
  refine va_calli (va_runV (C := R_Mod) (As := []) (rest := []) ⟨hx, hb, hml, hown, hT⟩ (k_Mod_look l dC dI cI cB cJ cZ ad H.size  x1914  hw) ⟨callB_of 0 hT (gwt_in w_10_234) rfl rfl rfl (hT _ w_1_15) (hT _ w_10_231) (by decide +kernel) ⟨Nat.le_trans (Nat.le_of_ble_eq_true rfl) hRf, Nat.le_trans (Nat.le_of_ble_eq_true rfl) hRl⟩, hT _ w_10_233, hT _ ws_112⟩ ⟨PW.blind, va_recv hK hW.1 (ci := 12) (q0 := 0) rfl (pic_obj ko_0.1 ko_0.2 (by decide)), PW.at _ hW hK hN⟩ rfl rfl hl.1 rfl (lv_room (Nat.le_of_ble_eq_true rfl)) d_Mod_path_103 ⟨hRc, hRs⟩) hS (fun q _ h => hF q h) hF (fun r1916 x1915 t H locs ht hvm hw hB hz1 hk1 hS => ?_)
  have hW := Wd.back hB ht hF
  clear hB ht hF hz1 hk1 hvm
  refine lv_bipush (v := 46) hx hb d_Mod_path_106 (by decide) ?_
  refine lv_icmp_eq (tgt := 113) hx hb d_Mod_path_108 (by decide) (fun c1917 => ?_) (fun c1917 => ?_)
  · have hw := hw.1 c1917
    refine lv_aload_n hx hb d_Mod_path_113 rfl (lv_at hl 1 rfl) ?_
    refine lv_dup hx hb d_Mod_path_114 rfl ?_
    refine w_geti (k := 16) (t := 12) (C := R_Mod) (T := F_Mod) (N := 167) hx hb hT hown hK hW ko_0.1 ko_0.2 (by decide) in_Mod rfl rfl (by decide) rfl fr_Mod_16 w_8_192 d_Mod_path_115 ?_
    refine lv_iconst (v := 1) hx hb d_Mod_path_118 (by decide) ?_
    refine lv_iadd hx hb d_Mod_path_119 ?_
    refine w_puti (ty := .int) (k := 16) (t := 12) (C := R_Mod) (T := F_Mod) (N := 167) hx hb hT hown hK hW hS ko_0.1 ko_0.2 (by decide) in_Mod t_Mod t_Mod_ok n_Mod rfl rfl (by decide) rfl fr_Mod_16 w_8_192 (by decide +kernel) rfl rfl d_Mod_path_120 (fun H locs hW hS => ?_)
    obtain ⟨x1918, ex1918⟩ : ∃ y : St, y = setI x1915 0 16 ((fI x1915 0 16) + 1) := ⟨_, rfl⟩
    rw [← ex1918] at hW
    have hw := hw x1918 ex1918
    refine lv_goto (tgt := 8) hx hb d_Mod_path_123 (by decide) ?_
    exact hrec8 l1 s0 x1918 H locs ls  hw hW hS (lv_sub hl [1, 2, 0] rfl)
  · have hw := hw.2 c1917
    refine lv_iload_n hx hb d_Mod_path_111 rfl (lv_at hl 2 rfl) ?_
    exact hret l1 x1915 H locs 112 ls d_Mod_path_112 hw hW hS
set_option maxRecDepth 100000 in
set_option maxHeartbeats 4000000 in
set_option maxRecDepth 100000 in
theorem t_Mod_path_86 {p : Program} {l : Launch} {e : Env} {R : Room} {s : State} {m : MethodId} {args : Array Value} {below : List Frame} {meth : Method} {c : Code} {cells slots : Nat} {Q : State → Prop} {dC : Nat → ClassId} {dI : Nat → Nat → Nat} {cI cB cJ cZ : ClassId} {A : Nat → Prop} {ad : Nat → Nat} {post : Int32 → St → Prop} {rec8 : Int32 → Int32 → St → Prop} (hx : p.tables.exec = Jvm.exec) (hb : c.code = b_Mod_path) (hml : c.maxLocals = 4) (hown : s.vm.findClass R_Mod = some m.cls) (hT : ∀ w ∈ TG, w.before args s = true) (hK : va_K (dC, dI) CL (TY cI cB cJ cZ) s) (hN : NW s) (hA : ∀ q : Nat, s.heap.size ≤ q → A q) (hRc : cells ≤ R.cells) (hRs : slots ≤ R.slots) (hRf : 3 ≤ R.frames) (hRl : 67 ≤ R.locals) (hret : ∀ (r : Int32) (x : St) (H : Heap) (locs : List Loc) (pc : Nat) (ls : Array Slot), decode b_Mod_path pc = .ok (.ireturn, 1) → post r x → Wd dC dI cI cB cJ cZ ad stM kcM 115 A x H → va_S A s.heap H locs → W p l e R s m args below meth c H locs cells slots Q (F0 m pc ls [.int r])) (hrec8 : ∀ (l1 : Int32) (l2 : Int32) (x : St) (H : Heap) (locs : List Loc) (ls : Array Slot), rec8 l1 l2 x → Wd dC dI cI cB cJ cZ ad stM kcM 115 A x H → va_S A s.heap H locs → lv_has ls 4 [(0, .ref (ad 0)), (1, .int l1), (2, .int l2)] → W p l e R s m args below meth c H locs cells slots Q (F0 m 8 ls [])) : ∀ (l1 : Int32) (l2 : Int32) (l3 : Int32) (x : St) (H : Heap) (locs : List Loc) (ls : Array Slot), j_Mod_path_86 post rec8 l1 l2 l3 x → Wd dC dI cI cB cJ cZ ad stM kcM 115 A x H → va_S A s.heap H locs → lv_has ls 4 [(0, .ref (ad 0)), (1, .int l1), (2, .int l2), (3, .int l3)] → W p l e R s m args below meth c H locs cells slots Q (F0 m 86 ls []) := by
  intro l1 l2 l3 x H locs ls  hw hW hS hl
  unfold j_Mod_path_86 at hw
  refine lv_iconst (v := 1) hx hb d_Mod_path_86 (by decide) ?_
  refine lv_goto (tgt := 91) hx hb d_Mod_path_87 (by decide) ?_
  exact t_Mod_path_91 hx hb hml hown hT hK hN hA hRc hRs hRf hRl hret hrec8 l1 l2 l3 1 x H locs ls  hw hW hS (lv_sub hl [0, 1, 2, 3] rfl)
set_option maxRecDepth 100000 in
set_option maxHeartbeats 4000000 in
set_option maxRecDepth 100000 in
theorem t_Mod_path_76 {p : Program} {l : Launch} {e : Env} {R : Room} {s : State} {m : MethodId} {args : Array Value} {below : List Frame} {meth : Method} {c : Code} {cells slots : Nat} {Q : State → Prop} {dC : Nat → ClassId} {dI : Nat → Nat → Nat} {cI cB cJ cZ : ClassId} {A : Nat → Prop} {ad : Nat → Nat} {post : Int32 → St → Prop} {rec8 : Int32 → Int32 → St → Prop} (hx : p.tables.exec = Jvm.exec) (hb : c.code = b_Mod_path) (hml : c.maxLocals = 4) (hown : s.vm.findClass R_Mod = some m.cls) (hT : ∀ w ∈ TG, w.before args s = true) (hK : va_K (dC, dI) CL (TY cI cB cJ cZ) s) (hN : NW s) (hA : ∀ q : Nat, s.heap.size ≤ q → A q) (hRc : cells ≤ R.cells) (hRs : slots ≤ R.slots) (hRf : 3 ≤ R.frames) (hRl : 67 ≤ R.locals) (hret : ∀ (r : Int32) (x : St) (H : Heap) (locs : List Loc) (pc : Nat) (ls : Array Slot), decode b_Mod_path pc = .ok (.ireturn, 1) → post r x → Wd dC dI cI cB cJ cZ ad stM kcM 115 A x H → va_S A s.heap H locs → W p l e R s m args below meth c H locs cells slots Q (F0 m pc ls [.int r])) (hrec8 : ∀ (l1 : Int32) (l2 : Int32) (x : St) (H : Heap) (locs : List Loc) (ls : Array Slot), rec8 l1 l2 x → Wd dC dI cI cB cJ cZ ad stM kcM 115 A x H → va_S A s.heap H locs → lv_has ls 4 [(0, .ref (ad 0)), (1, .int l1), (2, .int l2)] → W p l e R s m args below meth c H locs cells slots Q (F0 m 8 ls [])) : ∀ (l1 : Int32) (l2 : Int32) (l3 : Int32) (s0 : Int32) (x : St) (H : Heap) (locs : List Loc) (ls : Array Slot), j_Mod_path_76 post rec8 l1 l2 l3 s0 x → Wd dC dI cI cB cJ cZ ad stM kcM 115 A x H → va_S A s.heap H locs → lv_has ls 4 [(0, .ref (ad 0)), (1, .int l1), (2, .int l2), (3, .int l3)] → W p l e R s m args below meth c H locs cells slots Q (F0 m 76 ls [.int s0]) := by
  intro l1 l2 l3 s0 x H locs ls  hw hW hS hl
  unfold j_Mod_path_76 at hw
  refine lv_istore_n (lv' := [(1, .int s0), (0, .ref (ad 0)), (2, .int l2), (3, .int l3)]) hx hb d_Mod_path_76 rfl hl (by decide) rfl (fun ls hl => ?_)
  refine lv_iload_n hx hb d_Mod_path_77 rfl (lv_at hl 2 rfl) ?_
  refine lv_if_ne (tgt := 86) hx hb d_Mod_path_78 (by decide) (fun c1919 => ?_) (fun c1919 => ?_)
  · have hw := hw.1 c1919
    exact t_Mod_path_86 hx hb hml hown hT hK hN hA hRc hRs hRf hRl hret hrec8 s0 l2 l3 x H locs ls  hw hW hS (lv_sub hl [1, 0, 2, 3] rfl)
  · have hw := hw.2 c1919
    refine lv_iload_n hx hb d_Mod_path_81 rfl (lv_at hl 0 rfl) ?_
    refine lv_iconst (v := (-1)) hx hb d_Mod_path_82 (by decide) ?_
    refine lv_icmp_ne (tgt := 90) hx hb d_Mod_path_83 (by decide) (fun c1920 => ?_) (fun c1920 => ?_)
    · have hw := hw.1 c1920
      refine lv_iconst (v := 0) hx hb d_Mod_path_90 (by decide) ?_
      exact t_Mod_path_91 hx hb hml hown hT hK hN hA hRc hRs hRf hRl hret hrec8 s0 l2 l3 0 x H locs ls  hw hW hS (lv_sub hl [1, 0, 2, 3] rfl)
    · have hw := hw.2 c1920
      exact t_Mod_path_86 hx hb hml hown hT hK hN hA hRc hRs hRf hRl hret hrec8 s0 l2 l3 x H locs ls  hw hW hS (lv_sub hl [1, 0, 2, 3] rfl)
set_option maxRecDepth 100000 in
set_option maxHeartbeats 4000000 in
set_option maxRecDepth 100000 in
theorem t_Mod_path_43 {p : Program} {l : Launch} {e : Env} {R : Room} {s : State} {m : MethodId} {args : Array Value} {below : List Frame} {meth : Method} {c : Code} {cells slots : Nat} {Q : State → Prop} {dC : Nat → ClassId} {dI : Nat → Nat → Nat} {cI cB cJ cZ : ClassId} {A : Nat → Prop} {ad : Nat → Nat} {post : Int32 → St → Prop} (hx : p.tables.exec = Jvm.exec) (hb : c.code = b_Mod_path) (hml : c.maxLocals = 4) (hown : s.vm.findClass R_Mod = some m.cls) (hT : ∀ w ∈ TG, w.before args s = true) (hK : va_K (dC, dI) CL (TY cI cB cJ cZ) s) (hN : NW s) (hA : ∀ q : Nat, s.heap.size ≤ q → A q) (hRc : cells ≤ R.cells) (hRs : slots ≤ R.slots) (hRf : 3 ≤ R.frames) (hRl : 67 ≤ R.locals) (hret : ∀ (r : Int32) (x : St) (H : Heap) (locs : List Loc) (pc : Nat) (ls : Array Slot), decode b_Mod_path pc = .ok (.ireturn, 1) → post r x → Wd dC dI cI cB cJ cZ ad stM kcM 115 A x H → va_S A s.heap H locs → W p l e R s m args below meth c H locs cells slots Q (F0 m pc ls [.int r]))  : ∀ (l1 : Int32) (l2 : Int32) (l3 : Int32) (x : St) (H : Heap) (locs : List Loc) (ls : Array Slot), j_Mod_path_43 post l1 l2 l3 x → Wd dC dI cI cB cJ cZ ad stM kcM 115 A x H → va_S A s.heap H locs → lv_has ls 4 [(0, .ref (ad 0)), (1, .int l1), (2, .int l2), (3, .int l3)] → W p l e R s m args below meth c H locs cells slots Q (F0 m 43 ls []) := by
  intro l1 l2 l3 x H locs ls  hw hW hS hl
  unfold j_Mod_path_43 at hw
  refine lv_aload_n hx hb d_Mod_path_43 rfl (lv_at hl 0 rfl) ?_
  refine lv_aload_n hx hb d_Mod_path_44 rfl (lv_at hl 0 rfl) ?_
  refine w_geti (k := 16) (t := 12) (C := R_Mod) (T := F_Mod) (N := 167) hx hb hT hown hK hW ko_0.1 ko_0.2 (by decide) in_Mod rfl rfl (by decide) rfl fr_Mod_16 w_8_192 d_Mod_path_45 ?_
  have hF := hW.free hS hA
  refine va_callv (va_runV (C := R_Mod) (As := [.int (fI x 0 16)]) (rest := []) ⟨hx, hb, hml, hown, hT⟩ (k_Mod_fail l dC dI cI cB cJ cZ ad H.size (fI x 0 16) x  hw) ⟨callB_of 1 hT (gwt_in w_11_14) rfl rfl rfl (hT _ w_1_15) (hT _ w_11_11) (by decide +kernel) ⟨Nat.le_trans (Nat.le_of_ble_eq_true rfl) hRf, Nat.le_trans (Nat.le_of_ble_eq_true rfl) hRl⟩, hT _ w_11_13, hT _ ws_115⟩ ⟨PW.blind, va_recv hK hW.1 (ci := 12) (q0 := 0) rfl (pic_obj ko_0.1 ko_0.2 (by decide)), PW.at _ hW hK hN⟩ rfl rfl hl.1 rfl (lv_room (Nat.le_of_ble_eq_true rfl)) d_Mod_path_48 ⟨hRc, hRs⟩) hS (fun q _ h => hF q h) hF (fun  x1921 t H locs ht hvm hw hB hz1 hk1 hS => ?_)
  have hW := Wd.back hB ht hF
  clear hB ht hF hz1 hk1 hvm
  refine lv_iconst (v := (-1)) hx hb d_Mod_path_51 (by decide) ?_
  exact hret (-1) x1921 H locs 52 ls d_Mod_path_52 hw hW hS
set_option maxRecDepth 100000 in
set_option maxHeartbeats 4000000 in
set_option maxRecDepth 100000 in
theorem t_Mod_path_8 {p : Program} {l : Launch} {e : Env} {R : Room} {s : State} {m : MethodId} {args : Array Value} {below : List Frame} {meth : Method} {c : Code} {cells slots : Nat} {Q : State → Prop} {dC : Nat → ClassId} {dI : Nat → Nat → Nat} {cI cB cJ cZ : ClassId} {A : Nat → Prop} {ad : Nat → Nat} {post : Int32 → St → Prop} {rec8 : Int32 → Int32 → St → Prop} (hx : p.tables.exec = Jvm.exec) (hb : c.code = b_Mod_path) (hml : c.maxLocals = 4) (hown : s.vm.findClass R_Mod = some m.cls) (hT : ∀ w ∈ TG, w.before args s = true) (hK : va_K (dC, dI) CL (TY cI cB cJ cZ) s) (hN : NW s) (hA : ∀ q : Nat, s.heap.size ≤ q → A q) (hRc : cells ≤ R.cells) (hRs : slots ≤ R.slots) (hRf : 3 ≤ R.frames) (hRl : 67 ≤ R.locals) (hret : ∀ (r : Int32) (x : St) (H : Heap) (locs : List Loc) (pc : Nat) (ls : Array Slot), decode b_Mod_path pc = .ok (.ireturn, 1) → post r x → Wd dC dI cI cB cJ cZ ad stM kcM 115 A x H → va_S A s.heap H locs → W p l e R s m args below meth c H locs cells slots Q (F0 m pc ls [.int r])) (hrec8 : ∀ (l1 : Int32) (l2 : Int32) (x : St) (H : Heap) (locs : List Loc) (ls : Array Slot), rec8 l1 l2 x → Wd dC dI cI cB cJ cZ ad stM kcM 115 A x H → va_S A s.heap H locs → lv_has ls 4 [(0, .ref (ad 0)), (1, .int l1), (2, .int l2)] → W p l e R s m args below meth c H locs cells slots Q (F0 m 8 ls [])) : ∀ (l1 : Int32) (l2 : Int32) (x : St) (H : Heap) (locs : List Loc) (ls : Array Slot), j_Mod_path_8 post rec8 l1 l2 x → Wd dC dI cI cB cJ cZ ad stM kcM 115 A x H → va_S A s.heap H locs → lv_has ls 4 [(0, .ref (ad 0)), (1, .int l1), (2, .int l2)] → W p l e R s m args below meth c H locs cells slots Q (F0 m 8 ls []) := by
  intro l1 l2 x H locs ls  hw hW hS hl
  unfold j_Mod_path_8 at hw
  refine lv_aload_n hx hb d_Mod_path_8 rfl (lv_at hl 0 rfl) ?_
  refine w_geti (k := 17) (t := 12) (C := R_Mod) (T := F_Mod) (N := 167) hx hb hT hown hK hW ko_0.1 ko_0.2 (by decide) in_Mod rfl rfl (by decide) rfl fr_Mod_17 w_8_193 d_Mod_path_9 ?_
  refine lv_iconst (v := (-1)) hx hb d_Mod_path_12 (by decide) ?_
  refine lv_icmp_ne (tgt := 126) hx hb d_Mod_path_13 (by decide) (fun c1922 => ?_) (fun c1922 => ?_)
  · have hw := hw.1 c1922
    refine lv_iconst (v := (-1)) hx hb d_Mod_path_126 (by decide) ?_
    exact hret (-1) x H locs 127 ls d_Mod_path_127 hw hW hS
  · have hw := hw.2 c1922
    refine lv_aload_n hx hb d_Mod_path_16 rfl (lv_at hl 0 rfl) ?_
    refine lv_aload_n hx hb d_Mod_path_17 rfl (lv_at hl 0 rfl) ?_
    refine w_geti (k := 16) (t := 12) (C := R_Mod) (T := F_Mod) (N := 167) hx hb hT hown hK hW ko_0.1 ko_0.2 (by decide) in_Mod rfl rfl (by decide) rfl fr_Mod_16 w_8_192 d_Mod_path_18 ?_
    have hF := hW.free hS hA
    refine va_calli (va_runV (C := R_Mod) (As := [.int (fI x 0 16)]) (rest := []) ⟨hx, hb, hml, hown, hT⟩ (k_Mod_wordAt l dC dI cI cB cJ cZ ad H.size (fI x 0 16) x  hw) ⟨callB_of 1 hT (gwt_in w_11_2) rfl rfl rfl (hT _ w_1_15) (hT _ w_10_239) (by decide +kernel) ⟨Nat.le_trans (Nat.le_of_ble_eq_true rfl) hRf, Nat.le_trans (Nat.le_of_ble_eq_true rfl) hRl⟩, hT _ w_11_1, hT _ ws_114⟩ ⟨PW.blind, va_recv hK hW.1 (ci := 12) (q0 := 0) rfl (pic_obj ko_0.1 ko_0.2 (by decide)), PW.at _ hW hK hN⟩ rfl rfl hl.1 rfl (lv_room (Nat.le_of_ble_eq_true rfl)) d_Mod_path_21 ⟨hRc, hRs⟩) hS (fun q _ h => hF q h) hF (fun r1924 x1923 t H locs ht hvm hw hB hz1 hk1 hS => ?_)
    have hW := Wd.back hB ht hF
    clear hB ht hF hz1 hk1 hvm
    refine lv_istore_n (lv' := [(3, .int r1924), (0, .ref (ad 0)), (1, .int l1), (2, .int l2)]) hx hb d_Mod_path_24 rfl hl (by decide) rfl (fun ls hl => ?_)
    refine lv_iload_n hx hb d_Mod_path_25 rfl (lv_at hl 0 rfl) ?_
    refine lv_if_eq (tgt := 43) hx hb d_Mod_path_26 (by decide) (fun c1925 => ?_) (fun c1925 => ?_)
    · have hw := hw.1 c1925
      exact t_Mod_path_43 hx hb hml hown hT hK hN hA hRc hRs hRf hRl hret  l1 l2 r1924 x1923 H locs ls  hw hW hS (lv_sub hl [1, 2, 3, 0] rfl)
    · have hw := hw.2 c1925
      refine lv_aload_n hx hb d_Mod_path_29 rfl (lv_at hl 1 rfl) ?_
      refine lv_aload_n hx hb d_Mod_path_30 rfl (lv_at hl 1 rfl) ?_
      refine w_geti (k := 16) (t := 12) (C := R_Mod) (T := F_Mod) (N := 167) hx hb hT hown hK hW ko_0.1 ko_0.2 (by decide) in_Mod rfl rfl (by decide) rfl fr_Mod_16 w_8_192 d_Mod_path_31 ?_
      have hF := hW.free hS hA
      refine va_calll (va_runV (C := R_Mod) (As := [.int (fI x1923 0 16)]) (rest := []) ⟨hx, hb, hml, hown, hT⟩ (k_Mod_wordOf l dC dI cI cB cJ cZ ad H.size (fI x1923 0 16) x1923  hw) ⟨callB_of 1 hT (gwt_in w_10_238) rfl rfl rfl (hT _ w_1_15) (hT _ w_10_235) (by decide +kernel) ⟨Nat.le_trans (Nat.le_of_ble_eq_true rfl) hRf, Nat.le_trans (Nat.le_of_ble_eq_true rfl) hRl⟩, hT _ w_10_237, hT _ ws_113⟩ ⟨PW.blind, va_recv hK hW.1 (ci := 12) (q0 := 0) rfl (pic_obj ko_0.1 ko_0.2 (by decide)), PW.at _ hW hK hN⟩ rfl rfl hl.1 rfl (lv_room (Nat.le_of_ble_eq_true rfl)) d_Mod_path_34 ⟨hRc, hRs⟩) hS (fun q _ h => hF q h) hF (fun r1927 x1926 t H locs ht hvm hw hB hz1 hk1 hS => ?_)
      have hW := Wd.back hB ht hF
      clear hB ht hF hz1 hk1 hvm
      have hF := hW.free hS hA
      refine va_calli (va_runS (As := [.long r1927]) (rest := []) ⟨hx, hb, hml, hown, hT⟩ (k_Mod_isKept l dC dI cI cB cJ cZ ad H.size r1927 x1926  hw) ⟨callB_of 1 hT (gwt_in w_13_132) rfl rfl rfl (hT _ w_1_15) (hT _ w_13_130) (by decide +kernel) ⟨Nat.le_trans (Nat.le_of_ble_eq_true rfl) hRf, Nat.le_trans (Nat.le_of_ble_eq_true rfl) hRl⟩, hT _ w_13_131⟩ ⟨PW.blind, PW.at _ hW hK hN⟩ rfl rfl hl.1 rfl (lv_room (Nat.le_of_ble_eq_true rfl)) d_Mod_path_37 ⟨hRc, hRs⟩) hS (fun q _ h => hF q h) hF (fun r1929 x1928 t H locs ht hvm hw hB hz1 hk1 hS => ?_)
      have hW := Wd.back hB ht hF
      clear hB ht hF hz1 hk1 hvm
      refine lv_if_eq (tgt := 53) hx hb d_Mod_path_40 (by decide) (fun c1930 => ?_) (fun c1930 => ?_)
      · have hw := hw.1 c1930
        refine lv_iload_n hx hb d_Mod_path_53 rfl (lv_at hl 3 rfl) ?_
        refine lv_if_eq (tgt := 61) hx hb d_Mod_path_54 (by decide) (fun c1931 => ?_) (fun c1931 => ?_)
        · have hw := hw.1 c1931
          refine lv_aload_n hx hb d_Mod_path_61 rfl (lv_at hl 1 rfl) ?_
          refine lv_iconst (v := 1) hx hb d_Mod_path_62 (by decide) ?_
          refine lv_iload_n hx hb d_Mod_path_63 rfl (lv_at hl 2 rfl) ?_
          refine lv_aload_n hx hb d_Mod_path_64 rfl (lv_at hl 1 rfl) ?_
          refine w_getf (q := 2) (k := 2) (t := 12) (C := R_Mod) (T := F_Mod) (N := 167) hx hb hT hown hK hW ko_0.1 ko_0.2 (by decide) in_Mod rfl rfl (by decide) rfl fr_Mod_2 w_8_178 d_Mod_path_65 rfl ?_
          refine lv_aload_n hx hb d_Mod_path_68 rfl (lv_at hl 1 rfl) ?_
          refine w_geti (k := 16) (t := 12) (C := R_Mod) (T := F_Mod) (N := 167) hx hb hT hown hK hW ko_0.1 ko_0.2 (by decide) in_Mod rfl rfl (by decide) rfl fr_Mod_16 w_8_192 d_Mod_path_69 ?_
          refine lv_iload_n hx hb d_Mod_path_72 rfl (lv_at hl 0 rfl) ?_
          have hF := hW.free hS hA
          refine va_calli (va_runV (C := R_Mod) (As := [.int 1, .int l1, .ref (ad 2), .int (fI x1928 0 16), .int r1924]) (rest := []) ⟨hx, hb, hml, hown, hT⟩ (k_Mod_find l dC dI cI cB cJ cZ ad H.size 1 l1 2 (fI x1928 0 16) r1924 x1928 ko_2 hw) ⟨callB_of 5 hT (gwt_in w_11_34) rfl rfl rfl (hT _ w_1_15) (hT _ w_11_31) (by decide +kernel) ⟨Nat.le_trans (Nat.le_of_ble_eq_true rfl) hRf, Nat.le_trans (Nat.le_of_ble_eq_true rfl) hRl⟩, hT _ w_11_33, hT _ ws_118⟩ ⟨PW.blind, va_recv hK hW.1 (ci := 12) (q0 := 0) rfl (pic_obj ko_0.1 ko_0.2 (by decide)), PW.at _ hW hK hN⟩ rfl rfl hl.1 rfl (lv_room (Nat.le_of_ble_eq_true rfl)) d_Mod_path_73 ⟨hRc, hRs⟩) hS (fun q _ h => hF q h) hF (fun r1933 x1932 t H locs ht hvm hw hB hz1 hk1 hS => ?_)
          have hW := Wd.back hB ht hF
          clear hB ht hF hz1 hk1 hvm
          exact t_Mod_path_76 hx hb hml hown hT hK hN hA hRc hRs hRf hRl hret hrec8 l1 l2 r1924 r1933 x1932 H locs ls  hw hW hS (lv_sub hl [1, 2, 3, 0] rfl)
        · have hw := hw.2 c1931
          refine lv_iconst (v := (-1)) hx hb d_Mod_path_57 (by decide) ?_
          refine lv_goto (tgt := 76) hx hb d_Mod_path_58 (by decide) ?_
          exact t_Mod_path_76 hx hb hml hown hT hK hN hA hRc hRs hRf hRl hret hrec8 l1 l2 r1924 (-1) x1928 H locs ls  hw hW hS (lv_sub hl [1, 2, 3, 0] rfl)
      · have hw := hw.2 c1930
        exact t_Mod_path_43 hx hb hml hown hT hK hN hA hRc hRs hRf hRl hret  l1 l2 r1924 x1928 H locs ls  hw hW hS (lv_sub hl [1, 2, 3, 0] rfl)
set_option maxHeartbeats 4000000 in
set_option maxRecDepth 100000 in
theorem tl_Mod_path_8 {p : Program} {l : Launch} {e : Env} {R : Room} {s : State} {m : MethodId} {args : Array Value} {below : List Frame} {meth : Method} {c : Code} {cells slots : Nat} {Q : State → Prop} {dC : Nat → ClassId} {dI : Nat → Nat → Nat} {cI cB cJ cZ : ClassId} {A : Nat → Prop} {ad : Nat → Nat} {post : Int32 → St → Prop} (hx : p.tables.exec = Jvm.exec) (hb : c.code = b_Mod_path) (hml : c.maxLocals = 4) (hown : s.vm.findClass R_Mod = some m.cls) (hT : ∀ w ∈ TG, w.before args s = true) (hK : va_K (dC, dI) CL (TY cI cB cJ cZ) s) (hN : NW s) (hA : ∀ q : Nat, s.heap.size ≤ q → A q) (hRc : cells ≤ R.cells) (hRs : slots ≤ R.slots) (hRf : 3 ≤ R.frames) (hRl : 67 ≤ R.locals) (hret : ∀ (r : Int32) (x : St) (H : Heap) (locs : List Loc) (pc : Nat) (ls : Array Slot), decode b_Mod_path pc = .ok (.ireturn, 1) → post r x → Wd dC dI cI cB cJ cZ ad stM kcM 115 A x H → va_S A s.heap H locs → W p l e R s m args below meth c H locs cells slots Q (F0 m pc ls [.int r]))  : ∀ n : Nat, ∀ (l1 : Int32) (l2 : Int32) (x : St) (H : Heap) (locs : List Loc) (ls : Array Slot), wl_Mod_path_8 post n l1 l2 x → Wd dC dI cI cB cJ cZ ad stM kcM 115 A x H → va_S A s.heap H locs → lv_has ls 4 [(0, .ref (ad 0)), (1, .int l1), (2, .int l2)] → W p l e R s m args below meth c H locs cells slots Q (F0 m 8 ls []) := by
  intro n
  induction n with
  | zero => intro l1 l2 x H locs ls  hw; exact hw.elim
  | succ n ih => intro l1 l2 x H locs ls  hw hW hS hl; exact t_Mod_path_8 hx hb hml hown hT hK hN hA hRc hRs hRf hRl hret  ih l1 l2 x H locs ls  hw hW hS hl
set_option maxRecDepth 100000 in
set_option maxHeartbeats 4000000 in
set_option maxRecDepth 100000 in
theorem t_Mod_path_e {p : Program} {l : Launch} {e : Env} {R : Room} {s : State} {m : MethodId} {args : Array Value} {below : List Frame} {meth : Method} {c : Code} {cells slots : Nat} {Q : State → Prop} {dC : Nat → ClassId} {dI : Nat → Nat → Nat} {cI cB cJ cZ : ClassId} {A : Nat → Prop} {ad : Nat → Nat} {post : Int32 → St → Prop} (hx : p.tables.exec = Jvm.exec) (hb : c.code = b_Mod_path) (hml : c.maxLocals = 4) (hown : s.vm.findClass R_Mod = some m.cls) (hT : ∀ w ∈ TG, w.before args s = true) (hK : va_K (dC, dI) CL (TY cI cB cJ cZ) s) (hN : NW s) (hA : ∀ q : Nat, s.heap.size ≤ q → A q) (hRc : cells ≤ R.cells) (hRs : slots ≤ R.slots) (hRf : 3 ≤ R.frames) (hRl : 67 ≤ R.locals) (hret : ∀ (r : Int32) (x : St) (H : Heap) (locs : List Loc) (pc : Nat) (ls : Array Slot), decode b_Mod_path pc = .ok (.ireturn, 1) → post r x → Wd dC dI cI cB cJ cZ ad stM kcM 115 A x H → va_S A s.heap H locs → W p l e R s m args below meth c H locs cells slots Q (F0 m pc ls [.int r])) : ∀  (x : St) (H : Heap) (locs : List Loc) (ls : Array Slot), wp_Mod_path post  x → Wd dC dI cI cB cJ cZ ad stM kcM 115 A x H → va_S A s.heap H locs → lv_has ls 4 [(0, .ref (ad 0))] → W p l e R s m args below meth c H locs cells slots Q (F0 m 0 ls []) := by
  intro  x H locs ls  hw hW hS hl
  unfold wp_Mod_path at hw
  refine lv_aload_n hx hb d_Mod_path_0 rfl (lv_at hl 0 rfl) ?_
  have hF := hW.free hS hA
  refine va_callv (va_runV (C := R_Mod) (As := []) (rest := []) ⟨hx, hb, hml, hown, hT⟩ (k_Mod_blanks l dC dI cI cB cJ cZ ad H.size  x  hw) ⟨callB_of 0 hT (gwt_in w_10_230) rfl rfl rfl (hT _ w_1_15) (hT _ w_10_227) (by decide +kernel) ⟨Nat.le_trans (Nat.le_of_ble_eq_true rfl) hRf, Nat.le_trans (Nat.le_of_ble_eq_true rfl) hRl⟩, hT _ w_10_229, hT _ ws_111⟩ ⟨PW.blind, va_recv hK hW.1 (ci := 12) (q0 := 0) rfl (pic_obj ko_0.1 ko_0.2 (by decide)), PW.at _ hW hK hN⟩ rfl rfl hl.1 rfl (lv_room (Nat.le_of_ble_eq_true rfl)) d_Mod_path_1 ⟨hRc, hRs⟩) hS (fun q _ h => hF q h) hF (fun  x1934 t H locs ht hvm hw hB hz1 hk1 hS => ?_)
  have hW := Wd.back hB ht hF
  clear hB ht hF hz1 hk1 hvm
  refine lv_iconst (v := (-1)) hx hb d_Mod_path_4 (by decide) ?_
  refine lv_istore_n (lv' := [(1, .int (-1)), (0, .ref (ad 0))]) hx hb d_Mod_path_5 rfl hl (by decide) rfl (fun ls hl => ?_)
  refine lv_iconst (v := 0) hx hb d_Mod_path_6 (by decide) ?_
  refine lv_istore_n (lv' := [(2, .int 0), (1, .int (-1)), (0, .ref (ad 0))]) hx hb d_Mod_path_7 rfl hl (by decide) rfl (fun ls hl => ?_)
  obtain ⟨n, hw⟩ := hw
  exact tl_Mod_path_8 hx hb hml hown hT hK hN hA hRc hRs hRf hRl hret  n (-1) 0 x1934 H locs ls  hw hW hS (lv_sub hl [2, 1, 0] rfl)
set_option maxHeartbeats 4000000 in
set_option maxRecDepth 100000 in
theorem k_Mod_path (l : Launch) (dC : Nat → ClassId) (dI : Nat → Nat → Nat) (cI cB cJ cZ : ClassId) (ad : Nat → Nat) (sz : Nat)  (x : St) {post : Int32 → St → Prop} (hw : wp_Mod_path post  x) : Met l y_Mod_path (wsOf y_Mod_path b_Mod_path 4 (some (.int))) ({ frames := 3, cells := 0, slots := 0, locals := 67 }) (va_Pc [.ref (ad 0)] (PW dC dI cI cB cJ cZ ad stM kcM 115 sz x)) (va_Qi (fun (r : Int32) (y : St) => post r y) (fun y t => Wd dC dI cI cB cJ cZ ad stM kcM 115 (va_A (pic ad stM kcM 115 cI cB cJ cZ x) sz) y t.heap) (va_A (pic ad stM kcM 115 cI cB cJ cZ x) sz)) 0 0 (va_A (pic ad stM kcM 115 cI cB cJ cZ x) sz) := by
  refine Met.ofW (cc := b_Mod_path) (maxL := 4) (ret := some (.int)) (by decide) rfl ?_
  intro p e s m args below meth c s₁ B hml hv
  obtain ⟨rfl, hsz, hW0, hK, hN⟩ := hv
  have hx := B.exec
  have hb := B.bytes
  have hr := B.returns
  have hts := atoms_spec B.pre
  have hT : ∀ w ∈ TG, w.before _ s = true := fun w h => hts w (List.mem_cons_of_mem _ h)
  have hown : s.vm.findClass R_Mod = some m.cls := findClass_of_methodNamed B.named
  have hlocks := B.notSynchronized
  subst hsz
  have hW : Wd dC dI cI cB cJ cZ ad stM kcM 115 (va_A (pic ad stM kcM 115 cI cB cJ cZ x) s.heap.size) x s.heap := ⟨hW0.1, hW0.2.1.self (sz := s.heap.size), hW0.2.2⟩
  generalize hAe : va_A (pic ad stM kcM 115 cI cB cJ cZ x) s.heap.size = A at hW ⊢
  have hA : ∀ q : Nat, s.heap.size ≤ q → A q := fun q h => by rw [← hAe]; exact Or.inr h
  have hS : va_S A s.heap s.heap [] := va_S.rf
  have hl := lv_entry ([.ref (ad 0)]) (n := 4) (Nat.le_of_ble_eq_true rfl)
  rw [lg_entry_eq]
  generalize (lg_sl ([.ref (ad 0)]) ++ List.replicate (4 - (lg_sl ([.ref (ad 0)])).length) Slot.unset).toArray = ls at hl ⊢
  have hl : lv_has ls 4 [(0, .ref (ad 0))] := hl
  exact t_Mod_path_e hx hb hml hown hT hK hN hA (Nat.le_refl 0) (Nat.le_refl 0) (Nat.le_refl 3) (Nat.le_refl 67) (fun r x H locs pc ls hd hp hW hS => W.iret (v := r) hx hb hr (fun t ht hM => ⟨⟨r, x, rfl, hp, Wd.back hW ht.symm (fun _ z => z)⟩, hS.F ht⟩) hS.2.2 hd hlocks)   x _ _ ls  hw hW hS hl
set_option maxRecDepth 100000 in
set_option maxHeartbeats 4000000 in
set_option maxRecDepth 100000 in
theorem t_Mod_isFlat_32 {p : Program} {l : Launch} {e : Env} {R : Room} {s : State} {m : MethodId} {args : Array Value} {below : List Frame} {meth : Method} {c : Code} {cells slots : Nat} {Q : State → Prop} {dC : Nat → ClassId} {dI : Nat → Nat → Nat} {cI cB cJ cZ : ClassId} {A : Nat → Prop} {ad : Nat → Nat} {post : Int32 → St → Prop} {rec4 : Int32 → Int32 → Int32 → St → Prop} (hx : p.tables.exec = Jvm.exec) (hb : c.code = b_Mod_isFlat) (hml : c.maxLocals = 4) (hown : s.vm.findClass R_Mod = some m.cls) (hT : ∀ w ∈ TG, w.before args s = true) (hK : va_K (dC, dI) CL (TY cI cB cJ cZ) s) (hN : NW s) (hA : ∀ q : Nat, s.heap.size ≤ q → A q) (hRc : cells ≤ R.cells) (hRs : slots ≤ R.slots) (hRf : 1 ≤ R.frames) (hRl : 21 ≤ R.locals) (hret : ∀ (r : Int32) (x : St) (H : Heap) (locs : List Loc) (pc : Nat) (ls : Array Slot), decode b_Mod_isFlat pc = .ok (.ireturn, 1) → narrow .boolean (.int r) = .int r → post r x → Wd dC dI cI cB cJ cZ ad stM kcM 115 A x H → va_S A s.heap H locs → W p l e R s m args below meth c H locs cells slots Q (F0 m pc ls [.int r])) (hrec4 : ∀ (l1 : Int32) (l2 : Int32) (l3 : Int32) (x : St) (H : Heap) (locs : List Loc) (ls : Array Slot), rec4 l1 l2 l3 x → Wd dC dI cI cB cJ cZ ad stM kcM 115 A x H → va_S A s.heap H locs → lv_has ls 4 [(0, .ref (ad 0)), (1, .int l1), (2, .int l2), (3, .int l3)] → W p l e R s m args below meth c H locs cells slots Q (F0 m 4 ls [])) : ∀ (l1 : Int32) (l2 : Int32) (l3 : Int32) (s0 : Int32) (x : St) (H : Heap) (locs : List Loc) (ls : Array Slot), j_Mod_isFlat_32 post rec4 l1 l2 l3 s0 x → Wd dC dI cI cB cJ cZ ad stM kcM 115 A x H → va_S A s.heap H locs → lv_has ls 4 [(0, .ref (ad 0)), (1, .int l1), (2, .int l2), (3, .int l3)] → W p l e R s m args below meth c H locs cells slots Q (F0 m 32 ls [.int s0]) := by
  intro l1 l2 l3 s0 x H locs ls  hw hW hS hl
  unfold j_Mod_isFlat_32 at hw
  refine lv_istore_n (lv' := [(2, .int s0), (0, .ref (ad 0)), (1, .int l1), (3, .int l3)]) hx hb d_Mod_isFlat_32 rfl hl (by decide) rfl (fun ls hl => ?_)
  refine lv_aload_n hx hb d_Mod_isFlat_33 rfl (lv_at hl 1 rfl) ?_
  refine w_getf (q := 5) (k := 7) (t := 12) (C := R_Mod) (T := F_Mod) (N := 167) hx hb hT hown hK hW ko_0.1 ko_0.2 (by decide) in_Mod rfl rfl (by decide) rfl fr_Mod_7 w_8_183 d_Mod_isFlat_34 rfl ?_
  refine lv_iconst (v := 1) hx hb d_Mod_isFlat_37 (by decide) ?_
  refine lv_iload_n hx hb d_Mod_isFlat_38 rfl (lv_at hl 3 rfl) ?_
  have hF := hW.free hS hA
  refine va_calli (va_runS (As := [.int 1, .int l3]) (rest := [.ref (ad 5)]) ⟨hx, hb, hml, hown, hT⟩ (k_Mod_place l dC dI cI cB cJ cZ ad H.size 1 l3 x  hw) ⟨callB_of 2 hT (gwt_in w_11_30) rfl rfl rfl (hT _ w_1_15) (hT _ w_11_28) (by decide +kernel) ⟨Nat.le_trans (Nat.le_of_ble_eq_true rfl) hRf, Nat.le_trans (Nat.le_of_ble_eq_true rfl) hRl⟩, hT _ w_11_29⟩ ⟨PW.blind, PW.at _ hW hK hN⟩ rfl rfl hl.1 rfl (lv_room (Nat.le_of_ble_eq_true rfl)) d_Mod_isFlat_39 ⟨hRc, hRs⟩) hS (fun q _ h => hF q h) hF (fun r1936 x1935 t H locs ht hvm hw hB hz1 hk1 hS => ?_)
  have hW := Wd.back hB ht hF
  clear hB ht hF hz1 hk1 hvm
  obtain ⟨hi, hw⟩ := hw
  refine w_iald (o := 5) hx hb hK hW ko_5.1 ko_5.2 hi d_Mod_isFlat_42 ?_
  refine lv_topi (fun v1937 ev1937 => ?_)
  have hw := hw v1937 ev1937
  refine lv_istore_n (lv' := [(3, .int v1937), (2, .int s0), (0, .ref (ad 0)), (1, .int l1)]) hx hb d_Mod_isFlat_43 rfl hl (by decide) rfl (fun ls hl => ?_)
  refine lv_goto (tgt := 4) hx hb d_Mod_isFlat_44 (by decide) ?_
  exact hrec4 l1 s0 v1937 x1935 H locs ls  hw hW hS (lv_sub hl [2, 3, 1, 0] rfl)
set_option maxRecDepth 100000 in
set_option maxHeartbeats 4000000 in
set_option maxRecDepth 100000 in
theorem t_Mod_isFlat_31 {p : Program} {l : Launch} {e : Env} {R : Room} {s : State} {m : MethodId} {args : Array Value} {below : List Frame} {meth : Method} {c : Code} {cells slots : Nat} {Q : State → Prop} {dC : Nat → ClassId} {dI : Nat → Nat → Nat} {cI cB cJ cZ : ClassId} {A : Nat → Prop} {ad : Nat → Nat} {post : Int32 → St → Prop} {rec4 : Int32 → Int32 → Int32 → St → Prop} (hx : p.tables.exec = Jvm.exec) (hb : c.code = b_Mod_isFlat) (hml : c.maxLocals = 4) (hown : s.vm.findClass R_Mod = some m.cls) (hT : ∀ w ∈ TG, w.before args s = true) (hK : va_K (dC, dI) CL (TY cI cB cJ cZ) s) (hN : NW s) (hA : ∀ q : Nat, s.heap.size ≤ q → A q) (hRc : cells ≤ R.cells) (hRs : slots ≤ R.slots) (hRf : 1 ≤ R.frames) (hRl : 21 ≤ R.locals) (hret : ∀ (r : Int32) (x : St) (H : Heap) (locs : List Loc) (pc : Nat) (ls : Array Slot), decode b_Mod_isFlat pc = .ok (.ireturn, 1) → narrow .boolean (.int r) = .int r → post r x → Wd dC dI cI cB cJ cZ ad stM kcM 115 A x H → va_S A s.heap H locs → W p l e R s m args below meth c H locs cells slots Q (F0 m pc ls [.int r])) (hrec4 : ∀ (l1 : Int32) (l2 : Int32) (l3 : Int32) (x : St) (H : Heap) (locs : List Loc) (ls : Array Slot), rec4 l1 l2 l3 x → Wd dC dI cI cB cJ cZ ad stM kcM 115 A x H → va_S A s.heap H locs → lv_has ls 4 [(0, .ref (ad 0)), (1, .int l1), (2, .int l2), (3, .int l3)] → W p l e R s m args below meth c H locs cells slots Q (F0 m 4 ls [])) : ∀ (l1 : Int32) (l2 : Int32) (l3 : Int32) (x : St) (H : Heap) (locs : List Loc) (ls : Array Slot), j_Mod_isFlat_31 post rec4 l1 l2 l3 x → Wd dC dI cI cB cJ cZ ad stM kcM 115 A x H → va_S A s.heap H locs → lv_has ls 4 [(0, .ref (ad 0)), (1, .int l1), (2, .int l2), (3, .int l3)] → W p l e R s m args below meth c H locs cells slots Q (F0 m 31 ls []) := by
  intro l1 l2 l3 x H locs ls  hw hW hS hl
  unfold j_Mod_isFlat_31 at hw
  refine lv_iconst (v := 0) hx hb d_Mod_isFlat_31 (by decide) ?_
  exact t_Mod_isFlat_32 hx hb hml hown hT hK hN hA hRc hRs hRf hRl hret hrec4 l1 l2 l3 0 x H locs ls  hw hW hS (lv_sub hl [0, 1, 2, 3] rfl)
set_option maxRecDepth 100000 in
set_option maxHeartbeats 4000000 in
set_option maxRecDepth 100000 in
theorem t_Mod_isFlat_4 {p : Program} {l : Launch} {e : Env} {R : Room} {s : State} {m : MethodId} {args : Array Value} {below : List Frame} {meth : Method} {c : Code} {cells slots : Nat} {Q : State → Prop} {dC : Nat → ClassId} {dI : Nat → Nat → Nat} {cI cB cJ cZ : ClassId} {A : Nat → Prop} {ad : Nat → Nat} {post : Int32 → St → Prop} {rec4 : Int32 → Int32 → Int32 → St → Prop} (hx : p.tables.exec = Jvm.exec) (hb : c.code = b_Mod_isFlat) (hml : c.maxLocals = 4) (hown : s.vm.findClass R_Mod = some m.cls) (hT : ∀ w ∈ TG, w.before args s = true) (hK : va_K (dC, dI) CL (TY cI cB cJ cZ) s) (hN : NW s) (hA : ∀ q : Nat, s.heap.size ≤ q → A q) (hRc : cells ≤ R.cells) (hRs : slots ≤ R.slots) (hRf : 1 ≤ R.frames) (hRl : 21 ≤ R.locals) (hret : ∀ (r : Int32) (x : St) (H : Heap) (locs : List Loc) (pc : Nat) (ls : Array Slot), decode b_Mod_isFlat pc = .ok (.ireturn, 1) → narrow .boolean (.int r) = .int r → post r x → Wd dC dI cI cB cJ cZ ad stM kcM 115 A x H → va_S A s.heap H locs → W p l e R s m args below meth c H locs cells slots Q (F0 m pc ls [.int r])) (hrec4 : ∀ (l1 : Int32) (l2 : Int32) (l3 : Int32) (x : St) (H : Heap) (locs : List Loc) (ls : Array Slot), rec4 l1 l2 l3 x → Wd dC dI cI cB cJ cZ ad stM kcM 115 A x H → va_S A s.heap H locs → lv_has ls 4 [(0, .ref (ad 0)), (1, .int l1), (2, .int l2), (3, .int l3)] → W p l e R s m args below meth c H locs cells slots Q (F0 m 4 ls [])) : ∀ (l1 : Int32) (l2 : Int32) (l3 : Int32) (x : St) (H : Heap) (locs : List Loc) (ls : Array Slot), j_Mod_isFlat_4 post rec4 l1 l2 l3 x → Wd dC dI cI cB cJ cZ ad stM kcM 115 A x H → va_S A s.heap H locs → lv_has ls 4 [(0, .ref (ad 0)), (1, .int l1), (2, .int l2), (3, .int l3)] → W p l e R s m args below meth c H locs cells slots Q (F0 m 4 ls []) := by
  intro l1 l2 l3 x H locs ls  hw hW hS hl
  unfold j_Mod_isFlat_4 at hw
  refine lv_iload_n hx hb d_Mod_isFlat_4 rfl (lv_at hl 3 rfl) ?_
  refine lv_iconst (v := (-1)) hx hb d_Mod_isFlat_5 (by decide) ?_
  refine lv_icmp_eq (tgt := 47) hx hb d_Mod_isFlat_6 (by decide) (fun c1938 => ?_) (fun c1938 => ?_)
  · have hw := hw.1 c1938
    refine lv_iload_n hx hb d_Mod_isFlat_47 rfl (lv_at hl 2 rfl) ?_
    exact hret l2 x H locs 48 ls d_Mod_isFlat_48 hw.1 hw.2 hW hS
  · have hw := hw.2 c1938
    refine lv_iload_n hx hb d_Mod_isFlat_9 rfl (lv_at hl 2 rfl) ?_
    refine lv_if_eq (tgt := 31) hx hb d_Mod_isFlat_10 (by decide) (fun c1939 => ?_) (fun c1939 => ?_)
    · have hw := hw.1 c1939
      exact t_Mod_isFlat_31 hx hb hml hown hT hK hN hA hRc hRs hRf hRl hret hrec4 l1 l2 l3 x H locs ls  hw hW hS (lv_sub hl [0, 1, 2, 3] rfl)
    · have hw := hw.2 c1939
      refine lv_aload_n hx hb d_Mod_isFlat_13 rfl (lv_at hl 0 rfl) ?_
      refine w_getf (q := 3) (k := 5) (t := 12) (C := R_Mod) (T := F_Mod) (N := 167) hx hb hT hown hK hW ko_0.1 ko_0.2 (by decide) in_Mod rfl rfl (by decide) rfl fr_Mod_5 w_8_181 d_Mod_isFlat_14 rfl ?_
      refine lv_iconst (v := 1) hx hb d_Mod_isFlat_17 (by decide) ?_
      refine lv_iload_n hx hb d_Mod_isFlat_18 rfl (lv_at hl 3 rfl) ?_
      have hF := hW.free hS hA
      refine va_calli (va_runS (As := [.int 1, .int l3]) (rest := [.ref (ad 3)]) ⟨hx, hb, hml, hown, hT⟩ (k_Mod_place l dC dI cI cB cJ cZ ad H.size 1 l3 x  hw) ⟨callB_of 2 hT (gwt_in w_11_30) rfl rfl rfl (hT _ w_1_15) (hT _ w_11_28) (by decide +kernel) ⟨Nat.le_trans (Nat.le_of_ble_eq_true rfl) hRf, Nat.le_trans (Nat.le_of_ble_eq_true rfl) hRl⟩, hT _ w_11_29⟩ ⟨PW.blind, PW.at _ hW hK hN⟩ rfl rfl hl.1 rfl (lv_room (Nat.le_of_ble_eq_true rfl)) d_Mod_isFlat_19 ⟨hRc, hRs⟩) hS (fun q _ h => hF q h) hF (fun r1941 x1940 t H locs ht hvm hw hB hz1 hk1 hS => ?_)
      have hW := Wd.back hB ht hF
      clear hB ht hF hz1 hk1 hvm
      obtain ⟨hi, hw⟩ := hw
      refine w_iald (o := 3) hx hb hK hW ko_3.1 ko_3.2 hi d_Mod_isFlat_22 ?_
      refine lv_iconst (v := 2) hx hb d_Mod_isFlat_23 (by decide) ?_
      refine lv_icmp_ge (tgt := 31) hx hb d_Mod_isFlat_24 (by decide) (fun c1942 => ?_) (fun c1942 => ?_)
      · have hw := hw.1 c1942
        exact t_Mod_isFlat_31 hx hb hml hown hT hK hN hA hRc hRs hRf hRl hret hrec4 l1 l2 l3 x1940 H locs ls  hw hW hS (lv_sub hl [0, 1, 2, 3] rfl)
      · have hw := hw.2 c1942
        refine lv_iconst (v := 1) hx hb d_Mod_isFlat_27 (by decide) ?_
        refine lv_goto (tgt := 32) hx hb d_Mod_isFlat_28 (by decide) ?_
        exact t_Mod_isFlat_32 hx hb hml hown hT hK hN hA hRc hRs hRf hRl hret hrec4 l1 l2 l3 1 x1940 H locs ls  hw hW hS (lv_sub hl [0, 1, 2, 3] rfl)
set_option maxHeartbeats 4000000 in
set_option maxRecDepth 100000 in
theorem tl_Mod_isFlat_4 {p : Program} {l : Launch} {e : Env} {R : Room} {s : State} {m : MethodId} {args : Array Value} {below : List Frame} {meth : Method} {c : Code} {cells slots : Nat} {Q : State → Prop} {dC : Nat → ClassId} {dI : Nat → Nat → Nat} {cI cB cJ cZ : ClassId} {A : Nat → Prop} {ad : Nat → Nat} {post : Int32 → St → Prop} (hx : p.tables.exec = Jvm.exec) (hb : c.code = b_Mod_isFlat) (hml : c.maxLocals = 4) (hown : s.vm.findClass R_Mod = some m.cls) (hT : ∀ w ∈ TG, w.before args s = true) (hK : va_K (dC, dI) CL (TY cI cB cJ cZ) s) (hN : NW s) (hA : ∀ q : Nat, s.heap.size ≤ q → A q) (hRc : cells ≤ R.cells) (hRs : slots ≤ R.slots) (hRf : 1 ≤ R.frames) (hRl : 21 ≤ R.locals) (hret : ∀ (r : Int32) (x : St) (H : Heap) (locs : List Loc) (pc : Nat) (ls : Array Slot), decode b_Mod_isFlat pc = .ok (.ireturn, 1) → narrow .boolean (.int r) = .int r → post r x → Wd dC dI cI cB cJ cZ ad stM kcM 115 A x H → va_S A s.heap H locs → W p l e R s m args below meth c H locs cells slots Q (F0 m pc ls [.int r]))  : ∀ n : Nat, ∀ (l1 : Int32) (l2 : Int32) (l3 : Int32) (x : St) (H : Heap) (locs : List Loc) (ls : Array Slot), wl_Mod_isFlat_4 post n l1 l2 l3 x → Wd dC dI cI cB cJ cZ ad stM kcM 115 A x H → va_S A s.heap H locs → lv_has ls 4 [(0, .ref (ad 0)), (1, .int l1), (2, .int l2), (3, .int l3)] → W p l e R s m args below meth c H locs cells slots Q (F0 m 4 ls []) := by
  intro n
  induction n with
  | zero => intro l1 l2 l3 x H locs ls  hw; exact hw.elim
  | succ n ih => intro l1 l2 l3 x H locs ls  hw hW hS hl; exact t_Mod_isFlat_4 hx hb hml hown hT hK hN hA hRc hRs hRf hRl hret  ih l1 l2 l3 x H locs ls  hw hW hS hl
set_option maxRecDepth 100000 in
set_option maxHeartbeats 4000000 in
set_option maxRecDepth 100000 in
theorem t_Mod_isFlat_e {p : Program} {l : Launch} {e : Env} {R : Room} {s : State} {m : MethodId} {args : Array Value} {below : List Frame} {meth : Method} {c : Code} {cells slots : Nat} {Q : State → Prop} {dC : Nat → ClassId} {dI : Nat → Nat → Nat} {cI cB cJ cZ : ClassId} {A : Nat → Prop} {ad : Nat → Nat} {post : Int32 → St → Prop} (hx : p.tables.exec = Jvm.exec) (hb : c.code = b_Mod_isFlat) (hml : c.maxLocals = 4) (hown : s.vm.findClass R_Mod = some m.cls) (hT : ∀ w ∈ TG, w.before args s = true) (hK : va_K (dC, dI) CL (TY cI cB cJ cZ) s) (hN : NW s) (hA : ∀ q : Nat, s.heap.size ≤ q → A q) (hRc : cells ≤ R.cells) (hRs : slots ≤ R.slots) (hRf : 1 ≤ R.frames) (hRl : 21 ≤ R.locals) (hret : ∀ (r : Int32) (x : St) (H : Heap) (locs : List Loc) (pc : Nat) (ls : Array Slot), decode b_Mod_isFlat pc = .ok (.ireturn, 1) → narrow .boolean (.int r) = .int r → post r x → Wd dC dI cI cB cJ cZ ad stM kcM 115 A x H → va_S A s.heap H locs → W p l e R s m args below meth c H locs cells slots Q (F0 m pc ls [.int r])) : ∀ (l1 : Int32) (x : St) (H : Heap) (locs : List Loc) (ls : Array Slot), wp_Mod_isFlat post l1 x → Wd dC dI cI cB cJ cZ ad stM kcM 115 A x H → va_S A s.heap H locs → lv_has ls 4 [(0, .ref (ad 0)), (1, .int l1)] → W p l e R s m args below meth c H locs cells slots Q (F0 m 0 ls []) := by
  intro l1 x H locs ls  hw hW hS hl
  unfold wp_Mod_isFlat at hw
  refine lv_iconst (v := 1) hx hb d_Mod_isFlat_0 (by decide) ?_
  refine lv_istore_n (lv' := [(2, .int 1), (0, .ref (ad 0)), (1, .int l1)]) hx hb d_Mod_isFlat_1 rfl hl (by decide) rfl (fun ls hl => ?_)
  refine lv_iload_n hx hb d_Mod_isFlat_2 rfl (lv_at hl 2 rfl) ?_
  refine lv_istore_n (lv' := [(3, .int l1), (2, .int 1), (0, .ref (ad 0)), (1, .int l1)]) hx hb d_Mod_isFlat_3 rfl hl (by decide) rfl (fun ls hl => ?_)
  obtain ⟨n, hw⟩ := hw
  exact tl_Mod_isFlat_4 hx hb hml hown hT hK hN hA hRc hRs hRf hRl hret  n l1 1 l1 x H locs ls  hw hW hS (lv_sub hl [2, 3, 1, 0] rfl)
set_option maxHeartbeats 4000000 in
set_option maxRecDepth 100000 in
theorem k_Mod_isFlat (l : Launch) (dC : Nat → ClassId) (dI : Nat → Nat → Nat) (cI cB cJ cZ : ClassId) (ad : Nat → Nat) (sz : Nat) (l1 : Int32) (x : St) {post : Int32 → St → Prop} (hw : wp_Mod_isFlat post l1 x) : Met l y_Mod_isFlat (wsOf y_Mod_isFlat b_Mod_isFlat 4 (some (.boolean))) ({ frames := 1, cells := 0, slots := 0, locals := 21 }) (va_Pc [.ref (ad 0), .int l1] (PW dC dI cI cB cJ cZ ad stM kcM 115 sz x)) (va_Qi (fun (r : Int32) (y : St) => post r y) (fun y t => Wd dC dI cI cB cJ cZ ad stM kcM 115 (va_A (pic ad stM kcM 115 cI cB cJ cZ x) sz) y t.heap) (va_A (pic ad stM kcM 115 cI cB cJ cZ x) sz)) 0 0 (va_A (pic ad stM kcM 115 cI cB cJ cZ x) sz) := by
  refine Met.ofW (cc := b_Mod_isFlat) (maxL := 4) (ret := some (.boolean)) (by decide) rfl ?_
  intro p e s m args below meth c s₁ B hml hv
  obtain ⟨rfl, hsz, hW0, hK, hN⟩ := hv
  have hx := B.exec
  have hb := B.bytes
  have hr := B.returns
  have hts := atoms_spec B.pre
  have hT : ∀ w ∈ TG, w.before _ s = true := fun w h => hts w (List.mem_cons_of_mem _ h)
  have hown : s.vm.findClass R_Mod = some m.cls := findClass_of_methodNamed B.named
  have hlocks := B.notSynchronized
  subst hsz
  have hW : Wd dC dI cI cB cJ cZ ad stM kcM 115 (va_A (pic ad stM kcM 115 cI cB cJ cZ x) s.heap.size) x s.heap := ⟨hW0.1, hW0.2.1.self (sz := s.heap.size), hW0.2.2⟩
  generalize hAe : va_A (pic ad stM kcM 115 cI cB cJ cZ x) s.heap.size = A at hW ⊢
  have hA : ∀ q : Nat, s.heap.size ≤ q → A q := fun q h => by rw [← hAe]; exact Or.inr h
  have hS : va_S A s.heap s.heap [] := va_S.rf
  have hl := lv_entry ([.ref (ad 0), .int l1]) (n := 4) (Nat.le_of_ble_eq_true rfl)
  rw [lg_entry_eq]
  generalize (lg_sl ([.ref (ad 0), .int l1]) ++ List.replicate (4 - (lg_sl ([.ref (ad 0), .int l1])).length) Slot.unset).toArray = ls at hl ⊢
  have hl : lv_has ls 4 [(0, .ref (ad 0)), (1, .int l1)] := hl
  exact t_Mod_isFlat_e hx hb hml hown hT hK hN hA (Nat.le_refl 0) (Nat.le_refl 0) (Nat.le_refl 1) (Nat.le_refl 21) (fun r x H locs pc ls hd hz hp hW hS => W.zret (v := r) (ty := .boolean) hx hb hr hz (fun t ht hM => ⟨⟨r, x, rfl, hp, Wd.back hW ht.symm (fun _ z => z)⟩, hS.F ht⟩) hS.2.2 hd hlocks)  l1 x _ _ ls  hw hW hS hl
set_option maxRecDepth 100000 in
set_option maxHeartbeats 4000000 in
set_option maxRecDepth 100000 in
theorem t_Mod_flatColumn_54 {p : Program} {l : Launch} {e : Env} {R : Room} {s : State} {m : MethodId} {args : Array Value} {below : List Frame} {meth : Method} {c : Code} {cells slots : Nat} {Q : State → Prop} {dC : Nat → ClassId} {dI : Nat → Nat → Nat} {cI cB cJ cZ : ClassId} {A : Nat → Prop} {ad : Nat → Nat} {post : Int32 → St → Prop} (hx : p.tables.exec = Jvm.exec) (hb : c.code = b_Mod_flatColumn) (hml : c.maxLocals = 3) (hown : s.vm.findClass R_Mod = some m.cls) (hT : ∀ w ∈ TG, w.before args s = true) (hK : va_K (dC, dI) CL (TY cI cB cJ cZ) s) (hN : NW s) (hA : ∀ q : Nat, s.heap.size ≤ q → A q) (hRc : cells ≤ R.cells) (hRs : slots ≤ R.slots) (hRf : 4 ≤ R.frames) (hRl : 90 ≤ R.locals) (hret : ∀ (r : Int32) (x : St) (H : Heap) (locs : List Loc) (pc : Nat) (ls : Array Slot), decode b_Mod_flatColumn pc = .ok (.ireturn, 1) → post r x → Wd dC dI cI cB cJ cZ ad stM kcM 115 A x H → va_S A s.heap H locs → W p l e R s m args below meth c H locs cells slots Q (F0 m pc ls [.int r]))  : ∀ (l1 : Int32) (l2 : Int32) (x : St) (H : Heap) (locs : List Loc) (ls : Array Slot), j_Mod_flatColumn_54 post l1 l2 x → Wd dC dI cI cB cJ cZ ad stM kcM 115 A x H → va_S A s.heap H locs → lv_has ls 3 [(0, .ref (ad 0)), (1, .int l1), (2, .int l2)] → W p l e R s m args below meth c H locs cells slots Q (F0 m 54 ls []) := by
  intro l1 l2 x H locs ls  hw hW hS hl
  unfold j_Mod_flatColumn_54 at hw
  refine lv_iload_n hx hb d_Mod_flatColumn_54 rfl (lv_at hl 2 rfl) ?_
  exact hret l2 x H locs 55 ls d_Mod_flatColumn_55 hw hW hS
set_option maxRecDepth 100000 in
set_option maxHeartbeats 4000000 in
set_option maxRecDepth 100000 in
theorem t_Mod_flatColumn_49 {p : Program} {l : Launch} {e : Env} {R : Room} {s : State} {m : MethodId} {args : Array Value} {below : List Frame} {meth : Method} {c : Code} {cells slots : Nat} {Q : State → Prop} {dC : Nat → ClassId} {dI : Nat → Nat → Nat} {cI cB cJ cZ : ClassId} {A : Nat → Prop} {ad : Nat → Nat} {post : Int32 → St → Prop} (hx : p.tables.exec = Jvm.exec) (hb : c.code = b_Mod_flatColumn) (hml : c.maxLocals = 3) (hown : s.vm.findClass R_Mod = some m.cls) (hT : ∀ w ∈ TG, w.before args s = true) (hK : va_K (dC, dI) CL (TY cI cB cJ cZ) s) (hN : NW s) (hA : ∀ q : Nat, s.heap.size ≤ q → A q) (hRc : cells ≤ R.cells) (hRs : slots ≤ R.slots) (hRf : 4 ≤ R.frames) (hRl : 90 ≤ R.locals) (hret : ∀ (r : Int32) (x : St) (H : Heap) (locs : List Loc) (pc : Nat) (ls : Array Slot), decode b_Mod_flatColumn pc = .ok (.ireturn, 1) → post r x → Wd dC dI cI cB cJ cZ ad stM kcM 115 A x H → va_S A s.heap H locs → W p l e R s m args below meth c H locs cells slots Q (F0 m pc ls [.int r]))  : ∀ (l1 : Int32) (l2 : Int32) (x : St) (H : Heap) (locs : List Loc) (ls : Array Slot), j_Mod_flatColumn_49 post l1 l2 x → Wd dC dI cI cB cJ cZ ad stM kcM 115 A x H → va_S A s.heap H locs → lv_has ls 3 [(0, .ref (ad 0)), (1, .int l1), (2, .int l2)] → W p l e R s m args below meth c H locs cells slots Q (F0 m 49 ls []) := by
  intro l1 l2 x H locs ls  hw hW hS hl
  unfold j_Mod_flatColumn_49 at hw
  refine lv_aload_n hx hb d_Mod_flatColumn_49 rfl (lv_at hl 0 rfl) ?_
  refine lv_iload_n hx hb d_Mod_flatColumn_50 rfl (lv_at hl 1 rfl) ?_
  have hF := hW.free hS hA
  refine va_callv (va_runV (C := R_Mod) (As := [.int l1]) (rest := []) ⟨hx, hb, hml, hown, hT⟩ (k_Mod_fail l dC dI cI cB cJ cZ ad H.size l1 x  hw) ⟨callB_of 1 hT (gwt_in w_11_14) rfl rfl rfl (hT _ w_1_15) (hT _ w_11_11) (by decide +kernel) ⟨Nat.le_trans (Nat.le_of_ble_eq_true rfl) hRf, Nat.le_trans (Nat.le_of_ble_eq_true rfl) hRl⟩, hT _ w_11_13, hT _ ws_115⟩ ⟨PW.blind, va_recv hK hW.1 (ci := 12) (q0 := 0) rfl (pic_obj ko_0.1 ko_0.2 (by decide)), PW.at _ hW hK hN⟩ rfl rfl hl.1 rfl (lv_room (Nat.le_of_ble_eq_true rfl)) d_Mod_flatColumn_51 ⟨hRc, hRs⟩) hS (fun q _ h => hF q h) hF (fun  x1943 t H locs ht hvm hw hB hz1 hk1 hS => ?_)
  have hW := Wd.back hB ht hF
  clear hB ht hF hz1 hk1 hvm
  exact t_Mod_flatColumn_54 hx hb hml hown hT hK hN hA hRc hRs hRf hRl hret  l1 l2 x1943 H locs ls  hw hW hS (lv_sub hl [0, 1, 2] rfl)
set_option maxRecDepth 100000 in
set_option maxHeartbeats 4000000 in
set_option maxRecDepth 100000 in
theorem t_Mod_flatColumn_e {p : Program} {l : Launch} {e : Env} {R : Room} {s : State} {m : MethodId} {args : Array Value} {below : List Frame} {meth : Method} {c : Code} {cells slots : Nat} {Q : State → Prop} {dC : Nat → ClassId} {dI : Nat → Nat → Nat} {cI cB cJ cZ : ClassId} {A : Nat → Prop} {ad : Nat → Nat} {post : Int32 → St → Prop} (hx : p.tables.exec = Jvm.exec) (hb : c.code = b_Mod_flatColumn) (hml : c.maxLocals = 3) (hown : s.vm.findClass R_Mod = some m.cls) (hT : ∀ w ∈ TG, w.before args s = true) (hK : va_K (dC, dI) CL (TY cI cB cJ cZ) s) (hN : NW s) (hA : ∀ q : Nat, s.heap.size ≤ q → A q) (hRc : cells ≤ R.cells) (hRs : slots ≤ R.slots) (hRf : 4 ≤ R.frames) (hRl : 90 ≤ R.locals) (hret : ∀ (r : Int32) (x : St) (H : Heap) (locs : List Loc) (pc : Nat) (ls : Array Slot), decode b_Mod_flatColumn pc = .ok (.ireturn, 1) → post r x → Wd dC dI cI cB cJ cZ ad stM kcM 115 A x H → va_S A s.heap H locs → W p l e R s m args below meth c H locs cells slots Q (F0 m pc ls [.int r])) : ∀  (x : St) (H : Heap) (locs : List Loc) (ls : Array Slot), wp_Mod_flatColumn post  x → Wd dC dI cI cB cJ cZ ad stM kcM 115 A x H → va_S A s.heap H locs → lv_has ls 3 [(0, .ref (ad 0))] → W p l e R s m args below meth c H locs cells slots Q (F0 m 0 ls []) := by
  intro  x H locs ls  hw hW hS hl
  unfold wp_Mod_flatColumn at hw
  refine lv_aload_n hx hb d_Mod_flatColumn_0 rfl (lv_at hl 0 rfl) ?_
  have hF := hW.free hS hA
  refine va_callv (va_runV (C := R_Mod) (As := []) (rest := []) ⟨hx, hb, hml, hown, hT⟩ (k_Mod_blanks l dC dI cI cB cJ cZ ad H.size  x  hw) ⟨callB_of 0 hT (gwt_in w_10_230) rfl rfl rfl (hT _ w_1_15) (hT _ w_10_227) (by decide +kernel) ⟨Nat.le_trans (Nat.le_of_ble_eq_true rfl) hRf, Nat.le_trans (Nat.le_of_ble_eq_true rfl) hRl⟩, hT _ w_10_229, hT _ ws_111⟩ ⟨PW.blind, va_recv hK hW.1 (ci := 12) (q0 := 0) rfl (pic_obj ko_0.1 ko_0.2 (by decide)), PW.at _ hW hK hN⟩ rfl rfl hl.1 rfl (lv_room (Nat.le_of_ble_eq_true rfl)) d_Mod_flatColumn_1 ⟨hRc, hRs⟩) hS (fun q _ h => hF q h) hF (fun  x1944 t H locs ht hvm hw hB hz1 hk1 hS => ?_)
  have hW := Wd.back hB ht hF
  clear hB ht hF hz1 hk1 hvm
  refine lv_aload_n hx hb d_Mod_flatColumn_4 rfl (lv_at hl 0 rfl) ?_
  refine w_geti (k := 16) (t := 12) (C := R_Mod) (T := F_Mod) (N := 167) hx hb hT hown hK hW ko_0.1 ko_0.2 (by decide) in_Mod rfl rfl (by decide) rfl fr_Mod_16 w_8_192 d_Mod_flatColumn_5 ?_
  refine lv_topi (fun v1945 ev1945 => ?_)
  have hw := hw v1945 ev1945
  refine lv_istore_n (lv' := [(1, .int v1945), (0, .ref (ad 0))]) hx hb d_Mod_flatColumn_8 rfl hl (by decide) rfl (fun ls hl => ?_)
  refine lv_aload_n hx hb d_Mod_flatColumn_9 rfl (lv_at hl 1 rfl) ?_
  have hF := hW.free hS hA
  refine va_calli (va_runV (C := R_Mod) (As := []) (rest := []) ⟨hx, hb, hml, hown, hT⟩ (k_Mod_path l dC dI cI cB cJ cZ ad H.size  x1944  hw) ⟨callB_of 0 hT (gwt_in w_13_129) rfl rfl rfl (hT _ w_1_15) (hT _ w_13_126) (by decide +kernel) ⟨Nat.le_trans (Nat.le_of_ble_eq_true rfl) hRf, Nat.le_trans (Nat.le_of_ble_eq_true rfl) hRl⟩, hT _ w_13_128, hT _ ws_238⟩ ⟨PW.blind, va_recv hK hW.1 (ci := 12) (q0 := 0) rfl (pic_obj ko_0.1 ko_0.2 (by decide)), PW.at _ hW hK hN⟩ rfl rfl hl.1 rfl (lv_room (Nat.le_of_ble_eq_true rfl)) d_Mod_flatColumn_10 ⟨hRc, hRs⟩) hS (fun q _ h => hF q h) hF (fun r1947 x1946 t H locs ht hvm hw hB hz1 hk1 hS => ?_)
  have hW := Wd.back hB ht hF
  clear hB ht hF hz1 hk1 hvm
  refine lv_istore_n (lv' := [(2, .int r1947), (1, .int v1945), (0, .ref (ad 0))]) hx hb d_Mod_flatColumn_13 rfl hl (by decide) rfl (fun ls hl => ?_)
  refine lv_aload_n hx hb d_Mod_flatColumn_14 rfl (lv_at hl 2 rfl) ?_
  refine w_geti (k := 17) (t := 12) (C := R_Mod) (T := F_Mod) (N := 167) hx hb hT hown hK hW ko_0.1 ko_0.2 (by decide) in_Mod rfl rfl (by decide) rfl fr_Mod_17 w_8_193 d_Mod_flatColumn_15 ?_
  refine lv_iconst (v := (-1)) hx hb d_Mod_flatColumn_18 (by decide) ?_
  refine lv_icmp_ne (tgt := 54) hx hb d_Mod_flatColumn_19 (by decide) (fun c1948 => ?_) (fun c1948 => ?_)
  · have hw := hw.1 c1948
    exact t_Mod_flatColumn_54 hx hb hml hown hT hK hN hA hRc hRs hRf hRl hret  v1945 r1947 x1946 H locs ls  hw hW hS (lv_sub hl [2, 1, 0] rfl)
  · have hw := hw.2 c1948
    refine lv_iload_n hx hb d_Mod_flatColumn_22 rfl (lv_at hl 0 rfl) ?_
    refine lv_iconst (v := (-1)) hx hb d_Mod_flatColumn_23 (by decide) ?_
    refine lv_icmp_eq (tgt := 49) hx hb d_Mod_flatColumn_24 (by decide) (fun c1949 => ?_) (fun c1949 => ?_)
    · have hw := hw.1 c1949
      exact t_Mod_flatColumn_49 hx hb hml hown hT hK hN hA hRc hRs hRf hRl hret  v1945 r1947 x1946 H locs ls  hw hW hS (lv_sub hl [2, 1, 0] rfl)
    · have hw := hw.2 c1949
      refine lv_aload_n hx hb d_Mod_flatColumn_27 rfl (lv_at hl 2 rfl) ?_
      refine w_getf (q := 4) (k := 6) (t := 12) (C := R_Mod) (T := F_Mod) (N := 167) hx hb hT hown hK hW ko_0.1 ko_0.2 (by decide) in_Mod rfl rfl (by decide) rfl fr_Mod_6 w_8_182 d_Mod_flatColumn_28 rfl ?_
      refine lv_iconst (v := 1) hx hb d_Mod_flatColumn_31 (by decide) ?_
      refine lv_iload_n hx hb d_Mod_flatColumn_32 rfl (lv_at hl 0 rfl) ?_
      have hF := hW.free hS hA
      refine va_calli (va_runS (As := [.int 1, .int r1947]) (rest := [.ref (ad 4)]) ⟨hx, hb, hml, hown, hT⟩ (k_Mod_place l dC dI cI cB cJ cZ ad H.size 1 r1947 x1946  hw) ⟨callB_of 2 hT (gwt_in w_11_30) rfl rfl rfl (hT _ w_1_15) (hT _ w_11_28) (by decide +kernel) ⟨Nat.le_trans (Nat.le_of_ble_eq_true rfl) hRf, Nat.le_trans (Nat.le_of_ble_eq_true rfl) hRl⟩, hT _ w_11_29⟩ ⟨PW.blind, PW.at _ hW hK hN⟩ rfl rfl hl.1 rfl (lv_room (Nat.le_of_ble_eq_true rfl)) d_Mod_flatColumn_33 ⟨hRc, hRs⟩) hS (fun q _ h => hF q h) hF (fun r1951 x1950 t H locs ht hvm hw hB hz1 hk1 hS => ?_)
      have hW := Wd.back hB ht hF
      clear hB ht hF hz1 hk1 hvm
      obtain ⟨hi, hw⟩ := hw
      refine w_iald (o := 4) hx hb hK hW ko_4.1 ko_4.2 hi d_Mod_flatColumn_36 ?_
      refine lv_iconst (v := 4) hx hb d_Mod_flatColumn_37 (by decide) ?_
      refine lv_icmp_eq (tgt := 49) hx hb d_Mod_flatColumn_38 (by decide) (fun c1952 => ?_) (fun c1952 => ?_)
      · have hw := hw.1 c1952
        exact t_Mod_flatColumn_49 hx hb hml hown hT hK hN hA hRc hRs hRf hRl hret  v1945 r1947 x1950 H locs ls  hw hW hS (lv_sub hl [2, 1, 0] rfl)
      · have hw := hw.2 c1952
        refine lv_aload_n hx hb d_Mod_flatColumn_41 rfl (lv_at hl 2 rfl) ?_
        refine lv_iload_n hx hb d_Mod_flatColumn_42 rfl (lv_at hl 0 rfl) ?_
        have hF := hW.free hS hA
        refine va_calli (va_runV (C := R_Mod) (As := [.int r1947]) (rest := []) ⟨hx, hb, hml, hown, hT⟩ (k_Mod_isFlat l dC dI cI cB cJ cZ ad H.size r1947 x1950  hw) ⟨callB_of 1 hT (gwt_in w_13_148) rfl rfl rfl (hT _ w_1_15) (hT _ w_13_145) (by decide +kernel) ⟨Nat.le_trans (Nat.le_of_ble_eq_true rfl) hRf, Nat.le_trans (Nat.le_of_ble_eq_true rfl) hRl⟩, hT _ w_13_147, hT _ ws_240⟩ ⟨PW.blind, va_recv hK hW.1 (ci := 12) (q0 := 0) rfl (pic_obj ko_0.1 ko_0.2 (by decide)), PW.at _ hW hK hN⟩ rfl rfl hl.1 rfl (lv_room (Nat.le_of_ble_eq_true rfl)) d_Mod_flatColumn_43 ⟨hRc, hRs⟩) hS (fun q _ h => hF q h) hF (fun r1954 x1953 t H locs ht hvm hw hB hz1 hk1 hS => ?_)
        have hW := Wd.back hB ht hF
        clear hB ht hF hz1 hk1 hvm
        refine lv_if_ne (tgt := 54) hx hb d_Mod_flatColumn_46 (by decide) (fun c1955 => ?_) (fun c1955 => ?_)
        · have hw := hw.1 c1955
          exact t_Mod_flatColumn_54 hx hb hml hown hT hK hN hA hRc hRs hRf hRl hret  v1945 r1947 x1953 H locs ls  hw hW hS (lv_sub hl [2, 1, 0] rfl)
        · have hw := hw.2 c1955
          exact t_Mod_flatColumn_49 hx hb hml hown hT hK hN hA hRc hRs hRf hRl hret  v1945 r1947 x1953 H locs ls  hw hW hS (lv_sub hl [2, 1, 0] rfl)
set_option maxHeartbeats 4000000 in
set_option maxRecDepth 100000 in
theorem k_Mod_flatColumn (l : Launch) (dC : Nat → ClassId) (dI : Nat → Nat → Nat) (cI cB cJ cZ : ClassId) (ad : Nat → Nat) (sz : Nat)  (x : St) {post : Int32 → St → Prop} (hw : wp_Mod_flatColumn post  x) : Met l y_Mod_flatColumn (wsOf y_Mod_flatColumn b_Mod_flatColumn 3 (some (.int))) ({ frames := 4, cells := 0, slots := 0, locals := 90 }) (va_Pc [.ref (ad 0)] (PW dC dI cI cB cJ cZ ad stM kcM 115 sz x)) (va_Qi (fun (r : Int32) (y : St) => post r y) (fun y t => Wd dC dI cI cB cJ cZ ad stM kcM 115 (va_A (pic ad stM kcM 115 cI cB cJ cZ x) sz) y t.heap) (va_A (pic ad stM kcM 115 cI cB cJ cZ x) sz)) 0 0 (va_A (pic ad stM kcM 115 cI cB cJ cZ x) sz) := by
  refine Met.ofW (cc := b_Mod_flatColumn) (maxL := 3) (ret := some (.int)) (by decide) rfl ?_
  intro p e s m args below meth c s₁ B hml hv
  obtain ⟨rfl, hsz, hW0, hK, hN⟩ := hv
  have hx := B.exec
  have hb := B.bytes
  have hr := B.returns
  have hts := atoms_spec B.pre
  have hT : ∀ w ∈ TG, w.before _ s = true := fun w h => hts w (List.mem_cons_of_mem _ h)
  have hown : s.vm.findClass R_Mod = some m.cls := findClass_of_methodNamed B.named
  have hlocks := B.notSynchronized
  subst hsz
  have hW : Wd dC dI cI cB cJ cZ ad stM kcM 115 (va_A (pic ad stM kcM 115 cI cB cJ cZ x) s.heap.size) x s.heap := ⟨hW0.1, hW0.2.1.self (sz := s.heap.size), hW0.2.2⟩
  generalize hAe : va_A (pic ad stM kcM 115 cI cB cJ cZ x) s.heap.size = A at hW ⊢
  have hA : ∀ q : Nat, s.heap.size ≤ q → A q := fun q h => by rw [← hAe]; exact Or.inr h
  have hS : va_S A s.heap s.heap [] := va_S.rf
  have hl := lv_entry ([.ref (ad 0)]) (n := 3) (Nat.le_of_ble_eq_true rfl)
  rw [lg_entry_eq]
  generalize (lg_sl ([.ref (ad 0)]) ++ List.replicate (3 - (lg_sl ([.ref (ad 0)])).length) Slot.unset).toArray = ls at hl ⊢
  have hl : lv_has ls 3 [(0, .ref (ad 0))] := hl
  exact t_Mod_flatColumn_e hx hb hml hown hT hK hN hA (Nat.le_refl 0) (Nat.le_refl 0) (Nat.le_refl 4) (Nat.le_refl 90) (fun r x H locs pc ls hd hp hW hS => W.iret (v := r) hx hb hr (fun t ht hM => ⟨⟨r, x, rfl, hp, Wd.back hW ht.symm (fun _ z => z)⟩, hS.F ht⟩) hS.2.2 hd hlocks)   x _ _ ls  hw hW hS hl
end
