theorem fr_Snk_5 : F_Snk 5 = (R_Snk, "held", "I", false) := rfl
theorem fr_Snk_6 : F_Snk 6 = (R_Snk, "heldBits", "I", false) := rfl
theorem w_1_52 : (Jvm.Cond.fieldLink "StripedVault$Sink" (92 : Nat) "StripedVault$Sink" "held" "I") ∈ TG := tw_1 52 (by decide +kernel) (by decide +kernel)
theorem w_1_53 : (Jvm.Cond.fieldLink "StripedVault$Sink" (89 : Nat) "StripedVault$Sink" "heldBits" "I") ∈ TG := tw_1 53 (by decide +kernel) (by decide +kernel)
theorem w_5_194 : (Jvm.Cond.methodLink "StripedVault$Writer" (216 : Nat) ({ cls := "StripedVault$Sink", name := "putRuns", desc := "([III)V" } : Jvm.MethodName)) ∈ TG := tw_5 194 (by decide +kernel) (by decide +kernel)
theorem w_5_195 : (Jvm.Cond.instanceMethod ({ cls := "StripedVault$Sink", name := "putRuns", desc := "([III)V" } : Jvm.MethodName)) ∈ TG := tw_5 195 (by decide +kernel) (by decide +kernel)
theorem w_5_196 : (Jvm.Cond.selects "StripedVault$Sink" ({ cls := "StripedVault$Sink", name := "putRuns", desc := "([III)V" } : Jvm.MethodName) ({ cls := "StripedVault$Sink", name := "putRuns", desc := "([III)V" } : Jvm.MethodName)) ∈ TG := tw_5 196 (by decide +kernel) (by decide +kernel)
theorem w_5_197 : (Jvm.Cond.code ({ cls := "StripedVault$Sink", name := "putRuns", desc := "([III)V" } : Jvm.MethodName) prog_9_method_14_code (7 : Nat) (Option.none : Option Jvm.ClassFile.FieldType)) ∈ TG := tw_5 197 (by decide +kernel) (by decide +kernel)
theorem w_5_198 : (Jvm.Cond.methodLink "StripedVault$Sink" (95 : Nat) ({ cls := "StripedVault$Sink", name := "sameFrom", desc := "([IIII)I" } : Jvm.MethodName)) ∈ TG := tw_5 198 (by decide +kernel) (by decide +kernel)
theorem w_5_199 : (Jvm.Cond.static ({ cls := "StripedVault$Sink", name := "sameFrom", desc := "([IIII)I" } : Jvm.MethodName)) ∈ TG := tw_5 199 (by decide +kernel) (by decide +kernel)
theorem w_5_200 : (Jvm.Cond.code ({ cls := "StripedVault$Sink", name := "sameFrom", desc := "([IIII)I" } : Jvm.MethodName) prog_9_method_13_code (5 : Nat) (Option.some Jvm.ClassFile.FieldType.int)) ∈ TG := tw_5 200 (by decide +kernel) (by decide +kernel)
theorem w_5_201 : (Jvm.Cond.constantLong "StripedVault$Sink" (99 : Nat) (2 : Int64)) ∈ TG := tw_5 201 (by decide +kernel) (by decide +kernel)
theorem w_5_202 : (Jvm.Cond.methodLink "StripedVault$Sink" (101 : Nat) ({ cls := "StripedVault$Sink", name := "putFixed", desc := "(JI)V" } : Jvm.MethodName)) ∈ TG := tw_5 202 (by decide +kernel) (by decide +kernel)
theorem w_5_203 : (Jvm.Cond.methodLink "StripedVault$Sink" (105 : Nat) ({ cls := "StripedVault$Sink", name := "putGroups", desc := "([IIII)I" } : Jvm.MethodName)) ∈ TG := tw_5 203 (by decide +kernel) (by decide +kernel)
theorem w_5_205 : (Jvm.Cond.instanceMethod ({ cls := "StripedVault$Sink", name := "putGroups", desc := "([IIII)I" } : Jvm.MethodName)) ∈ TG := tw_5 205 (by decide +kernel) (by decide +kernel)
theorem w_5_206 : (Jvm.Cond.code ({ cls := "StripedVault$Sink", name := "putGroups", desc := "([IIII)I" } : Jvm.MethodName) prog_9_method_15_code (7 : Nat) (Option.some Jvm.ClassFile.FieldType.int)) ∈ TG := tw_5 206 (by decide +kernel) (by decide +kernel)
theorem w_5_207 : (Jvm.Cond.methodLink "StripedVault$Sink" (108 : Nat) ({ cls := "StripedVault$Sink", name := "putBits", desc := "(JI)V" } : Jvm.MethodName)) ∈ TG := tw_5 207 (by decide +kernel) (by decide +kernel)
theorem w_5_209 : (Jvm.Cond.instanceMethod ({ cls := "StripedVault$Sink", name := "putBits", desc := "(JI)V" } : Jvm.MethodName)) ∈ TG := tw_5 209 (by decide +kernel) (by decide +kernel)
theorem w_5_210 : (Jvm.Cond.code ({ cls := "StripedVault$Sink", name := "putBits", desc := "(JI)V" } : Jvm.MethodName) prog_9_method_12_code (7 : Nat) (Option.none : Option Jvm.ClassFile.FieldType)) ∈ TG := tw_5 210 (by decide +kernel) (by decide +kernel)
theorem ws_23 : Cond.selects R_Snk y_Snk_putGroups y_Snk_putGroups ∈ TG := tw_s 23 (by decide +kernel) (by decide +kernel)
theorem ws_24 : Cond.selects R_Snk y_Snk_putBits y_Snk_putBits ∈ TG := tw_s 24 (by decide +kernel) (by decide +kernel)
theorem d_Snk_putBits_131 : decode b_Snk_putBits 131 = .ok (.iinc 5 1, 3) := by decide +kernel
theorem d_Snk_putBits_134 : decode b_Snk_putBits 134 = .ok (.goto (-128), 3) := by decide +kernel
theorem d_Snk_putBits_121 : decode b_Snk_putBits 121 = .ok (.aload_n 0, 1) := by decide +kernel
theorem d_Snk_putBits_122 : decode b_Snk_putBits 122 = .ok (.iconst 0, 1) := by decide +kernel
theorem d_Snk_putBits_123 : decode b_Snk_putBits 123 = .ok (.putfield 92, 3) := by decide +kernel
theorem d_Snk_putBits_126 : decode b_Snk_putBits 126 = .ok (.aload_n 0, 1) := by decide +kernel
theorem d_Snk_putBits_127 : decode b_Snk_putBits 127 = .ok (.iconst 0, 1) := by decide +kernel
theorem d_Snk_putBits_128 : decode b_Snk_putBits 128 = .ok (.putfield 89, 3) := by decide +kernel
theorem d_Snk_putBits_6 : decode b_Snk_putBits 6 = .ok (.iload 5, 2) := by decide +kernel
theorem d_Snk_putBits_8 : decode b_Snk_putBits 8 = .ok (.bipush 10, 2) := by decide +kernel
theorem d_Snk_putBits_10 : decode b_Snk_putBits 10 = .ok (.if_icmp .ge 127, 3) := by decide +kernel
theorem d_Snk_putBits_137 : decode b_Snk_putBits 137 = .ok (.return_, 1) := by decide +kernel
theorem d_Snk_putBits_13 : decode b_Snk_putBits 13 = .ok (.iload 4, 2) := by decide +kernel
theorem d_Snk_putBits_15 : decode b_Snk_putBits 15 = .ok (.iload_n 3, 1) := by decide +kernel
theorem d_Snk_putBits_16 : decode b_Snk_putBits 16 = .ok (.if_icmp .ge 121, 3) := by decide +kernel
theorem d_Snk_putBits_19 : decode b_Snk_putBits 19 = .ok (.bipush 8, 2) := by decide +kernel
theorem d_Snk_putBits_21 : decode b_Snk_putBits 21 = .ok (.aload_n 0, 1) := by decide +kernel
theorem d_Snk_putBits_22 : decode b_Snk_putBits 22 = .ok (.getfield 89, 3) := by decide +kernel
theorem d_Snk_putBits_25 : decode b_Snk_putBits 25 = .ok (.isub, 1) := by decide +kernel
theorem d_Snk_putBits_26 : decode b_Snk_putBits 26 = .ok (.iload_n 3, 1) := by decide +kernel
theorem d_Snk_putBits_27 : decode b_Snk_putBits 27 = .ok (.iload 4, 2) := by decide +kernel
theorem d_Snk_putBits_29 : decode b_Snk_putBits 29 = .ok (.isub, 1) := by decide +kernel
theorem d_Snk_putBits_30 : decode b_Snk_putBits 30 = .ok (.invokestatic 19, 3) := by decide +kernel
theorem d_Snk_putBits_33 : decode b_Snk_putBits 33 = .ok (.istore 6, 2) := by decide +kernel
theorem d_Snk_putBits_35 : decode b_Snk_putBits 35 = .ok (.aload_n 0, 1) := by decide +kernel
theorem d_Snk_putBits_36 : decode b_Snk_putBits 36 = .ok (.dup, 1) := by decide +kernel
theorem d_Snk_putBits_37 : decode b_Snk_putBits 37 = .ok (.getfield 92, 3) := by decide +kernel
theorem d_Snk_putBits_40 : decode b_Snk_putBits 40 = .ok (.lload_n 1, 1) := by decide +kernel
theorem d_Snk_putBits_41 : decode b_Snk_putBits 41 = .ok (.iload 4, 2) := by decide +kernel
theorem d_Snk_putBits_43 : decode b_Snk_putBits 43 = .ok (.lushr, 1) := by decide +kernel
theorem d_Snk_putBits_44 : decode b_Snk_putBits 44 = .ok (.iconst 1, 1) := by decide +kernel
theorem d_Snk_putBits_45 : decode b_Snk_putBits 45 = .ok (.iload 6, 2) := by decide +kernel
theorem d_Snk_putBits_47 : decode b_Snk_putBits 47 = .ok (.ishl, 1) := by decide +kernel
theorem d_Snk_putBits_48 : decode b_Snk_putBits 48 = .ok (.iconst 1, 1) := by decide +kernel
theorem d_Snk_putBits_49 : decode b_Snk_putBits 49 = .ok (.isub, 1) := by decide +kernel
theorem d_Snk_putBits_50 : decode b_Snk_putBits 50 = .ok (.i2l, 1) := by decide +kernel
theorem d_Snk_putBits_51 : decode b_Snk_putBits 51 = .ok (.land, 1) := by decide +kernel
theorem d_Snk_putBits_52 : decode b_Snk_putBits 52 = .ok (.l2i, 1) := by decide +kernel
theorem d_Snk_putBits_53 : decode b_Snk_putBits 53 = .ok (.aload_n 0, 1) := by decide +kernel
theorem d_Snk_putBits_54 : decode b_Snk_putBits 54 = .ok (.getfield 89, 3) := by decide +kernel
theorem d_Snk_putBits_57 : decode b_Snk_putBits 57 = .ok (.ishl, 1) := by decide +kernel
theorem d_Snk_putBits_58 : decode b_Snk_putBits 58 = .ok (.ior, 1) := by decide +kernel
theorem d_Snk_putBits_59 : decode b_Snk_putBits 59 = .ok (.putfield 92, 3) := by decide +kernel
theorem d_Snk_putBits_62 : decode b_Snk_putBits 62 = .ok (.aload_n 0, 1) := by decide +kernel
theorem d_Snk_putBits_63 : decode b_Snk_putBits 63 = .ok (.dup, 1) := by decide +kernel
theorem d_Snk_putBits_64 : decode b_Snk_putBits 64 = .ok (.getfield 89, 3) := by decide +kernel
theorem d_Snk_putBits_67 : decode b_Snk_putBits 67 = .ok (.iload 6, 2) := by decide +kernel
theorem d_Snk_putBits_69 : decode b_Snk_putBits 69 = .ok (.iadd, 1) := by decide +kernel
theorem d_Snk_putBits_70 : decode b_Snk_putBits 70 = .ok (.putfield 89, 3) := by decide +kernel
theorem d_Snk_putBits_73 : decode b_Snk_putBits 73 = .ok (.iload 4, 2) := by decide +kernel
theorem d_Snk_putBits_75 : decode b_Snk_putBits 75 = .ok (.iload 6, 2) := by decide +kernel
theorem d_Snk_putBits_77 : decode b_Snk_putBits 77 = .ok (.iadd, 1) := by decide +kernel
theorem d_Snk_putBits_78 : decode b_Snk_putBits 78 = .ok (.istore 4, 2) := by decide +kernel
theorem d_Snk_putBits_80 : decode b_Snk_putBits 80 = .ok (.aload_n 0, 1) := by decide +kernel
theorem d_Snk_putBits_81 : decode b_Snk_putBits 81 = .ok (.getfield 89, 3) := by decide +kernel
theorem d_Snk_putBits_84 : decode b_Snk_putBits 84 = .ok (.bipush 8, 2) := by decide +kernel
theorem d_Snk_putBits_86 : decode b_Snk_putBits 86 = .ok (.if_icmp .ne 45, 3) := by decide +kernel
theorem d_Snk_putBits_89 : decode b_Snk_putBits 89 = .ok (.aload_n 0, 1) := by decide +kernel
theorem d_Snk_putBits_90 : decode b_Snk_putBits 90 = .ok (.iconst 1, 1) := by decide +kernel
theorem d_Snk_putBits_91 : decode b_Snk_putBits 91 = .ok (.invokevirtual 45, 3) := by decide +kernel
theorem d_Snk_putBits_94 : decode b_Snk_putBits 94 = .ok (.ifCond .eq 27, 3) := by decide +kernel
theorem d_Snk_putBits_97 : decode b_Snk_putBits 97 = .ok (.aload_n 0, 1) := by decide +kernel
theorem d_Snk_putBits_98 : decode b_Snk_putBits 98 = .ok (.getfield 25, 3) := by decide +kernel
theorem d_Snk_putBits_101 : decode b_Snk_putBits 101 = .ok (.aload_n 0, 1) := by decide +kernel
theorem d_Snk_putBits_102 : decode b_Snk_putBits 102 = .ok (.getfield 29, 3) := by decide +kernel
theorem d_Snk_putBits_105 : decode b_Snk_putBits 105 = .ok (.aload_n 0, 1) := by decide +kernel
theorem d_Snk_putBits_106 : decode b_Snk_putBits 106 = .ok (.getfield 92, 3) := by decide +kernel
theorem d_Snk_putBits_109 : decode b_Snk_putBits 109 = .ok (.i2b, 1) := by decide +kernel
theorem d_Snk_putBits_110 : decode b_Snk_putBits 110 = .ok (.bastore, 1) := by decide +kernel
theorem d_Snk_putBits_111 : decode b_Snk_putBits 111 = .ok (.aload_n 0, 1) := by decide +kernel
theorem d_Snk_putBits_112 : decode b_Snk_putBits 112 = .ok (.dup, 1) := by decide +kernel
theorem d_Snk_putBits_113 : decode b_Snk_putBits 113 = .ok (.getfield 29, 3) := by decide +kernel
theorem d_Snk_putBits_116 : decode b_Snk_putBits 116 = .ok (.iconst 1, 1) := by decide +kernel
theorem d_Snk_putBits_117 : decode b_Snk_putBits 117 = .ok (.iadd, 1) := by decide +kernel
theorem d_Snk_putBits_118 : decode b_Snk_putBits 118 = .ok (.putfield 29, 3) := by decide +kernel
theorem d_Snk_putBits_0 : decode b_Snk_putBits 0 = .ok (.iconst 0, 1) := by decide +kernel
theorem d_Snk_putBits_1 : decode b_Snk_putBits 1 = .ok (.istore 4, 2) := by decide +kernel
theorem d_Snk_putBits_3 : decode b_Snk_putBits 3 = .ok (.iconst 0, 1) := by decide +kernel
theorem d_Snk_putBits_4 : decode b_Snk_putBits 4 = .ok (.istore 5, 2) := by decide +kernel
theorem d_Snk_putGroups_76 : decode b_Snk_putGroups 76 = .ok (.iload 4, 2) := by decide +kernel
theorem d_Snk_putGroups_78 : decode b_Snk_putGroups 78 = .ok (.invokevirtual 108, 3) := by decide +kernel
theorem d_Snk_putGroups_81 : decode b_Snk_putGroups 81 = .ok (.iinc 6 1, 3) := by decide +kernel
theorem d_Snk_putGroups_84 : decode b_Snk_putGroups 84 = .ok (.goto (-31), 3) := by decide +kernel
theorem d_Snk_putGroups_53 : decode b_Snk_putGroups 53 = .ok (.iload 6, 2) := by decide +kernel
theorem d_Snk_putGroups_55 : decode b_Snk_putGroups 55 = .ok (.iload 5, 2) := by decide +kernel
theorem d_Snk_putGroups_57 : decode b_Snk_putGroups 57 = .ok (.if_icmp .ge 30, 3) := by decide +kernel
theorem d_Snk_putGroups_87 : decode b_Snk_putGroups 87 = .ok (.iload 5, 2) := by decide +kernel
theorem d_Snk_putGroups_89 : decode b_Snk_putGroups 89 = .ok (.ireturn, 1) := by decide +kernel
theorem d_Snk_putGroups_60 : decode b_Snk_putGroups 60 = .ok (.aload_n 0, 1) := by decide +kernel
theorem d_Snk_putGroups_61 : decode b_Snk_putGroups 61 = .ok (.iload 6, 2) := by decide +kernel
theorem d_Snk_putGroups_63 : decode b_Snk_putGroups 63 = .ok (.iload_n 2, 1) := by decide +kernel
theorem d_Snk_putGroups_64 : decode b_Snk_putGroups 64 = .ok (.if_icmp .ge 11, 3) := by decide +kernel
theorem d_Snk_putGroups_75 : decode b_Snk_putGroups 75 = .ok (.lconst 0, 1) := by decide +kernel
theorem d_Snk_putGroups_67 : decode b_Snk_putGroups 67 = .ok (.aload_n 1, 1) := by decide +kernel
theorem d_Snk_putGroups_68 : decode b_Snk_putGroups 68 = .ok (.iload 6, 2) := by decide +kernel
theorem d_Snk_putGroups_70 : decode b_Snk_putGroups 70 = .ok (.iaload, 1) := by decide +kernel
theorem d_Snk_putGroups_71 : decode b_Snk_putGroups 71 = .ok (.i2l, 1) := by decide +kernel
theorem d_Snk_putGroups_72 : decode b_Snk_putGroups 72 = .ok (.goto 4, 3) := by decide +kernel
theorem d_Snk_putGroups_32 : decode b_Snk_putGroups 32 = .ok (.aload_n 0, 1) := by decide +kernel
theorem d_Snk_putGroups_33 : decode b_Snk_putGroups 33 = .ok (.iload 5, 2) := by decide +kernel
theorem d_Snk_putGroups_35 : decode b_Snk_putGroups 35 = .ok (.iload_n 3, 1) := by decide +kernel
theorem d_Snk_putGroups_36 : decode b_Snk_putGroups 36 = .ok (.isub, 1) := by decide +kernel
theorem d_Snk_putGroups_37 : decode b_Snk_putGroups 37 = .ok (.bipush 8, 2) := by decide +kernel
theorem d_Snk_putGroups_39 : decode b_Snk_putGroups 39 = .ok (.idiv, 1) := by decide +kernel
theorem d_Snk_putGroups_40 : decode b_Snk_putGroups 40 = .ok (.i2l, 1) := by decide +kernel
theorem d_Snk_putGroups_41 : decode b_Snk_putGroups 41 = .ok (.ldc2_w 99, 3) := by decide +kernel
theorem d_Snk_putGroups_44 : decode b_Snk_putGroups 44 = .ok (.lmul, 1) := by decide +kernel
theorem d_Snk_putGroups_45 : decode b_Snk_putGroups 45 = .ok (.lconst 1, 1) := by decide +kernel
theorem d_Snk_putGroups_46 : decode b_Snk_putGroups 46 = .ok (.ladd, 1) := by decide +kernel
theorem d_Snk_putGroups_47 : decode b_Snk_putGroups 47 = .ok (.invokevirtual 65, 3) := by decide +kernel
theorem d_Snk_putGroups_50 : decode b_Snk_putGroups 50 = .ok (.iload_n 3, 1) := by decide +kernel
theorem d_Snk_putGroups_51 : decode b_Snk_putGroups 51 = .ok (.istore 6, 2) := by decide +kernel
theorem d_Snk_putGroups_6 : decode b_Snk_putGroups 6 = .ok (.iload 5, 2) := by decide +kernel
theorem d_Snk_putGroups_8 : decode b_Snk_putGroups 8 = .ok (.iload_n 2, 1) := by decide +kernel
theorem d_Snk_putGroups_9 : decode b_Snk_putGroups 9 = .ok (.if_icmp .ge 23, 3) := by decide +kernel
theorem d_Snk_putGroups_12 : decode b_Snk_putGroups 12 = .ok (.aload_n 1, 1) := by decide +kernel
theorem d_Snk_putGroups_13 : decode b_Snk_putGroups 13 = .ok (.iload_n 2, 1) := by decide +kernel
theorem d_Snk_putGroups_14 : decode b_Snk_putGroups 14 = .ok (.iload 5, 2) := by decide +kernel
theorem d_Snk_putGroups_16 : decode b_Snk_putGroups 16 = .ok (.bipush 8, 2) := by decide +kernel
theorem d_Snk_putGroups_18 : decode b_Snk_putGroups 18 = .ok (.invokestatic 95, 3) := by decide +kernel
theorem d_Snk_putGroups_21 : decode b_Snk_putGroups 21 = .ok (.bipush 8, 2) := by decide +kernel
theorem d_Snk_putGroups_23 : decode b_Snk_putGroups 23 = .ok (.if_icmp .ge 9, 3) := by decide +kernel
theorem d_Snk_putGroups_26 : decode b_Snk_putGroups 26 = .ok (.iinc 5 8, 3) := by decide +kernel
theorem d_Snk_putGroups_29 : decode b_Snk_putGroups 29 = .ok (.goto (-23), 3) := by decide +kernel
theorem d_Snk_putGroups_0 : decode b_Snk_putGroups 0 = .ok (.iload_n 3, 1) := by decide +kernel
theorem d_Snk_putGroups_1 : decode b_Snk_putGroups 1 = .ok (.bipush 8, 2) := by decide +kernel
theorem d_Snk_putGroups_3 : decode b_Snk_putGroups 3 = .ok (.iadd, 1) := by decide +kernel
theorem d_Snk_putGroups_4 : decode b_Snk_putGroups 4 = .ok (.istore 5, 2) := by decide +kernel
theorem d_Snk_putRuns_83 : decode b_Snk_putRuns 83 = .ok (.iinc 5 1, 3) := by decide +kernel
theorem d_Snk_putRuns_86 : decode b_Snk_putRuns 86 = .ok (.goto (-80), 3) := by decide +kernel
theorem d_Snk_putRuns_6 : decode b_Snk_putRuns 6 = .ok (.iload 5, 2) := by decide +kernel
theorem d_Snk_putRuns_8 : decode b_Snk_putRuns 8 = .ok (.iload_n 2, 1) := by decide +kernel
theorem d_Snk_putRuns_9 : decode b_Snk_putRuns 9 = .ok (.if_icmp .ge 80, 3) := by decide +kernel
theorem d_Snk_putRuns_89 : decode b_Snk_putRuns 89 = .ok (.return_, 1) := by decide +kernel
theorem d_Snk_putRuns_12 : decode b_Snk_putRuns 12 = .ok (.iload 4, 2) := by decide +kernel
theorem d_Snk_putRuns_14 : decode b_Snk_putRuns 14 = .ok (.iload_n 2, 1) := by decide +kernel
theorem d_Snk_putRuns_15 : decode b_Snk_putRuns 15 = .ok (.if_icmp .ge 74, 3) := by decide +kernel
theorem d_Snk_putRuns_18 : decode b_Snk_putRuns 18 = .ok (.aload_n 1, 1) := by decide +kernel
theorem d_Snk_putRuns_19 : decode b_Snk_putRuns 19 = .ok (.iload_n 2, 1) := by decide +kernel
theorem d_Snk_putRuns_20 : decode b_Snk_putRuns 20 = .ok (.iload 4, 2) := by decide +kernel
theorem d_Snk_putRuns_22 : decode b_Snk_putRuns 22 = .ok (.iload_n 2, 1) := by decide +kernel
theorem d_Snk_putRuns_23 : decode b_Snk_putRuns 23 = .ok (.invokestatic 95, 3) := by decide +kernel
theorem d_Snk_putRuns_26 : decode b_Snk_putRuns 26 = .ok (.istore 6, 2) := by decide +kernel
theorem d_Snk_putRuns_28 : decode b_Snk_putRuns 28 = .ok (.iload 6, 2) := by decide +kernel
theorem d_Snk_putRuns_30 : decode b_Snk_putRuns 30 = .ok (.bipush 8, 2) := by decide +kernel
theorem d_Snk_putRuns_32 : decode b_Snk_putRuns 32 = .ok (.if_icmp .lt 40, 3) := by decide +kernel
theorem d_Snk_putRuns_72 : decode b_Snk_putRuns 72 = .ok (.aload_n 0, 1) := by decide +kernel
theorem d_Snk_putRuns_73 : decode b_Snk_putRuns 73 = .ok (.aload_n 1, 1) := by decide +kernel
theorem d_Snk_putRuns_74 : decode b_Snk_putRuns 74 = .ok (.iload_n 2, 1) := by decide +kernel
theorem d_Snk_putRuns_75 : decode b_Snk_putRuns 75 = .ok (.iload 4, 2) := by decide +kernel
theorem d_Snk_putRuns_77 : decode b_Snk_putRuns 77 = .ok (.iload_n 3, 1) := by decide +kernel
theorem d_Snk_putRuns_78 : decode b_Snk_putRuns 78 = .ok (.invokevirtual 105, 3) := by decide +kernel
theorem d_Snk_putRuns_81 : decode b_Snk_putRuns 81 = .ok (.istore 4, 2) := by decide +kernel
theorem d_Snk_putRuns_35 : decode b_Snk_putRuns 35 = .ok (.aload_n 0, 1) := by decide +kernel
theorem d_Snk_putRuns_36 : decode b_Snk_putRuns 36 = .ok (.ldc2_w 99, 3) := by decide +kernel
theorem d_Snk_putRuns_39 : decode b_Snk_putRuns 39 = .ok (.iload 6, 2) := by decide +kernel
theorem d_Snk_putRuns_41 : decode b_Snk_putRuns 41 = .ok (.i2l, 1) := by decide +kernel
theorem d_Snk_putRuns_42 : decode b_Snk_putRuns 42 = .ok (.lmul, 1) := by decide +kernel
theorem d_Snk_putRuns_43 : decode b_Snk_putRuns 43 = .ok (.invokevirtual 65, 3) := by decide +kernel
theorem d_Snk_putRuns_46 : decode b_Snk_putRuns 46 = .ok (.aload_n 0, 1) := by decide +kernel
theorem d_Snk_putRuns_47 : decode b_Snk_putRuns 47 = .ok (.aload_n 1, 1) := by decide +kernel
theorem d_Snk_putRuns_48 : decode b_Snk_putRuns 48 = .ok (.iload 4, 2) := by decide +kernel
theorem d_Snk_putRuns_50 : decode b_Snk_putRuns 50 = .ok (.iaload, 1) := by decide +kernel
theorem d_Snk_putRuns_51 : decode b_Snk_putRuns 51 = .ok (.i2l, 1) := by decide +kernel
theorem d_Snk_putRuns_52 : decode b_Snk_putRuns 52 = .ok (.iload_n 3, 1) := by decide +kernel
theorem d_Snk_putRuns_53 : decode b_Snk_putRuns 53 = .ok (.bipush 7, 2) := by decide +kernel
theorem d_Snk_putRuns_55 : decode b_Snk_putRuns 55 = .ok (.iadd, 1) := by decide +kernel
theorem d_Snk_putRuns_56 : decode b_Snk_putRuns 56 = .ok (.bipush 8, 2) := by decide +kernel
theorem d_Snk_putRuns_58 : decode b_Snk_putRuns 58 = .ok (.idiv, 1) := by decide +kernel
theorem d_Snk_putRuns_59 : decode b_Snk_putRuns 59 = .ok (.invokevirtual 101, 3) := by decide +kernel
theorem d_Snk_putRuns_62 : decode b_Snk_putRuns 62 = .ok (.iload 4, 2) := by decide +kernel
theorem d_Snk_putRuns_64 : decode b_Snk_putRuns 64 = .ok (.iload 6, 2) := by decide +kernel
theorem d_Snk_putRuns_66 : decode b_Snk_putRuns 66 = .ok (.iadd, 1) := by decide +kernel
theorem d_Snk_putRuns_67 : decode b_Snk_putRuns 67 = .ok (.istore 4, 2) := by decide +kernel
theorem d_Snk_putRuns_69 : decode b_Snk_putRuns 69 = .ok (.goto 14, 3) := by decide +kernel
theorem d_Snk_putRuns_0 : decode b_Snk_putRuns 0 = .ok (.iconst 0, 1) := by decide +kernel
theorem d_Snk_putRuns_1 : decode b_Snk_putRuns 1 = .ok (.istore 4, 2) := by decide +kernel
theorem d_Snk_putRuns_3 : decode b_Snk_putRuns 3 = .ok (.iconst 0, 1) := by decide +kernel
theorem d_Snk_putRuns_4 : decode b_Snk_putRuns 4 = .ok (.istore 5, 2) := by decide +kernel
theorem d_Wrt_putBoolRuns_2 : decode b_Wrt_putBoolRuns 2 = .ok (.iload_n 1, 1) := by decide +kernel
theorem d_Wrt_putBoolRuns_3 : decode b_Wrt_putBoolRuns 3 = .ok (.aload_n 0, 1) := by decide +kernel
theorem d_Wrt_putBoolRuns_4 : decode b_Wrt_putBoolRuns 4 = .ok (.getfield 154, 3) := by decide +kernel
theorem d_Wrt_putBoolRuns_7 : decode b_Wrt_putBoolRuns 7 = .ok (.if_icmp .ge 22, 3) := by decide +kernel
theorem d_Wrt_putBoolRuns_29 : decode b_Wrt_putBoolRuns 29 = .ok (.aload_n 0, 1) := by decide +kernel
theorem d_Wrt_putBoolRuns_30 : decode b_Wrt_putBoolRuns 30 = .ok (.getfield 30, 3) := by decide +kernel
theorem d_Wrt_putBoolRuns_33 : decode b_Wrt_putBoolRuns 33 = .ok (.aload_n 0, 1) := by decide +kernel
theorem d_Wrt_putBoolRuns_34 : decode b_Wrt_putBoolRuns 34 = .ok (.getfield 47, 3) := by decide +kernel
theorem d_Wrt_putBoolRuns_37 : decode b_Wrt_putBoolRuns 37 = .ok (.aload_n 0, 1) := by decide +kernel
theorem d_Wrt_putBoolRuns_38 : decode b_Wrt_putBoolRuns 38 = .ok (.getfield 154, 3) := by decide +kernel
theorem d_Wrt_putBoolRuns_41 : decode b_Wrt_putBoolRuns 41 = .ok (.iconst 1, 1) := by decide +kernel
theorem d_Wrt_putBoolRuns_42 : decode b_Wrt_putBoolRuns 42 = .ok (.invokevirtual 216, 3) := by decide +kernel
theorem d_Wrt_putBoolRuns_45 : decode b_Wrt_putBoolRuns 45 = .ok (.return_, 1) := by decide +kernel
theorem d_Wrt_putBoolRuns_10 : decode b_Wrt_putBoolRuns 10 = .ok (.aload_n 0, 1) := by decide +kernel
theorem d_Wrt_putBoolRuns_11 : decode b_Wrt_putBoolRuns 11 = .ok (.getfield 47, 3) := by decide +kernel
theorem d_Wrt_putBoolRuns_14 : decode b_Wrt_putBoolRuns 14 = .ok (.iload_n 1, 1) := by decide +kernel
theorem d_Wrt_putBoolRuns_15 : decode b_Wrt_putBoolRuns 15 = .ok (.aload_n 0, 1) := by decide +kernel
theorem d_Wrt_putBoolRuns_16 : decode b_Wrt_putBoolRuns 16 = .ok (.getfield 43, 3) := by decide +kernel
theorem d_Wrt_putBoolRuns_19 : decode b_Wrt_putBoolRuns 19 = .ok (.iload_n 1, 1) := by decide +kernel
theorem d_Wrt_putBoolRuns_20 : decode b_Wrt_putBoolRuns 20 = .ok (.laload, 1) := by decide +kernel
theorem d_Wrt_putBoolRuns_21 : decode b_Wrt_putBoolRuns 21 = .ok (.l2i, 1) := by decide +kernel
theorem d_Wrt_putBoolRuns_22 : decode b_Wrt_putBoolRuns 22 = .ok (.iastore, 1) := by decide +kernel
theorem d_Wrt_putBoolRuns_23 : decode b_Wrt_putBoolRuns 23 = .ok (.iinc 1 1, 3) := by decide +kernel
theorem d_Wrt_putBoolRuns_26 : decode b_Wrt_putBoolRuns 26 = .ok (.goto (-24), 3) := by decide +kernel
theorem d_Wrt_putBoolRuns_0 : decode b_Wrt_putBoolRuns 0 = .ok (.iconst 0, 1) := by decide +kernel
theorem d_Wrt_putBoolRuns_1 : decode b_Wrt_putBoolRuns 1 = .ok (.istore_n 1, 1) := by decide +kernel
section
variable (l : Launch) (dC : Nat → ClassId) (dI : Nat → Nat → Nat) (cI cB cJ cZ : ClassId)
set_option maxRecDepth 100000 in
set_option maxHeartbeats 4000000 in
set_option maxRecDepth 100000 in
theorem t_Snk_putBits_131 {p : Program} {l : Launch} {e : Env} {R : Room} {s : State} {m : MethodId} {args : Array Value} {below : List Frame} {meth : Method} {c : Code} {Q : State → Prop} {dC : Nat → ClassId} {dI : Nat → Nat → Nat} {cI cB cJ cZ : ClassId} {A : Nat → Prop} {E : Heap} {tM tC : Nat} {kK kV : Nat → Nat} {ad0 : Nat → Nat} {NN0 : Nat} {post : St → Prop} {rec6 : Nat → Int64 → Int32 → Int32 → Int32 → Nat → Nat → St → Prop} (hx : p.tables.exec = Jvm.exec) (hb : c.code = b_Snk_putBits) (hml : c.maxLocals = 7) (hown : s.vm.findClass R_Snk = some m.cls) (hT : ∀ w ∈ TG, w.before args s = true) (hK : va_K (dC, dI) CL (TY cI cB cJ cZ) s) (hN : NW s) (hA : ∀ q : Nat, s.heap.size ≤ q → A q) (hRf : 3 ≤ R.frames) (hRl : 221 ≤ R.locals) (hE : CE E tM tC kK kV A s) (hret : ∀ (ad : Nat → Nat) (NN cells slots : Nat) (x : St) (H : Heap) (locs : List Loc) (pc : Nat) (ls : Array Slot), decode b_Snk_putBits pc = .ok (.return_, 1) → (NN0 ≤ NN ∧ ∀ o : Nat, o < NN0 → ad o = ad0 o) → cells ≤ R.cells → slots ≤ R.slots → post x → Wd dC dI cI cB cJ cZ ad stC kcC NN A x H → va_S A s.heap H locs → W p l e R s m args below meth c H locs cells slots Q (F0 m pc ls [])) (hrec6 : ∀ (ad : Nat → Nat) (NN cells slots : Nat) (o : Nat) (l1 : Int64) (l3 : Int32) (l4 : Int32) (l5 : Int32) (kb : Nat) (nb : Nat) (x : St) (H : Heap) (locs : List Loc) (ls : Array Slot), (152 ≤ NN) → (NN0 ≤ NN ∧ ∀ o : Nat, o < NN0 → ad o = ad0 o) → (cells + kb ≤ R.cells) → (slots + nb ≤ R.slots) → (o < NN ∧ kcC o = 1) → rec6 o l1 l3 l4 l5 kb nb x → Wd dC dI cI cB cJ cZ ad stC kcC NN A x H → va_S A s.heap H locs → lv_has ls 7 [(0, .ref (ad o)), (1, .long l1), (3, .int l3), (4, .int l4), (5, .int l5)] → W p l e R s m args below meth c H locs cells slots Q (F0 m 6 ls [])) : ∀ (ad : Nat → Nat) (NN cells slots : Nat) (o : Nat) (l1 : Int64) (l3 : Int32) (l4 : Int32) (l5 : Int32) (l6 : Int32) (kb : Nat) (nb : Nat) (x : St) (H : Heap) (locs : List Loc) (ls : Array Slot), (152 ≤ NN) → (NN0 ≤ NN ∧ ∀ o : Nat, o < NN0 → ad o = ad0 o) → (cells + kb ≤ R.cells) → (slots + nb ≤ R.slots) → (o < NN ∧ kcC o = 1) → j_Snk_putBits_131 post rec6 o l1 l3 l4 l5 l6 kb nb x → Wd dC dI cI cB cJ cZ ad stC kcC NN A x H → va_S A s.heap H locs → lv_has ls 7 [(0, .ref (ad o)), (1, .long l1), (3, .int l3), (4, .int l4), (5, .int l5), (6, .int l6)] → W p l e R s m args below meth c H locs cells slots Q (F0 m 131 ls []) := by
  intro ad NN cells slots o l1 l3 l4 l5 l6 kb nb x H locs ls hNN hag hRc hRs fo hw hW hS hl
  unfold j_Snk_putBits_131 at hw
  refine lv_iinc (v := (l5 + 1)) (lv' := [(5, .int (l5 + 1)), (0, .ref (ad o)), (1, .long l1), (3, .int l3), (4, .int l4), (6, .int l6)]) hx hb d_Snk_putBits_131 hl (k := 4) rfl rfl (by decide) rfl (fun ls hl => ?_)
  refine lv_goto (tgt := 6) hx hb d_Snk_putBits_134 (by decide) ?_
  exact hrec6 ad NN cells slots o l1 l3 l4 (l5 + 1) kb nb x H locs ls hNN hag hRc hRs fo hw hW hS (lv_sub hl [1, 2, 3, 4, 0] rfl)
set_option maxRecDepth 100000 in
set_option maxHeartbeats 4000000 in
set_option maxRecDepth 100000 in
theorem t_Snk_putBits_121 {p : Program} {l : Launch} {e : Env} {R : Room} {s : State} {m : MethodId} {args : Array Value} {below : List Frame} {meth : Method} {c : Code} {Q : State → Prop} {dC : Nat → ClassId} {dI : Nat → Nat → Nat} {cI cB cJ cZ : ClassId} {A : Nat → Prop} {E : Heap} {tM tC : Nat} {kK kV : Nat → Nat} {ad0 : Nat → Nat} {NN0 : Nat} {post : St → Prop} {rec6 : Nat → Int64 → Int32 → Int32 → Int32 → Nat → Nat → St → Prop} (hx : p.tables.exec = Jvm.exec) (hb : c.code = b_Snk_putBits) (hml : c.maxLocals = 7) (hown : s.vm.findClass R_Snk = some m.cls) (hT : ∀ w ∈ TG, w.before args s = true) (hK : va_K (dC, dI) CL (TY cI cB cJ cZ) s) (hN : NW s) (hA : ∀ q : Nat, s.heap.size ≤ q → A q) (hRf : 3 ≤ R.frames) (hRl : 221 ≤ R.locals) (hE : CE E tM tC kK kV A s) (hret : ∀ (ad : Nat → Nat) (NN cells slots : Nat) (x : St) (H : Heap) (locs : List Loc) (pc : Nat) (ls : Array Slot), decode b_Snk_putBits pc = .ok (.return_, 1) → (NN0 ≤ NN ∧ ∀ o : Nat, o < NN0 → ad o = ad0 o) → cells ≤ R.cells → slots ≤ R.slots → post x → Wd dC dI cI cB cJ cZ ad stC kcC NN A x H → va_S A s.heap H locs → W p l e R s m args below meth c H locs cells slots Q (F0 m pc ls [])) (hrec6 : ∀ (ad : Nat → Nat) (NN cells slots : Nat) (o : Nat) (l1 : Int64) (l3 : Int32) (l4 : Int32) (l5 : Int32) (kb : Nat) (nb : Nat) (x : St) (H : Heap) (locs : List Loc) (ls : Array Slot), (152 ≤ NN) → (NN0 ≤ NN ∧ ∀ o : Nat, o < NN0 → ad o = ad0 o) → (cells + kb ≤ R.cells) → (slots + nb ≤ R.slots) → (o < NN ∧ kcC o = 1) → rec6 o l1 l3 l4 l5 kb nb x → Wd dC dI cI cB cJ cZ ad stC kcC NN A x H → va_S A s.heap H locs → lv_has ls 7 [(0, .ref (ad o)), (1, .long l1), (3, .int l3), (4, .int l4), (5, .int l5)] → W p l e R s m args below meth c H locs cells slots Q (F0 m 6 ls [])) : ∀ (ad : Nat → Nat) (NN cells slots : Nat) (o : Nat) (l1 : Int64) (l3 : Int32) (l4 : Int32) (l5 : Int32) (l6 : Int32) (kb : Nat) (nb : Nat) (x : St) (H : Heap) (locs : List Loc) (ls : Array Slot), (152 ≤ NN) → (NN0 ≤ NN ∧ ∀ o : Nat, o < NN0 → ad o = ad0 o) → (cells + kb ≤ R.cells) → (slots + nb ≤ R.slots) → (o < NN ∧ kcC o = 1) → j_Snk_putBits_121 post rec6 o l1 l3 l4 l5 l6 kb nb x → Wd dC dI cI cB cJ cZ ad stC kcC NN A x H → va_S A s.heap H locs → lv_has ls 7 [(0, .ref (ad o)), (1, .long l1), (3, .int l3), (4, .int l4), (5, .int l5), (6, .int l6)] → W p l e R s m args below meth c H locs cells slots Q (F0 m 121 ls []) := by
  intro ad NN cells slots o l1 l3 l4 l5 l6 kb nb x H locs ls hNN hag hRc hRs fo hw hW hS hl
  unfold j_Snk_putBits_121 at hw
  refine lv_aload_n hx hb d_Snk_putBits_121 rfl (lv_at hl 0 rfl) ?_
  refine lv_iconst (v := 0) hx hb d_Snk_putBits_122 (by decide) ?_
  refine w_puti (ty := .int) (k := 5) (t := 1) (C := R_Snk) (T := F_Snk) (N := 7) hx hb hT hown hK hW hS fo.1 fo.2 (by decide) in_Snk t_Snk t_Snk_ok n_Snk rfl rfl (by decide) rfl fr_Snk_5 w_1_52 (by decide +kernel) rfl rfl d_Snk_putBits_123 (fun H locs hW hS => ?_)
  obtain ⟨x1, ex1⟩ : ∃ y : St, y = setI x o 5 0 := ⟨_, rfl⟩
  rw [← ex1] at hW
  have hw := hw x1 ex1
  refine lv_aload_n hx hb d_Snk_putBits_126 rfl (lv_at hl 0 rfl) ?_
  refine lv_iconst (v := 0) hx hb d_Snk_putBits_127 (by decide) ?_
  refine w_puti (ty := .int) (k := 6) (t := 1) (C := R_Snk) (T := F_Snk) (N := 7) hx hb hT hown hK hW hS fo.1 fo.2 (by decide) in_Snk t_Snk t_Snk_ok n_Snk rfl rfl (by decide) rfl fr_Snk_6 w_1_53 (by decide +kernel) rfl rfl d_Snk_putBits_128 (fun H locs hW hS => ?_)
  obtain ⟨x2, ex2⟩ : ∃ y : St, y = setI x1 o 6 0 := ⟨_, rfl⟩
  rw [← ex2] at hW
  have hw := hw x2 ex2
  exact t_Snk_putBits_131 hx hb hml hown hT hK hN hA hRf hRl hE hret hrec6 ad NN cells slots o l1 l3 l4 l5 l6 kb nb x2 H locs ls hNN hag hRc hRs fo hw hW hS (lv_sub hl [0, 1, 2, 3, 4, 5] rfl)
set_option maxRecDepth 100000 in
set_option maxHeartbeats 4000000 in
set_option maxRecDepth 100000 in
theorem t_Snk_putBits_6 {p : Program} {l : Launch} {e : Env} {R : Room} {s : State} {m : MethodId} {args : Array Value} {below : List Frame} {meth : Method} {c : Code} {Q : State → Prop} {dC : Nat → ClassId} {dI : Nat → Nat → Nat} {cI cB cJ cZ : ClassId} {A : Nat → Prop} {E : Heap} {tM tC : Nat} {kK kV : Nat → Nat} {ad0 : Nat → Nat} {NN0 : Nat} {post : St → Prop} {rec6 : Nat → Int64 → Int32 → Int32 → Int32 → Nat → Nat → St → Prop} (hx : p.tables.exec = Jvm.exec) (hb : c.code = b_Snk_putBits) (hml : c.maxLocals = 7) (hown : s.vm.findClass R_Snk = some m.cls) (hT : ∀ w ∈ TG, w.before args s = true) (hK : va_K (dC, dI) CL (TY cI cB cJ cZ) s) (hN : NW s) (hA : ∀ q : Nat, s.heap.size ≤ q → A q) (hRf : 3 ≤ R.frames) (hRl : 221 ≤ R.locals) (hE : CE E tM tC kK kV A s) (hret : ∀ (ad : Nat → Nat) (NN cells slots : Nat) (x : St) (H : Heap) (locs : List Loc) (pc : Nat) (ls : Array Slot), decode b_Snk_putBits pc = .ok (.return_, 1) → (NN0 ≤ NN ∧ ∀ o : Nat, o < NN0 → ad o = ad0 o) → cells ≤ R.cells → slots ≤ R.slots → post x → Wd dC dI cI cB cJ cZ ad stC kcC NN A x H → va_S A s.heap H locs → W p l e R s m args below meth c H locs cells slots Q (F0 m pc ls [])) (hrec6 : ∀ (ad : Nat → Nat) (NN cells slots : Nat) (o : Nat) (l1 : Int64) (l3 : Int32) (l4 : Int32) (l5 : Int32) (kb : Nat) (nb : Nat) (x : St) (H : Heap) (locs : List Loc) (ls : Array Slot), (152 ≤ NN) → (NN0 ≤ NN ∧ ∀ o : Nat, o < NN0 → ad o = ad0 o) → (cells + kb ≤ R.cells) → (slots + nb ≤ R.slots) → (o < NN ∧ kcC o = 1) → rec6 o l1 l3 l4 l5 kb nb x → Wd dC dI cI cB cJ cZ ad stC kcC NN A x H → va_S A s.heap H locs → lv_has ls 7 [(0, .ref (ad o)), (1, .long l1), (3, .int l3), (4, .int l4), (5, .int l5)] → W p l e R s m args below meth c H locs cells slots Q (F0 m 6 ls [])) : ∀ (ad : Nat → Nat) (NN cells slots : Nat) (o : Nat) (l1 : Int64) (l3 : Int32) (l4 : Int32) (l5 : Int32) (kb : Nat) (nb : Nat) (x : St) (H : Heap) (locs : List Loc) (ls : Array Slot), (152 ≤ NN) → (NN0 ≤ NN ∧ ∀ o : Nat, o < NN0 → ad o = ad0 o) → (cells + kb ≤ R.cells) → (slots + nb ≤ R.slots) → (o < NN ∧ kcC o = 1) → j_Snk_putBits_6 post rec6 o l1 l3 l4 l5 kb nb x → Wd dC dI cI cB cJ cZ ad stC kcC NN A x H → va_S A s.heap H locs → lv_has ls 7 [(0, .ref (ad o)), (1, .long l1), (3, .int l3), (4, .int l4), (5, .int l5)] → W p l e R s m args below meth c H locs cells slots Q (F0 m 6 ls []) := by
  intro ad NN cells slots o l1 l3 l4 l5 kb nb x H locs ls hNN hag hRc hRs fo hw hW hS hl
  unfold j_Snk_putBits_6 at hw
  refine lv_iload hx hb d_Snk_putBits_6 (lv_at hl 4 rfl) ?_
  refine lv_bipush (v := 10) hx hb d_Snk_putBits_8 (by decide) ?_
  refine lv_icmp_ge (tgt := 137) hx hb d_Snk_putBits_10 (by decide) (fun c3 => ?_) (fun c3 => ?_)
  · have hw := hw.1 c3
    exact hret ad NN cells slots x H locs 137 ls d_Snk_putBits_137 hag (Nat.le_trans (Nat.le_add_right _ _) hRc) (Nat.le_trans (Nat.le_add_right _ _) hRs) hw hW hS
  · have hw := hw.2 c3
    refine lv_iload hx hb d_Snk_putBits_13 (lv_at hl 3 rfl) ?_
    refine lv_iload_n hx hb d_Snk_putBits_15 rfl (lv_at hl 2 rfl) ?_
    refine lv_icmp_ge (tgt := 137) hx hb d_Snk_putBits_16 (by decide) (fun c4 => ?_) (fun c4 => ?_)
    · have hw := hw.1 c4
      exact hret ad NN cells slots x H locs 137 ls d_Snk_putBits_137 hag (Nat.le_trans (Nat.le_add_right _ _) hRc) (Nat.le_trans (Nat.le_add_right _ _) hRs) hw hW hS
    · have hw := hw.2 c4
      refine lv_bipush (v := 8) hx hb d_Snk_putBits_19 (by decide) ?_
      refine lv_aload_n hx hb d_Snk_putBits_21 rfl (lv_at hl 0 rfl) ?_
      refine w_geti (k := 6) (t := 1) (C := R_Snk) (T := F_Snk) (N := 7) hx hb hT hown hK hW fo.1 fo.2 (by decide) in_Snk rfl rfl (by decide) rfl fr_Snk_6 w_1_53 d_Snk_putBits_22 ?_
      refine lv_isub hx hb d_Snk_putBits_25 ?_
      refine lv_iload_n hx hb d_Snk_putBits_26 rfl (lv_at hl 2 rfl) ?_
      refine lv_iload hx hb d_Snk_putBits_27 (lv_at hl 3 rfl) ?_
      refine lv_isub hx hb d_Snk_putBits_29 ?_
      refine va_mmin hx hb (hml.trans hl.1.symm) hown (hT _ w_1_37) (hT _ w_1_38) (hT _ w_1_3) (hT _ w_1_39) (Nat.le_trans (by decide) hRf) (Nat.le_trans (Nat.le_of_ble_eq_true rfl) hRl) (Nat.le_trans (Nat.le_add_right _ _) hRc) (Nat.le_trans (Nat.le_add_right _ _) hRs) d_Snk_putBits_30 ?_
      refine lv_topi (fun v5 ev5 => ?_)
      have hw := hw v5 ev5
      refine lv_istore (lv' := [(6, .int v5), (0, .ref (ad o)), (1, .long l1), (3, .int l3), (4, .int l4), (5, .int l5)]) hx hb d_Snk_putBits_33 hl (by decide) rfl (fun ls hl => ?_)
      refine lv_aload_n hx hb d_Snk_putBits_35 rfl (lv_at hl 1 rfl) ?_
      refine lv_dup hx hb d_Snk_putBits_36 rfl ?_
      refine w_geti (k := 5) (t := 1) (C := R_Snk) (T := F_Snk) (N := 7) hx hb hT hown hK hW fo.1 fo.2 (by decide) in_Snk rfl rfl (by decide) rfl fr_Snk_5 w_1_52 d_Snk_putBits_37 ?_
      refine lv_lload_n hx hb d_Snk_putBits_40 rfl (lv_at hl 2 rfl) ?_
      refine lv_iload hx hb d_Snk_putBits_41 (lv_at hl 4 rfl) ?_
      refine lv_lushr hx hb d_Snk_putBits_43 rfl ?_
      refine lv_iconst (v := 1) hx hb d_Snk_putBits_44 (by decide) ?_
      refine lv_iload hx hb d_Snk_putBits_45 (lv_at hl 0 rfl) ?_
      refine lv_ishl hx hb d_Snk_putBits_47 ?_
      refine lv_iconst (v := 1) hx hb d_Snk_putBits_48 (by decide) ?_
      refine lv_isub hx hb d_Snk_putBits_49 ?_
      refine lv_i2l hx hb d_Snk_putBits_50 rfl ?_
      refine lv_land hx hb d_Snk_putBits_51 ?_
      refine lv_l2i hx hb d_Snk_putBits_52 rfl ?_
      refine lv_aload_n hx hb d_Snk_putBits_53 rfl (lv_at hl 1 rfl) ?_
      refine w_geti (k := 6) (t := 1) (C := R_Snk) (T := F_Snk) (N := 7) hx hb hT hown hK hW fo.1 fo.2 (by decide) in_Snk rfl rfl (by decide) rfl fr_Snk_6 w_1_53 d_Snk_putBits_54 ?_
      refine lv_ishl hx hb d_Snk_putBits_57 ?_
      refine lv_ior hx hb d_Snk_putBits_58 ?_
      refine w_puti (ty := .int) (k := 5) (t := 1) (C := R_Snk) (T := F_Snk) (N := 7) hx hb hT hown hK hW hS fo.1 fo.2 (by decide) in_Snk t_Snk t_Snk_ok n_Snk rfl rfl (by decide) rfl fr_Snk_5 w_1_52 (by decide +kernel) rfl rfl d_Snk_putBits_59 (fun H locs hW hS => ?_)
      obtain ⟨x6, ex6⟩ : ∃ y : St, y = setI x o 5 ((fI x o 5) ||| (((((l1 : Int64).toUInt64 >>> ((l4 : Int32).toInt64.toUInt64 &&& Int64.toUInt64 63)).toInt64 &&& (((1 <<< (v5 &&& 31)) - 1) : Int32).toInt64) : Int64).toInt32 <<< ((fI x o 6) &&& 31))) := ⟨_, rfl⟩
      rw [← ex6] at hW
      have hw := hw x6 ex6
      refine lv_aload_n hx hb d_Snk_putBits_62 rfl (lv_at hl 1 rfl) ?_
      refine lv_dup hx hb d_Snk_putBits_63 rfl ?_
      refine w_geti (k := 6) (t := 1) (C := R_Snk) (T := F_Snk) (N := 7) hx hb hT hown hK hW fo.1 fo.2 (by decide) in_Snk rfl rfl (by decide) rfl fr_Snk_6 w_1_53 d_Snk_putBits_64 ?_
      refine lv_iload hx hb d_Snk_putBits_67 (lv_at hl 0 rfl) ?_
      refine lv_iadd hx hb d_Snk_putBits_69 ?_
      refine w_puti (ty := .int) (k := 6) (t := 1) (C := R_Snk) (T := F_Snk) (N := 7) hx hb hT hown hK hW hS fo.1 fo.2 (by decide) in_Snk t_Snk t_Snk_ok n_Snk rfl rfl (by decide) rfl fr_Snk_6 w_1_53 (by decide +kernel) rfl rfl d_Snk_putBits_70 (fun H locs hW hS => ?_)
      obtain ⟨x7, ex7⟩ : ∃ y : St, y = setI x6 o 6 ((fI x6 o 6) + v5) := ⟨_, rfl⟩
      rw [← ex7] at hW
      have hw := hw x7 ex7
      refine lv_iload hx hb d_Snk_putBits_73 (lv_at hl 4 rfl) ?_
      refine lv_iload hx hb d_Snk_putBits_75 (lv_at hl 0 rfl) ?_
      refine lv_iadd hx hb d_Snk_putBits_77 ?_
      refine lv_topi (fun v8 ev8 => ?_)
      have hw := hw v8 ev8
      refine lv_istore (lv' := [(4, .int v8), (6, .int v5), (0, .ref (ad o)), (1, .long l1), (3, .int l3), (5, .int l5)]) hx hb d_Snk_putBits_78 hl (by decide) rfl (fun ls hl => ?_)
      refine lv_aload_n hx hb d_Snk_putBits_80 rfl (lv_at hl 2 rfl) ?_
      refine w_geti (k := 6) (t := 1) (C := R_Snk) (T := F_Snk) (N := 7) hx hb hT hown hK hW fo.1 fo.2 (by decide) in_Snk rfl rfl (by decide) rfl fr_Snk_6 w_1_53 d_Snk_putBits_81 ?_
      refine lv_bipush (v := 8) hx hb d_Snk_putBits_84 (by decide) ?_
      refine lv_icmp_ne (tgt := 131) hx hb d_Snk_putBits_86 (by decide) (fun c9 => ?_) (fun c9 => ?_)
      · have hw := hw.1 c9
        exact t_Snk_putBits_131 hx hb hml hown hT hK hN hA hRf hRl hE hret hrec6 ad NN cells slots o l1 l3 v8 l5 v5 kb nb x7 H locs ls hNN hag hRc hRs fo hw hW hS (lv_sub hl [2, 3, 4, 0, 5, 1] rfl)
      · have hw := hw.2 c9
        refine lv_aload_n hx hb d_Snk_putBits_89 rfl (lv_at hl 2 rfl) ?_
        refine lv_iconst (v := 1) hx hb d_Snk_putBits_90 (by decide) ?_
        obtain ⟨k10, n11, k12, n13, ek10, en11, hw⟩ := hw
        have hF := hW.free hS hA
        refine va_calli (va_runV (C := R_Snk) (As := [.int 1]) (rest := []) ⟨hx, hb, hml, hown, hT⟩ (k_Snk_hasRoom l dC dI cI cB cJ cZ ad NN E tM tC kK kV hNN H.size o 1 k10 n11 x7 fo hw) ⟨callB_of 1 hT (gwt_in w_4_56) rfl rfl rfl (hT _ w_1_2) (hT _ w_4_53) (by decide +kernel) ⟨Nat.le_trans (Nat.le_of_ble_eq_true rfl) hRf, Nat.le_trans (Nat.le_of_ble_eq_true rfl) hRl⟩, hT _ w_4_55, hT _ ws_1⟩ ⟨PVc.blind, va_recv hK hW.1 (ci := 1) (q0 := o) rfl (pic_obj fo.1 fo.2 (by decide)), PVc.at _ hW hK hN hE hS hF⟩ rfl rfl hl.1 rfl (lv_room (Nat.le_of_ble_eq_true rfl)) d_Snk_putBits_91 ⟨show cells + k10 ≤ R.cells by omega, show slots + n11 ≤ R.slots by omega⟩) hS (fun q _ h => hF q h) hF (fun r15 x14 t H locs ht hvm hw hB hz1 hk1 hS => ?_)
        obtain ⟨x14, ad, NN⟩ := x14
        obtain ⟨hB, hle, hg⟩ := hB
        try dsimp only at hw hB hle hg
        have hW := Wd.back hB ht hF
        rw [← hg o fo.1] at hl
        have fo : o < NN ∧ kcC o = 1 := ⟨Nat.lt_of_lt_of_le fo.1 hle, fo.2⟩
        have hag : NN0 ≤ NN ∧ ∀ o : Nat, o < NN0 → ad o = ad0 o := ⟨Nat.le_trans hag.1 hle, fun o h => (hg o (Nat.lt_of_lt_of_le h hag.1)).trans (hag.2 o h)⟩
        have hNN : 152 ≤ NN := Nat.le_trans hNN hle
        clear hg hle
        obtain ⟨cells, ec⟩ : ∃ z, z = cells + k10 := ⟨_, rfl⟩
        obtain ⟨slots, es⟩ : ∃ z, z = slots + n11 := ⟨_, rfl⟩
        first | rw [← ec, ← es] | rw [Nat.add_zero, Nat.add_zero, ← ec, ← es]
        have hRc : cells + k12 ≤ R.cells := by omega
        have hRs : slots + n13 ≤ R.slots := by omega
        clear ec es hB ht hF hz1 hk1 hvm ek10 en11
        refine lv_if_eq (tgt := 121) hx hb d_Snk_putBits_94 (by decide) (fun c16 => ?_) (fun c16 => ?_)
        · have hw := hw.1 c16
          exact t_Snk_putBits_121 hx hb hml hown hT hK hN hA hRf hRl hE hret hrec6 ad NN cells slots o l1 l3 v8 l5 v5 k12 n13 x14 H locs ls hNN hag hRc hRs fo hw hW hS (lv_sub hl [2, 3, 4, 0, 5, 1] rfl)
        · have hw := hw.2 c16
          refine lv_aload_n hx hb d_Snk_putBits_97 rfl (lv_at hl 2 rfl) ?_
          obtain ⟨q17, hq17, hw⟩ := hw
          refine w_getr (q := q17) (k := 0) (t := 1) (C := R_Snk) (T := F_Snk) (N := 7) hx hb hT hown hK hW fo.1 fo.2 (by decide) in_Snk rfl rfl (by decide) rfl fr_Snk_0 w_1_40 d_Snk_putBits_98 hq17 (fun aq17 bq17 => ?_)
          have fq17 : q17 < NN ∧ kcC q17 = 21 := ⟨aq17, bq17⟩
          refine lv_aload_n hx hb d_Snk_putBits_101 rfl (lv_at hl 2 rfl) ?_
          refine w_geti (k := 1) (t := 1) (C := R_Snk) (T := F_Snk) (N := 7) hx hb hT hown hK hW fo.1 fo.2 (by decide) in_Snk rfl rfl (by decide) rfl fr_Snk_1 w_1_43 d_Snk_putBits_102 ?_
          refine lv_aload_n hx hb d_Snk_putBits_105 rfl (lv_at hl 2 rfl) ?_
          refine w_geti (k := 5) (t := 1) (C := R_Snk) (T := F_Snk) (N := 7) hx hb hT hown hK hW fo.1 fo.2 (by decide) in_Snk rfl rfl (by decide) rfl fr_Snk_5 w_1_52 d_Snk_putBits_106 ?_
          refine lv_i2b hx hb d_Snk_putBits_109 rfl ?_
          obtain ⟨hi, hw⟩ := hw
          refine w_bast (o := q17) hx hb hK hW hS fq17.1 fq17.2 hi d_Snk_putBits_110 (fun H locs hW hS => ?_)
          obtain ⟨x18, ex18⟩ : ∃ y : St, y = setA x14 q17 (fI x14 o 1) (vp_nar .byte ((fI x14 o 5) : Int32).toInt8.toInt32) := ⟨_, rfl⟩
          rw [← ex18] at hW
          have hw := hw x18 ex18
          refine lv_aload_n hx hb d_Snk_putBits_111 rfl (lv_at hl 2 rfl) ?_
          refine lv_dup hx hb d_Snk_putBits_112 rfl ?_
          refine w_geti (k := 1) (t := 1) (C := R_Snk) (T := F_Snk) (N := 7) hx hb hT hown hK hW fo.1 fo.2 (by decide) in_Snk rfl rfl (by decide) rfl fr_Snk_1 w_1_43 d_Snk_putBits_113 ?_
          refine lv_iconst (v := 1) hx hb d_Snk_putBits_116 (by decide) ?_
          refine lv_iadd hx hb d_Snk_putBits_117 ?_
          refine w_puti (ty := .int) (k := 1) (t := 1) (C := R_Snk) (T := F_Snk) (N := 7) hx hb hT hown hK hW hS fo.1 fo.2 (by decide) in_Snk t_Snk t_Snk_ok n_Snk rfl rfl (by decide) rfl fr_Snk_1 w_1_43 (by decide +kernel) rfl rfl d_Snk_putBits_118 (fun H locs hW hS => ?_)
          obtain ⟨x19, ex19⟩ : ∃ y : St, y = setI x18 o 1 ((fI x18 o 1) + 1) := ⟨_, rfl⟩
          rw [← ex19] at hW
          have hw := hw x19 ex19
          exact t_Snk_putBits_121 hx hb hml hown hT hK hN hA hRf hRl hE hret hrec6 ad NN cells slots o l1 l3 v8 l5 v5 k12 n13 x19 H locs ls hNN hag hRc hRs fo hw hW hS (lv_sub hl [2, 3, 4, 0, 5, 1] rfl)
set_option maxHeartbeats 4000000 in
set_option maxRecDepth 100000 in
theorem tl_Snk_putBits_6 {p : Program} {l : Launch} {e : Env} {R : Room} {s : State} {m : MethodId} {args : Array Value} {below : List Frame} {meth : Method} {c : Code} {Q : State → Prop} {dC : Nat → ClassId} {dI : Nat → Nat → Nat} {cI cB cJ cZ : ClassId} {A : Nat → Prop} {E : Heap} {tM tC : Nat} {kK kV : Nat → Nat} {ad0 : Nat → Nat} {NN0 : Nat} {post : St → Prop} (hx : p.tables.exec = Jvm.exec) (hb : c.code = b_Snk_putBits) (hml : c.maxLocals = 7) (hown : s.vm.findClass R_Snk = some m.cls) (hT : ∀ w ∈ TG, w.before args s = true) (hK : va_K (dC, dI) CL (TY cI cB cJ cZ) s) (hN : NW s) (hA : ∀ q : Nat, s.heap.size ≤ q → A q) (hRf : 3 ≤ R.frames) (hRl : 221 ≤ R.locals) (hE : CE E tM tC kK kV A s) (hret : ∀ (ad : Nat → Nat) (NN cells slots : Nat) (x : St) (H : Heap) (locs : List Loc) (pc : Nat) (ls : Array Slot), decode b_Snk_putBits pc = .ok (.return_, 1) → (NN0 ≤ NN ∧ ∀ o : Nat, o < NN0 → ad o = ad0 o) → cells ≤ R.cells → slots ≤ R.slots → post x → Wd dC dI cI cB cJ cZ ad stC kcC NN A x H → va_S A s.heap H locs → W p l e R s m args below meth c H locs cells slots Q (F0 m pc ls []))  : ∀ n : Nat, ∀ (ad : Nat → Nat) (NN cells slots : Nat) (o : Nat) (l1 : Int64) (l3 : Int32) (l4 : Int32) (l5 : Int32) (kb : Nat) (nb : Nat) (x : St) (H : Heap) (locs : List Loc) (ls : Array Slot), (152 ≤ NN) → (NN0 ≤ NN ∧ ∀ o : Nat, o < NN0 → ad o = ad0 o) → (cells + kb ≤ R.cells) → (slots + nb ≤ R.slots) → (o < NN ∧ kcC o = 1) → wl_Snk_putBits_6 post n o l1 l3 l4 l5 kb nb x → Wd dC dI cI cB cJ cZ ad stC kcC NN A x H → va_S A s.heap H locs → lv_has ls 7 [(0, .ref (ad o)), (1, .long l1), (3, .int l3), (4, .int l4), (5, .int l5)] → W p l e R s m args below meth c H locs cells slots Q (F0 m 6 ls []) := by
  intro n
  induction n with
  | zero => intro ad NN cells slots o l1 l3 l4 l5 kb nb x H locs ls hNN hag hRc hRs fo hw; exact hw.elim
  | succ n ih => intro ad NN cells slots o l1 l3 l4 l5 kb nb x H locs ls hNN hag hRc hRs fo hw hW hS hl; exact t_Snk_putBits_6 hx hb hml hown hT hK hN hA hRf hRl hE hret  ih ad NN cells slots o l1 l3 l4 l5 kb nb x H locs ls hNN hag hRc hRs fo hw hW hS hl
set_option maxRecDepth 100000 in
set_option maxHeartbeats 4000000 in
set_option maxRecDepth 100000 in
theorem t_Snk_putBits_e {p : Program} {l : Launch} {e : Env} {R : Room} {s : State} {m : MethodId} {args : Array Value} {below : List Frame} {meth : Method} {c : Code} {Q : State → Prop} {dC : Nat → ClassId} {dI : Nat → Nat → Nat} {cI cB cJ cZ : ClassId} {A : Nat → Prop} {E : Heap} {tM tC : Nat} {kK kV : Nat → Nat} {ad0 : Nat → Nat} {NN0 : Nat} {post : St → Prop} (hx : p.tables.exec = Jvm.exec) (hb : c.code = b_Snk_putBits) (hml : c.maxLocals = 7) (hown : s.vm.findClass R_Snk = some m.cls) (hT : ∀ w ∈ TG, w.before args s = true) (hK : va_K (dC, dI) CL (TY cI cB cJ cZ) s) (hN : NW s) (hA : ∀ q : Nat, s.heap.size ≤ q → A q) (hRf : 3 ≤ R.frames) (hRl : 221 ≤ R.locals) (hE : CE E tM tC kK kV A s) (hret : ∀ (ad : Nat → Nat) (NN cells slots : Nat) (x : St) (H : Heap) (locs : List Loc) (pc : Nat) (ls : Array Slot), decode b_Snk_putBits pc = .ok (.return_, 1) → (NN0 ≤ NN ∧ ∀ o : Nat, o < NN0 → ad o = ad0 o) → cells ≤ R.cells → slots ≤ R.slots → post x → Wd dC dI cI cB cJ cZ ad stC kcC NN A x H → va_S A s.heap H locs → W p l e R s m args below meth c H locs cells slots Q (F0 m pc ls [])) : ∀ (ad : Nat → Nat) (NN cells slots : Nat) (o : Nat) (l1 : Int64) (l3 : Int32) (kb : Nat) (nb : Nat) (x : St) (H : Heap) (locs : List Loc) (ls : Array Slot), (152 ≤ NN) → (NN0 ≤ NN ∧ ∀ o : Nat, o < NN0 → ad o = ad0 o) → (cells + kb ≤ R.cells) → (slots + nb ≤ R.slots) → (o < NN ∧ kcC o = 1) → wp_Snk_putBits post o l1 l3 kb nb x → Wd dC dI cI cB cJ cZ ad stC kcC NN A x H → va_S A s.heap H locs → lv_has ls 7 [(0, .ref (ad o)), (1, .long l1), (3, .int l3)] → W p l e R s m args below meth c H locs cells slots Q (F0 m 0 ls []) := by
  intro ad NN cells slots o l1 l3 kb nb x H locs ls hNN hag hRc hRs fo hw hW hS hl
  unfold wp_Snk_putBits at hw
  refine lv_iconst (v := 0) hx hb d_Snk_putBits_0 (by decide) ?_
  refine lv_istore (lv' := [(4, .int 0), (0, .ref (ad o)), (1, .long l1), (3, .int l3)]) hx hb d_Snk_putBits_1 hl (by decide) rfl (fun ls hl => ?_)
  refine lv_iconst (v := 0) hx hb d_Snk_putBits_3 (by decide) ?_
  refine lv_istore (lv' := [(5, .int 0), (4, .int 0), (0, .ref (ad o)), (1, .long l1), (3, .int l3)]) hx hb d_Snk_putBits_4 hl (by decide) rfl (fun ls hl => ?_)
  obtain ⟨n, hw⟩ := hw
  exact tl_Snk_putBits_6 hx hb hml hown hT hK hN hA hRf hRl hE hret  n ad NN cells slots o l1 l3 0 0 kb nb x H locs ls hNN hag hRc hRs fo hw hW hS (lv_sub hl [2, 3, 4, 1, 0] rfl)
set_option maxHeartbeats 4000000 in
set_option maxRecDepth 100000 in
theorem k_Snk_putBits (l : Launch) (dC : Nat → ClassId) (dI : Nat → Nat → Nat) (cI cB cJ cZ : ClassId) (ad : Nat → Nat) (NN : Nat) (E : Heap) (tM tC : Nat) (kK kV : Nat → Nat) (hNN : 152 ≤ NN) (sz : Nat) (o : Nat) (l1 : Int64) (l3 : Int32) (kb : Nat) (nb : Nat) (x : St) (fo : o < NN ∧ kcC o = 1) {post : St → Prop} (hw : wp_Snk_putBits post o l1 l3 kb nb x) : Met l y_Snk_putBits (wsOf y_Snk_putBits b_Snk_putBits 7 (none)) ({ frames := 3, cells := kb, slots := nb, locals := 221 }) (va_Pc [.ref (ad o), .long l1, .int l3] (PVc dC dI cI cB cJ cZ ad stC kcC NN E tM tC kK kV sz x)) (va_Qv (fun (u : St × (Nat → Nat) × Nat) => post u.1) (fun u t => Wd dC dI cI cB cJ cZ u.2.1 stC kcC u.2.2 (va_A (pic ad stC kcC NN cI cB cJ cZ x) sz) u.1 t.heap ∧ NN ≤ u.2.2 ∧ ∀ o : Nat, o < NN → u.2.1 o = ad o) (va_A (pic ad stC kcC NN cI cB cJ cZ x) sz)) kb nb (va_A (pic ad stC kcC NN cI cB cJ cZ x) sz) := by
  refine Met.ofW (cc := b_Snk_putBits) (maxL := 7) (ret := none) (by decide) rfl ?_
  intro p e s m args below meth c s₁ B hml hv
  obtain ⟨rfl, ⟨hsz, hW0, hK, hN⟩, hE⟩ := hv
  have hx := B.exec
  have hb := B.bytes
  have hr := B.returns
  have hts := atoms_spec B.pre
  have hT : ∀ w ∈ TG, w.before _ s = true := fun w h => hts w (List.mem_cons_of_mem _ h)
  have hown : s.vm.findClass R_Snk = some m.cls := findClass_of_methodNamed B.named
  have hlocks := B.notSynchronized
  subst hsz
  have hW : Wd dC dI cI cB cJ cZ ad stC kcC NN (va_A (pic ad stC kcC NN cI cB cJ cZ x) s.heap.size) x s.heap := ⟨hW0.1, hW0.2.1.self (sz := s.heap.size), hW0.2.2⟩
  generalize hAe : va_A (pic ad stC kcC NN cI cB cJ cZ x) s.heap.size = A at hW hE ⊢
  have hA : ∀ q : Nat, s.heap.size ≤ q → A q := fun q h => by rw [← hAe]; exact Or.inr h
  have hS : va_S A s.heap s.heap [] := va_S.rf
  have hl := lv_entry ([.ref (ad o), .long l1, .int l3]) (n := 7) (Nat.le_of_ble_eq_true rfl)
  rw [lg_entry_eq]
  generalize (lg_sl ([.ref (ad o), .long l1, .int l3]) ++ List.replicate (7 - (lg_sl ([.ref (ad o), .long l1, .int l3])).length) Slot.unset).toArray = ls at hl ⊢
  have hl : lv_has ls 7 [(0, .ref (ad o)), (1, .long l1), (3, .int l3)] := hl
  exact t_Snk_putBits_e hx hb hml hown hT hK hN hA (Nat.le_refl 3) (Nat.le_refl 221) hE (fun ad1 NN1 cells slots x1 H locs pc ls hd hag hc hs hp hW hS => W.widen (k := kb) (n := nb) hc hs (W.vret hx hb hr (fun t ht hM => ⟨⟨(x1, ad1, NN1), rfl, hp, Wd.back hW ht.symm (fun _ z => z), hag.1, hag.2⟩, hS.F ht⟩) hS.2.2 hd hlocks))  ad NN 0 0 o l1 l3 kb nb x _ _ ls hNN ⟨Nat.le_refl _, fun _ _ => rfl⟩ (Nat.le_of_eq (Nat.zero_add kb)) (Nat.le_of_eq (Nat.zero_add nb)) fo hw hW hS hl
set_option maxRecDepth 100000 in
set_option maxHeartbeats 4000000 in
set_option maxRecDepth 100000 in
theorem t_Snk_putGroups_76 {p : Program} {l : Launch} {e : Env} {R : Room} {s : State} {m : MethodId} {args : Array Value} {below : List Frame} {meth : Method} {c : Code} {Q : State → Prop} {dC : Nat → ClassId} {dI : Nat → Nat → Nat} {cI cB cJ cZ : ClassId} {A : Nat → Prop} {E : Heap} {tM tC : Nat} {kK kV : Nat → Nat} {ad0 : Nat → Nat} {NN0 : Nat} {post : Int32 → St → Prop} {rec53 : Nat → Nat → Int32 → Int32 → Int32 → Int32 → Int32 → Nat → Nat → St → Prop} (hx : p.tables.exec = Jvm.exec) (hb : c.code = b_Snk_putGroups) (hml : c.maxLocals = 7) (hown : s.vm.findClass R_Snk = some m.cls) (hT : ∀ w ∈ TG, w.before args s = true) (hK : va_K (dC, dI) CL (TY cI cB cJ cZ) s) (hN : NW s) (hA : ∀ q : Nat, s.heap.size ≤ q → A q) (hRf : 4 ≤ R.frames) (hRl : 247 ≤ R.locals) (hE : CE E tM tC kK kV A s) (hret : ∀ (r : Int32) (ad : Nat → Nat) (NN cells slots : Nat) (x : St) (H : Heap) (locs : List Loc) (pc : Nat) (ls : Array Slot), decode b_Snk_putGroups pc = .ok (.ireturn, 1) → (NN0 ≤ NN ∧ ∀ o : Nat, o < NN0 → ad o = ad0 o) → cells ≤ R.cells → slots ≤ R.slots → post r x → Wd dC dI cI cB cJ cZ ad stC kcC NN A x H → va_S A s.heap H locs → W p l e R s m args below meth c H locs cells slots Q (F0 m pc ls [.int r])) (hrec53 : ∀ (ad : Nat → Nat) (NN cells slots : Nat) (o : Nat) (l1 : Nat) (l2 : Int32) (l3 : Int32) (l4 : Int32) (l5 : Int32) (l6 : Int32) (kb : Nat) (nb : Nat) (x : St) (H : Heap) (locs : List Loc) (ls : Array Slot), (152 ≤ NN) → (NN0 ≤ NN ∧ ∀ o : Nat, o < NN0 → ad o = ad0 o) → (cells + kb ≤ R.cells) → (slots + nb ≤ R.slots) → (o < NN ∧ kcC o = 1) → (l1 < NN ∧ kcC l1 = 20) → rec53 o l1 l2 l3 l4 l5 l6 kb nb x → Wd dC dI cI cB cJ cZ ad stC kcC NN A x H → va_S A s.heap H locs → lv_has ls 7 [(0, .ref (ad o)), (1, .ref (ad l1)), (2, .int l2), (3, .int l3), (4, .int l4), (5, .int l5), (6, .int l6)] → W p l e R s m args below meth c H locs cells slots Q (F0 m 53 ls [])) : ∀ (ad : Nat → Nat) (NN cells slots : Nat) (o : Nat) (l1 : Nat) (l2 : Int32) (l3 : Int32) (l4 : Int32) (l5 : Int32) (l6 : Int32) (s0 : Int64) (s1 : Nat) (kb : Nat) (nb : Nat) (x : St) (H : Heap) (locs : List Loc) (ls : Array Slot), (152 ≤ NN) → (NN0 ≤ NN ∧ ∀ o : Nat, o < NN0 → ad o = ad0 o) → (cells + kb ≤ R.cells) → (slots + nb ≤ R.slots) → (o < NN ∧ kcC o = 1) → (l1 < NN ∧ kcC l1 = 20) → (s1 < NN ∧ kcC s1 = 1) → j_Snk_putGroups_76 post rec53 o l1 l2 l3 l4 l5 l6 s0 s1 kb nb x → Wd dC dI cI cB cJ cZ ad stC kcC NN A x H → va_S A s.heap H locs → lv_has ls 7 [(0, .ref (ad o)), (1, .ref (ad l1)), (2, .int l2), (3, .int l3), (4, .int l4), (5, .int l5), (6, .int l6)] → W p l e R s m args below meth c H locs cells slots Q (F0 m 76 ls [.long s0, .ref (ad s1)]) := by
  intro ad NN cells slots o l1 l2 l3 l4 l5 l6 s0 s1 kb nb x H locs ls hNN hag hRc hRs fo fl1 fs1 hw hW hS hl
  unfold j_Snk_putGroups_76 at hw
  refine lv_iload hx hb d_Snk_putGroups_76 (lv_at hl 4 rfl) ?_
  obtain ⟨k1, n2, k3, n4, ek1, en2, hw⟩ := hw
  have hF := hW.free hS hA
  refine va_callv (va_runV (C := R_Snk) (As := [.long s0, .int l4]) (rest := []) ⟨hx, hb, hml, hown, hT⟩ (k_Snk_putBits l dC dI cI cB cJ cZ ad NN E tM tC kK kV hNN H.size s1 s0 l4 k1 n2 x fs1 hw) ⟨callB_of 2 hT (gwt_in w_5_210) rfl rfl rfl (hT _ w_1_2) (hT _ w_5_207) (by decide +kernel) ⟨Nat.le_trans (Nat.le_of_ble_eq_true rfl) hRf, Nat.le_trans (Nat.le_of_ble_eq_true rfl) hRl⟩, hT _ w_5_209, hT _ ws_24⟩ ⟨PVc.blind, va_recv hK hW.1 (ci := 1) (q0 := s1) rfl (pic_obj fs1.1 fs1.2 (by decide)), PVc.at _ hW hK hN hE hS hF⟩ rfl rfl hl.1 rfl (lv_room (Nat.le_of_ble_eq_true rfl)) d_Snk_putGroups_78 ⟨show cells + k1 ≤ R.cells by omega, show slots + n2 ≤ R.slots by omega⟩) hS (fun q _ h => hF q h) hF (fun  x5 t H locs ht hvm hw hB hz1 hk1 hS => ?_)
  obtain ⟨x5, ad, NN⟩ := x5
  obtain ⟨hB, hle, hg⟩ := hB
  try dsimp only at hw hB hle hg
  have hW := Wd.back hB ht hF
  rw [← hg o fo.1] at hl
  rw [← hg l1 fl1.1] at hl
  have fl1 : l1 < NN ∧ kcC l1 = 20 := ⟨Nat.lt_of_lt_of_le fl1.1 hle, fl1.2⟩
  have fo : o < NN ∧ kcC o = 1 := ⟨Nat.lt_of_lt_of_le fo.1 hle, fo.2⟩
  have fs1 : s1 < NN ∧ kcC s1 = 1 := ⟨Nat.lt_of_lt_of_le fs1.1 hle, fs1.2⟩
  have hag : NN0 ≤ NN ∧ ∀ o : Nat, o < NN0 → ad o = ad0 o := ⟨Nat.le_trans hag.1 hle, fun o h => (hg o (Nat.lt_of_lt_of_le h hag.1)).trans (hag.2 o h)⟩
  have hNN : 152 ≤ NN := Nat.le_trans hNN hle
  clear hg hle
  obtain ⟨cells, ec⟩ : ∃ z, z = cells + k1 := ⟨_, rfl⟩
  obtain ⟨slots, es⟩ : ∃ z, z = slots + n2 := ⟨_, rfl⟩
  first | rw [← ec, ← es] | rw [Nat.add_zero, Nat.add_zero, ← ec, ← es]
  have hRc : cells + k3 ≤ R.cells := by omega
  have hRs : slots + n4 ≤ R.slots := by omega
  clear ec es hB ht hF hz1 hk1 hvm ek1 en2
  refine lv_iinc (v := (l6 + 1)) (lv' := [(6, .int (l6 + 1)), (0, .ref (ad o)), (1, .ref (ad l1)), (2, .int l2), (3, .int l3), (4, .int l4), (5, .int l5)]) hx hb d_Snk_putGroups_81 hl (k := 6) rfl rfl (by decide) rfl (fun ls hl => ?_)
  refine lv_goto (tgt := 53) hx hb d_Snk_putGroups_84 (by decide) ?_
  exact hrec53 ad NN cells slots o l1 l2 l3 l4 l5 (l6 + 1) k3 n4 x5 H locs ls hNN hag hRc hRs fo fl1 hw hW hS (lv_sub hl [1, 2, 3, 4, 5, 6, 0] rfl)
set_option maxRecDepth 100000 in
set_option maxHeartbeats 4000000 in
set_option maxRecDepth 100000 in
theorem t_Snk_putGroups_53 {p : Program} {l : Launch} {e : Env} {R : Room} {s : State} {m : MethodId} {args : Array Value} {below : List Frame} {meth : Method} {c : Code} {Q : State → Prop} {dC : Nat → ClassId} {dI : Nat → Nat → Nat} {cI cB cJ cZ : ClassId} {A : Nat → Prop} {E : Heap} {tM tC : Nat} {kK kV : Nat → Nat} {ad0 : Nat → Nat} {NN0 : Nat} {post : Int32 → St → Prop} {rec53 : Nat → Nat → Int32 → Int32 → Int32 → Int32 → Int32 → Nat → Nat → St → Prop} (hx : p.tables.exec = Jvm.exec) (hb : c.code = b_Snk_putGroups) (hml : c.maxLocals = 7) (hown : s.vm.findClass R_Snk = some m.cls) (hT : ∀ w ∈ TG, w.before args s = true) (hK : va_K (dC, dI) CL (TY cI cB cJ cZ) s) (hN : NW s) (hA : ∀ q : Nat, s.heap.size ≤ q → A q) (hRf : 4 ≤ R.frames) (hRl : 247 ≤ R.locals) (hE : CE E tM tC kK kV A s) (hret : ∀ (r : Int32) (ad : Nat → Nat) (NN cells slots : Nat) (x : St) (H : Heap) (locs : List Loc) (pc : Nat) (ls : Array Slot), decode b_Snk_putGroups pc = .ok (.ireturn, 1) → (NN0 ≤ NN ∧ ∀ o : Nat, o < NN0 → ad o = ad0 o) → cells ≤ R.cells → slots ≤ R.slots → post r x → Wd dC dI cI cB cJ cZ ad stC kcC NN A x H → va_S A s.heap H locs → W p l e R s m args below meth c H locs cells slots Q (F0 m pc ls [.int r])) (hrec53 : ∀ (ad : Nat → Nat) (NN cells slots : Nat) (o : Nat) (l1 : Nat) (l2 : Int32) (l3 : Int32) (l4 : Int32) (l5 : Int32) (l6 : Int32) (kb : Nat) (nb : Nat) (x : St) (H : Heap) (locs : List Loc) (ls : Array Slot), (152 ≤ NN) → (NN0 ≤ NN ∧ ∀ o : Nat, o < NN0 → ad o = ad0 o) → (cells + kb ≤ R.cells) → (slots + nb ≤ R.slots) → (o < NN ∧ kcC o = 1) → (l1 < NN ∧ kcC l1 = 20) → rec53 o l1 l2 l3 l4 l5 l6 kb nb x → Wd dC dI cI cB cJ cZ ad stC kcC NN A x H → va_S A s.heap H locs → lv_has ls 7 [(0, .ref (ad o)), (1, .ref (ad l1)), (2, .int l2), (3, .int l3), (4, .int l4), (5, .int l5), (6, .int l6)] → W p l e R s m args below meth c H locs cells slots Q (F0 m 53 ls [])) : ∀ (ad : Nat → Nat) (NN cells slots : Nat) (o : Nat) (l1 : Nat) (l2 : Int32) (l3 : Int32) (l4 : Int32) (l5 : Int32) (l6 : Int32) (kb : Nat) (nb : Nat) (x : St) (H : Heap) (locs : List Loc) (ls : Array Slot), (152 ≤ NN) → (NN0 ≤ NN ∧ ∀ o : Nat, o < NN0 → ad o = ad0 o) → (cells + kb ≤ R.cells) → (slots + nb ≤ R.slots) → (o < NN ∧ kcC o = 1) → (l1 < NN ∧ kcC l1 = 20) → j_Snk_putGroups_53 post rec53 o l1 l2 l3 l4 l5 l6 kb nb x → Wd dC dI cI cB cJ cZ ad stC kcC NN A x H → va_S A s.heap H locs → lv_has ls 7 [(0, .ref (ad o)), (1, .ref (ad l1)), (2, .int l2), (3, .int l3), (4, .int l4), (5, .int l5), (6, .int l6)] → W p l e R s m args below meth c H locs cells slots Q (F0 m 53 ls []) := by
  intro ad NN cells slots o l1 l2 l3 l4 l5 l6 kb nb x H locs ls hNN hag hRc hRs fo fl1 hw hW hS hl
  unfold j_Snk_putGroups_53 at hw
  refine lv_iload hx hb d_Snk_putGroups_53 (lv_at hl 6 rfl) ?_
  refine lv_iload hx hb d_Snk_putGroups_55 (lv_at hl 5 rfl) ?_
  refine lv_icmp_ge (tgt := 87) hx hb d_Snk_putGroups_57 (by decide) (fun c6 => ?_) (fun c6 => ?_)
  · have hw := hw.1 c6
    refine lv_iload hx hb d_Snk_putGroups_87 (lv_at hl 5 rfl) ?_
    exact hret l5 ad NN cells slots x H locs 89 ls d_Snk_putGroups_89 hag (Nat.le_trans (Nat.le_add_right _ _) hRc) (Nat.le_trans (Nat.le_add_right _ _) hRs) hw hW hS
  · have hw := hw.2 c6
    refine lv_aload_n hx hb d_Snk_putGroups_60 rfl (lv_at hl 0 rfl) ?_
    refine lv_iload hx hb d_Snk_putGroups_61 (lv_at hl 6 rfl) ?_
    refine lv_iload_n hx hb d_Snk_putGroups_63 rfl (lv_at hl 2 rfl) ?_
    refine lv_icmp_ge (tgt := 75) hx hb d_Snk_putGroups_64 (by decide) (fun c7 => ?_) (fun c7 => ?_)
    · have hw := hw.1 c7
      refine lv_lconst (v := 0) hx hb d_Snk_putGroups_75 (by decide) ?_
      exact t_Snk_putGroups_76 hx hb hml hown hT hK hN hA hRf hRl hE hret hrec53 ad NN cells slots o l1 l2 l3 l4 l5 l6 0 o kb nb x H locs ls hNN hag hRc hRs fo fl1 fo hw hW hS (lv_sub hl [0, 1, 2, 3, 4, 5, 6] rfl)
    · have hw := hw.2 c7
      refine lv_aload_n hx hb d_Snk_putGroups_67 rfl (lv_at hl 1 rfl) ?_
      refine lv_iload hx hb d_Snk_putGroups_68 (lv_at hl 6 rfl) ?_
      obtain ⟨hi, hw⟩ := hw
      refine w_iald (o := l1) hx hb hK hW fl1.1 fl1.2 hi d_Snk_putGroups_70 ?_
      refine lv_i2l hx hb d_Snk_putGroups_71 rfl ?_
      refine lv_goto (tgt := 76) hx hb d_Snk_putGroups_72 (by decide) ?_
      exact t_Snk_putGroups_76 hx hb hml hown hT hK hN hA hRf hRl hE hret hrec53 ad NN cells slots o l1 l2 l3 l4 l5 l6 ((rA x l1 l6) : Int32).toInt64 o kb nb x H locs ls hNN hag hRc hRs fo fl1 fo hw hW hS (lv_sub hl [0, 1, 2, 3, 4, 5, 6] rfl)
set_option maxHeartbeats 4000000 in
set_option maxRecDepth 100000 in
theorem tl_Snk_putGroups_53 {p : Program} {l : Launch} {e : Env} {R : Room} {s : State} {m : MethodId} {args : Array Value} {below : List Frame} {meth : Method} {c : Code} {Q : State → Prop} {dC : Nat → ClassId} {dI : Nat → Nat → Nat} {cI cB cJ cZ : ClassId} {A : Nat → Prop} {E : Heap} {tM tC : Nat} {kK kV : Nat → Nat} {ad0 : Nat → Nat} {NN0 : Nat} {post : Int32 → St → Prop} (hx : p.tables.exec = Jvm.exec) (hb : c.code = b_Snk_putGroups) (hml : c.maxLocals = 7) (hown : s.vm.findClass R_Snk = some m.cls) (hT : ∀ w ∈ TG, w.before args s = true) (hK : va_K (dC, dI) CL (TY cI cB cJ cZ) s) (hN : NW s) (hA : ∀ q : Nat, s.heap.size ≤ q → A q) (hRf : 4 ≤ R.frames) (hRl : 247 ≤ R.locals) (hE : CE E tM tC kK kV A s) (hret : ∀ (r : Int32) (ad : Nat → Nat) (NN cells slots : Nat) (x : St) (H : Heap) (locs : List Loc) (pc : Nat) (ls : Array Slot), decode b_Snk_putGroups pc = .ok (.ireturn, 1) → (NN0 ≤ NN ∧ ∀ o : Nat, o < NN0 → ad o = ad0 o) → cells ≤ R.cells → slots ≤ R.slots → post r x → Wd dC dI cI cB cJ cZ ad stC kcC NN A x H → va_S A s.heap H locs → W p l e R s m args below meth c H locs cells slots Q (F0 m pc ls [.int r]))  : ∀ n : Nat, ∀ (ad : Nat → Nat) (NN cells slots : Nat) (o : Nat) (l1 : Nat) (l2 : Int32) (l3 : Int32) (l4 : Int32) (l5 : Int32) (l6 : Int32) (kb : Nat) (nb : Nat) (x : St) (H : Heap) (locs : List Loc) (ls : Array Slot), (152 ≤ NN) → (NN0 ≤ NN ∧ ∀ o : Nat, o < NN0 → ad o = ad0 o) → (cells + kb ≤ R.cells) → (slots + nb ≤ R.slots) → (o < NN ∧ kcC o = 1) → (l1 < NN ∧ kcC l1 = 20) → wl_Snk_putGroups_53 post n o l1 l2 l3 l4 l5 l6 kb nb x → Wd dC dI cI cB cJ cZ ad stC kcC NN A x H → va_S A s.heap H locs → lv_has ls 7 [(0, .ref (ad o)), (1, .ref (ad l1)), (2, .int l2), (3, .int l3), (4, .int l4), (5, .int l5), (6, .int l6)] → W p l e R s m args below meth c H locs cells slots Q (F0 m 53 ls []) := by
  intro n
  induction n with
  | zero => intro ad NN cells slots o l1 l2 l3 l4 l5 l6 kb nb x H locs ls hNN hag hRc hRs fo fl1 hw; exact hw.elim
  | succ n ih => intro ad NN cells slots o l1 l2 l3 l4 l5 l6 kb nb x H locs ls hNN hag hRc hRs fo fl1 hw hW hS hl; exact t_Snk_putGroups_53 hx hb hml hown hT hK hN hA hRf hRl hE hret  ih ad NN cells slots o l1 l2 l3 l4 l5 l6 kb nb x H locs ls hNN hag hRc hRs fo fl1 hw hW hS hl
set_option maxRecDepth 100000 in
set_option maxHeartbeats 4000000 in
set_option maxRecDepth 100000 in
theorem t_Snk_putGroups_32 {p : Program} {l : Launch} {e : Env} {R : Room} {s : State} {m : MethodId} {args : Array Value} {below : List Frame} {meth : Method} {c : Code} {Q : State → Prop} {dC : Nat → ClassId} {dI : Nat → Nat → Nat} {cI cB cJ cZ : ClassId} {A : Nat → Prop} {E : Heap} {tM tC : Nat} {kK kV : Nat → Nat} {ad0 : Nat → Nat} {NN0 : Nat} {post : Int32 → St → Prop} (hx : p.tables.exec = Jvm.exec) (hb : c.code = b_Snk_putGroups) (hml : c.maxLocals = 7) (hown : s.vm.findClass R_Snk = some m.cls) (hT : ∀ w ∈ TG, w.before args s = true) (hK : va_K (dC, dI) CL (TY cI cB cJ cZ) s) (hN : NW s) (hA : ∀ q : Nat, s.heap.size ≤ q → A q) (hRf : 4 ≤ R.frames) (hRl : 247 ≤ R.locals) (hE : CE E tM tC kK kV A s) (hret : ∀ (r : Int32) (ad : Nat → Nat) (NN cells slots : Nat) (x : St) (H : Heap) (locs : List Loc) (pc : Nat) (ls : Array Slot), decode b_Snk_putGroups pc = .ok (.ireturn, 1) → (NN0 ≤ NN ∧ ∀ o : Nat, o < NN0 → ad o = ad0 o) → cells ≤ R.cells → slots ≤ R.slots → post r x → Wd dC dI cI cB cJ cZ ad stC kcC NN A x H → va_S A s.heap H locs → W p l e R s m args below meth c H locs cells slots Q (F0 m pc ls [.int r]))  : ∀ (ad : Nat → Nat) (NN cells slots : Nat) (o : Nat) (l1 : Nat) (l2 : Int32) (l3 : Int32) (l4 : Int32) (l5 : Int32) (kb : Nat) (nb : Nat) (x : St) (H : Heap) (locs : List Loc) (ls : Array Slot), (152 ≤ NN) → (NN0 ≤ NN ∧ ∀ o : Nat, o < NN0 → ad o = ad0 o) → (cells + kb ≤ R.cells) → (slots + nb ≤ R.slots) → (o < NN ∧ kcC o = 1) → (l1 < NN ∧ kcC l1 = 20) → j_Snk_putGroups_32 post o l1 l2 l3 l4 l5 kb nb x → Wd dC dI cI cB cJ cZ ad stC kcC NN A x H → va_S A s.heap H locs → lv_has ls 7 [(0, .ref (ad o)), (1, .ref (ad l1)), (2, .int l2), (3, .int l3), (4, .int l4), (5, .int l5)] → W p l e R s m args below meth c H locs cells slots Q (F0 m 32 ls []) := by
  intro ad NN cells slots o l1 l2 l3 l4 l5 kb nb x H locs ls hNN hag hRc hRs fo fl1 hw hW hS hl
  unfold j_Snk_putGroups_32 at hw
  refine lv_aload_n hx hb d_Snk_putGroups_32 rfl (lv_at hl 0 rfl) ?_
  refine lv_iload hx hb d_Snk_putGroups_33 (lv_at hl 5 rfl) ?_
  refine lv_iload_n hx hb d_Snk_putGroups_35 rfl (lv_at hl 3 rfl) ?_
  refine lv_isub hx hb d_Snk_putGroups_36 ?_
  refine lv_bipush (v := 8) hx hb d_Snk_putGroups_37 (by decide) ?_
  refine lv_idiv hx hb d_Snk_putGroups_39 (by decide) ?_
  refine lv_i2l hx hb d_Snk_putGroups_40 rfl ?_
  refine lv_ldc2 hx hb hown (hT _ w_5_201) d_Snk_putGroups_41 ?_
  refine lv_lmul hx hb d_Snk_putGroups_44 ?_
  refine lv_lconst (v := 1) hx hb d_Snk_putGroups_45 (by decide) ?_
  refine lv_ladd hx hb d_Snk_putGroups_46 ?_
  obtain ⟨k8, n9, k10, n11, ek8, en9, hw⟩ := hw
  have hF := hW.free hS hA
  refine va_callv (va_runV (C := R_Snk) (As := [.long (((((l5 - l3) / 8) : Int32).toInt64 * 2) + 1)]) (rest := []) ⟨hx, hb, hml, hown, hT⟩ (k_Snk_putVarint l dC dI cI cB cJ cZ ad NN E tM tC kK kV hNN H.size o (((((l5 - l3) / 8) : Int32).toInt64 * 2) + 1) k8 n9 x fo hw) ⟨callB_of 1 hT (gwt_in w_5_143) rfl rfl rfl (hT _ w_1_2) (hT _ w_5_180) (by decide +kernel) ⟨Nat.le_trans (Nat.le_of_ble_eq_true rfl) hRf, Nat.le_trans (Nat.le_of_ble_eq_true rfl) hRl⟩, hT _ w_5_141, hT _ w_5_142⟩ ⟨PVc.blind, va_recv hK hW.1 (ci := 1) (q0 := o) rfl (pic_obj fo.1 fo.2 (by decide)), PVc.at _ hW hK hN hE hS hF⟩ rfl rfl hl.1 rfl (lv_room (Nat.le_of_ble_eq_true rfl)) d_Snk_putGroups_47 ⟨show cells + k8 ≤ R.cells by omega, show slots + n9 ≤ R.slots by omega⟩) hS (fun q _ h => hF q h) hF (fun  x12 t H locs ht hvm hw hB hz1 hk1 hS => ?_)
  obtain ⟨x12, ad, NN⟩ := x12
  obtain ⟨hB, hle, hg⟩ := hB
  try dsimp only at hw hB hle hg
  have hW := Wd.back hB ht hF
  rw [← hg o fo.1] at hl
  rw [← hg l1 fl1.1] at hl
  have fl1 : l1 < NN ∧ kcC l1 = 20 := ⟨Nat.lt_of_lt_of_le fl1.1 hle, fl1.2⟩
  have fo : o < NN ∧ kcC o = 1 := ⟨Nat.lt_of_lt_of_le fo.1 hle, fo.2⟩
  have hag : NN0 ≤ NN ∧ ∀ o : Nat, o < NN0 → ad o = ad0 o := ⟨Nat.le_trans hag.1 hle, fun o h => (hg o (Nat.lt_of_lt_of_le h hag.1)).trans (hag.2 o h)⟩
  have hNN : 152 ≤ NN := Nat.le_trans hNN hle
  clear hg hle
  obtain ⟨cells, ec⟩ : ∃ z, z = cells + k8 := ⟨_, rfl⟩
  obtain ⟨slots, es⟩ : ∃ z, z = slots + n9 := ⟨_, rfl⟩
  first | rw [← ec, ← es] | rw [Nat.add_zero, Nat.add_zero, ← ec, ← es]
  have hRc : cells + k10 ≤ R.cells := by omega
  have hRs : slots + n11 ≤ R.slots := by omega
  clear ec es hB ht hF hz1 hk1 hvm ek8 en9
  refine lv_iload_n hx hb d_Snk_putGroups_50 rfl (lv_at hl 3 rfl) ?_
  refine lv_istore (lv' := [(6, .int l3), (0, .ref (ad o)), (1, .ref (ad l1)), (2, .int l2), (3, .int l3), (4, .int l4), (5, .int l5)]) hx hb d_Snk_putGroups_51 hl (by decide) rfl (fun ls hl => ?_)
  obtain ⟨n, hw⟩ := hw
  exact tl_Snk_putGroups_53 hx hb hml hown hT hK hN hA hRf hRl hE hret  n ad NN cells slots o l1 l2 l3 l4 l5 l3 k10 n11 x12 H locs ls hNN hag hRc hRs fo fl1 hw hW hS (lv_sub hl [1, 2, 3, 4, 5, 6, 0] rfl)
set_option maxRecDepth 100000 in
set_option maxHeartbeats 4000000 in
set_option maxRecDepth 100000 in
theorem t_Snk_putGroups_6 {p : Program} {l : Launch} {e : Env} {R : Room} {s : State} {m : MethodId} {args : Array Value} {below : List Frame} {meth : Method} {c : Code} {Q : State → Prop} {dC : Nat → ClassId} {dI : Nat → Nat → Nat} {cI cB cJ cZ : ClassId} {A : Nat → Prop} {E : Heap} {tM tC : Nat} {kK kV : Nat → Nat} {ad0 : Nat → Nat} {NN0 : Nat} {post : Int32 → St → Prop} {rec6 : Nat → Nat → Int32 → Int32 → Int32 → Int32 → Nat → Nat → St → Prop} (hx : p.tables.exec = Jvm.exec) (hb : c.code = b_Snk_putGroups) (hml : c.maxLocals = 7) (hown : s.vm.findClass R_Snk = some m.cls) (hT : ∀ w ∈ TG, w.before args s = true) (hK : va_K (dC, dI) CL (TY cI cB cJ cZ) s) (hN : NW s) (hA : ∀ q : Nat, s.heap.size ≤ q → A q) (hRf : 4 ≤ R.frames) (hRl : 247 ≤ R.locals) (hE : CE E tM tC kK kV A s) (hret : ∀ (r : Int32) (ad : Nat → Nat) (NN cells slots : Nat) (x : St) (H : Heap) (locs : List Loc) (pc : Nat) (ls : Array Slot), decode b_Snk_putGroups pc = .ok (.ireturn, 1) → (NN0 ≤ NN ∧ ∀ o : Nat, o < NN0 → ad o = ad0 o) → cells ≤ R.cells → slots ≤ R.slots → post r x → Wd dC dI cI cB cJ cZ ad stC kcC NN A x H → va_S A s.heap H locs → W p l e R s m args below meth c H locs cells slots Q (F0 m pc ls [.int r])) (hrec6 : ∀ (ad : Nat → Nat) (NN cells slots : Nat) (o : Nat) (l1 : Nat) (l2 : Int32) (l3 : Int32) (l4 : Int32) (l5 : Int32) (kb : Nat) (nb : Nat) (x : St) (H : Heap) (locs : List Loc) (ls : Array Slot), (152 ≤ NN) → (NN0 ≤ NN ∧ ∀ o : Nat, o < NN0 → ad o = ad0 o) → (cells + kb ≤ R.cells) → (slots + nb ≤ R.slots) → (o < NN ∧ kcC o = 1) → (l1 < NN ∧ kcC l1 = 20) → rec6 o l1 l2 l3 l4 l5 kb nb x → Wd dC dI cI cB cJ cZ ad stC kcC NN A x H → va_S A s.heap H locs → lv_has ls 7 [(0, .ref (ad o)), (1, .ref (ad l1)), (2, .int l2), (3, .int l3), (4, .int l4), (5, .int l5)] → W p l e R s m args below meth c H locs cells slots Q (F0 m 6 ls [])) : ∀ (ad : Nat → Nat) (NN cells slots : Nat) (o : Nat) (l1 : Nat) (l2 : Int32) (l3 : Int32) (l4 : Int32) (l5 : Int32) (kb : Nat) (nb : Nat) (x : St) (H : Heap) (locs : List Loc) (ls : Array Slot), (152 ≤ NN) → (NN0 ≤ NN ∧ ∀ o : Nat, o < NN0 → ad o = ad0 o) → (cells + kb ≤ R.cells) → (slots + nb ≤ R.slots) → (o < NN ∧ kcC o = 1) → (l1 < NN ∧ kcC l1 = 20) → j_Snk_putGroups_6 post rec6 o l1 l2 l3 l4 l5 kb nb x → Wd dC dI cI cB cJ cZ ad stC kcC NN A x H → va_S A s.heap H locs → lv_has ls 7 [(0, .ref (ad o)), (1, .ref (ad l1)), (2, .int l2), (3, .int l3), (4, .int l4), (5, .int l5)] → W p l e R s m args below meth c H locs cells slots Q (F0 m 6 ls []) := by
  intro ad NN cells slots o l1 l2 l3 l4 l5 kb nb x H locs ls hNN hag hRc hRs fo fl1 hw hW hS hl
  unfold j_Snk_putGroups_6 at hw
  refine lv_iload hx hb d_Snk_putGroups_6 (lv_at hl 5 rfl) ?_
  refine lv_iload_n hx hb d_Snk_putGroups_8 rfl (lv_at hl 2 rfl) ?_
  refine lv_icmp_ge (tgt := 32) hx hb d_Snk_putGroups_9 (by decide) (fun c13 => ?_) (fun c13 => ?_)
  · have hw := hw.1 c13
    exact t_Snk_putGroups_32 hx hb hml hown hT hK hN hA hRf hRl hE hret  ad NN cells slots o l1 l2 l3 l4 l5 kb nb x H locs ls hNN hag hRc hRs fo fl1 hw hW hS (lv_sub hl [0, 1, 2, 3, 4, 5] rfl)
  · have hw := hw.2 c13
    refine lv_aload_n hx hb d_Snk_putGroups_12 rfl (lv_at hl 1 rfl) ?_
    refine lv_iload_n hx hb d_Snk_putGroups_13 rfl (lv_at hl 2 rfl) ?_
    refine lv_iload hx hb d_Snk_putGroups_14 (lv_at hl 5 rfl) ?_
    refine lv_bipush (v := 8) hx hb d_Snk_putGroups_16 (by decide) ?_
    have hF := hW.free hS hA
    refine va_calli (va_runS (As := [.ref (ad l1), .int l2, .int l5, .int 8]) (rest := []) ⟨hx, hb, hml, hown, hT⟩ (k_Snk_sameFrom l dC dI cI cB cJ cZ ad NN E tM tC kK kV hNN H.size l1 l2 l5 8 x fl1 hw) ⟨callB_of 4 hT (gwt_in w_5_200) rfl rfl rfl (hT _ w_1_2) (hT _ w_5_198) (by decide +kernel) ⟨Nat.le_trans (Nat.le_of_ble_eq_true rfl) hRf, Nat.le_trans (Nat.le_of_ble_eq_true rfl) hRl⟩, hT _ w_5_199⟩ ⟨PVc.blind, PVc.at _ hW hK hN hE hS hF⟩ rfl rfl hl.1 rfl (lv_room (Nat.le_of_ble_eq_true rfl)) d_Snk_putGroups_18 ⟨(Nat.le_trans (Nat.le_add_right _ _) hRc), (Nat.le_trans (Nat.le_add_right _ _) hRs)⟩) hS (fun q _ h => hF q h) hF (fun r15 x14 t H locs ht hvm hw hB hz1 hk1 hS => ?_)
    have hW := Wd.back hB ht hF
    clear hB ht hF hz1 hk1 hvm
    refine lv_bipush (v := 8) hx hb d_Snk_putGroups_21 (by decide) ?_
    refine lv_icmp_ge (tgt := 32) hx hb d_Snk_putGroups_23 (by decide) (fun c16 => ?_) (fun c16 => ?_)
    · have hw := hw.1 c16
      exact t_Snk_putGroups_32 hx hb hml hown hT hK hN hA hRf hRl hE hret  ad NN cells slots o l1 l2 l3 l4 l5 kb nb x14 H locs ls hNN hag hRc hRs fo fl1 hw hW hS (lv_sub hl [0, 1, 2, 3, 4, 5] rfl)
    · have hw := hw.2 c16
      refine lv_iinc (v := (l5 + 8)) (lv' := [(5, .int (l5 + 8)), (0, .ref (ad o)), (1, .ref (ad l1)), (2, .int l2), (3, .int l3), (4, .int l4)]) hx hb d_Snk_putGroups_26 hl (k := 5) rfl rfl (by decide) rfl (fun ls hl => ?_)
      refine lv_goto (tgt := 6) hx hb d_Snk_putGroups_29 (by decide) ?_
      exact hrec6 ad NN cells slots o l1 l2 l3 l4 (l5 + 8) kb nb x14 H locs ls hNN hag hRc hRs fo fl1 hw hW hS (lv_sub hl [1, 2, 3, 4, 5, 0] rfl)
set_option maxHeartbeats 4000000 in
set_option maxRecDepth 100000 in
theorem tl_Snk_putGroups_6 {p : Program} {l : Launch} {e : Env} {R : Room} {s : State} {m : MethodId} {args : Array Value} {below : List Frame} {meth : Method} {c : Code} {Q : State → Prop} {dC : Nat → ClassId} {dI : Nat → Nat → Nat} {cI cB cJ cZ : ClassId} {A : Nat → Prop} {E : Heap} {tM tC : Nat} {kK kV : Nat → Nat} {ad0 : Nat → Nat} {NN0 : Nat} {post : Int32 → St → Prop} (hx : p.tables.exec = Jvm.exec) (hb : c.code = b_Snk_putGroups) (hml : c.maxLocals = 7) (hown : s.vm.findClass R_Snk = some m.cls) (hT : ∀ w ∈ TG, w.before args s = true) (hK : va_K (dC, dI) CL (TY cI cB cJ cZ) s) (hN : NW s) (hA : ∀ q : Nat, s.heap.size ≤ q → A q) (hRf : 4 ≤ R.frames) (hRl : 247 ≤ R.locals) (hE : CE E tM tC kK kV A s) (hret : ∀ (r : Int32) (ad : Nat → Nat) (NN cells slots : Nat) (x : St) (H : Heap) (locs : List Loc) (pc : Nat) (ls : Array Slot), decode b_Snk_putGroups pc = .ok (.ireturn, 1) → (NN0 ≤ NN ∧ ∀ o : Nat, o < NN0 → ad o = ad0 o) → cells ≤ R.cells → slots ≤ R.slots → post r x → Wd dC dI cI cB cJ cZ ad stC kcC NN A x H → va_S A s.heap H locs → W p l e R s m args below meth c H locs cells slots Q (F0 m pc ls [.int r]))  : ∀ n : Nat, ∀ (ad : Nat → Nat) (NN cells slots : Nat) (o : Nat) (l1 : Nat) (l2 : Int32) (l3 : Int32) (l4 : Int32) (l5 : Int32) (kb : Nat) (nb : Nat) (x : St) (H : Heap) (locs : List Loc) (ls : Array Slot), (152 ≤ NN) → (NN0 ≤ NN ∧ ∀ o : Nat, o < NN0 → ad o = ad0 o) → (cells + kb ≤ R.cells) → (slots + nb ≤ R.slots) → (o < NN ∧ kcC o = 1) → (l1 < NN ∧ kcC l1 = 20) → wl_Snk_putGroups_6 post n o l1 l2 l3 l4 l5 kb nb x → Wd dC dI cI cB cJ cZ ad stC kcC NN A x H → va_S A s.heap H locs → lv_has ls 7 [(0, .ref (ad o)), (1, .ref (ad l1)), (2, .int l2), (3, .int l3), (4, .int l4), (5, .int l5)] → W p l e R s m args below meth c H locs cells slots Q (F0 m 6 ls []) := by
  intro n
  induction n with
  | zero => intro ad NN cells slots o l1 l2 l3 l4 l5 kb nb x H locs ls hNN hag hRc hRs fo fl1 hw; exact hw.elim
  | succ n ih => intro ad NN cells slots o l1 l2 l3 l4 l5 kb nb x H locs ls hNN hag hRc hRs fo fl1 hw hW hS hl; exact t_Snk_putGroups_6 hx hb hml hown hT hK hN hA hRf hRl hE hret  ih ad NN cells slots o l1 l2 l3 l4 l5 kb nb x H locs ls hNN hag hRc hRs fo fl1 hw hW hS hl
set_option maxRecDepth 100000 in
set_option maxHeartbeats 4000000 in
set_option maxRecDepth 100000 in
theorem t_Snk_putGroups_e {p : Program} {l : Launch} {e : Env} {R : Room} {s : State} {m : MethodId} {args : Array Value} {below : List Frame} {meth : Method} {c : Code} {Q : State → Prop} {dC : Nat → ClassId} {dI : Nat → Nat → Nat} {cI cB cJ cZ : ClassId} {A : Nat → Prop} {E : Heap} {tM tC : Nat} {kK kV : Nat → Nat} {ad0 : Nat → Nat} {NN0 : Nat} {post : Int32 → St → Prop} (hx : p.tables.exec = Jvm.exec) (hb : c.code = b_Snk_putGroups) (hml : c.maxLocals = 7) (hown : s.vm.findClass R_Snk = some m.cls) (hT : ∀ w ∈ TG, w.before args s = true) (hK : va_K (dC, dI) CL (TY cI cB cJ cZ) s) (hN : NW s) (hA : ∀ q : Nat, s.heap.size ≤ q → A q) (hRf : 4 ≤ R.frames) (hRl : 247 ≤ R.locals) (hE : CE E tM tC kK kV A s) (hret : ∀ (r : Int32) (ad : Nat → Nat) (NN cells slots : Nat) (x : St) (H : Heap) (locs : List Loc) (pc : Nat) (ls : Array Slot), decode b_Snk_putGroups pc = .ok (.ireturn, 1) → (NN0 ≤ NN ∧ ∀ o : Nat, o < NN0 → ad o = ad0 o) → cells ≤ R.cells → slots ≤ R.slots → post r x → Wd dC dI cI cB cJ cZ ad stC kcC NN A x H → va_S A s.heap H locs → W p l e R s m args below meth c H locs cells slots Q (F0 m pc ls [.int r])) : ∀ (ad : Nat → Nat) (NN cells slots : Nat) (o : Nat) (l1 : Nat) (l2 : Int32) (l3 : Int32) (l4 : Int32) (kb : Nat) (nb : Nat) (x : St) (H : Heap) (locs : List Loc) (ls : Array Slot), (152 ≤ NN) → (NN0 ≤ NN ∧ ∀ o : Nat, o < NN0 → ad o = ad0 o) → (cells + kb ≤ R.cells) → (slots + nb ≤ R.slots) → (o < NN ∧ kcC o = 1) → (l1 < NN ∧ kcC l1 = 20) → wp_Snk_putGroups post o l1 l2 l3 l4 kb nb x → Wd dC dI cI cB cJ cZ ad stC kcC NN A x H → va_S A s.heap H locs → lv_has ls 7 [(0, .ref (ad o)), (1, .ref (ad l1)), (2, .int l2), (3, .int l3), (4, .int l4)] → W p l e R s m args below meth c H locs cells slots Q (F0 m 0 ls []) := by
  intro ad NN cells slots o l1 l2 l3 l4 kb nb x H locs ls hNN hag hRc hRs fo fl1 hw hW hS hl
  unfold wp_Snk_putGroups at hw
  refine lv_iload_n hx hb d_Snk_putGroups_0 rfl (lv_at hl 3 rfl) ?_
  refine lv_bipush (v := 8) hx hb d_Snk_putGroups_1 (by decide) ?_
  refine lv_iadd hx hb d_Snk_putGroups_3 ?_
  refine lv_topi (fun v17 ev17 => ?_)
  have hw := hw v17 ev17
  refine lv_istore (lv' := [(5, .int v17), (0, .ref (ad o)), (1, .ref (ad l1)), (2, .int l2), (3, .int l3), (4, .int l4)]) hx hb d_Snk_putGroups_4 hl (by decide) rfl (fun ls hl => ?_)
  obtain ⟨n, hw⟩ := hw
  exact tl_Snk_putGroups_6 hx hb hml hown hT hK hN hA hRf hRl hE hret  n ad NN cells slots o l1 l2 l3 l4 v17 kb nb x H locs ls hNN hag hRc hRs fo fl1 hw hW hS (lv_sub hl [1, 2, 3, 4, 5, 0] rfl)
set_option maxHeartbeats 4000000 in
set_option maxRecDepth 100000 in
theorem k_Snk_putGroups (l : Launch) (dC : Nat → ClassId) (dI : Nat → Nat → Nat) (cI cB cJ cZ : ClassId) (ad : Nat → Nat) (NN : Nat) (E : Heap) (tM tC : Nat) (kK kV : Nat → Nat) (hNN : 152 ≤ NN) (sz : Nat) (o : Nat) (l1 : Nat) (l2 : Int32) (l3 : Int32) (l4 : Int32) (kb : Nat) (nb : Nat) (x : St) (fo : o < NN ∧ kcC o = 1) (fl1 : l1 < NN ∧ kcC l1 = 20) {post : Int32 → St → Prop} (hw : wp_Snk_putGroups post o l1 l2 l3 l4 kb nb x) : Met l y_Snk_putGroups (wsOf y_Snk_putGroups b_Snk_putGroups 7 (some (.int))) ({ frames := 4, cells := kb, slots := nb, locals := 247 }) (va_Pc [.ref (ad o), .ref (ad l1), .int l2, .int l3, .int l4] (PVc dC dI cI cB cJ cZ ad stC kcC NN E tM tC kK kV sz x)) (va_Qi (fun (r : Int32) (u : St × (Nat → Nat) × Nat) => post r u.1) (fun u t => Wd dC dI cI cB cJ cZ u.2.1 stC kcC u.2.2 (va_A (pic ad stC kcC NN cI cB cJ cZ x) sz) u.1 t.heap ∧ NN ≤ u.2.2 ∧ ∀ o : Nat, o < NN → u.2.1 o = ad o) (va_A (pic ad stC kcC NN cI cB cJ cZ x) sz)) kb nb (va_A (pic ad stC kcC NN cI cB cJ cZ x) sz) := by
  refine Met.ofW (cc := b_Snk_putGroups) (maxL := 7) (ret := some (.int)) (by decide) rfl ?_
  intro p e s m args below meth c s₁ B hml hv
  obtain ⟨rfl, ⟨hsz, hW0, hK, hN⟩, hE⟩ := hv
  have hx := B.exec
  have hb := B.bytes
  have hr := B.returns
  have hts := atoms_spec B.pre
  have hT : ∀ w ∈ TG, w.before _ s = true := fun w h => hts w (List.mem_cons_of_mem _ h)
  have hown : s.vm.findClass R_Snk = some m.cls := findClass_of_methodNamed B.named
  have hlocks := B.notSynchronized
  subst hsz
  have hW : Wd dC dI cI cB cJ cZ ad stC kcC NN (va_A (pic ad stC kcC NN cI cB cJ cZ x) s.heap.size) x s.heap := ⟨hW0.1, hW0.2.1.self (sz := s.heap.size), hW0.2.2⟩
  generalize hAe : va_A (pic ad stC kcC NN cI cB cJ cZ x) s.heap.size = A at hW hE ⊢
  have hA : ∀ q : Nat, s.heap.size ≤ q → A q := fun q h => by rw [← hAe]; exact Or.inr h
  have hS : va_S A s.heap s.heap [] := va_S.rf
  have hl := lv_entry ([.ref (ad o), .ref (ad l1), .int l2, .int l3, .int l4]) (n := 7) (Nat.le_of_ble_eq_true rfl)
  rw [lg_entry_eq]
  generalize (lg_sl ([.ref (ad o), .ref (ad l1), .int l2, .int l3, .int l4]) ++ List.replicate (7 - (lg_sl ([.ref (ad o), .ref (ad l1), .int l2, .int l3, .int l4])).length) Slot.unset).toArray = ls at hl ⊢
  have hl : lv_has ls 7 [(0, .ref (ad o)), (1, .ref (ad l1)), (2, .int l2), (3, .int l3), (4, .int l4)] := hl
  exact t_Snk_putGroups_e hx hb hml hown hT hK hN hA (Nat.le_refl 4) (Nat.le_refl 247) hE (fun r ad1 NN1 cells slots x1 H locs pc ls hd hag hc hs hp hW hS => W.widen (k := kb) (n := nb) hc hs (W.iret (v := r) hx hb hr (fun t ht hM => ⟨⟨r, (x1, ad1, NN1), rfl, hp, Wd.back hW ht.symm (fun _ z => z), hag.1, hag.2⟩, hS.F ht⟩) hS.2.2 hd hlocks))  ad NN 0 0 o l1 l2 l3 l4 kb nb x _ _ ls hNN ⟨Nat.le_refl _, fun _ _ => rfl⟩ (Nat.le_of_eq (Nat.zero_add kb)) (Nat.le_of_eq (Nat.zero_add nb)) fo fl1 hw hW hS hl
set_option maxRecDepth 100000 in
set_option maxHeartbeats 4000000 in
set_option maxRecDepth 100000 in
theorem t_Snk_putRuns_83 {p : Program} {l : Launch} {e : Env} {R : Room} {s : State} {m : MethodId} {args : Array Value} {below : List Frame} {meth : Method} {c : Code} {Q : State → Prop} {dC : Nat → ClassId} {dI : Nat → Nat → Nat} {cI cB cJ cZ : ClassId} {A : Nat → Prop} {E : Heap} {tM tC : Nat} {kK kV : Nat → Nat} {ad0 : Nat → Nat} {NN0 : Nat} {post : St → Prop} {rec6 : Nat → Nat → Int32 → Int32 → Int32 → Int32 → Nat → Nat → St → Prop} (hx : p.tables.exec = Jvm.exec) (hb : c.code = b_Snk_putRuns) (hml : c.maxLocals = 7) (hown : s.vm.findClass R_Snk = some m.cls) (hT : ∀ w ∈ TG, w.before args s = true) (hK : va_K (dC, dI) CL (TY cI cB cJ cZ) s) (hN : NW s) (hA : ∀ q : Nat, s.heap.size ≤ q → A q) (hRf : 5 ≤ R.frames) (hRl : 273 ≤ R.locals) (hE : CE E tM tC kK kV A s) (hret : ∀ (ad : Nat → Nat) (NN cells slots : Nat) (x : St) (H : Heap) (locs : List Loc) (pc : Nat) (ls : Array Slot), decode b_Snk_putRuns pc = .ok (.return_, 1) → (NN0 ≤ NN ∧ ∀ o : Nat, o < NN0 → ad o = ad0 o) → cells ≤ R.cells → slots ≤ R.slots → post x → Wd dC dI cI cB cJ cZ ad stC kcC NN A x H → va_S A s.heap H locs → W p l e R s m args below meth c H locs cells slots Q (F0 m pc ls [])) (hrec6 : ∀ (ad : Nat → Nat) (NN cells slots : Nat) (o : Nat) (l1 : Nat) (l2 : Int32) (l3 : Int32) (l4 : Int32) (l5 : Int32) (kb : Nat) (nb : Nat) (x : St) (H : Heap) (locs : List Loc) (ls : Array Slot), (152 ≤ NN) → (NN0 ≤ NN ∧ ∀ o : Nat, o < NN0 → ad o = ad0 o) → (cells + kb ≤ R.cells) → (slots + nb ≤ R.slots) → (o < NN ∧ kcC o = 1) → (l1 < NN ∧ kcC l1 = 20) → rec6 o l1 l2 l3 l4 l5 kb nb x → Wd dC dI cI cB cJ cZ ad stC kcC NN A x H → va_S A s.heap H locs → lv_has ls 7 [(0, .ref (ad o)), (1, .ref (ad l1)), (2, .int l2), (3, .int l3), (4, .int l4), (5, .int l5)] → W p l e R s m args below meth c H locs cells slots Q (F0 m 6 ls [])) : ∀ (ad : Nat → Nat) (NN cells slots : Nat) (o : Nat) (l1 : Nat) (l2 : Int32) (l3 : Int32) (l4 : Int32) (l5 : Int32) (l6 : Int32) (kb : Nat) (nb : Nat) (x : St) (H : Heap) (locs : List Loc) (ls : Array Slot), (152 ≤ NN) → (NN0 ≤ NN ∧ ∀ o : Nat, o < NN0 → ad o = ad0 o) → (cells + kb ≤ R.cells) → (slots + nb ≤ R.slots) → (o < NN ∧ kcC o = 1) → (l1 < NN ∧ kcC l1 = 20) → j_Snk_putRuns_83 post rec6 o l1 l2 l3 l4 l5 l6 kb nb x → Wd dC dI cI cB cJ cZ ad stC kcC NN A x H → va_S A s.heap H locs → lv_has ls 7 [(0, .ref (ad o)), (1, .ref (ad l1)), (2, .int l2), (3, .int l3), (4, .int l4), (5, .int l5), (6, .int l6)] → W p l e R s m args below meth c H locs cells slots Q (F0 m 83 ls []) := by
  intro ad NN cells slots o l1 l2 l3 l4 l5 l6 kb nb x H locs ls hNN hag hRc hRs fo fl1 hw hW hS hl
  unfold j_Snk_putRuns_83 at hw
  refine lv_iinc (v := (l5 + 1)) (lv' := [(5, .int (l5 + 1)), (0, .ref (ad o)), (1, .ref (ad l1)), (2, .int l2), (3, .int l3), (4, .int l4), (6, .int l6)]) hx hb d_Snk_putRuns_83 hl (k := 5) rfl rfl (by decide) rfl (fun ls hl => ?_)
  refine lv_goto (tgt := 6) hx hb d_Snk_putRuns_86 (by decide) ?_
  exact hrec6 ad NN cells slots o l1 l2 l3 l4 (l5 + 1) kb nb x H locs ls hNN hag hRc hRs fo fl1 hw hW hS (lv_sub hl [1, 2, 3, 4, 5, 0] rfl)
set_option maxRecDepth 100000 in
set_option maxHeartbeats 4000000 in
set_option maxRecDepth 100000 in
theorem t_Snk_putRuns_6 {p : Program} {l : Launch} {e : Env} {R : Room} {s : State} {m : MethodId} {args : Array Value} {below : List Frame} {meth : Method} {c : Code} {Q : State → Prop} {dC : Nat → ClassId} {dI : Nat → Nat → Nat} {cI cB cJ cZ : ClassId} {A : Nat → Prop} {E : Heap} {tM tC : Nat} {kK kV : Nat → Nat} {ad0 : Nat → Nat} {NN0 : Nat} {post : St → Prop} {rec6 : Nat → Nat → Int32 → Int32 → Int32 → Int32 → Nat → Nat → St → Prop} (hx : p.tables.exec = Jvm.exec) (hb : c.code = b_Snk_putRuns) (hml : c.maxLocals = 7) (hown : s.vm.findClass R_Snk = some m.cls) (hT : ∀ w ∈ TG, w.before args s = true) (hK : va_K (dC, dI) CL (TY cI cB cJ cZ) s) (hN : NW s) (hA : ∀ q : Nat, s.heap.size ≤ q → A q) (hRf : 5 ≤ R.frames) (hRl : 273 ≤ R.locals) (hE : CE E tM tC kK kV A s) (hret : ∀ (ad : Nat → Nat) (NN cells slots : Nat) (x : St) (H : Heap) (locs : List Loc) (pc : Nat) (ls : Array Slot), decode b_Snk_putRuns pc = .ok (.return_, 1) → (NN0 ≤ NN ∧ ∀ o : Nat, o < NN0 → ad o = ad0 o) → cells ≤ R.cells → slots ≤ R.slots → post x → Wd dC dI cI cB cJ cZ ad stC kcC NN A x H → va_S A s.heap H locs → W p l e R s m args below meth c H locs cells slots Q (F0 m pc ls [])) (hrec6 : ∀ (ad : Nat → Nat) (NN cells slots : Nat) (o : Nat) (l1 : Nat) (l2 : Int32) (l3 : Int32) (l4 : Int32) (l5 : Int32) (kb : Nat) (nb : Nat) (x : St) (H : Heap) (locs : List Loc) (ls : Array Slot), (152 ≤ NN) → (NN0 ≤ NN ∧ ∀ o : Nat, o < NN0 → ad o = ad0 o) → (cells + kb ≤ R.cells) → (slots + nb ≤ R.slots) → (o < NN ∧ kcC o = 1) → (l1 < NN ∧ kcC l1 = 20) → rec6 o l1 l2 l3 l4 l5 kb nb x → Wd dC dI cI cB cJ cZ ad stC kcC NN A x H → va_S A s.heap H locs → lv_has ls 7 [(0, .ref (ad o)), (1, .ref (ad l1)), (2, .int l2), (3, .int l3), (4, .int l4), (5, .int l5)] → W p l e R s m args below meth c H locs cells slots Q (F0 m 6 ls [])) : ∀ (ad : Nat → Nat) (NN cells slots : Nat) (o : Nat) (l1 : Nat) (l2 : Int32) (l3 : Int32) (l4 : Int32) (l5 : Int32) (kb : Nat) (nb : Nat) (x : St) (H : Heap) (locs : List Loc) (ls : Array Slot), (152 ≤ NN) → (NN0 ≤ NN ∧ ∀ o : Nat, o < NN0 → ad o = ad0 o) → (cells + kb ≤ R.cells) → (slots + nb ≤ R.slots) → (o < NN ∧ kcC o = 1) → (l1 < NN ∧ kcC l1 = 20) → j_Snk_putRuns_6 post rec6 o l1 l2 l3 l4 l5 kb nb x → Wd dC dI cI cB cJ cZ ad stC kcC NN A x H → va_S A s.heap H locs → lv_has ls 7 [(0, .ref (ad o)), (1, .ref (ad l1)), (2, .int l2), (3, .int l3), (4, .int l4), (5, .int l5)] → W p l e R s m args below meth c H locs cells slots Q (F0 m 6 ls []) := by
  intro ad NN cells slots o l1 l2 l3 l4 l5 kb nb x H locs ls hNN hag hRc hRs fo fl1 hw hW hS hl
  unfold j_Snk_putRuns_6 at hw
  refine lv_iload hx hb d_Snk_putRuns_6 (lv_at hl 5 rfl) ?_
  refine lv_iload_n hx hb d_Snk_putRuns_8 rfl (lv_at hl 2 rfl) ?_
  refine lv_icmp_ge (tgt := 89) hx hb d_Snk_putRuns_9 (by decide) (fun c1 => ?_) (fun c1 => ?_)
  · have hw := hw.1 c1
    exact hret ad NN cells slots x H locs 89 ls d_Snk_putRuns_89 hag (Nat.le_trans (Nat.le_add_right _ _) hRc) (Nat.le_trans (Nat.le_add_right _ _) hRs) hw hW hS
  · have hw := hw.2 c1
    refine lv_iload hx hb d_Snk_putRuns_12 (lv_at hl 4 rfl) ?_
    refine lv_iload_n hx hb d_Snk_putRuns_14 rfl (lv_at hl 2 rfl) ?_
    refine lv_icmp_ge (tgt := 89) hx hb d_Snk_putRuns_15 (by decide) (fun c2 => ?_) (fun c2 => ?_)
    · have hw := hw.1 c2
      exact hret ad NN cells slots x H locs 89 ls d_Snk_putRuns_89 hag (Nat.le_trans (Nat.le_add_right _ _) hRc) (Nat.le_trans (Nat.le_add_right _ _) hRs) hw hW hS
    · have hw := hw.2 c2
      refine lv_aload_n hx hb d_Snk_putRuns_18 rfl (lv_at hl 1 rfl) ?_
      refine lv_iload_n hx hb d_Snk_putRuns_19 rfl (lv_at hl 2 rfl) ?_
      refine lv_iload hx hb d_Snk_putRuns_20 (lv_at hl 4 rfl) ?_
      refine lv_iload_n hx hb d_Snk_putRuns_22 rfl (lv_at hl 2 rfl) ?_
      have hF := hW.free hS hA
      refine va_calli (va_runS (As := [.ref (ad l1), .int l2, .int l4, .int l2]) (rest := []) ⟨hx, hb, hml, hown, hT⟩ (k_Snk_sameFrom l dC dI cI cB cJ cZ ad NN E tM tC kK kV hNN H.size l1 l2 l4 l2 x fl1 hw) ⟨callB_of 4 hT (gwt_in w_5_200) rfl rfl rfl (hT _ w_1_2) (hT _ w_5_198) (by decide +kernel) ⟨Nat.le_trans (Nat.le_of_ble_eq_true rfl) hRf, Nat.le_trans (Nat.le_of_ble_eq_true rfl) hRl⟩, hT _ w_5_199⟩ ⟨PVc.blind, PVc.at _ hW hK hN hE hS hF⟩ rfl rfl hl.1 rfl (lv_room (Nat.le_of_ble_eq_true rfl)) d_Snk_putRuns_23 ⟨(Nat.le_trans (Nat.le_add_right _ _) hRc), (Nat.le_trans (Nat.le_add_right _ _) hRs)⟩) hS (fun q _ h => hF q h) hF (fun r4 x3 t H locs ht hvm hw hB hz1 hk1 hS => ?_)
      have hW := Wd.back hB ht hF
      clear hB ht hF hz1 hk1 hvm
      refine lv_istore (lv' := [(6, .int r4), (0, .ref (ad o)), (1, .ref (ad l1)), (2, .int l2), (3, .int l3), (4, .int l4), (5, .int l5)]) hx hb d_Snk_putRuns_26 hl (by decide) rfl (fun ls hl => ?_)
      refine lv_iload hx hb d_Snk_putRuns_28 (lv_at hl 0 rfl) ?_
      refine lv_bipush (v := 8) hx hb d_Snk_putRuns_30 (by decide) ?_
      refine lv_icmp_lt (tgt := 72) hx hb d_Snk_putRuns_32 (by decide) (fun c5 => ?_) (fun c5 => ?_)
      · have hw := hw.1 c5
        refine lv_aload_n hx hb d_Snk_putRuns_72 rfl (lv_at hl 1 rfl) ?_
        refine lv_aload_n hx hb d_Snk_putRuns_73 rfl (lv_at hl 2 rfl) ?_
        refine lv_iload_n hx hb d_Snk_putRuns_74 rfl (lv_at hl 3 rfl) ?_
        refine lv_iload hx hb d_Snk_putRuns_75 (lv_at hl 5 rfl) ?_
        refine lv_iload_n hx hb d_Snk_putRuns_77 rfl (lv_at hl 4 rfl) ?_
        obtain ⟨k6, n7, k8, n9, ek6, en7, hw⟩ := hw
        have hF := hW.free hS hA
        refine va_calli (va_runV (C := R_Snk) (As := [.ref (ad l1), .int l2, .int l4, .int l3]) (rest := []) ⟨hx, hb, hml, hown, hT⟩ (k_Snk_putGroups l dC dI cI cB cJ cZ ad NN E tM tC kK kV hNN H.size o l1 l2 l4 l3 k6 n7 x3 fo fl1 hw) ⟨callB_of 4 hT (gwt_in w_5_206) rfl rfl rfl (hT _ w_1_2) (hT _ w_5_203) (by decide +kernel) ⟨Nat.le_trans (Nat.le_of_ble_eq_true rfl) hRf, Nat.le_trans (Nat.le_of_ble_eq_true rfl) hRl⟩, hT _ w_5_205, hT _ ws_23⟩ ⟨PVc.blind, va_recv hK hW.1 (ci := 1) (q0 := o) rfl (pic_obj fo.1 fo.2 (by decide)), PVc.at _ hW hK hN hE hS hF⟩ rfl rfl hl.1 rfl (lv_room (Nat.le_of_ble_eq_true rfl)) d_Snk_putRuns_78 ⟨show cells + k6 ≤ R.cells by omega, show slots + n7 ≤ R.slots by omega⟩) hS (fun q _ h => hF q h) hF (fun r11 x10 t H locs ht hvm hw hB hz1 hk1 hS => ?_)
        obtain ⟨x10, ad, NN⟩ := x10
        obtain ⟨hB, hle, hg⟩ := hB
        try dsimp only at hw hB hle hg
        have hW := Wd.back hB ht hF
        rw [← hg o fo.1] at hl
        rw [← hg l1 fl1.1] at hl
        have fl1 : l1 < NN ∧ kcC l1 = 20 := ⟨Nat.lt_of_lt_of_le fl1.1 hle, fl1.2⟩
        have fo : o < NN ∧ kcC o = 1 := ⟨Nat.lt_of_lt_of_le fo.1 hle, fo.2⟩
        have hag : NN0 ≤ NN ∧ ∀ o : Nat, o < NN0 → ad o = ad0 o := ⟨Nat.le_trans hag.1 hle, fun o h => (hg o (Nat.lt_of_lt_of_le h hag.1)).trans (hag.2 o h)⟩
        have hNN : 152 ≤ NN := Nat.le_trans hNN hle
        clear hg hle
        obtain ⟨cells, ec⟩ : ∃ z, z = cells + k6 := ⟨_, rfl⟩
        obtain ⟨slots, es⟩ : ∃ z, z = slots + n7 := ⟨_, rfl⟩
        first | rw [← ec, ← es] | rw [Nat.add_zero, Nat.add_zero, ← ec, ← es]
        have hRc : cells + k8 ≤ R.cells := by omega
        have hRs : slots + n9 ≤ R.slots := by omega
        clear ec es hB ht hF hz1 hk1 hvm ek6 en7
        refine lv_istore (lv' := [(4, .int r11), (6, .int r4), (0, .ref (ad o)), (1, .ref (ad l1)), (2, .int l2), (3, .int l3), (5, .int l5)]) hx hb d_Snk_putRuns_81 hl (by decide) rfl (fun ls hl => ?_)
        exact t_Snk_putRuns_83 hx hb hml hown hT hK hN hA hRf hRl hE hret hrec6 ad NN cells slots o l1 l2 l3 r11 l5 r4 k8 n9 x10 H locs ls hNN hag hRc hRs fo fl1 hw hW hS (lv_sub hl [2, 3, 4, 5, 0, 6, 1] rfl)
      · have hw := hw.2 c5
        refine lv_aload_n hx hb d_Snk_putRuns_35 rfl (lv_at hl 1 rfl) ?_
        refine lv_ldc2 hx hb hown (hT _ w_5_201) d_Snk_putRuns_36 ?_
        refine lv_iload hx hb d_Snk_putRuns_39 (lv_at hl 0 rfl) ?_
        refine lv_i2l hx hb d_Snk_putRuns_41 rfl ?_
        refine lv_lmul hx hb d_Snk_putRuns_42 ?_
        obtain ⟨k12, n13, k14, n15, ek12, en13, hw⟩ := hw
        have hF := hW.free hS hA
        refine va_callv (va_runV (C := R_Snk) (As := [.long (2 * (r4 : Int32).toInt64)]) (rest := []) ⟨hx, hb, hml, hown, hT⟩ (k_Snk_putVarint l dC dI cI cB cJ cZ ad NN E tM tC kK kV hNN H.size o (2 * (r4 : Int32).toInt64) k12 n13 x3 fo hw) ⟨callB_of 1 hT (gwt_in w_5_143) rfl rfl rfl (hT _ w_1_2) (hT _ w_5_180) (by decide +kernel) ⟨Nat.le_trans (Nat.le_of_ble_eq_true rfl) hRf, Nat.le_trans (Nat.le_of_ble_eq_true rfl) hRl⟩, hT _ w_5_141, hT _ w_5_142⟩ ⟨PVc.blind, va_recv hK hW.1 (ci := 1) (q0 := o) rfl (pic_obj fo.1 fo.2 (by decide)), PVc.at _ hW hK hN hE hS hF⟩ rfl rfl hl.1 rfl (lv_room (Nat.le_of_ble_eq_true rfl)) d_Snk_putRuns_43 ⟨show cells + k12 ≤ R.cells by omega, show slots + n13 ≤ R.slots by omega⟩) hS (fun q _ h => hF q h) hF (fun  x16 t H locs ht hvm hw hB hz1 hk1 hS => ?_)
        obtain ⟨x16, ad, NN⟩ := x16
        obtain ⟨hB, hle, hg⟩ := hB
        try dsimp only at hw hB hle hg
        have hW := Wd.back hB ht hF
        rw [← hg o fo.1] at hl
        rw [← hg l1 fl1.1] at hl
        have fl1 : l1 < NN ∧ kcC l1 = 20 := ⟨Nat.lt_of_lt_of_le fl1.1 hle, fl1.2⟩
        have fo : o < NN ∧ kcC o = 1 := ⟨Nat.lt_of_lt_of_le fo.1 hle, fo.2⟩
        have hag : NN0 ≤ NN ∧ ∀ o : Nat, o < NN0 → ad o = ad0 o := ⟨Nat.le_trans hag.1 hle, fun o h => (hg o (Nat.lt_of_lt_of_le h hag.1)).trans (hag.2 o h)⟩
        have hNN : 152 ≤ NN := Nat.le_trans hNN hle
        clear hg hle
        obtain ⟨cells, ec⟩ : ∃ z, z = cells + k12 := ⟨_, rfl⟩
        obtain ⟨slots, es⟩ : ∃ z, z = slots + n13 := ⟨_, rfl⟩
        first | rw [← ec, ← es] | rw [Nat.add_zero, Nat.add_zero, ← ec, ← es]
        have hRc : cells + k14 ≤ R.cells := by omega
        have hRs : slots + n15 ≤ R.slots := by omega
        clear ec es hB ht hF hz1 hk1 hvm ek12 en13
        refine lv_aload_n hx hb d_Snk_putRuns_46 rfl (lv_at hl 1 rfl) ?_
        refine lv_aload_n hx hb d_Snk_putRuns_47 rfl (lv_at hl 2 rfl) ?_
        refine lv_iload hx hb d_Snk_putRuns_48 (lv_at hl 5 rfl) ?_
        obtain ⟨hi, hw⟩ := hw
        refine w_iald (o := l1) hx hb hK hW fl1.1 fl1.2 hi d_Snk_putRuns_50 ?_
        refine lv_i2l hx hb d_Snk_putRuns_51 rfl ?_
        refine lv_iload_n hx hb d_Snk_putRuns_52 rfl (lv_at hl 4 rfl) ?_
        refine lv_bipush (v := 7) hx hb d_Snk_putRuns_53 (by decide) ?_
        refine lv_iadd hx hb d_Snk_putRuns_55 ?_
        refine lv_bipush (v := 8) hx hb d_Snk_putRuns_56 (by decide) ?_
        refine lv_idiv hx hb d_Snk_putRuns_58 (by decide) ?_
        obtain ⟨k17, n18, k19, n20, ek17, en18, hw⟩ := hw
        have hF := hW.free hS hA
        refine va_callv (va_runV (C := R_Snk) (As := [.long ((rA x16 l1 l4) : Int32).toInt64, .int ((l3 + 7) / 8)]) (rest := []) ⟨hx, hb, hml, hown, hT⟩ (k_Snk_putFixed l dC dI cI cB cJ cZ ad NN E tM tC kK kV hNN H.size o ((rA x16 l1 l4) : Int32).toInt64 ((l3 + 7) / 8) k17 n18 x16 fo hw) ⟨callB_of 2 hT (gwt_in w_5_188) rfl rfl rfl (hT _ w_1_2) (hT _ w_5_202) (by decide +kernel) ⟨Nat.le_trans (Nat.le_of_ble_eq_true rfl) hRf, Nat.le_trans (Nat.le_of_ble_eq_true rfl) hRl⟩, hT _ w_5_186, hT _ w_5_187⟩ ⟨PVc.blind, va_recv hK hW.1 (ci := 1) (q0 := o) rfl (pic_obj fo.1 fo.2 (by decide)), PVc.at _ hW hK hN hE hS hF⟩ rfl rfl hl.1 rfl (lv_room (Nat.le_of_ble_eq_true rfl)) d_Snk_putRuns_59 ⟨show cells + k17 ≤ R.cells by omega, show slots + n18 ≤ R.slots by omega⟩) hS (fun q _ h => hF q h) hF (fun  x21 t H locs ht hvm hw hB hz1 hk1 hS => ?_)
        obtain ⟨x21, ad, NN⟩ := x21
        obtain ⟨hB, hle, hg⟩ := hB
        try dsimp only at hw hB hle hg
        have hW := Wd.back hB ht hF
        rw [← hg o fo.1] at hl
        rw [← hg l1 fl1.1] at hl
        have fl1 : l1 < NN ∧ kcC l1 = 20 := ⟨Nat.lt_of_lt_of_le fl1.1 hle, fl1.2⟩
        have fo : o < NN ∧ kcC o = 1 := ⟨Nat.lt_of_lt_of_le fo.1 hle, fo.2⟩
        have hag : NN0 ≤ NN ∧ ∀ o : Nat, o < NN0 → ad o = ad0 o := ⟨Nat.le_trans hag.1 hle, fun o h => (hg o (Nat.lt_of_lt_of_le h hag.1)).trans (hag.2 o h)⟩
        have hNN : 152 ≤ NN := Nat.le_trans hNN hle
        clear hg hle
        obtain ⟨cells, ec⟩ : ∃ z, z = cells + k17 := ⟨_, rfl⟩
        obtain ⟨slots, es⟩ : ∃ z, z = slots + n18 := ⟨_, rfl⟩
        first | rw [← ec, ← es] | rw [Nat.add_zero, Nat.add_zero, ← ec, ← es]
        have hRc : cells + k19 ≤ R.cells := by omega
        have hRs : slots + n20 ≤ R.slots := by omega
        clear ec es hB ht hF hz1 hk1 hvm ek17 en18
        refine lv_iload hx hb d_Snk_putRuns_62 (lv_at hl 5 rfl) ?_
        refine lv_iload hx hb d_Snk_putRuns_64 (lv_at hl 0 rfl) ?_
        refine lv_iadd hx hb d_Snk_putRuns_66 ?_
        refine lv_topi (fun v22 ev22 => ?_)
        have hw := hw v22 ev22
        refine lv_istore (lv' := [(4, .int v22), (6, .int r4), (0, .ref (ad o)), (1, .ref (ad l1)), (2, .int l2), (3, .int l3), (5, .int l5)]) hx hb d_Snk_putRuns_67 hl (by decide) rfl (fun ls hl => ?_)
        refine lv_goto (tgt := 83) hx hb d_Snk_putRuns_69 (by decide) ?_
        exact t_Snk_putRuns_83 hx hb hml hown hT hK hN hA hRf hRl hE hret hrec6 ad NN cells slots o l1 l2 l3 v22 l5 r4 k19 n20 x21 H locs ls hNN hag hRc hRs fo fl1 hw hW hS (lv_sub hl [2, 3, 4, 5, 0, 6, 1] rfl)
set_option maxHeartbeats 4000000 in
set_option maxRecDepth 100000 in
theorem tl_Snk_putRuns_6 {p : Program} {l : Launch} {e : Env} {R : Room} {s : State} {m : MethodId} {args : Array Value} {below : List Frame} {meth : Method} {c : Code} {Q : State → Prop} {dC : Nat → ClassId} {dI : Nat → Nat → Nat} {cI cB cJ cZ : ClassId} {A : Nat → Prop} {E : Heap} {tM tC : Nat} {kK kV : Nat → Nat} {ad0 : Nat → Nat} {NN0 : Nat} {post : St → Prop} (hx : p.tables.exec = Jvm.exec) (hb : c.code = b_Snk_putRuns) (hml : c.maxLocals = 7) (hown : s.vm.findClass R_Snk = some m.cls) (hT : ∀ w ∈ TG, w.before args s = true) (hK : va_K (dC, dI) CL (TY cI cB cJ cZ) s) (hN : NW s) (hA : ∀ q : Nat, s.heap.size ≤ q → A q) (hRf : 5 ≤ R.frames) (hRl : 273 ≤ R.locals) (hE : CE E tM tC kK kV A s) (hret : ∀ (ad : Nat → Nat) (NN cells slots : Nat) (x : St) (H : Heap) (locs : List Loc) (pc : Nat) (ls : Array Slot), decode b_Snk_putRuns pc = .ok (.return_, 1) → (NN0 ≤ NN ∧ ∀ o : Nat, o < NN0 → ad o = ad0 o) → cells ≤ R.cells → slots ≤ R.slots → post x → Wd dC dI cI cB cJ cZ ad stC kcC NN A x H → va_S A s.heap H locs → W p l e R s m args below meth c H locs cells slots Q (F0 m pc ls []))  : ∀ n : Nat, ∀ (ad : Nat → Nat) (NN cells slots : Nat) (o : Nat) (l1 : Nat) (l2 : Int32) (l3 : Int32) (l4 : Int32) (l5 : Int32) (kb : Nat) (nb : Nat) (x : St) (H : Heap) (locs : List Loc) (ls : Array Slot), (152 ≤ NN) → (NN0 ≤ NN ∧ ∀ o : Nat, o < NN0 → ad o = ad0 o) → (cells + kb ≤ R.cells) → (slots + nb ≤ R.slots) → (o < NN ∧ kcC o = 1) → (l1 < NN ∧ kcC l1 = 20) → wl_Snk_putRuns_6 post n o l1 l2 l3 l4 l5 kb nb x → Wd dC dI cI cB cJ cZ ad stC kcC NN A x H → va_S A s.heap H locs → lv_has ls 7 [(0, .ref (ad o)), (1, .ref (ad l1)), (2, .int l2), (3, .int l3), (4, .int l4), (5, .int l5)] → W p l e R s m args below meth c H locs cells slots Q (F0 m 6 ls []) := by
  intro n
  induction n with
  | zero => intro ad NN cells slots o l1 l2 l3 l4 l5 kb nb x H locs ls hNN hag hRc hRs fo fl1 hw; exact hw.elim
  | succ n ih => intro ad NN cells slots o l1 l2 l3 l4 l5 kb nb x H locs ls hNN hag hRc hRs fo fl1 hw hW hS hl; exact t_Snk_putRuns_6 hx hb hml hown hT hK hN hA hRf hRl hE hret  ih ad NN cells slots o l1 l2 l3 l4 l5 kb nb x H locs ls hNN hag hRc hRs fo fl1 hw hW hS hl
set_option maxRecDepth 100000 in
set_option maxHeartbeats 4000000 in
set_option maxRecDepth 100000 in
theorem t_Snk_putRuns_e {p : Program} {l : Launch} {e : Env} {R : Room} {s : State} {m : MethodId} {args : Array Value} {below : List Frame} {meth : Method} {c : Code} {Q : State → Prop} {dC : Nat → ClassId} {dI : Nat → Nat → Nat} {cI cB cJ cZ : ClassId} {A : Nat → Prop} {E : Heap} {tM tC : Nat} {kK kV : Nat → Nat} {ad0 : Nat → Nat} {NN0 : Nat} {post : St → Prop} (hx : p.tables.exec = Jvm.exec) (hb : c.code = b_Snk_putRuns) (hml : c.maxLocals = 7) (hown : s.vm.findClass R_Snk = some m.cls) (hT : ∀ w ∈ TG, w.before args s = true) (hK : va_K (dC, dI) CL (TY cI cB cJ cZ) s) (hN : NW s) (hA : ∀ q : Nat, s.heap.size ≤ q → A q) (hRf : 5 ≤ R.frames) (hRl : 273 ≤ R.locals) (hE : CE E tM tC kK kV A s) (hret : ∀ (ad : Nat → Nat) (NN cells slots : Nat) (x : St) (H : Heap) (locs : List Loc) (pc : Nat) (ls : Array Slot), decode b_Snk_putRuns pc = .ok (.return_, 1) → (NN0 ≤ NN ∧ ∀ o : Nat, o < NN0 → ad o = ad0 o) → cells ≤ R.cells → slots ≤ R.slots → post x → Wd dC dI cI cB cJ cZ ad stC kcC NN A x H → va_S A s.heap H locs → W p l e R s m args below meth c H locs cells slots Q (F0 m pc ls [])) : ∀ (ad : Nat → Nat) (NN cells slots : Nat) (o : Nat) (l1 : Nat) (l2 : Int32) (l3 : Int32) (kb : Nat) (nb : Nat) (x : St) (H : Heap) (locs : List Loc) (ls : Array Slot), (152 ≤ NN) → (NN0 ≤ NN ∧ ∀ o : Nat, o < NN0 → ad o = ad0 o) → (cells + kb ≤ R.cells) → (slots + nb ≤ R.slots) → (o < NN ∧ kcC o = 1) → (l1 < NN ∧ kcC l1 = 20) → wp_Snk_putRuns post o l1 l2 l3 kb nb x → Wd dC dI cI cB cJ cZ ad stC kcC NN A x H → va_S A s.heap H locs → lv_has ls 7 [(0, .ref (ad o)), (1, .ref (ad l1)), (2, .int l2), (3, .int l3)] → W p l e R s m args below meth c H locs cells slots Q (F0 m 0 ls []) := by
  intro ad NN cells slots o l1 l2 l3 kb nb x H locs ls hNN hag hRc hRs fo fl1 hw hW hS hl
  unfold wp_Snk_putRuns at hw
  refine lv_iconst (v := 0) hx hb d_Snk_putRuns_0 (by decide) ?_
  refine lv_istore (lv' := [(4, .int 0), (0, .ref (ad o)), (1, .ref (ad l1)), (2, .int l2), (3, .int l3)]) hx hb d_Snk_putRuns_1 hl (by decide) rfl (fun ls hl => ?_)
  refine lv_iconst (v := 0) hx hb d_Snk_putRuns_3 (by decide) ?_
  refine lv_istore (lv' := [(5, .int 0), (4, .int 0), (0, .ref (ad o)), (1, .ref (ad l1)), (2, .int l2), (3, .int l3)]) hx hb d_Snk_putRuns_4 hl (by decide) rfl (fun ls hl => ?_)
  obtain ⟨n, hw⟩ := hw
  exact tl_Snk_putRuns_6 hx hb hml hown hT hK hN hA hRf hRl hE hret  n ad NN cells slots o l1 l2 l3 0 0 kb nb x H locs ls hNN hag hRc hRs fo fl1 hw hW hS (lv_sub hl [2, 3, 4, 5, 1, 0] rfl)
set_option maxHeartbeats 4000000 in
set_option maxRecDepth 100000 in
theorem k_Snk_putRuns (l : Launch) (dC : Nat → ClassId) (dI : Nat → Nat → Nat) (cI cB cJ cZ : ClassId) (ad : Nat → Nat) (NN : Nat) (E : Heap) (tM tC : Nat) (kK kV : Nat → Nat) (hNN : 152 ≤ NN) (sz : Nat) (o : Nat) (l1 : Nat) (l2 : Int32) (l3 : Int32) (kb : Nat) (nb : Nat) (x : St) (fo : o < NN ∧ kcC o = 1) (fl1 : l1 < NN ∧ kcC l1 = 20) {post : St → Prop} (hw : wp_Snk_putRuns post o l1 l2 l3 kb nb x) : Met l y_Snk_putRuns (wsOf y_Snk_putRuns b_Snk_putRuns 7 (none)) ({ frames := 5, cells := kb, slots := nb, locals := 273 }) (va_Pc [.ref (ad o), .ref (ad l1), .int l2, .int l3] (PVc dC dI cI cB cJ cZ ad stC kcC NN E tM tC kK kV sz x)) (va_Qv (fun (u : St × (Nat → Nat) × Nat) => post u.1) (fun u t => Wd dC dI cI cB cJ cZ u.2.1 stC kcC u.2.2 (va_A (pic ad stC kcC NN cI cB cJ cZ x) sz) u.1 t.heap ∧ NN ≤ u.2.2 ∧ ∀ o : Nat, o < NN → u.2.1 o = ad o) (va_A (pic ad stC kcC NN cI cB cJ cZ x) sz)) kb nb (va_A (pic ad stC kcC NN cI cB cJ cZ x) sz) := by
  refine Met.ofW (cc := b_Snk_putRuns) (maxL := 7) (ret := none) (by decide) rfl ?_
  intro p e s m args below meth c s₁ B hml hv
  obtain ⟨rfl, ⟨hsz, hW0, hK, hN⟩, hE⟩ := hv
  have hx := B.exec
  have hb := B.bytes
  have hr := B.returns
  have hts := atoms_spec B.pre
  have hT : ∀ w ∈ TG, w.before _ s = true := fun w h => hts w (List.mem_cons_of_mem _ h)
  have hown : s.vm.findClass R_Snk = some m.cls := findClass_of_methodNamed B.named
  have hlocks := B.notSynchronized
  subst hsz
  have hW : Wd dC dI cI cB cJ cZ ad stC kcC NN (va_A (pic ad stC kcC NN cI cB cJ cZ x) s.heap.size) x s.heap := ⟨hW0.1, hW0.2.1.self (sz := s.heap.size), hW0.2.2⟩
  generalize hAe : va_A (pic ad stC kcC NN cI cB cJ cZ x) s.heap.size = A at hW hE ⊢
  have hA : ∀ q : Nat, s.heap.size ≤ q → A q := fun q h => by rw [← hAe]; exact Or.inr h
  have hS : va_S A s.heap s.heap [] := va_S.rf
  have hl := lv_entry ([.ref (ad o), .ref (ad l1), .int l2, .int l3]) (n := 7) (Nat.le_of_ble_eq_true rfl)
  rw [lg_entry_eq]
  generalize (lg_sl ([.ref (ad o), .ref (ad l1), .int l2, .int l3]) ++ List.replicate (7 - (lg_sl ([.ref (ad o), .ref (ad l1), .int l2, .int l3])).length) Slot.unset).toArray = ls at hl ⊢
  have hl : lv_has ls 7 [(0, .ref (ad o)), (1, .ref (ad l1)), (2, .int l2), (3, .int l3)] := hl
  exact t_Snk_putRuns_e hx hb hml hown hT hK hN hA (Nat.le_refl 5) (Nat.le_refl 273) hE (fun ad1 NN1 cells slots x1 H locs pc ls hd hag hc hs hp hW hS => W.widen (k := kb) (n := nb) hc hs (W.vret hx hb hr (fun t ht hM => ⟨⟨(x1, ad1, NN1), rfl, hp, Wd.back hW ht.symm (fun _ z => z), hag.1, hag.2⟩, hS.F ht⟩) hS.2.2 hd hlocks))  ad NN 0 0 o l1 l2 l3 kb nb x _ _ ls hNN ⟨Nat.le_refl _, fun _ _ => rfl⟩ (Nat.le_of_eq (Nat.zero_add kb)) (Nat.le_of_eq (Nat.zero_add nb)) fo fl1 hw hW hS hl
set_option maxRecDepth 100000 in
set_option maxHeartbeats 4000000 in
set_option maxRecDepth 100000 in
theorem t_Wrt_putBoolRuns_2 {p : Program} {l : Launch} {e : Env} {R : Room} {s : State} {m : MethodId} {args : Array Value} {below : List Frame} {meth : Method} {c : Code} {Q : State → Prop} {dC : Nat → ClassId} {dI : Nat → Nat → Nat} {cI cB cJ cZ : ClassId} {A : Nat → Prop} {E : Heap} {tM tC : Nat} {kK kV : Nat → Nat} {ad0 : Nat → Nat} {NN0 : Nat} {post : St → Prop} {rec2 : Nat → Int32 → Nat → Nat → St → Prop} (hx : p.tables.exec = Jvm.exec) (hb : c.code = b_Wrt_putBoolRuns) (hml : c.maxLocals = 2) (hown : s.vm.findClass R_Wrt = some m.cls) (hT : ∀ w ∈ TG, w.before args s = true) (hK : va_K (dC, dI) CL (TY cI cB cJ cZ) s) (hN : NW s) (hA : ∀ q : Nat, s.heap.size ≤ q → A q) (hRf : 6 ≤ R.frames) (hRl : 299 ≤ R.locals) (hE : CE E tM tC kK kV A s) (hret : ∀ (ad : Nat → Nat) (NN cells slots : Nat) (x : St) (H : Heap) (locs : List Loc) (pc : Nat) (ls : Array Slot), decode b_Wrt_putBoolRuns pc = .ok (.return_, 1) → (NN0 ≤ NN ∧ ∀ o : Nat, o < NN0 → ad o = ad0 o) → cells ≤ R.cells → slots ≤ R.slots → post x → Wd dC dI cI cB cJ cZ ad stC kcC NN A x H → va_S A s.heap H locs → W p l e R s m args below meth c H locs cells slots Q (F0 m pc ls [])) (hrec2 : ∀ (ad : Nat → Nat) (NN cells slots : Nat) (o : Nat) (l1 : Int32) (kb : Nat) (nb : Nat) (x : St) (H : Heap) (locs : List Loc) (ls : Array Slot), (152 ≤ NN) → (NN0 ≤ NN ∧ ∀ o : Nat, o < NN0 → ad o = ad0 o) → (cells + kb ≤ R.cells) → (slots + nb ≤ R.slots) → (o < NN ∧ kcC o = 5) → rec2 o l1 kb nb x → Wd dC dI cI cB cJ cZ ad stC kcC NN A x H → va_S A s.heap H locs → lv_has ls 2 [(0, .ref (ad o)), (1, .int l1)] → W p l e R s m args below meth c H locs cells slots Q (F0 m 2 ls [])) : ∀ (ad : Nat → Nat) (NN cells slots : Nat) (o : Nat) (l1 : Int32) (kb : Nat) (nb : Nat) (x : St) (H : Heap) (locs : List Loc) (ls : Array Slot), (152 ≤ NN) → (NN0 ≤ NN ∧ ∀ o : Nat, o < NN0 → ad o = ad0 o) → (cells + kb ≤ R.cells) → (slots + nb ≤ R.slots) → (o < NN ∧ kcC o = 5) → j_Wrt_putBoolRuns_2 post rec2 o l1 kb nb x → Wd dC dI cI cB cJ cZ ad stC kcC NN A x H → va_S A s.heap H locs → lv_has ls 2 [(0, .ref (ad o)), (1, .int l1)] → W p l e R s m args below meth c H locs cells slots Q (F0 m 2 ls []) := by
  intro ad NN cells slots o l1 kb nb x H locs ls hNN hag hRc hRs fo hw hW hS hl
  unfold j_Wrt_putBoolRuns_2 at hw
  refine lv_iload_n hx hb d_Wrt_putBoolRuns_2 rfl (lv_at hl 1 rfl) ?_
  refine lv_aload_n hx hb d_Wrt_putBoolRuns_3 rfl (lv_at hl 0 rfl) ?_
  refine w_geti (k := 12) (t := 5) (C := R_Wrt) (T := F_Wrt) (N := 20) hx hb hT hown hK hW fo.1 fo.2 (by decide) in_Wrt rfl rfl (by decide) rfl fr_Wrt_12 w_2_63 d_Wrt_putBoolRuns_4 ?_
  refine lv_icmp_ge (tgt := 29) hx hb d_Wrt_putBoolRuns_7 (by decide) (fun c1 => ?_) (fun c1 => ?_)
  · have hw := hw.1 c1
    refine lv_aload_n hx hb d_Wrt_putBoolRuns_29 rfl (lv_at hl 0 rfl) ?_
    obtain ⟨q2, hq2, hw⟩ := hw
    refine w_getr (q := q2) (k := 4) (t := 5) (C := R_Wrt) (T := F_Wrt) (N := 20) hx hb hT hown hK hW fo.1 fo.2 (by decide) in_Wrt rfl rfl (by decide) rfl fr_Wrt_4 w_2_55 d_Wrt_putBoolRuns_30 hq2 (fun aq2 bq2 => ?_)
    have fq2 : q2 < NN ∧ kcC q2 = 1 := ⟨aq2, bq2⟩
    refine lv_aload_n hx hb d_Wrt_putBoolRuns_33 rfl (lv_at hl 0 rfl) ?_
    refine w_getf (q := (stC o 15)) (k := 15) (t := 5) (C := R_Wrt) (T := F_Wrt) (N := 20) hx hb hT hown hK hW fo.1 fo.2 (by decide) in_Wrt rfl rfl (by decide) rfl fr_Wrt_15 w_2_66 d_Wrt_putBoolRuns_34 rfl ?_
    refine lv_aload_n hx hb d_Wrt_putBoolRuns_37 rfl (lv_at hl 0 rfl) ?_
    refine w_geti (k := 12) (t := 5) (C := R_Wrt) (T := F_Wrt) (N := 20) hx hb hT hown hK hW fo.1 fo.2 (by decide) in_Wrt rfl rfl (by decide) rfl fr_Wrt_12 w_2_63 d_Wrt_putBoolRuns_38 ?_
    refine lv_iconst (v := 1) hx hb d_Wrt_putBoolRuns_41 (by decide) ?_
    obtain ⟨k3, n4, k5, n6, ek3, en4, hw⟩ := hw
    have hF := hW.free hS hA
    refine va_callv (va_runV (C := R_Snk) (As := [.ref (ad (stC o 15)), .int (fI x o 12), .int 1]) (rest := []) ⟨hx, hb, hml, hown, hT⟩ (k_Snk_putRuns l dC dI cI cB cJ cZ ad NN E tM tC kK kV hNN H.size q2 (stC o 15) (fI x o 12) 1 k3 n4 x fq2 (st_ty hNN fo.1 fo.2 rfl) hw) ⟨callB_of 3 hT (gwt_in w_5_197) rfl rfl rfl (hT _ w_1_2) (hT _ w_5_194) (by decide +kernel) ⟨Nat.le_trans (Nat.le_of_ble_eq_true rfl) hRf, Nat.le_trans (Nat.le_of_ble_eq_true rfl) hRl⟩, hT _ w_5_195, hT _ w_5_196⟩ ⟨PVc.blind, va_recv hK hW.1 (ci := 1) (q0 := q2) rfl (pic_obj fq2.1 fq2.2 (by decide)), PVc.at _ hW hK hN hE hS hF⟩ rfl rfl hl.1 rfl (lv_room (Nat.le_of_ble_eq_true rfl)) d_Wrt_putBoolRuns_42 ⟨show cells + k3 ≤ R.cells by omega, show slots + n4 ≤ R.slots by omega⟩) hS (fun q _ h => hF q h) hF (fun  x7 t H locs ht hvm hw hB hz1 hk1 hS => ?_)
    obtain ⟨x7, ad, NN⟩ := x7
    obtain ⟨hB, hle, hg⟩ := hB
    try dsimp only at hw hB hle hg
    have hW := Wd.back hB ht hF
    rw [← hg o fo.1] at hl
    have fo : o < NN ∧ kcC o = 5 := ⟨Nat.lt_of_lt_of_le fo.1 hle, fo.2⟩
    have fq2 : q2 < NN ∧ kcC q2 = 1 := ⟨Nat.lt_of_lt_of_le fq2.1 hle, fq2.2⟩
    have hag : NN0 ≤ NN ∧ ∀ o : Nat, o < NN0 → ad o = ad0 o := ⟨Nat.le_trans hag.1 hle, fun o h => (hg o (Nat.lt_of_lt_of_le h hag.1)).trans (hag.2 o h)⟩
    have hNN : 152 ≤ NN := Nat.le_trans hNN hle
    clear hg hle
    obtain ⟨cells, ec⟩ : ∃ z, z = cells + k3 := ⟨_, rfl⟩
    obtain ⟨slots, es⟩ : ∃ z, z = slots + n4 := ⟨_, rfl⟩
    first | rw [← ec, ← es] | rw [Nat.add_zero, Nat.add_zero, ← ec, ← es]
    have hRc : cells + k5 ≤ R.cells := by omega
    have hRs : slots + n6 ≤ R.slots := by omega
    clear ec es hB ht hF hz1 hk1 hvm ek3 en4
    exact hret ad NN cells slots x7 H locs 45 ls d_Wrt_putBoolRuns_45 hag (Nat.le_trans (Nat.le_add_right _ _) hRc) (Nat.le_trans (Nat.le_add_right _ _) hRs) hw hW hS
  · have hw := hw.2 c1
    refine lv_aload_n hx hb d_Wrt_putBoolRuns_10 rfl (lv_at hl 0 rfl) ?_
    refine w_getf (q := (stC o 15)) (k := 15) (t := 5) (C := R_Wrt) (T := F_Wrt) (N := 20) hx hb hT hown hK hW fo.1 fo.2 (by decide) in_Wrt rfl rfl (by decide) rfl fr_Wrt_15 w_2_66 d_Wrt_putBoolRuns_11 rfl ?_
    refine lv_iload_n hx hb d_Wrt_putBoolRuns_14 rfl (lv_at hl 1 rfl) ?_
    refine lv_aload_n hx hb d_Wrt_putBoolRuns_15 rfl (lv_at hl 0 rfl) ?_
    refine w_getf (q := (stC o 10)) (k := 10) (t := 5) (C := R_Wrt) (T := F_Wrt) (N := 20) hx hb hT hown hK hW fo.1 fo.2 (by decide) in_Wrt rfl rfl (by decide) rfl fr_Wrt_10 w_2_61 d_Wrt_putBoolRuns_16 rfl ?_
    refine lv_iload_n hx hb d_Wrt_putBoolRuns_19 rfl (lv_at hl 1 rfl) ?_
    obtain ⟨hi, hw⟩ := hw
    refine w_lald (o := (stC o 10)) hx hb hK hW (st_ty hNN fo.1 fo.2 rfl).1 (st_ty hNN fo.1 fo.2 rfl).2 hi d_Wrt_putBoolRuns_20 ?_
    refine lv_l2i hx hb d_Wrt_putBoolRuns_21 rfl ?_
    obtain ⟨hi, hw⟩ := hw
    refine w_iast (o := (stC o 15)) hx hb hK hW hS (st_ty hNN fo.1 fo.2 rfl).1 (st_ty hNN fo.1 fo.2 rfl).2 hi d_Wrt_putBoolRuns_22 (fun H locs hW hS => ?_)
    obtain ⟨x8, ex8⟩ : ∃ y : St, y = setA x (stC o 15) l1 ((rL x (stC o 10) l1) : Int64).toInt32 := ⟨_, rfl⟩
    rw [← ex8] at hW
    have hw := hw x8 ex8
    refine lv_iinc (v := (l1 + 1)) (lv' := [(1, .int (l1 + 1)), (0, .ref (ad o))]) hx hb d_Wrt_putBoolRuns_23 hl (k := 1) rfl rfl (by decide) rfl (fun ls hl => ?_)
    refine lv_goto (tgt := 2) hx hb d_Wrt_putBoolRuns_26 (by decide) ?_
    exact hrec2 ad NN cells slots o (l1 + 1) kb nb x8 H locs ls hNN hag hRc hRs fo hw hW hS (lv_sub hl [1, 0] rfl)
set_option maxHeartbeats 4000000 in
set_option maxRecDepth 100000 in
theorem tl_Wrt_putBoolRuns_2 {p : Program} {l : Launch} {e : Env} {R : Room} {s : State} {m : MethodId} {args : Array Value} {below : List Frame} {meth : Method} {c : Code} {Q : State → Prop} {dC : Nat → ClassId} {dI : Nat → Nat → Nat} {cI cB cJ cZ : ClassId} {A : Nat → Prop} {E : Heap} {tM tC : Nat} {kK kV : Nat → Nat} {ad0 : Nat → Nat} {NN0 : Nat} {post : St → Prop} (hx : p.tables.exec = Jvm.exec) (hb : c.code = b_Wrt_putBoolRuns) (hml : c.maxLocals = 2) (hown : s.vm.findClass R_Wrt = some m.cls) (hT : ∀ w ∈ TG, w.before args s = true) (hK : va_K (dC, dI) CL (TY cI cB cJ cZ) s) (hN : NW s) (hA : ∀ q : Nat, s.heap.size ≤ q → A q) (hRf : 6 ≤ R.frames) (hRl : 299 ≤ R.locals) (hE : CE E tM tC kK kV A s) (hret : ∀ (ad : Nat → Nat) (NN cells slots : Nat) (x : St) (H : Heap) (locs : List Loc) (pc : Nat) (ls : Array Slot), decode b_Wrt_putBoolRuns pc = .ok (.return_, 1) → (NN0 ≤ NN ∧ ∀ o : Nat, o < NN0 → ad o = ad0 o) → cells ≤ R.cells → slots ≤ R.slots → post x → Wd dC dI cI cB cJ cZ ad stC kcC NN A x H → va_S A s.heap H locs → W p l e R s m args below meth c H locs cells slots Q (F0 m pc ls []))  : ∀ n : Nat, ∀ (ad : Nat → Nat) (NN cells slots : Nat) (o : Nat) (l1 : Int32) (kb : Nat) (nb : Nat) (x : St) (H : Heap) (locs : List Loc) (ls : Array Slot), (152 ≤ NN) → (NN0 ≤ NN ∧ ∀ o : Nat, o < NN0 → ad o = ad0 o) → (cells + kb ≤ R.cells) → (slots + nb ≤ R.slots) → (o < NN ∧ kcC o = 5) → wl_Wrt_putBoolRuns_2 post n o l1 kb nb x → Wd dC dI cI cB cJ cZ ad stC kcC NN A x H → va_S A s.heap H locs → lv_has ls 2 [(0, .ref (ad o)), (1, .int l1)] → W p l e R s m args below meth c H locs cells slots Q (F0 m 2 ls []) := by
  intro n
  induction n with
  | zero => intro ad NN cells slots o l1 kb nb x H locs ls hNN hag hRc hRs fo hw; exact hw.elim
  | succ n ih => intro ad NN cells slots o l1 kb nb x H locs ls hNN hag hRc hRs fo hw hW hS hl; exact t_Wrt_putBoolRuns_2 hx hb hml hown hT hK hN hA hRf hRl hE hret  ih ad NN cells slots o l1 kb nb x H locs ls hNN hag hRc hRs fo hw hW hS hl
set_option maxRecDepth 100000 in
set_option maxHeartbeats 4000000 in
set_option maxRecDepth 100000 in
theorem t_Wrt_putBoolRuns_e {p : Program} {l : Launch} {e : Env} {R : Room} {s : State} {m : MethodId} {args : Array Value} {below : List Frame} {meth : Method} {c : Code} {Q : State → Prop} {dC : Nat → ClassId} {dI : Nat → Nat → Nat} {cI cB cJ cZ : ClassId} {A : Nat → Prop} {E : Heap} {tM tC : Nat} {kK kV : Nat → Nat} {ad0 : Nat → Nat} {NN0 : Nat} {post : St → Prop} (hx : p.tables.exec = Jvm.exec) (hb : c.code = b_Wrt_putBoolRuns) (hml : c.maxLocals = 2) (hown : s.vm.findClass R_Wrt = some m.cls) (hT : ∀ w ∈ TG, w.before args s = true) (hK : va_K (dC, dI) CL (TY cI cB cJ cZ) s) (hN : NW s) (hA : ∀ q : Nat, s.heap.size ≤ q → A q) (hRf : 6 ≤ R.frames) (hRl : 299 ≤ R.locals) (hE : CE E tM tC kK kV A s) (hret : ∀ (ad : Nat → Nat) (NN cells slots : Nat) (x : St) (H : Heap) (locs : List Loc) (pc : Nat) (ls : Array Slot), decode b_Wrt_putBoolRuns pc = .ok (.return_, 1) → (NN0 ≤ NN ∧ ∀ o : Nat, o < NN0 → ad o = ad0 o) → cells ≤ R.cells → slots ≤ R.slots → post x → Wd dC dI cI cB cJ cZ ad stC kcC NN A x H → va_S A s.heap H locs → W p l e R s m args below meth c H locs cells slots Q (F0 m pc ls [])) : ∀ (ad : Nat → Nat) (NN cells slots : Nat) (o : Nat) (kb : Nat) (nb : Nat) (x : St) (H : Heap) (locs : List Loc) (ls : Array Slot), (152 ≤ NN) → (NN0 ≤ NN ∧ ∀ o : Nat, o < NN0 → ad o = ad0 o) → (cells + kb ≤ R.cells) → (slots + nb ≤ R.slots) → (o < NN ∧ kcC o = 5) → wp_Wrt_putBoolRuns post o kb nb x → Wd dC dI cI cB cJ cZ ad stC kcC NN A x H → va_S A s.heap H locs → lv_has ls 2 [(0, .ref (ad o))] → W p l e R s m args below meth c H locs cells slots Q (F0 m 0 ls []) := by
  intro ad NN cells slots o kb nb x H locs ls hNN hag hRc hRs fo hw hW hS hl
  unfold wp_Wrt_putBoolRuns at hw
  refine lv_iconst (v := 0) hx hb d_Wrt_putBoolRuns_0 (by decide) ?_
  refine lv_istore_n (lv' := [(1, .int 0), (0, .ref (ad o))]) hx hb d_Wrt_putBoolRuns_1 rfl hl (by decide) rfl (fun ls hl => ?_)
  obtain ⟨n, hw⟩ := hw
  exact tl_Wrt_putBoolRuns_2 hx hb hml hown hT hK hN hA hRf hRl hE hret  n ad NN cells slots o 0 kb nb x H locs ls hNN hag hRc hRs fo hw hW hS (lv_sub hl [1, 0] rfl)
set_option maxHeartbeats 4000000 in
set_option maxRecDepth 100000 in
theorem k_Wrt_putBoolRuns (l : Launch) (dC : Nat → ClassId) (dI : Nat → Nat → Nat) (cI cB cJ cZ : ClassId) (ad : Nat → Nat) (NN : Nat) (E : Heap) (tM tC : Nat) (kK kV : Nat → Nat) (hNN : 152 ≤ NN) (sz : Nat) (o : Nat) (kb : Nat) (nb : Nat) (x : St) (fo : o < NN ∧ kcC o = 5) {post : St → Prop} (hw : wp_Wrt_putBoolRuns post o kb nb x) : Met l y_Wrt_putBoolRuns (wsOf y_Wrt_putBoolRuns b_Wrt_putBoolRuns 2 (none)) ({ frames := 6, cells := kb, slots := nb, locals := 299 }) (va_Pc [.ref (ad o)] (PVc dC dI cI cB cJ cZ ad stC kcC NN E tM tC kK kV sz x)) (va_Qv (fun (u : St × (Nat → Nat) × Nat) => post u.1) (fun u t => Wd dC dI cI cB cJ cZ u.2.1 stC kcC u.2.2 (va_A (pic ad stC kcC NN cI cB cJ cZ x) sz) u.1 t.heap ∧ NN ≤ u.2.2 ∧ ∀ o : Nat, o < NN → u.2.1 o = ad o) (va_A (pic ad stC kcC NN cI cB cJ cZ x) sz)) kb nb (va_A (pic ad stC kcC NN cI cB cJ cZ x) sz) := by
  refine Met.ofW (cc := b_Wrt_putBoolRuns) (maxL := 2) (ret := none) (by decide) rfl ?_
  intro p e s m args below meth c s₁ B hml hv
  obtain ⟨rfl, ⟨hsz, hW0, hK, hN⟩, hE⟩ := hv
  have hx := B.exec
  have hb := B.bytes
  have hr := B.returns
  have hts := atoms_spec B.pre
  have hT : ∀ w ∈ TG, w.before _ s = true := fun w h => hts w (List.mem_cons_of_mem _ h)
  have hown : s.vm.findClass R_Wrt = some m.cls := findClass_of_methodNamed B.named
  have hlocks := B.notSynchronized
  subst hsz
  have hW : Wd dC dI cI cB cJ cZ ad stC kcC NN (va_A (pic ad stC kcC NN cI cB cJ cZ x) s.heap.size) x s.heap := ⟨hW0.1, hW0.2.1.self (sz := s.heap.size), hW0.2.2⟩
  generalize hAe : va_A (pic ad stC kcC NN cI cB cJ cZ x) s.heap.size = A at hW hE ⊢
  have hA : ∀ q : Nat, s.heap.size ≤ q → A q := fun q h => by rw [← hAe]; exact Or.inr h
  have hS : va_S A s.heap s.heap [] := va_S.rf
  have hl := lv_entry ([.ref (ad o)]) (n := 2) (Nat.le_of_ble_eq_true rfl)
  rw [lg_entry_eq]
  generalize (lg_sl ([.ref (ad o)]) ++ List.replicate (2 - (lg_sl ([.ref (ad o)])).length) Slot.unset).toArray = ls at hl ⊢
  have hl : lv_has ls 2 [(0, .ref (ad o))] := hl
  exact t_Wrt_putBoolRuns_e hx hb hml hown hT hK hN hA (Nat.le_refl 6) (Nat.le_refl 299) hE (fun ad1 NN1 cells slots x1 H locs pc ls hd hag hc hs hp hW hS => W.widen (k := kb) (n := nb) hc hs (W.vret hx hb hr (fun t ht hM => ⟨⟨(x1, ad1, NN1), rfl, hp, Wd.back hW ht.symm (fun _ z => z), hag.1, hag.2⟩, hS.F ht⟩) hS.2.2 hd hlocks))  ad NN 0 0 o kb nb x _ _ ls hNN ⟨Nat.le_refl _, fun _ _ => rfl⟩ (Nat.le_of_eq (Nat.zero_add kb)) (Nat.le_of_eq (Nat.zero_add nb)) fo hw hW hS hl
end
