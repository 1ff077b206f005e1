theorem fr_Scn_6 : F_Scn 6 = (R_Scn, "number", "J", false) := rfl
theorem fr_Scn_7 : F_Scn 7 = (R_Scn, "textSize", "I", false) := rfl
theorem w_1_102 : (Jvm.Cond.fieldLink "StripedVault$Scan" (89 : Nat) "StripedVault$Scan" "number" "J") ∈ TG := tw_1 102 (by decide +kernel) (by decide +kernel)
theorem w_1_105 : (Jvm.Cond.fieldLink "StripedVault$Scan" (97 : Nat) "StripedVault$Scan" "textSize" "I") ∈ TG := tw_1 105 (by decide +kernel) (by decide +kernel)
theorem w_5_103 : (Jvm.Cond.constantLong "StripedVault$Scan" (93 : Nat) (-9223372036854775808 : Int64)) ∈ TG := tw_5 103 (by decide +kernel) (by decide +kernel)
theorem w_5_104 : (Jvm.Cond.constantLong "StripedVault$Scan" (95 : Nat) (10 : Int64)) ∈ TG := tw_5 104 (by decide +kernel) (by decide +kernel)
theorem w_5_72 : (Jvm.Cond.methodLink "StripedVault$Scan" (82 : Nat) ({ cls := "StripedVault$Scan", name := "byteAt", desc := "(I)I" } : Jvm.MethodName)) ∈ TG := tw_5 72 (by decide +kernel) (by decide +kernel)
theorem w_5_73 : (Jvm.Cond.instanceMethod ({ cls := "StripedVault$Scan", name := "byteAt", desc := "(I)I" } : Jvm.MethodName)) ∈ TG := tw_5 73 (by decide +kernel) (by decide +kernel)
theorem w_5_74 : (Jvm.Cond.selects "StripedVault$Scan" ({ cls := "StripedVault$Scan", name := "byteAt", desc := "(I)I" } : Jvm.MethodName) ({ cls := "StripedVault$Scan", name := "byteAt", desc := "(I)I" } : Jvm.MethodName)) ∈ TG := tw_5 74 (by decide +kernel) (by decide +kernel)
theorem w_5_75 : (Jvm.Cond.code ({ cls := "StripedVault$Scan", name := "byteAt", desc := "(I)I" } : Jvm.MethodName) prog_7_method_5_code (2 : Nat) (Option.some Jvm.ClassFile.FieldType.int)) ∈ TG := tw_5 75 (by decide +kernel) (by decide +kernel)
theorem w_5_76 : (Jvm.Cond.methodLink "StripedVault$Scan" (100 : Nat) ({ cls := "StripedVault$Scan", name := "readEscape", desc := "()I" } : Jvm.MethodName)) ∈ TG := tw_5 76 (by decide +kernel) (by decide +kernel)
theorem w_5_78 : (Jvm.Cond.instanceMethod ({ cls := "StripedVault$Scan", name := "readEscape", desc := "()I" } : Jvm.MethodName)) ∈ TG := tw_5 78 (by decide +kernel) (by decide +kernel)
theorem w_5_79 : (Jvm.Cond.code ({ cls := "StripedVault$Scan", name := "readEscape", desc := "()I" } : Jvm.MethodName) prog_7_method_17_code (5 : Nat) (Option.some Jvm.ClassFile.FieldType.int)) ∈ TG := tw_5 79 (by decide +kernel) (by decide +kernel)
theorem w_5_80 : (Jvm.Cond.methodLink "StripedVault$Scan" (103 : Nat) ({ cls := "StripedVault$Scan", name := "hexAt", desc := "(I)I" } : Jvm.MethodName)) ∈ TG := tw_5 80 (by decide +kernel) (by decide +kernel)
theorem w_5_82 : (Jvm.Cond.instanceMethod ({ cls := "StripedVault$Scan", name := "hexAt", desc := "(I)I" } : Jvm.MethodName)) ∈ TG := tw_5 82 (by decide +kernel) (by decide +kernel)
theorem w_5_83 : (Jvm.Cond.code ({ cls := "StripedVault$Scan", name := "hexAt", desc := "(I)I" } : Jvm.MethodName) prog_7_method_18_code (3 : Nat) (Option.some Jvm.ClassFile.FieldType.int)) ∈ TG := tw_5 83 (by decide +kernel) (by decide +kernel)
theorem w_5_87 : (Jvm.Cond.constantLong "StripedVault" (242 : Nat) (256 : Int64)) ∈ TG := tw_5 87 (by decide +kernel) (by decide +kernel)
theorem w_5_93 : (Jvm.Cond.static ({ cls := "StripedVault", name := "isDigit", desc := "(I)Z" } : Jvm.MethodName)) ∈ TG := tw_5 93 (by decide +kernel) (by decide +kernel)
theorem w_5_94 : (Jvm.Cond.code ({ cls := "StripedVault", name := "isDigit", desc := "(I)Z" } : Jvm.MethodName) prog_1_method_29_code (1 : Nat) (Option.some Jvm.ClassFile.FieldType.boolean)) ∈ TG := tw_5 94 (by decide +kernel) (by decide +kernel)
theorem wn_5_92 : (Jvm.Cond.methodLinkNest "StripedVault$Scan" (79 : Nat) ({ cls := "StripedVault", name := "isDigit", desc := "(I)Z" } : Jvm.MethodName) "StripedVault") ∈ lw_tbl := tb_5 _ (List.mem_of_getElem? (i := 92) (by decide +kernel))
theorem ws_13 : Cond.selects R_Scn y_Scn_readEscape y_Scn_readEscape ∈ TG := tw_s 13 (by decide +kernel) (by decide +kernel)
theorem ws_14 : Cond.selects R_Scn y_Scn_hexAt y_Scn_hexAt ∈ TG := tw_s 14 (by decide +kernel) (by decide +kernel)
theorem d_Scn_byteAt_0 : decode b_Scn_byteAt 0 = .ok (.iload_n 1, 1) := by decide +kernel
theorem d_Scn_byteAt_1 : decode b_Scn_byteAt 1 = .ok (.aload_n 0, 1) := by decide +kernel
theorem d_Scn_byteAt_2 : decode b_Scn_byteAt 2 = .ok (.getfield 25, 3) := by decide +kernel
theorem d_Scn_byteAt_5 : decode b_Scn_byteAt 5 = .ok (.if_icmp .ge 16, 3) := by decide +kernel
theorem d_Scn_byteAt_21 : decode b_Scn_byteAt 21 = .ok (.iconst (-1), 1) := by decide +kernel
theorem d_Scn_byteAt_22 : decode b_Scn_byteAt 22 = .ok (.ireturn, 1) := by decide +kernel
theorem d_Scn_byteAt_8 : decode b_Scn_byteAt 8 = .ok (.aload_n 0, 1) := by decide +kernel
theorem d_Scn_byteAt_9 : decode b_Scn_byteAt 9 = .ok (.getfield 9, 3) := by decide +kernel
theorem d_Scn_byteAt_12 : decode b_Scn_byteAt 12 = .ok (.iload_n 1, 1) := by decide +kernel
theorem d_Scn_byteAt_13 : decode b_Scn_byteAt 13 = .ok (.baload, 1) := by decide +kernel
theorem d_Scn_byteAt_14 : decode b_Scn_byteAt 14 = .ok (.sipush 255, 3) := by decide +kernel
theorem d_Scn_byteAt_17 : decode b_Scn_byteAt 17 = .ok (.iand, 1) := by decide +kernel
theorem d_Scn_byteAt_18 : decode b_Scn_byteAt 18 = .ok (.goto 4, 3) := by decide +kernel
theorem d_Scn_hexAt_58 : decode b_Scn_hexAt 58 = .ok (.iconst (-1), 1) := by decide +kernel
theorem d_Scn_hexAt_59 : decode b_Scn_hexAt 59 = .ok (.ireturn, 1) := by decide +kernel
theorem d_Scn_hexAt_36 : decode b_Scn_hexAt 36 = .ok (.iload_n 2, 1) := by decide +kernel
theorem d_Scn_hexAt_37 : decode b_Scn_hexAt 37 = .ok (.bipush 97, 2) := by decide +kernel
theorem d_Scn_hexAt_39 : decode b_Scn_hexAt 39 = .ok (.if_icmp .lt 19, 3) := by decide +kernel
theorem d_Scn_hexAt_42 : decode b_Scn_hexAt 42 = .ok (.iload_n 2, 1) := by decide +kernel
theorem d_Scn_hexAt_43 : decode b_Scn_hexAt 43 = .ok (.bipush 102, 2) := by decide +kernel
theorem d_Scn_hexAt_45 : decode b_Scn_hexAt 45 = .ok (.if_icmp .gt 13, 3) := by decide +kernel
theorem d_Scn_hexAt_48 : decode b_Scn_hexAt 48 = .ok (.iload_n 2, 1) := by decide +kernel
theorem d_Scn_hexAt_49 : decode b_Scn_hexAt 49 = .ok (.bipush 97, 2) := by decide +kernel
theorem d_Scn_hexAt_51 : decode b_Scn_hexAt 51 = .ok (.isub, 1) := by decide +kernel
theorem d_Scn_hexAt_52 : decode b_Scn_hexAt 52 = .ok (.bipush 10, 2) := by decide +kernel
theorem d_Scn_hexAt_54 : decode b_Scn_hexAt 54 = .ok (.iadd, 1) := by decide +kernel
theorem d_Scn_hexAt_55 : decode b_Scn_hexAt 55 = .ok (.goto 4, 3) := by decide +kernel
theorem d_Scn_hexAt_18 : decode b_Scn_hexAt 18 = .ok (.istore_n 2, 1) := by decide +kernel
theorem d_Scn_hexAt_19 : decode b_Scn_hexAt 19 = .ok (.iload_n 2, 1) := by decide +kernel
theorem d_Scn_hexAt_20 : decode b_Scn_hexAt 20 = .ok (.bipush 48, 2) := by decide +kernel
theorem d_Scn_hexAt_22 : decode b_Scn_hexAt 22 = .ok (.if_icmp .lt 14, 3) := by decide +kernel
theorem d_Scn_hexAt_25 : decode b_Scn_hexAt 25 = .ok (.iload_n 2, 1) := by decide +kernel
theorem d_Scn_hexAt_26 : decode b_Scn_hexAt 26 = .ok (.bipush 57, 2) := by decide +kernel
theorem d_Scn_hexAt_28 : decode b_Scn_hexAt 28 = .ok (.if_icmp .gt 8, 3) := by decide +kernel
theorem d_Scn_hexAt_31 : decode b_Scn_hexAt 31 = .ok (.iload_n 2, 1) := by decide +kernel
theorem d_Scn_hexAt_32 : decode b_Scn_hexAt 32 = .ok (.bipush 48, 2) := by decide +kernel
theorem d_Scn_hexAt_34 : decode b_Scn_hexAt 34 = .ok (.isub, 1) := by decide +kernel
theorem d_Scn_hexAt_35 : decode b_Scn_hexAt 35 = .ok (.ireturn, 1) := by decide +kernel
theorem d_Scn_hexAt_0 : decode b_Scn_hexAt 0 = .ok (.iload_n 1, 1) := by decide +kernel
theorem d_Scn_hexAt_1 : decode b_Scn_hexAt 1 = .ok (.aload_n 0, 1) := by decide +kernel
theorem d_Scn_hexAt_2 : decode b_Scn_hexAt 2 = .ok (.getfield 25, 3) := by decide +kernel
theorem d_Scn_hexAt_5 : decode b_Scn_hexAt 5 = .ok (.if_icmp .ge 12, 3) := by decide +kernel
theorem d_Scn_hexAt_17 : decode b_Scn_hexAt 17 = .ok (.iconst (-1), 1) := by decide +kernel
theorem d_Scn_hexAt_8 : decode b_Scn_hexAt 8 = .ok (.aload_n 0, 1) := by decide +kernel
theorem d_Scn_hexAt_9 : decode b_Scn_hexAt 9 = .ok (.getfield 9, 3) := by decide +kernel
theorem d_Scn_hexAt_12 : decode b_Scn_hexAt 12 = .ok (.iload_n 1, 1) := by decide +kernel
theorem d_Scn_hexAt_13 : decode b_Scn_hexAt 13 = .ok (.baload, 1) := by decide +kernel
theorem d_Scn_hexAt_14 : decode b_Scn_hexAt 14 = .ok (.goto 4, 3) := by decide +kernel
theorem d_Scn_readEscape_129 : decode b_Scn_readEscape 129 = .ok (.invokevirtual 72, 3) := by decide +kernel
theorem d_Scn_readEscape_132 : decode b_Scn_readEscape 132 = .ok (.iconst 0, 1) := by decide +kernel
theorem d_Scn_readEscape_133 : decode b_Scn_readEscape 133 = .ok (.ireturn, 1) := by decide +kernel
theorem d_Scn_readEscape_101 : decode b_Scn_readEscape 101 = .ok (.istore 4, 2) := by decide +kernel
theorem d_Scn_readEscape_103 : decode b_Scn_readEscape 103 = .ok (.aload_n 0, 1) := by decide +kernel
theorem d_Scn_readEscape_104 : decode b_Scn_readEscape 104 = .ok (.aload_n 0, 1) := by decide +kernel
theorem d_Scn_readEscape_105 : decode b_Scn_readEscape 105 = .ok (.getfield 28, 3) := by decide +kernel
theorem d_Scn_readEscape_108 : decode b_Scn_readEscape 108 = .ok (.iload 4, 2) := by decide +kernel
theorem d_Scn_readEscape_110 : decode b_Scn_readEscape 110 = .ok (.iadd, 1) := by decide +kernel
theorem d_Scn_readEscape_111 : decode b_Scn_readEscape 111 = .ok (.aload_n 0, 1) := by decide +kernel
theorem d_Scn_readEscape_112 : decode b_Scn_readEscape 112 = .ok (.getfield 25, 3) := by decide +kernel
theorem d_Scn_readEscape_115 : decode b_Scn_readEscape 115 = .ok (.if_icmp .lt 10, 3) := by decide +kernel
theorem d_Scn_readEscape_125 : decode b_Scn_readEscape 125 = .ok (.aload_n 0, 1) := by decide +kernel
theorem d_Scn_readEscape_126 : decode b_Scn_readEscape 126 = .ok (.getfield 28, 3) := by decide +kernel
theorem d_Scn_readEscape_118 : decode b_Scn_readEscape 118 = .ok (.aload_n 0, 1) := by decide +kernel
theorem d_Scn_readEscape_119 : decode b_Scn_readEscape 119 = .ok (.getfield 25, 3) := by decide +kernel
theorem d_Scn_readEscape_122 : decode b_Scn_readEscape 122 = .ok (.goto 7, 3) := by decide +kernel
theorem d_Scn_readEscape_75 : decode b_Scn_readEscape 75 = .ok (.istore_n 3, 1) := by decide +kernel
theorem d_Scn_readEscape_76 : decode b_Scn_readEscape 76 = .ok (.iload_n 3, 1) := by decide +kernel
theorem d_Scn_readEscape_77 : decode b_Scn_readEscape 77 = .ok (.iconst (-1), 1) := by decide +kernel
theorem d_Scn_readEscape_78 : decode b_Scn_readEscape 78 = .ok (.if_icmp .ne 56, 3) := by decide +kernel
theorem d_Scn_readEscape_134 : decode b_Scn_readEscape 134 = .ok (.aload_n 0, 1) := by decide +kernel
theorem d_Scn_readEscape_135 : decode b_Scn_readEscape 135 = .ok (.dup, 1) := by decide +kernel
theorem d_Scn_readEscape_136 : decode b_Scn_readEscape 136 = .ok (.getfield 28, 3) := by decide +kernel
theorem d_Scn_readEscape_139 : decode b_Scn_readEscape 139 = .ok (.iconst 4, 1) := by decide +kernel
theorem d_Scn_readEscape_140 : decode b_Scn_readEscape 140 = .ok (.iadd, 1) := by decide +kernel
theorem d_Scn_readEscape_141 : decode b_Scn_readEscape 141 = .ok (.putfield 28, 3) := by decide +kernel
theorem d_Scn_readEscape_144 : decode b_Scn_readEscape 144 = .ok (.iload_n 2, 1) := by decide +kernel
theorem d_Scn_readEscape_145 : decode b_Scn_readEscape 145 = .ok (.bipush 16, 2) := by decide +kernel
theorem d_Scn_readEscape_147 : decode b_Scn_readEscape 147 = .ok (.imul, 1) := by decide +kernel
theorem d_Scn_readEscape_148 : decode b_Scn_readEscape 148 = .ok (.iload_n 3, 1) := by decide +kernel
theorem d_Scn_readEscape_149 : decode b_Scn_readEscape 149 = .ok (.iadd, 1) := by decide +kernel
theorem d_Scn_readEscape_150 : decode b_Scn_readEscape 150 = .ok (.ireturn, 1) := by decide +kernel
theorem d_Scn_readEscape_81 : decode b_Scn_readEscape 81 = .ok (.iload_n 1, 1) := by decide +kernel
theorem d_Scn_readEscape_82 : decode b_Scn_readEscape 82 = .ok (.bipush 120, 2) := by decide +kernel
theorem d_Scn_readEscape_84 : decode b_Scn_readEscape 84 = .ok (.if_icmp .eq 7, 3) := by decide +kernel
theorem d_Scn_readEscape_91 : decode b_Scn_readEscape 91 = .ok (.iload_n 2, 1) := by decide +kernel
theorem d_Scn_readEscape_92 : decode b_Scn_readEscape 92 = .ok (.iconst (-1), 1) := by decide +kernel
theorem d_Scn_readEscape_93 : decode b_Scn_readEscape 93 = .ok (.if_icmp .ne 7, 3) := by decide +kernel
theorem d_Scn_readEscape_100 : decode b_Scn_readEscape 100 = .ok (.iconst 3, 1) := by decide +kernel
theorem d_Scn_readEscape_96 : decode b_Scn_readEscape 96 = .ok (.iconst 2, 1) := by decide +kernel
theorem d_Scn_readEscape_97 : decode b_Scn_readEscape 97 = .ok (.goto 4, 3) := by decide +kernel
theorem d_Scn_readEscape_87 : decode b_Scn_readEscape 87 = .ok (.iconst 1, 1) := by decide +kernel
theorem d_Scn_readEscape_88 : decode b_Scn_readEscape 88 = .ok (.goto 13, 3) := by decide +kernel
theorem d_Scn_readEscape_55 : decode b_Scn_readEscape 55 = .ok (.istore_n 2, 1) := by decide +kernel
theorem d_Scn_readEscape_56 : decode b_Scn_readEscape 56 = .ok (.iload_n 2, 1) := by decide +kernel
theorem d_Scn_readEscape_57 : decode b_Scn_readEscape 57 = .ok (.iconst (-1), 1) := by decide +kernel
theorem d_Scn_readEscape_58 : decode b_Scn_readEscape 58 = .ok (.if_icmp .ne 7, 3) := by decide +kernel
theorem d_Scn_readEscape_65 : decode b_Scn_readEscape 65 = .ok (.aload_n 0, 1) := by decide +kernel
theorem d_Scn_readEscape_66 : decode b_Scn_readEscape 66 = .ok (.aload_n 0, 1) := by decide +kernel
theorem d_Scn_readEscape_67 : decode b_Scn_readEscape 67 = .ok (.getfield 28, 3) := by decide +kernel
theorem d_Scn_readEscape_70 : decode b_Scn_readEscape 70 = .ok (.iconst 3, 1) := by decide +kernel
theorem d_Scn_readEscape_71 : decode b_Scn_readEscape 71 = .ok (.iadd, 1) := by decide +kernel
theorem d_Scn_readEscape_72 : decode b_Scn_readEscape 72 = .ok (.invokevirtual 103, 3) := by decide +kernel
theorem d_Scn_readEscape_61 : decode b_Scn_readEscape 61 = .ok (.iconst (-1), 1) := by decide +kernel
theorem d_Scn_readEscape_62 : decode b_Scn_readEscape 62 = .ok (.goto 13, 3) := by decide +kernel
theorem d_Scn_readEscape_23 : decode b_Scn_readEscape 23 = .ok (.aload_n 0, 1) := by decide +kernel
theorem d_Scn_readEscape_24 : decode b_Scn_readEscape 24 = .ok (.dup, 1) := by decide +kernel
theorem d_Scn_readEscape_25 : decode b_Scn_readEscape 25 = .ok (.getfield 28, 3) := by decide +kernel
theorem d_Scn_readEscape_28 : decode b_Scn_readEscape 28 = .ok (.iconst 2, 1) := by decide +kernel
theorem d_Scn_readEscape_29 : decode b_Scn_readEscape 29 = .ok (.iadd, 1) := by decide +kernel
theorem d_Scn_readEscape_30 : decode b_Scn_readEscape 30 = .ok (.putfield 28, 3) := by decide +kernel
theorem d_Scn_readEscape_33 : decode b_Scn_readEscape 33 = .ok (.iload_n 1, 1) := by decide +kernel
theorem d_Scn_readEscape_34 : decode b_Scn_readEscape 34 = .ok (.ireturn, 1) := by decide +kernel
theorem d_Scn_readEscape_0 : decode b_Scn_readEscape 0 = .ok (.aload_n 0, 1) := by decide +kernel
theorem d_Scn_readEscape_1 : decode b_Scn_readEscape 1 = .ok (.aload_n 0, 1) := by decide +kernel
theorem d_Scn_readEscape_2 : decode b_Scn_readEscape 2 = .ok (.getfield 28, 3) := by decide +kernel
theorem d_Scn_readEscape_5 : decode b_Scn_readEscape 5 = .ok (.iconst 1, 1) := by decide +kernel
theorem d_Scn_readEscape_6 : decode b_Scn_readEscape 6 = .ok (.iadd, 1) := by decide +kernel
theorem d_Scn_readEscape_7 : decode b_Scn_readEscape 7 = .ok (.invokevirtual 82, 3) := by decide +kernel
theorem d_Scn_readEscape_10 : decode b_Scn_readEscape 10 = .ok (.istore_n 1, 1) := by decide +kernel
theorem d_Scn_readEscape_11 : decode b_Scn_readEscape 11 = .ok (.iload_n 1, 1) := by decide +kernel
theorem d_Scn_readEscape_12 : decode b_Scn_readEscape 12 = .ok (.bipush 39, 2) := by decide +kernel
theorem d_Scn_readEscape_14 : decode b_Scn_readEscape 14 = .ok (.if_icmp .eq 9, 3) := by decide +kernel
theorem d_Scn_readEscape_17 : decode b_Scn_readEscape 17 = .ok (.iload_n 1, 1) := by decide +kernel
theorem d_Scn_readEscape_18 : decode b_Scn_readEscape 18 = .ok (.bipush 92, 2) := by decide +kernel
theorem d_Scn_readEscape_20 : decode b_Scn_readEscape 20 = .ok (.if_icmp .ne 15, 3) := by decide +kernel
theorem d_Scn_readEscape_35 : decode b_Scn_readEscape 35 = .ok (.iload_n 1, 1) := by decide +kernel
theorem d_Scn_readEscape_36 : decode b_Scn_readEscape 36 = .ok (.bipush 120, 2) := by decide +kernel
theorem d_Scn_readEscape_38 : decode b_Scn_readEscape 38 = .ok (.if_icmp .ne 16, 3) := by decide +kernel
theorem d_Scn_readEscape_54 : decode b_Scn_readEscape 54 = .ok (.iconst (-1), 1) := by decide +kernel
theorem d_Scn_readEscape_41 : decode b_Scn_readEscape 41 = .ok (.aload_n 0, 1) := by decide +kernel
theorem d_Scn_readEscape_42 : decode b_Scn_readEscape 42 = .ok (.aload_n 0, 1) := by decide +kernel
theorem d_Scn_readEscape_43 : decode b_Scn_readEscape 43 = .ok (.getfield 28, 3) := by decide +kernel
theorem d_Scn_readEscape_46 : decode b_Scn_readEscape 46 = .ok (.iconst 2, 1) := by decide +kernel
theorem d_Scn_readEscape_47 : decode b_Scn_readEscape 47 = .ok (.iadd, 1) := by decide +kernel
theorem d_Scn_readEscape_48 : decode b_Scn_readEscape 48 = .ok (.invokevirtual 103, 3) := by decide +kernel
theorem d_Scn_readEscape_51 : decode b_Scn_readEscape 51 = .ok (.goto 4, 3) := by decide +kernel
theorem d_Scn_readQuoted_142 : decode b_Scn_readQuoted 142 = .ok (.aload_n 0, 1) := by decide +kernel
theorem d_Scn_readQuoted_143 : decode b_Scn_readQuoted 143 = .ok (.invokevirtual 65, 3) := by decide +kernel
theorem d_Scn_readQuoted_146 : decode b_Scn_readQuoted 146 = .ok (.ifCond .ne 4, 3) := by decide +kernel
theorem d_Scn_readQuoted_150 : decode b_Scn_readQuoted 150 = .ok (.aload_n 1, 1) := by decide +kernel
theorem d_Scn_readQuoted_151 : decode b_Scn_readQuoted 151 = .ok (.iload_n 2, 1) := by decide +kernel
theorem d_Scn_readQuoted_152 : decode b_Scn_readQuoted 152 = .ok (.aload_n 0, 1) := by decide +kernel
theorem d_Scn_readQuoted_153 : decode b_Scn_readQuoted 153 = .ok (.getfield 97, 3) := by decide +kernel
theorem d_Scn_readQuoted_156 : decode b_Scn_readQuoted 156 = .ok (.iadd, 1) := by decide +kernel
theorem d_Scn_readQuoted_157 : decode b_Scn_readQuoted 157 = .ok (.iload 5, 2) := by decide +kernel
theorem d_Scn_readQuoted_159 : decode b_Scn_readQuoted 159 = .ok (.i2b, 1) := by decide +kernel
theorem d_Scn_readQuoted_160 : decode b_Scn_readQuoted 160 = .ok (.bastore, 1) := by decide +kernel
theorem d_Scn_readQuoted_161 : decode b_Scn_readQuoted 161 = .ok (.aload_n 0, 1) := by decide +kernel
theorem d_Scn_readQuoted_162 : decode b_Scn_readQuoted 162 = .ok (.dup, 1) := by decide +kernel
theorem d_Scn_readQuoted_163 : decode b_Scn_readQuoted 163 = .ok (.getfield 97, 3) := by decide +kernel
theorem d_Scn_readQuoted_166 : decode b_Scn_readQuoted 166 = .ok (.iconst 1, 1) := by decide +kernel
theorem d_Scn_readQuoted_167 : decode b_Scn_readQuoted 167 = .ok (.iadd, 1) := by decide +kernel
theorem d_Scn_readQuoted_168 : decode b_Scn_readQuoted 168 = .ok (.putfield 97, 3) := by decide +kernel
theorem d_Scn_readQuoted_171 : decode b_Scn_readQuoted 171 = .ok (.iinc 3 1, 3) := by decide +kernel
theorem d_Scn_readQuoted_174 : decode b_Scn_readQuoted 174 = .ok (.goto (-157), 3) := by decide +kernel
theorem d_Scn_readQuoted_149 : decode b_Scn_readQuoted 149 = .ok (.return_, 1) := by decide +kernel
theorem d_Scn_readQuoted_103 : decode b_Scn_readQuoted 103 = .ok (.aload_n 0, 1) := by decide +kernel
theorem d_Scn_readQuoted_104 : decode b_Scn_readQuoted 104 = .ok (.aload_n 0, 1) := by decide +kernel
theorem d_Scn_readQuoted_105 : decode b_Scn_readQuoted 105 = .ok (.getfield 28, 3) := by decide +kernel
theorem d_Scn_readQuoted_108 : decode b_Scn_readQuoted 108 = .ok (.invokevirtual 72, 3) := by decide +kernel
theorem d_Scn_readQuoted_111 : decode b_Scn_readQuoted 111 = .ok (.return_, 1) := by decide +kernel
theorem d_Scn_readQuoted_17 : decode b_Scn_readQuoted 17 = .ok (.iload_n 3, 1) := by decide +kernel
theorem d_Scn_readQuoted_18 : decode b_Scn_readQuoted 18 = .ok (.aload_n 0, 1) := by decide +kernel
theorem d_Scn_readQuoted_19 : decode b_Scn_readQuoted 19 = .ok (.getfield 25, 3) := by decide +kernel
theorem d_Scn_readQuoted_22 : decode b_Scn_readQuoted 22 = .ok (.if_icmp .gt 155, 3) := by decide +kernel
theorem d_Scn_readQuoted_177 : decode b_Scn_readQuoted 177 = .ok (.return_, 1) := by decide +kernel
theorem d_Scn_readQuoted_25 : decode b_Scn_readQuoted 25 = .ok (.aload_n 0, 1) := by decide +kernel
theorem d_Scn_readQuoted_26 : decode b_Scn_readQuoted 26 = .ok (.aload_n 0, 1) := by decide +kernel
theorem d_Scn_readQuoted_27 : decode b_Scn_readQuoted 27 = .ok (.getfield 28, 3) := by decide +kernel
theorem d_Scn_readQuoted_30 : decode b_Scn_readQuoted 30 = .ok (.invokevirtual 82, 3) := by decide +kernel
theorem d_Scn_readQuoted_33 : decode b_Scn_readQuoted 33 = .ok (.istore 4, 2) := by decide +kernel
theorem d_Scn_readQuoted_35 : decode b_Scn_readQuoted 35 = .ok (.iload 4, 2) := by decide +kernel
theorem d_Scn_readQuoted_37 : decode b_Scn_readQuoted 37 = .ok (.iconst (-1), 1) := by decide +kernel
theorem d_Scn_readQuoted_38 : decode b_Scn_readQuoted 38 = .ok (.if_icmp .ne 12, 3) := by decide +kernel
theorem d_Scn_readQuoted_50 : decode b_Scn_readQuoted 50 = .ok (.iload 4, 2) := by decide +kernel
theorem d_Scn_readQuoted_52 : decode b_Scn_readQuoted 52 = .ok (.bipush 39, 2) := by decide +kernel
theorem d_Scn_readQuoted_54 : decode b_Scn_readQuoted 54 = .ok (.if_icmp .ne 14, 3) := by decide +kernel
theorem d_Scn_readQuoted_68 : decode b_Scn_readQuoted 68 = .ok (.iload 4, 2) := by decide +kernel
theorem d_Scn_readQuoted_70 : decode b_Scn_readQuoted 70 = .ok (.bipush 32, 2) := by decide +kernel
theorem d_Scn_readQuoted_72 : decode b_Scn_readQuoted 72 = .ok (.if_icmp .lt 31, 3) := by decide +kernel
theorem d_Scn_readQuoted_75 : decode b_Scn_readQuoted 75 = .ok (.iload 4, 2) := by decide +kernel
theorem d_Scn_readQuoted_77 : decode b_Scn_readQuoted 77 = .ok (.bipush 126, 2) := by decide +kernel
theorem d_Scn_readQuoted_79 : decode b_Scn_readQuoted 79 = .ok (.if_icmp .gt 24, 3) := by decide +kernel
theorem d_Scn_readQuoted_82 : decode b_Scn_readQuoted 82 = .ok (.aload_n 0, 1) := by decide +kernel
theorem d_Scn_readQuoted_83 : decode b_Scn_readQuoted 83 = .ok (.getfield 97, 3) := by decide +kernel
theorem d_Scn_readQuoted_86 : decode b_Scn_readQuoted 86 = .ok (.sipush 255, 3) := by decide +kernel
theorem d_Scn_readQuoted_89 : decode b_Scn_readQuoted 89 = .ok (.if_icmp .ge 14, 3) := by decide +kernel
theorem d_Scn_readQuoted_92 : decode b_Scn_readQuoted 92 = .ok (.iload_n 2, 1) := by decide +kernel
theorem d_Scn_readQuoted_93 : decode b_Scn_readQuoted 93 = .ok (.aload_n 0, 1) := by decide +kernel
theorem d_Scn_readQuoted_94 : decode b_Scn_readQuoted 94 = .ok (.getfield 97, 3) := by decide +kernel
theorem d_Scn_readQuoted_97 : decode b_Scn_readQuoted 97 = .ok (.iadd, 1) := by decide +kernel
theorem d_Scn_readQuoted_98 : decode b_Scn_readQuoted 98 = .ok (.aload_n 1, 1) := by decide +kernel
theorem d_Scn_readQuoted_99 : decode b_Scn_readQuoted 99 = .ok (.arraylength, 1) := by decide +kernel
theorem d_Scn_readQuoted_100 : decode b_Scn_readQuoted 100 = .ok (.if_icmp .lt 12, 3) := by decide +kernel
theorem d_Scn_readQuoted_112 : decode b_Scn_readQuoted 112 = .ok (.iload 4, 2) := by decide +kernel
theorem d_Scn_readQuoted_114 : decode b_Scn_readQuoted 114 = .ok (.istore 5, 2) := by decide +kernel
theorem d_Scn_readQuoted_116 : decode b_Scn_readQuoted 116 = .ok (.iload 4, 2) := by decide +kernel
theorem d_Scn_readQuoted_118 : decode b_Scn_readQuoted 118 = .ok (.bipush 92, 2) := by decide +kernel
theorem d_Scn_readQuoted_120 : decode b_Scn_readQuoted 120 = .ok (.if_icmp .ne 12, 3) := by decide +kernel
theorem d_Scn_readQuoted_132 : decode b_Scn_readQuoted 132 = .ok (.aload_n 0, 1) := by decide +kernel
theorem d_Scn_readQuoted_133 : decode b_Scn_readQuoted 133 = .ok (.dup, 1) := by decide +kernel
theorem d_Scn_readQuoted_134 : decode b_Scn_readQuoted 134 = .ok (.getfield 28, 3) := by decide +kernel
theorem d_Scn_readQuoted_137 : decode b_Scn_readQuoted 137 = .ok (.iconst 1, 1) := by decide +kernel
theorem d_Scn_readQuoted_138 : decode b_Scn_readQuoted 138 = .ok (.iadd, 1) := by decide +kernel
theorem d_Scn_readQuoted_139 : decode b_Scn_readQuoted 139 = .ok (.putfield 28, 3) := by decide +kernel
theorem d_Scn_readQuoted_123 : decode b_Scn_readQuoted 123 = .ok (.aload_n 0, 1) := by decide +kernel
theorem d_Scn_readQuoted_124 : decode b_Scn_readQuoted 124 = .ok (.invokevirtual 100, 3) := by decide +kernel
theorem d_Scn_readQuoted_127 : decode b_Scn_readQuoted 127 = .ok (.istore 5, 2) := by decide +kernel
theorem d_Scn_readQuoted_129 : decode b_Scn_readQuoted 129 = .ok (.goto 13, 3) := by decide +kernel
theorem d_Scn_readQuoted_57 : decode b_Scn_readQuoted 57 = .ok (.aload_n 0, 1) := by decide +kernel
theorem d_Scn_readQuoted_58 : decode b_Scn_readQuoted 58 = .ok (.dup, 1) := by decide +kernel
theorem d_Scn_readQuoted_59 : decode b_Scn_readQuoted 59 = .ok (.getfield 28, 3) := by decide +kernel
theorem d_Scn_readQuoted_62 : decode b_Scn_readQuoted 62 = .ok (.iconst 1, 1) := by decide +kernel
theorem d_Scn_readQuoted_63 : decode b_Scn_readQuoted 63 = .ok (.iadd, 1) := by decide +kernel
theorem d_Scn_readQuoted_64 : decode b_Scn_readQuoted 64 = .ok (.putfield 28, 3) := by decide +kernel
theorem d_Scn_readQuoted_67 : decode b_Scn_readQuoted 67 = .ok (.return_, 1) := by decide +kernel
theorem d_Scn_readQuoted_41 : decode b_Scn_readQuoted 41 = .ok (.aload_n 0, 1) := by decide +kernel
theorem d_Scn_readQuoted_42 : decode b_Scn_readQuoted 42 = .ok (.aload_n 0, 1) := by decide +kernel
theorem d_Scn_readQuoted_43 : decode b_Scn_readQuoted 43 = .ok (.getfield 25, 3) := by decide +kernel
theorem d_Scn_readQuoted_46 : decode b_Scn_readQuoted 46 = .ok (.invokevirtual 72, 3) := by decide +kernel
theorem d_Scn_readQuoted_49 : decode b_Scn_readQuoted 49 = .ok (.return_, 1) := by decide +kernel
theorem d_Scn_readQuoted_0 : decode b_Scn_readQuoted 0 = .ok (.aload_n 0, 1) := by decide +kernel
theorem d_Scn_readQuoted_1 : decode b_Scn_readQuoted 1 = .ok (.iconst 0, 1) := by decide +kernel
theorem d_Scn_readQuoted_2 : decode b_Scn_readQuoted 2 = .ok (.putfield 97, 3) := by decide +kernel
theorem d_Scn_readQuoted_5 : decode b_Scn_readQuoted 5 = .ok (.aload_n 0, 1) := by decide +kernel
theorem d_Scn_readQuoted_6 : decode b_Scn_readQuoted 6 = .ok (.dup, 1) := by decide +kernel
theorem d_Scn_readQuoted_7 : decode b_Scn_readQuoted 7 = .ok (.getfield 28, 3) := by decide +kernel
theorem d_Scn_readQuoted_10 : decode b_Scn_readQuoted 10 = .ok (.iconst 1, 1) := by decide +kernel
theorem d_Scn_readQuoted_11 : decode b_Scn_readQuoted 11 = .ok (.iadd, 1) := by decide +kernel
theorem d_Scn_readQuoted_12 : decode b_Scn_readQuoted 12 = .ok (.putfield 28, 3) := by decide +kernel
theorem d_Scn_readQuoted_15 : decode b_Scn_readQuoted 15 = .ok (.iconst 0, 1) := by decide +kernel
theorem d_Scn_readQuoted_16 : decode b_Scn_readQuoted 16 = .ok (.istore_n 3, 1) := by decide +kernel
theorem d_V_reference_0 : decode b_V_reference 0 = .ok (.iload_n 0, 1) := by decide +kernel
theorem d_V_reference_1 : decode b_V_reference 1 = .ok (.i2l, 1) := by decide +kernel
theorem d_V_reference_2 : decode b_V_reference 2 = .ok (.ldc2_w 242, 3) := by decide +kernel
theorem d_V_reference_5 : decode b_V_reference 5 = .ok (.lmul, 1) := by decide +kernel
theorem d_V_reference_6 : decode b_V_reference 6 = .ok (.iload_n 1, 1) := by decide +kernel
theorem d_V_reference_7 : decode b_V_reference 7 = .ok (.i2l, 1) := by decide +kernel
theorem d_V_reference_8 : decode b_V_reference 8 = .ok (.ladd, 1) := by decide +kernel
theorem d_V_reference_9 : decode b_V_reference 9 = .ok (.lreturn, 1) := by decide +kernel
theorem d_V_isDigit_16 : decode b_V_isDigit 16 = .ok (.iconst 0, 1) := by decide +kernel
theorem d_V_isDigit_17 : decode b_V_isDigit 17 = .ok (.ireturn, 1) := by decide +kernel
theorem d_V_isDigit_0 : decode b_V_isDigit 0 = .ok (.iload_n 0, 1) := by decide +kernel
theorem d_V_isDigit_1 : decode b_V_isDigit 1 = .ok (.bipush 48, 2) := by decide +kernel
theorem d_V_isDigit_3 : decode b_V_isDigit 3 = .ok (.if_icmp .lt 13, 3) := by decide +kernel
theorem d_V_isDigit_6 : decode b_V_isDigit 6 = .ok (.iload_n 0, 1) := by decide +kernel
theorem d_V_isDigit_7 : decode b_V_isDigit 7 = .ok (.bipush 57, 2) := by decide +kernel
theorem d_V_isDigit_9 : decode b_V_isDigit 9 = .ok (.if_icmp .gt 7, 3) := by decide +kernel
theorem d_V_isDigit_12 : decode b_V_isDigit 12 = .ok (.iconst 1, 1) := by decide +kernel
theorem d_V_isDigit_13 : decode b_V_isDigit 13 = .ok (.goto 4, 3) := by decide +kernel
theorem d_Scn_atNumber_18 : decode b_Scn_atNumber 18 = .ok (.iconst 1, 1) := by decide +kernel
theorem d_Scn_atNumber_19 : decode b_Scn_atNumber 19 = .ok (.goto 4, 3) := by decide +kernel
theorem d_Scn_atNumber_23 : decode b_Scn_atNumber 23 = .ok (.ireturn, 1) := by decide +kernel
theorem d_Scn_atNumber_0 : decode b_Scn_atNumber 0 = .ok (.aload_n 0, 1) := by decide +kernel
theorem d_Scn_atNumber_1 : decode b_Scn_atNumber 1 = .ok (.invokevirtual 31, 3) := by decide +kernel
theorem d_Scn_atNumber_4 : decode b_Scn_atNumber 4 = .ok (.istore_n 1, 1) := by decide +kernel
theorem d_Scn_atNumber_5 : decode b_Scn_atNumber 5 = .ok (.iload_n 1, 1) := by decide +kernel
theorem d_Scn_atNumber_6 : decode b_Scn_atNumber 6 = .ok (.bipush 45, 2) := by decide +kernel
theorem d_Scn_atNumber_8 : decode b_Scn_atNumber 8 = .ok (.if_icmp .eq 10, 3) := by decide +kernel
theorem d_Scn_atNumber_11 : decode b_Scn_atNumber 11 = .ok (.iload_n 1, 1) := by decide +kernel
theorem d_Scn_atNumber_12 : decode b_Scn_atNumber 12 = .ok (.invokestatic 79, 3) := by decide +kernel
theorem d_Scn_atNumber_15 : decode b_Scn_atNumber 15 = .ok (.ifCond .eq 7, 3) := by decide +kernel
theorem d_Scn_atNumber_22 : decode b_Scn_atNumber 22 = .ok (.iconst 0, 1) := by decide +kernel
theorem d_Scn_readDigits_106 : decode b_Scn_readDigits 106 = .ok (.iload_n 1, 1) := by decide +kernel
theorem d_Scn_readDigits_107 : decode b_Scn_readDigits 107 = .ok (.ireturn, 1) := by decide +kernel
theorem d_Scn_readDigits_93 : decode b_Scn_readDigits 93 = .ok (.aload_n 0, 1) := by decide +kernel
theorem d_Scn_readDigits_94 : decode b_Scn_readDigits 94 = .ok (.dup, 1) := by decide +kernel
theorem d_Scn_readDigits_95 : decode b_Scn_readDigits 95 = .ok (.getfield 28, 3) := by decide +kernel
theorem d_Scn_readDigits_98 : decode b_Scn_readDigits 98 = .ok (.iconst 1, 1) := by decide +kernel
theorem d_Scn_readDigits_99 : decode b_Scn_readDigits 99 = .ok (.iadd, 1) := by decide +kernel
theorem d_Scn_readDigits_100 : decode b_Scn_readDigits 100 = .ok (.putfield 28, 3) := by decide +kernel
theorem d_Scn_readDigits_103 : decode b_Scn_readDigits 103 = .ok (.goto (-96), 3) := by decide +kernel
theorem d_Scn_readDigits_73 : decode b_Scn_readDigits 73 = .ok (.istore_n 1, 1) := by decide +kernel
theorem d_Scn_readDigits_74 : decode b_Scn_readDigits 74 = .ok (.iload_n 1, 1) := by decide +kernel
theorem d_Scn_readDigits_75 : decode b_Scn_readDigits 75 = .ok (.ifCond .eq 18, 3) := by decide +kernel
theorem d_Scn_readDigits_78 : decode b_Scn_readDigits 78 = .ok (.aload_n 0, 1) := by decide +kernel
theorem d_Scn_readDigits_79 : decode b_Scn_readDigits 79 = .ok (.aload_n 0, 1) := by decide +kernel
theorem d_Scn_readDigits_80 : decode b_Scn_readDigits 80 = .ok (.getfield 89, 3) := by decide +kernel
theorem d_Scn_readDigits_83 : decode b_Scn_readDigits 83 = .ok (.ldc2_w 95, 3) := by decide +kernel
theorem d_Scn_readDigits_86 : decode b_Scn_readDigits 86 = .ok (.lmul, 1) := by decide +kernel
theorem d_Scn_readDigits_87 : decode b_Scn_readDigits 87 = .ok (.iload_n 2, 1) := by decide +kernel
theorem d_Scn_readDigits_88 : decode b_Scn_readDigits 88 = .ok (.i2l, 1) := by decide +kernel
theorem d_Scn_readDigits_89 : decode b_Scn_readDigits 89 = .ok (.lsub, 1) := by decide +kernel
theorem d_Scn_readDigits_90 : decode b_Scn_readDigits 90 = .ok (.putfield 89, 3) := by decide +kernel
theorem d_Scn_readDigits_72 : decode b_Scn_readDigits 72 = .ok (.iconst 0, 1) := by decide +kernel
theorem d_Scn_readDigits_7 : decode b_Scn_readDigits 7 = .ok (.aload_n 0, 1) := by decide +kernel
theorem d_Scn_readDigits_8 : decode b_Scn_readDigits 8 = .ok (.getfield 28, 3) := by decide +kernel
theorem d_Scn_readDigits_11 : decode b_Scn_readDigits 11 = .ok (.aload_n 0, 1) := by decide +kernel
theorem d_Scn_readDigits_12 : decode b_Scn_readDigits 12 = .ok (.getfield 25, 3) := by decide +kernel
theorem d_Scn_readDigits_15 : decode b_Scn_readDigits 15 = .ok (.if_icmp .ge 91, 3) := by decide +kernel
theorem d_Scn_readDigits_18 : decode b_Scn_readDigits 18 = .ok (.aload_n 0, 1) := by decide +kernel
theorem d_Scn_readDigits_19 : decode b_Scn_readDigits 19 = .ok (.getfield 9, 3) := by decide +kernel
theorem d_Scn_readDigits_22 : decode b_Scn_readDigits 22 = .ok (.aload_n 0, 1) := by decide +kernel
theorem d_Scn_readDigits_23 : decode b_Scn_readDigits 23 = .ok (.getfield 28, 3) := by decide +kernel
theorem d_Scn_readDigits_26 : decode b_Scn_readDigits 26 = .ok (.baload, 1) := by decide +kernel
theorem d_Scn_readDigits_27 : decode b_Scn_readDigits 27 = .ok (.invokestatic 79, 3) := by decide +kernel
theorem d_Scn_readDigits_30 : decode b_Scn_readDigits 30 = .ok (.ifCond .eq 76, 3) := by decide +kernel
theorem d_Scn_readDigits_33 : decode b_Scn_readDigits 33 = .ok (.aload_n 0, 1) := by decide +kernel
theorem d_Scn_readDigits_34 : decode b_Scn_readDigits 34 = .ok (.getfield 9, 3) := by decide +kernel
theorem d_Scn_readDigits_37 : decode b_Scn_readDigits 37 = .ok (.aload_n 0, 1) := by decide +kernel
theorem d_Scn_readDigits_38 : decode b_Scn_readDigits 38 = .ok (.getfield 28, 3) := by decide +kernel
theorem d_Scn_readDigits_41 : decode b_Scn_readDigits 41 = .ok (.baload, 1) := by decide +kernel
theorem d_Scn_readDigits_42 : decode b_Scn_readDigits 42 = .ok (.bipush 48, 2) := by decide +kernel
theorem d_Scn_readDigits_44 : decode b_Scn_readDigits 44 = .ok (.isub, 1) := by decide +kernel
theorem d_Scn_readDigits_45 : decode b_Scn_readDigits 45 = .ok (.istore_n 2, 1) := by decide +kernel
theorem d_Scn_readDigits_46 : decode b_Scn_readDigits 46 = .ok (.iload_n 1, 1) := by decide +kernel
theorem d_Scn_readDigits_47 : decode b_Scn_readDigits 47 = .ok (.ifCond .eq 25, 3) := by decide +kernel
theorem d_Scn_readDigits_50 : decode b_Scn_readDigits 50 = .ok (.aload_n 0, 1) := by decide +kernel
theorem d_Scn_readDigits_51 : decode b_Scn_readDigits 51 = .ok (.getfield 89, 3) := by decide +kernel
theorem d_Scn_readDigits_54 : decode b_Scn_readDigits 54 = .ok (.ldc2_w 93, 3) := by decide +kernel
theorem d_Scn_readDigits_57 : decode b_Scn_readDigits 57 = .ok (.iload_n 2, 1) := by decide +kernel
theorem d_Scn_readDigits_58 : decode b_Scn_readDigits 58 = .ok (.i2l, 1) := by decide +kernel
theorem d_Scn_readDigits_59 : decode b_Scn_readDigits 59 = .ok (.ladd, 1) := by decide +kernel
theorem d_Scn_readDigits_60 : decode b_Scn_readDigits 60 = .ok (.ldc2_w 95, 3) := by decide +kernel
theorem d_Scn_readDigits_63 : decode b_Scn_readDigits 63 = .ok (.ldiv, 1) := by decide +kernel
theorem d_Scn_readDigits_64 : decode b_Scn_readDigits 64 = .ok (.lcmp, 1) := by decide +kernel
theorem d_Scn_readDigits_65 : decode b_Scn_readDigits 65 = .ok (.ifCond .lt 7, 3) := by decide +kernel
theorem d_Scn_readDigits_68 : decode b_Scn_readDigits 68 = .ok (.iconst 1, 1) := by decide +kernel
theorem d_Scn_readDigits_69 : decode b_Scn_readDigits 69 = .ok (.goto 4, 3) := by decide +kernel
theorem d_Scn_readDigits_0 : decode b_Scn_readDigits 0 = .ok (.iconst 1, 1) := by decide +kernel
theorem d_Scn_readDigits_1 : decode b_Scn_readDigits 1 = .ok (.istore_n 1, 1) := by decide +kernel
theorem d_Scn_readDigits_2 : decode b_Scn_readDigits 2 = .ok (.aload_n 0, 1) := by decide +kernel
theorem d_Scn_readDigits_3 : decode b_Scn_readDigits 3 = .ok (.lconst 0, 1) := by decide +kernel
theorem d_Scn_readDigits_4 : decode b_Scn_readDigits 4 = .ok (.putfield 89, 3) := by decide +kernel
section
variable (l : Launch) (dC : Nat → ClassId) (dI : Nat → Nat → Nat) (cI cB cJ cZ : ClassId)
set_option maxRecDepth 100000 in
set_option maxHeartbeats 4000000 in
set_option maxRecDepth 100000 in
theorem t_Scn_byteAt_e {p : Program} {l : Launch} {e : Env} {R : Room} {s : State} {m : MethodId} {args : Array Value} {below : List Frame} {meth : Method} {c : Code} {cells slots : Nat} {Q : State → Prop} {dC : Nat → ClassId} {dI : Nat → Nat → Nat} {cI cB cJ cZ : ClassId} {A : Nat → Prop} {ad : Nat → Nat} {NN : Nat} {E : Heap} {tM tC : Nat} {kK kV : Nat → Nat} {post : Int32 → St → Prop} (hx : p.tables.exec = Jvm.exec) (hb : c.code = b_Scn_byteAt) (hml : c.maxLocals = 2) (hown : s.vm.findClass R_Scn = some m.cls) (hT : ∀ w ∈ TG, w.before args s = true) (hK : va_K (dC, dI) CL (TY cI cB cJ cZ) s) (hN : NW s) (hA : ∀ q : Nat, s.heap.size ≤ q → A q) (hRc : cells ≤ R.cells) (hRs : slots ≤ R.slots) (hRf : 0 ≤ R.frames) (hRl : 0 ≤ R.locals) (hNN : 152 ≤ NN) (hE : CE E tM tC kK kV A s) (hret : ∀ (r : Int32) (x : St) (H : Heap) (locs : List Loc) (pc : Nat) (ls : Array Slot), decode b_Scn_byteAt pc = .ok (.ireturn, 1) → post r x → Wd dC dI cI cB cJ cZ ad stC kcC NN A x H → va_S A s.heap H locs → W p l e R s m args below meth c H locs cells slots Q (F0 m pc ls [.int r])) : ∀ (o : Nat) (l1 : Int32) (x : St) (H : Heap) (locs : List Loc) (ls : Array Slot), (o < NN ∧ kcC o = 2) → wp_Scn_byteAt post o l1 x → Wd dC dI cI cB cJ cZ ad stC kcC NN A x H → va_S A s.heap H locs → lv_has ls 2 [(0, .ref (ad o)), (1, .int l1)] → W p l e R s m args below meth c H locs cells slots Q (F0 m 0 ls []) := by
  intro o l1 x H locs ls fo hw hW hS hl
  unfold wp_Scn_byteAt at hw
  refine lv_iload_n hx hb d_Scn_byteAt_0 rfl (lv_at hl 1 rfl) ?_
  refine lv_aload_n hx hb d_Scn_byteAt_1 rfl (lv_at hl 0 rfl) ?_
  refine w_geti (k := 1) (t := 2) (C := R_Scn) (T := F_Scn) (N := 8) hx hb hT hown hK hW fo.1 fo.2 (by decide) in_Scn rfl rfl (by decide) rfl fr_Scn_1 w_1_81 d_Scn_byteAt_2 ?_
  refine lv_icmp_ge (tgt := 21) hx hb d_Scn_byteAt_5 (by decide) (fun c1 => ?_) (fun c1 => ?_)
  · have hw := hw.1 c1
    refine lv_iconst (v := (-1)) hx hb d_Scn_byteAt_21 (by decide) ?_
    exact hret (-1) x H locs 22 ls d_Scn_byteAt_22 hw hW hS
  · have hw := hw.2 c1
    refine lv_aload_n hx hb d_Scn_byteAt_8 rfl (lv_at hl 0 rfl) ?_
    obtain ⟨q2, hq2, hw⟩ := hw
    refine w_getr (q := q2) (k := 0) (t := 2) (C := R_Scn) (T := F_Scn) (N := 8) hx hb hT hown hK hW fo.1 fo.2 (by decide) in_Scn rfl rfl (by decide) rfl fr_Scn_0 w_1_77 d_Scn_byteAt_9 hq2 (fun aq2 bq2 => ?_)
    have fq2 : q2 < NN ∧ kcC q2 = 21 := ⟨aq2, bq2⟩
    refine lv_iload_n hx hb d_Scn_byteAt_12 rfl (lv_at hl 1 rfl) ?_
    obtain ⟨hi, hw⟩ := hw
    refine w_bald (o := q2) hx hb hK hW fq2.1 fq2.2 hi d_Scn_byteAt_13 ?_
    refine lv_sipush (v := 255) hx hb d_Scn_byteAt_14 (by decide) ?_
    refine lv_iand hx hb d_Scn_byteAt_17 ?_
    refine lv_goto (tgt := 22) hx hb d_Scn_byteAt_18 (by decide) ?_
    exact hret ((rA x q2 l1) &&& 255) x H locs 22 ls d_Scn_byteAt_22 hw hW hS
set_option maxHeartbeats 4000000 in
set_option maxRecDepth 100000 in
theorem k_Scn_byteAt (l : Launch) (dC : Nat → ClassId) (dI : Nat → Nat → Nat) (cI cB cJ cZ : ClassId) (ad : Nat → Nat) (NN : Nat) (E : Heap) (tM tC : Nat) (kK kV : Nat → Nat) (hNN : 152 ≤ NN) (sz : Nat) (o : Nat) (l1 : Int32) (x : St) (fo : o < NN ∧ kcC o = 2) {post : Int32 → St → Prop} (hw : wp_Scn_byteAt post o l1 x) : Met l y_Scn_byteAt (wsOf y_Scn_byteAt b_Scn_byteAt 2 (some (.int))) ({ frames := 0, cells := 0, slots := 0, locals := 0 }) (va_Pc [.ref (ad o), .int l1] (PVc dC dI cI cB cJ cZ ad stC kcC NN E tM tC kK kV sz x)) (va_Qi (fun (r : Int32) (y : St) => post r y) (fun y t => Wd dC dI cI cB cJ cZ ad stC kcC NN (va_A (pic ad stC kcC NN cI cB cJ cZ x) sz) y t.heap) (va_A (pic ad stC kcC NN cI cB cJ cZ x) sz)) 0 0 (va_A (pic ad stC kcC NN cI cB cJ cZ x) sz) := by
  refine Met.ofW (cc := b_Scn_byteAt) (maxL := 2) (ret := some (.int)) (by decide) rfl ?_
  intro p e s m args below meth c s₁ B hml hv
  obtain ⟨rfl, ⟨hsz, hW0, hK, hN⟩, hE⟩ := hv
  have hx := B.exec
  have hb := B.bytes
  have hr := B.returns
  have hts := atoms_spec B.pre
  have hT : ∀ w ∈ TG, w.before _ s = true := fun w h => hts w (List.mem_cons_of_mem _ h)
  have hown : s.vm.findClass R_Scn = some m.cls := findClass_of_methodNamed B.named
  have hlocks := B.notSynchronized
  subst hsz
  have hW : Wd dC dI cI cB cJ cZ ad stC kcC NN (va_A (pic ad stC kcC NN cI cB cJ cZ x) s.heap.size) x s.heap := ⟨hW0.1, hW0.2.1.self (sz := s.heap.size), hW0.2.2⟩
  generalize hAe : va_A (pic ad stC kcC NN cI cB cJ cZ x) s.heap.size = A at hW hE ⊢
  have hA : ∀ q : Nat, s.heap.size ≤ q → A q := fun q h => by rw [← hAe]; exact Or.inr h
  have hS : va_S A s.heap s.heap [] := va_S.rf
  have hl := lv_entry ([.ref (ad o), .int l1]) (n := 2) (Nat.le_of_ble_eq_true rfl)
  rw [lg_entry_eq]
  generalize (lg_sl ([.ref (ad o), .int l1]) ++ List.replicate (2 - (lg_sl ([.ref (ad o), .int l1])).length) Slot.unset).toArray = ls at hl ⊢
  have hl : lv_has ls 2 [(0, .ref (ad o)), (1, .int l1)] := hl
  exact t_Scn_byteAt_e hx hb hml hown hT hK hN hA (Nat.le_refl 0) (Nat.le_refl 0) (Nat.le_refl 0) (Nat.le_refl 0) hNN hE (fun r x H locs pc ls hd hp hW hS => W.iret (v := r) hx hb hr (fun t ht hM => ⟨⟨r, x, rfl, hp, Wd.back hW ht.symm (fun _ z => z)⟩, hS.F ht⟩) hS.2.2 hd hlocks)  o l1 x _ _ ls fo hw hW hS hl
set_option maxRecDepth 100000 in
set_option maxHeartbeats 4000000 in
set_option maxRecDepth 100000 in
theorem t_Scn_hexAt_58 {p : Program} {l : Launch} {e : Env} {R : Room} {s : State} {m : MethodId} {args : Array Value} {below : List Frame} {meth : Method} {c : Code} {cells slots : Nat} {Q : State → Prop} {dC : Nat → ClassId} {dI : Nat → Nat → Nat} {cI cB cJ cZ : ClassId} {A : Nat → Prop} {ad : Nat → Nat} {NN : Nat} {E : Heap} {tM tC : Nat} {kK kV : Nat → Nat} {post : Int32 → St → Prop} (hx : p.tables.exec = Jvm.exec) (hb : c.code = b_Scn_hexAt) (hml : c.maxLocals = 3) (hown : s.vm.findClass R_Scn = some m.cls) (hT : ∀ w ∈ TG, w.before args s = true) (hK : va_K (dC, dI) CL (TY cI cB cJ cZ) s) (hN : NW s) (hA : ∀ q : Nat, s.heap.size ≤ q → A q) (hRc : cells ≤ R.cells) (hRs : slots ≤ R.slots) (hRf : 0 ≤ R.frames) (hRl : 0 ≤ R.locals) (hNN : 152 ≤ NN) (hE : CE E tM tC kK kV A s) (hret : ∀ (r : Int32) (x : St) (H : Heap) (locs : List Loc) (pc : Nat) (ls : Array Slot), decode b_Scn_hexAt pc = .ok (.ireturn, 1) → post r x → Wd dC dI cI cB cJ cZ ad stC kcC NN A x H → va_S A s.heap H locs → W p l e R s m args below meth c H locs cells slots Q (F0 m pc ls [.int r]))  : ∀ (o : Nat) (l1 : Int32) (l2 : Int32) (x : St) (H : Heap) (locs : List Loc) (ls : Array Slot), (o < NN ∧ kcC o = 2) → j_Scn_hexAt_58 post o l1 l2 x → Wd dC dI cI cB cJ cZ ad stC kcC NN A x H → va_S A s.heap H locs → lv_has ls 3 [(0, .ref (ad o)), (1, .int l1), (2, .int l2)] → W p l e R s m args below meth c H locs cells slots Q (F0 m 58 ls []) := by
  intro o l1 l2 x H locs ls fo hw hW hS hl
  unfold j_Scn_hexAt_58 at hw
  refine lv_iconst (v := (-1)) hx hb d_Scn_hexAt_58 (by decide) ?_
  exact hret (-1) x H locs 59 ls d_Scn_hexAt_59 hw hW hS
set_option maxRecDepth 100000 in
set_option maxHeartbeats 4000000 in
set_option maxRecDepth 100000 in
theorem t_Scn_hexAt_36 {p : Program} {l : Launch} {e : Env} {R : Room} {s : State} {m : MethodId} {args : Array Value} {below : List Frame} {meth : Method} {c : Code} {cells slots : Nat} {Q : State → Prop} {dC : Nat → ClassId} {dI : Nat → Nat → Nat} {cI cB cJ cZ : ClassId} {A : Nat → Prop} {ad : Nat → Nat} {NN : Nat} {E : Heap} {tM tC : Nat} {kK kV : Nat → Nat} {post : Int32 → St → Prop} (hx : p.tables.exec = Jvm.exec) (hb : c.code = b_Scn_hexAt) (hml : c.maxLocals = 3) (hown : s.vm.findClass R_Scn = some m.cls) (hT : ∀ w ∈ TG, w.before args s = true) (hK : va_K (dC, dI) CL (TY cI cB cJ cZ) s) (hN : NW s) (hA : ∀ q : Nat, s.heap.size ≤ q → A q) (hRc : cells ≤ R.cells) (hRs : slots ≤ R.slots) (hRf : 0 ≤ R.frames) (hRl : 0 ≤ R.locals) (hNN : 152 ≤ NN) (hE : CE E tM tC kK kV A s) (hret : ∀ (r : Int32) (x : St) (H : Heap) (locs : List Loc) (pc : Nat) (ls : Array Slot), decode b_Scn_hexAt pc = .ok (.ireturn, 1) → post r x → Wd dC dI cI cB cJ cZ ad stC kcC NN A x H → va_S A s.heap H locs → W p l e R s m args below meth c H locs cells slots Q (F0 m pc ls [.int r]))  : ∀ (o : Nat) (l1 : Int32) (l2 : Int32) (x : St) (H : Heap) (locs : List Loc) (ls : Array Slot), (o < NN ∧ kcC o = 2) → j_Scn_hexAt_36 post o l1 l2 x → Wd dC dI cI cB cJ cZ ad stC kcC NN A x H → va_S A s.heap H locs → lv_has ls 3 [(0, .ref (ad o)), (1, .int l1), (2, .int l2)] → W p l e R s m args below meth c H locs cells slots Q (F0 m 36 ls []) := by
  intro o l1 l2 x H locs ls fo hw hW hS hl
  unfold j_Scn_hexAt_36 at hw
  refine lv_iload_n hx hb d_Scn_hexAt_36 rfl (lv_at hl 2 rfl) ?_
  refine lv_bipush (v := 97) hx hb d_Scn_hexAt_37 (by decide) ?_
  refine lv_icmp_lt (tgt := 58) hx hb d_Scn_hexAt_39 (by decide) (fun c1 => ?_) (fun c1 => ?_)
  · have hw := hw.1 c1
    exact t_Scn_hexAt_58 hx hb hml hown hT hK hN hA hRc hRs hRf hRl hNN hE hret  o l1 l2 x H locs ls fo hw hW hS (lv_sub hl [0, 1, 2] rfl)
  · have hw := hw.2 c1
    refine lv_iload_n hx hb d_Scn_hexAt_42 rfl (lv_at hl 2 rfl) ?_
    refine lv_bipush (v := 102) hx hb d_Scn_hexAt_43 (by decide) ?_
    refine lv_icmp_gt (tgt := 58) hx hb d_Scn_hexAt_45 (by decide) (fun c2 => ?_) (fun c2 => ?_)
    · have hw := hw.1 c2
      exact t_Scn_hexAt_58 hx hb hml hown hT hK hN hA hRc hRs hRf hRl hNN hE hret  o l1 l2 x H locs ls fo hw hW hS (lv_sub hl [0, 1, 2] rfl)
    · have hw := hw.2 c2
      refine lv_iload_n hx hb d_Scn_hexAt_48 rfl (lv_at hl 2 rfl) ?_
      refine lv_bipush (v := 97) hx hb d_Scn_hexAt_49 (by decide) ?_
      refine lv_isub hx hb d_Scn_hexAt_51 ?_
      refine lv_bipush (v := 10) hx hb d_Scn_hexAt_52 (by decide) ?_
      refine lv_iadd hx hb d_Scn_hexAt_54 ?_
      refine lv_goto (tgt := 59) hx hb d_Scn_hexAt_55 (by decide) ?_
      exact hret ((l2 - 97) + 10) x H locs 59 ls d_Scn_hexAt_59 hw hW hS
set_option maxRecDepth 100000 in
set_option maxHeartbeats 4000000 in
set_option maxRecDepth 100000 in
theorem t_Scn_hexAt_18 {p : Program} {l : Launch} {e : Env} {R : Room} {s : State} {m : MethodId} {args : Array Value} {below : List Frame} {meth : Method} {c : Code} {cells slots : Nat} {Q : State → Prop} {dC : Nat → ClassId} {dI : Nat → Nat → Nat} {cI cB cJ cZ : ClassId} {A : Nat → Prop} {ad : Nat → Nat} {NN : Nat} {E : Heap} {tM tC : Nat} {kK kV : Nat → Nat} {post : Int32 → St → Prop} (hx : p.tables.exec = Jvm.exec) (hb : c.code = b_Scn_hexAt) (hml : c.maxLocals = 3) (hown : s.vm.findClass R_Scn = some m.cls) (hT : ∀ w ∈ TG, w.before args s = true) (hK : va_K (dC, dI) CL (TY cI cB cJ cZ) s) (hN : NW s) (hA : ∀ q : Nat, s.heap.size ≤ q → A q) (hRc : cells ≤ R.cells) (hRs : slots ≤ R.slots) (hRf : 0 ≤ R.frames) (hRl : 0 ≤ R.locals) (hNN : 152 ≤ NN) (hE : CE E tM tC kK kV A s) (hret : ∀ (r : Int32) (x : St) (H : Heap) (locs : List Loc) (pc : Nat) (ls : Array Slot), decode b_Scn_hexAt pc = .ok (.ireturn, 1) → post r x → Wd dC dI cI cB cJ cZ ad stC kcC NN A x H → va_S A s.heap H locs → W p l e R s m args below meth c H locs cells slots Q (F0 m pc ls [.int r]))  : ∀ (o : Nat) (l1 : Int32) (s0 : Int32) (x : St) (H : Heap) (locs : List Loc) (ls : Array Slot), (o < NN ∧ kcC o = 2) → j_Scn_hexAt_18 post o l1 s0 x → Wd dC dI cI cB cJ cZ ad stC kcC NN A x H → va_S A s.heap H locs → lv_has ls 3 [(0, .ref (ad o)), (1, .int l1)] → W p l e R s m args below meth c H locs cells slots Q (F0 m 18 ls [.int s0]) := by
  intro o l1 s0 x H locs ls fo hw hW hS hl
  unfold j_Scn_hexAt_18 at hw
  refine lv_istore_n (lv' := [(2, .int s0), (0, .ref (ad o)), (1, .int l1)]) hx hb d_Scn_hexAt_18 rfl hl (by decide) rfl (fun ls hl => ?_)
  refine lv_iload_n hx hb d_Scn_hexAt_19 rfl (lv_at hl 0 rfl) ?_
  refine lv_bipush (v := 48) hx hb d_Scn_hexAt_20 (by decide) ?_
  refine lv_icmp_lt (tgt := 36) hx hb d_Scn_hexAt_22 (by decide) (fun c3 => ?_) (fun c3 => ?_)
  · have hw := hw.1 c3
    exact t_Scn_hexAt_36 hx hb hml hown hT hK hN hA hRc hRs hRf hRl hNN hE hret  o l1 s0 x H locs ls fo hw hW hS (lv_sub hl [1, 2, 0] rfl)
  · have hw := hw.2 c3
    refine lv_iload_n hx hb d_Scn_hexAt_25 rfl (lv_at hl 0 rfl) ?_
    refine lv_bipush (v := 57) hx hb d_Scn_hexAt_26 (by decide) ?_
    refine lv_icmp_gt (tgt := 36) hx hb d_Scn_hexAt_28 (by decide) (fun c4 => ?_) (fun c4 => ?_)
    · have hw := hw.1 c4
      exact t_Scn_hexAt_36 hx hb hml hown hT hK hN hA hRc hRs hRf hRl hNN hE hret  o l1 s0 x H locs ls fo hw hW hS (lv_sub hl [1, 2, 0] rfl)
    · have hw := hw.2 c4
      refine lv_iload_n hx hb d_Scn_hexAt_31 rfl (lv_at hl 0 rfl) ?_
      refine lv_bipush (v := 48) hx hb d_Scn_hexAt_32 (by decide) ?_
      refine lv_isub hx hb d_Scn_hexAt_34 ?_
      exact hret (s0 - 48) x H locs 35 ls d_Scn_hexAt_35 hw hW hS
set_option maxRecDepth 100000 in
set_option maxHeartbeats 4000000 in
set_option maxRecDepth 100000 in
theorem t_Scn_hexAt_e {p : Program} {l : Launch} {e : Env} {R : Room} {s : State} {m : MethodId} {args : Array Value} {below : List Frame} {meth : Method} {c : Code} {cells slots : Nat} {Q : State → Prop} {dC : Nat → ClassId} {dI : Nat → Nat → Nat} {cI cB cJ cZ : ClassId} {A : Nat → Prop} {ad : Nat → Nat} {NN : Nat} {E : Heap} {tM tC : Nat} {kK kV : Nat → Nat} {post : Int32 → St → Prop} (hx : p.tables.exec = Jvm.exec) (hb : c.code = b_Scn_hexAt) (hml : c.maxLocals = 3) (hown : s.vm.findClass R_Scn = some m.cls) (hT : ∀ w ∈ TG, w.before args s = true) (hK : va_K (dC, dI) CL (TY cI cB cJ cZ) s) (hN : NW s) (hA : ∀ q : Nat, s.heap.size ≤ q → A q) (hRc : cells ≤ R.cells) (hRs : slots ≤ R.slots) (hRf : 0 ≤ R.frames) (hRl : 0 ≤ R.locals) (hNN : 152 ≤ NN) (hE : CE E tM tC kK kV A s) (hret : ∀ (r : Int32) (x : St) (H : Heap) (locs : List Loc) (pc : Nat) (ls : Array Slot), decode b_Scn_hexAt pc = .ok (.ireturn, 1) → post r x → Wd dC dI cI cB cJ cZ ad stC kcC NN A x H → va_S A s.heap H locs → W p l e R s m args below meth c H locs cells slots Q (F0 m pc ls [.int r])) : ∀ (o : Nat) (l1 : Int32) (x : St) (H : Heap) (locs : List Loc) (ls : Array Slot), (o < NN ∧ kcC o = 2) → wp_Scn_hexAt post o l1 x → Wd dC dI cI cB cJ cZ ad stC kcC NN A x H → va_S A s.heap H locs → lv_has ls 3 [(0, .ref (ad o)), (1, .int l1)] → W p l e R s m args below meth c H locs cells slots Q (F0 m 0 ls []) := by
  intro o l1 x H locs ls fo hw hW hS hl
  unfold wp_Scn_hexAt at hw
  refine lv_iload_n hx hb d_Scn_hexAt_0 rfl (lv_at hl 1 rfl) ?_
  refine lv_aload_n hx hb d_Scn_hexAt_1 rfl (lv_at hl 0 rfl) ?_
  refine w_geti (k := 1) (t := 2) (C := R_Scn) (T := F_Scn) (N := 8) hx hb hT hown hK hW fo.1 fo.2 (by decide) in_Scn rfl rfl (by decide) rfl fr_Scn_1 w_1_81 d_Scn_hexAt_2 ?_
  refine lv_icmp_ge (tgt := 17) hx hb d_Scn_hexAt_5 (by decide) (fun c5 => ?_) (fun c5 => ?_)
  · have hw := hw.1 c5
    refine lv_iconst (v := (-1)) hx hb d_Scn_hexAt_17 (by decide) ?_
    exact t_Scn_hexAt_18 hx hb hml hown hT hK hN hA hRc hRs hRf hRl hNN hE hret  o l1 (-1) x H locs ls fo hw hW hS (lv_sub hl [0, 1] rfl)
  · have hw := hw.2 c5
    refine lv_aload_n hx hb d_Scn_hexAt_8 rfl (lv_at hl 0 rfl) ?_
    obtain ⟨q6, hq6, hw⟩ := hw
    refine w_getr (q := q6) (k := 0) (t := 2) (C := R_Scn) (T := F_Scn) (N := 8) hx hb hT hown hK hW fo.1 fo.2 (by decide) in_Scn rfl rfl (by decide) rfl fr_Scn_0 w_1_77 d_Scn_hexAt_9 hq6 (fun aq6 bq6 => ?_)
    have fq6 : q6 < NN ∧ kcC q6 = 21 := ⟨aq6, bq6⟩
    refine lv_iload_n hx hb d_Scn_hexAt_12 rfl (lv_at hl 1 rfl) ?_
    obtain ⟨hi, hw⟩ := hw
    refine w_bald (o := q6) hx hb hK hW fq6.1 fq6.2 hi d_Scn_hexAt_13 ?_
    refine lv_goto (tgt := 18) hx hb d_Scn_hexAt_14 (by decide) ?_
    exact t_Scn_hexAt_18 hx hb hml hown hT hK hN hA hRc hRs hRf hRl hNN hE hret  o l1 (rA x q6 l1) x H locs ls fo hw hW hS (lv_sub hl [0, 1] rfl)
set_option maxHeartbeats 4000000 in
set_option maxRecDepth 100000 in
theorem k_Scn_hexAt (l : Launch) (dC : Nat → ClassId) (dI : Nat → Nat → Nat) (cI cB cJ cZ : ClassId) (ad : Nat → Nat) (NN : Nat) (E : Heap) (tM tC : Nat) (kK kV : Nat → Nat) (hNN : 152 ≤ NN) (sz : Nat) (o : Nat) (l1 : Int32) (x : St) (fo : o < NN ∧ kcC o = 2) {post : Int32 → St → Prop} (hw : wp_Scn_hexAt post o l1 x) : Met l y_Scn_hexAt (wsOf y_Scn_hexAt b_Scn_hexAt 3 (some (.int))) ({ frames := 0, cells := 0, slots := 0, locals := 0 }) (va_Pc [.ref (ad o), .int l1] (PVc dC dI cI cB cJ cZ ad stC kcC NN E tM tC kK kV sz x)) (va_Qi (fun (r : Int32) (y : St) => post r y) (fun y t => Wd dC dI cI cB cJ cZ ad stC kcC NN (va_A (pic ad stC kcC NN cI cB cJ cZ x) sz) y t.heap) (va_A (pic ad stC kcC NN cI cB cJ cZ x) sz)) 0 0 (va_A (pic ad stC kcC NN cI cB cJ cZ x) sz) := by
  refine Met.ofW (cc := b_Scn_hexAt) (maxL := 3) (ret := some (.int)) (by decide) rfl ?_
  intro p e s m args below meth c s₁ B hml hv
  obtain ⟨rfl, ⟨hsz, hW0, hK, hN⟩, hE⟩ := hv
  have hx := B.exec
  have hb := B.bytes
  have hr := B.returns
  have hts := atoms_spec B.pre
  have hT : ∀ w ∈ TG, w.before _ s = true := fun w h => hts w (List.mem_cons_of_mem _ h)
  have hown : s.vm.findClass R_Scn = some m.cls := findClass_of_methodNamed B.named
  have hlocks := B.notSynchronized
  subst hsz
  have hW : Wd dC dI cI cB cJ cZ ad stC kcC NN (va_A (pic ad stC kcC NN cI cB cJ cZ x) s.heap.size) x s.heap := ⟨hW0.1, hW0.2.1.self (sz := s.heap.size), hW0.2.2⟩
  generalize hAe : va_A (pic ad stC kcC NN cI cB cJ cZ x) s.heap.size = A at hW hE ⊢
  have hA : ∀ q : Nat, s.heap.size ≤ q → A q := fun q h => by rw [← hAe]; exact Or.inr h
  have hS : va_S A s.heap s.heap [] := va_S.rf
  have hl := lv_entry ([.ref (ad o), .int l1]) (n := 3) (Nat.le_of_ble_eq_true rfl)
  rw [lg_entry_eq]
  generalize (lg_sl ([.ref (ad o), .int l1]) ++ List.replicate (3 - (lg_sl ([.ref (ad o), .int l1])).length) Slot.unset).toArray = ls at hl ⊢
  have hl : lv_has ls 3 [(0, .ref (ad o)), (1, .int l1)] := hl
  exact t_Scn_hexAt_e hx hb hml hown hT hK hN hA (Nat.le_refl 0) (Nat.le_refl 0) (Nat.le_refl 0) (Nat.le_refl 0) hNN hE (fun r x H locs pc ls hd hp hW hS => W.iret (v := r) hx hb hr (fun t ht hM => ⟨⟨r, x, rfl, hp, Wd.back hW ht.symm (fun _ z => z)⟩, hS.F ht⟩) hS.2.2 hd hlocks)  o l1 x _ _ ls fo hw hW hS hl
set_option maxRecDepth 100000 in
set_option maxHeartbeats 4000000 in
set_option maxRecDepth 100000 in
theorem t_Scn_readEscape_129 {p : Program} {l : Launch} {e : Env} {R : Room} {s : State} {m : MethodId} {args : Array Value} {below : List Frame} {meth : Method} {c : Code} {cells slots : Nat} {Q : State → Prop} {dC : Nat → ClassId} {dI : Nat → Nat → Nat} {cI cB cJ cZ : ClassId} {A : Nat → Prop} {ad : Nat → Nat} {NN : Nat} {E : Heap} {tM tC : Nat} {kK kV : Nat → Nat} {post : Int32 → St → Prop} (hx : p.tables.exec = Jvm.exec) (hb : c.code = b_Scn_readEscape) (hml : c.maxLocals = 5) (hown : s.vm.findClass R_Scn = some m.cls) (hT : ∀ w ∈ TG, w.before args s = true) (hK : va_K (dC, dI) CL (TY cI cB cJ cZ) s) (hN : NW s) (hA : ∀ q : Nat, s.heap.size ≤ q → A q) (hRc : cells ≤ R.cells) (hRs : slots ≤ R.slots) (hRf : 1 ≤ R.frames) (hRl : 22 ≤ R.locals) (hNN : 152 ≤ NN) (hE : CE E tM tC kK kV A s) (hret : ∀ (r : Int32) (x : St) (H : Heap) (locs : List Loc) (pc : Nat) (ls : Array Slot), decode b_Scn_readEscape pc = .ok (.ireturn, 1) → post r x → Wd dC dI cI cB cJ cZ ad stC kcC NN A x H → va_S A s.heap H locs → W p l e R s m args below meth c H locs cells slots Q (F0 m pc ls [.int r]))  : ∀ (o : Nat) (l1 : Int32) (l2 : Int32) (l3 : Int32) (l4 : Int32) (s0 : Int32) (s1 : Nat) (x : St) (H : Heap) (locs : List Loc) (ls : Array Slot), (o < NN ∧ kcC o = 2) → (s1 < NN ∧ kcC s1 = 2) → j_Scn_readEscape_129 post o l1 l2 l3 l4 s0 s1 x → Wd dC dI cI cB cJ cZ ad stC kcC NN A x H → va_S A s.heap H locs → lv_has ls 5 [(0, .ref (ad o)), (1, .int l1), (2, .int l2), (3, .int l3), (4, .int l4)] → W p l e R s m args below meth c H locs cells slots Q (F0 m 129 ls [.int s0, .ref (ad s1)]) := by
  intro o l1 l2 l3 l4 s0 s1 x H locs ls fo fs1 hw hW hS hl
  unfold j_Scn_readEscape_129 at hw
  have hF := hW.free hS hA
  refine va_callv (va_runV (C := R_Scn) (As := [.int s0]) (rest := []) ⟨hx, hb, hml, hown, hT⟩ (k_Scn_refuse l dC dI cI cB cJ cZ ad NN E tM tC kK kV hNN H.size s1 s0 x fs1 hw) ⟨callB_of 1 hT (gwt_in w_4_128) rfl rfl rfl (hT _ w_1_4) (hT _ w_4_125) (by decide +kernel) ⟨Nat.le_trans (Nat.le_of_ble_eq_true rfl) hRf, Nat.le_trans (Nat.le_of_ble_eq_true rfl) hRl⟩, hT _ w_4_126, hT _ w_4_127⟩ ⟨PVc.blind, va_recv hK hW.1 (ci := 2) (q0 := s1) rfl (pic_obj fs1.1 fs1.2 (by decide)), PVc.at _ hW hK hN hE hS hF⟩ rfl rfl hl.1 rfl (lv_room (Nat.le_of_ble_eq_true rfl)) d_Scn_readEscape_129 ⟨hRc, hRs⟩) hS (fun q _ h => hF q h) hF (fun  x1 t H locs ht hvm hw hB hz1 hk1 hS => ?_)
  have hW := Wd.back hB ht hF
  clear hB ht hF hz1 hk1 hvm
  refine lv_iconst (v := 0) hx hb d_Scn_readEscape_132 (by decide) ?_
  exact hret 0 x1 H locs 133 ls d_Scn_readEscape_133 hw hW hS
set_option maxRecDepth 100000 in
set_option maxHeartbeats 4000000 in
set_option maxRecDepth 100000 in
theorem t_Scn_readEscape_101 {p : Program} {l : Launch} {e : Env} {R : Room} {s : State} {m : MethodId} {args : Array Value} {below : List Frame} {meth : Method} {c : Code} {cells slots : Nat} {Q : State → Prop} {dC : Nat → ClassId} {dI : Nat → Nat → Nat} {cI cB cJ cZ : ClassId} {A : Nat → Prop} {ad : Nat → Nat} {NN : Nat} {E : Heap} {tM tC : Nat} {kK kV : Nat → Nat} {post : Int32 → St → Prop} (hx : p.tables.exec = Jvm.exec) (hb : c.code = b_Scn_readEscape) (hml : c.maxLocals = 5) (hown : s.vm.findClass R_Scn = some m.cls) (hT : ∀ w ∈ TG, w.before args s = true) (hK : va_K (dC, dI) CL (TY cI cB cJ cZ) s) (hN : NW s) (hA : ∀ q : Nat, s.heap.size ≤ q → A q) (hRc : cells ≤ R.cells) (hRs : slots ≤ R.slots) (hRf : 1 ≤ R.frames) (hRl : 22 ≤ R.locals) (hNN : 152 ≤ NN) (hE : CE E tM tC kK kV A s) (hret : ∀ (r : Int32) (x : St) (H : Heap) (locs : List Loc) (pc : Nat) (ls : Array Slot), decode b_Scn_readEscape pc = .ok (.ireturn, 1) → post r x → Wd dC dI cI cB cJ cZ ad stC kcC NN A x H → va_S A s.heap H locs → W p l e R s m args below meth c H locs cells slots Q (F0 m pc ls [.int r]))  : ∀ (o : Nat) (l1 : Int32) (l2 : Int32) (l3 : Int32) (s0 : Int32) (x : St) (H : Heap) (locs : List Loc) (ls : Array Slot), (o < NN ∧ kcC o = 2) → j_Scn_readEscape_101 post o l1 l2 l3 s0 x → Wd dC dI cI cB cJ cZ ad stC kcC NN A x H → va_S A s.heap H locs → lv_has ls 5 [(0, .ref (ad o)), (1, .int l1), (2, .int l2), (3, .int l3)] → W p l e R s m args below meth c H locs cells slots Q (F0 m 101 ls [.int s0]) := by
  intro o l1 l2 l3 s0 x H locs ls fo hw hW hS hl
  unfold j_Scn_readEscape_101 at hw
  refine lv_istore (lv' := [(4, .int s0), (0, .ref (ad o)), (1, .int l1), (2, .int l2), (3, .int l3)]) hx hb d_Scn_readEscape_101 hl (by decide) rfl (fun ls hl => ?_)
  refine lv_aload_n hx hb d_Scn_readEscape_103 rfl (lv_at hl 1 rfl) ?_
  refine lv_aload_n hx hb d_Scn_readEscape_104 rfl (lv_at hl 1 rfl) ?_
  refine w_geti (k := 2) (t := 2) (C := R_Scn) (T := F_Scn) (N := 8) hx hb hT hown hK hW fo.1 fo.2 (by decide) in_Scn rfl rfl (by decide) rfl fr_Scn_2 w_1_85 d_Scn_readEscape_105 ?_
  refine lv_iload hx hb d_Scn_readEscape_108 (lv_at hl 0 rfl) ?_
  refine lv_iadd hx hb d_Scn_readEscape_110 ?_
  refine lv_aload_n hx hb d_Scn_readEscape_111 rfl (lv_at hl 1 rfl) ?_
  refine w_geti (k := 1) (t := 2) (C := R_Scn) (T := F_Scn) (N := 8) hx hb hT hown hK hW fo.1 fo.2 (by decide) in_Scn rfl rfl (by decide) rfl fr_Scn_1 w_1_81 d_Scn_readEscape_112 ?_
  refine lv_icmp_lt (tgt := 125) hx hb d_Scn_readEscape_115 (by decide) (fun c2 => ?_) (fun c2 => ?_)
  · have hw := hw.1 c2
    refine lv_aload_n hx hb d_Scn_readEscape_125 rfl (lv_at hl 1 rfl) ?_
    refine w_geti (k := 2) (t := 2) (C := R_Scn) (T := F_Scn) (N := 8) hx hb hT hown hK hW fo.1 fo.2 (by decide) in_Scn rfl rfl (by decide) rfl fr_Scn_2 w_1_85 d_Scn_readEscape_126 ?_
    exact t_Scn_readEscape_129 hx hb hml hown hT hK hN hA hRc hRs hRf hRl hNN hE hret  o l1 l2 l3 s0 (fI x o 2) o x H locs ls fo fo hw hW hS (lv_sub hl [1, 2, 3, 4, 0] rfl)
  · have hw := hw.2 c2
    refine lv_aload_n hx hb d_Scn_readEscape_118 rfl (lv_at hl 1 rfl) ?_
    refine w_geti (k := 1) (t := 2) (C := R_Scn) (T := F_Scn) (N := 8) hx hb hT hown hK hW fo.1 fo.2 (by decide) in_Scn rfl rfl (by decide) rfl fr_Scn_1 w_1_81 d_Scn_readEscape_119 ?_
    refine lv_goto (tgt := 129) hx hb d_Scn_readEscape_122 (by decide) ?_
    exact t_Scn_readEscape_129 hx hb hml hown hT hK hN hA hRc hRs hRf hRl hNN hE hret  o l1 l2 l3 s0 (fI x o 1) o x H locs ls fo fo hw hW hS (lv_sub hl [1, 2, 3, 4, 0] rfl)
set_option maxRecDepth 100000 in
set_option maxHeartbeats 4000000 in
set_option maxRecDepth 100000 in
theorem t_Scn_readEscape_75 {p : Program} {l : Launch} {e : Env} {R : Room} {s : State} {m : MethodId} {args : Array Value} {below : List Frame} {meth : Method} {c : Code} {cells slots : Nat} {Q : State → Prop} {dC : Nat → ClassId} {dI : Nat → Nat → Nat} {cI cB cJ cZ : ClassId} {A : Nat → Prop} {ad : Nat → Nat} {NN : Nat} {E : Heap} {tM tC : Nat} {kK kV : Nat → Nat} {post : Int32 → St → Prop} (hx : p.tables.exec = Jvm.exec) (hb : c.code = b_Scn_readEscape) (hml : c.maxLocals = 5) (hown : s.vm.findClass R_Scn = some m.cls) (hT : ∀ w ∈ TG, w.before args s = true) (hK : va_K (dC, dI) CL (TY cI cB cJ cZ) s) (hN : NW s) (hA : ∀ q : Nat, s.heap.size ≤ q → A q) (hRc : cells ≤ R.cells) (hRs : slots ≤ R.slots) (hRf : 1 ≤ R.frames) (hRl : 22 ≤ R.locals) (hNN : 152 ≤ NN) (hE : CE E tM tC kK kV A s) (hret : ∀ (r : Int32) (x : St) (H : Heap) (locs : List Loc) (pc : Nat) (ls : Array Slot), decode b_Scn_readEscape pc = .ok (.ireturn, 1) → post r x → Wd dC dI cI cB cJ cZ ad stC kcC NN A x H → va_S A s.heap H locs → W p l e R s m args below meth c H locs cells slots Q (F0 m pc ls [.int r]))  : ∀ (o : Nat) (l1 : Int32) (l2 : Int32) (s0 : Int32) (x : St) (H : Heap) (locs : List Loc) (ls : Array Slot), (o < NN ∧ kcC o = 2) → j_Scn_readEscape_75 post o l1 l2 s0 x → Wd dC dI cI cB cJ cZ ad stC kcC NN A x H → va_S A s.heap H locs → lv_has ls 5 [(0, .ref (ad o)), (1, .int l1), (2, .int l2)] → W p l e R s m args below meth c H locs cells slots Q (F0 m 75 ls [.int s0]) := by
  intro o l1 l2 s0 x H locs ls fo hw hW hS hl
  unfold j_Scn_readEscape_75 at hw
  refine lv_istore_n (lv' := [(3, .int s0), (0, .ref (ad o)), (1, .int l1), (2, .int l2)]) hx hb d_Scn_readEscape_75 rfl hl (by decide) rfl (fun ls hl => ?_)
  refine lv_iload_n hx hb d_Scn_readEscape_76 rfl (lv_at hl 0 rfl) ?_
  refine lv_iconst (v := (-1)) hx hb d_Scn_readEscape_77 (by decide) ?_
  refine lv_icmp_ne (tgt := 134) hx hb d_Scn_readEscape_78 (by decide) (fun c3 => ?_) (fun c3 => ?_)
  · have hw := hw.1 c3
    refine lv_aload_n hx hb d_Scn_readEscape_134 rfl (lv_at hl 1 rfl) ?_
    refine lv_dup hx hb d_Scn_readEscape_135 rfl ?_
    refine w_geti (k := 2) (t := 2) (C := R_Scn) (T := F_Scn) (N := 8) hx hb hT hown hK hW fo.1 fo.2 (by decide) in_Scn rfl rfl (by decide) rfl fr_Scn_2 w_1_85 d_Scn_readEscape_136 ?_
    refine lv_iconst (v := 4) hx hb d_Scn_readEscape_139 (by decide) ?_
    refine lv_iadd hx hb d_Scn_readEscape_140 ?_
    refine w_puti (ty := .int) (k := 2) (t := 2) (C := R_Scn) (T := F_Scn) (N := 8) hx hb hT hown hK hW hS fo.1 fo.2 (by decide) in_Scn t_Scn t_Scn_ok n_Scn rfl rfl (by decide) rfl fr_Scn_2 w_1_85 (by decide +kernel) rfl rfl d_Scn_readEscape_141 (fun H locs hW hS => ?_)
    obtain ⟨x4, ex4⟩ : ∃ y : St, y = setI x o 2 ((fI x o 2) + 4) := ⟨_, rfl⟩
    rw [← ex4] at hW
    have hw := hw x4 ex4
    refine lv_iload_n hx hb d_Scn_readEscape_144 rfl (lv_at hl 3 rfl) ?_
    refine lv_bipush (v := 16) hx hb d_Scn_readEscape_145 (by decide) ?_
    refine lv_imul hx hb d_Scn_readEscape_147 ?_
    refine lv_iload_n hx hb d_Scn_readEscape_148 rfl (lv_at hl 0 rfl) ?_
    refine lv_iadd hx hb d_Scn_readEscape_149 ?_
    exact hret ((l2 * 16) + s0) x4 H locs 150 ls d_Scn_readEscape_150 hw hW hS
  · have hw := hw.2 c3
    refine lv_iload_n hx hb d_Scn_readEscape_81 rfl (lv_at hl 2 rfl) ?_
    refine lv_bipush (v := 120) hx hb d_Scn_readEscape_82 (by decide) ?_
    refine lv_icmp_eq (tgt := 91) hx hb d_Scn_readEscape_84 (by decide) (fun c5 => ?_) (fun c5 => ?_)
    · have hw := hw.1 c5
      refine lv_iload_n hx hb d_Scn_readEscape_91 rfl (lv_at hl 3 rfl) ?_
      refine lv_iconst (v := (-1)) hx hb d_Scn_readEscape_92 (by decide) ?_
      refine lv_icmp_ne (tgt := 100) hx hb d_Scn_readEscape_93 (by decide) (fun c6 => ?_) (fun c6 => ?_)
      · have hw := hw.1 c6
        refine lv_iconst (v := 3) hx hb d_Scn_readEscape_100 (by decide) ?_
        exact t_Scn_readEscape_101 hx hb hml hown hT hK hN hA hRc hRs hRf hRl hNN hE hret  o l1 l2 s0 3 x H locs ls fo hw hW hS (lv_sub hl [1, 2, 3, 0] rfl)
      · have hw := hw.2 c6
        refine lv_iconst (v := 2) hx hb d_Scn_readEscape_96 (by decide) ?_
        refine lv_goto (tgt := 101) hx hb d_Scn_readEscape_97 (by decide) ?_
        exact t_Scn_readEscape_101 hx hb hml hown hT hK hN hA hRc hRs hRf hRl hNN hE hret  o l1 l2 s0 2 x H locs ls fo hw hW hS (lv_sub hl [1, 2, 3, 0] rfl)
    · have hw := hw.2 c5
      refine lv_iconst (v := 1) hx hb d_Scn_readEscape_87 (by decide) ?_
      refine lv_goto (tgt := 101) hx hb d_Scn_readEscape_88 (by decide) ?_
      exact t_Scn_readEscape_101 hx hb hml hown hT hK hN hA hRc hRs hRf hRl hNN hE hret  o l1 l2 s0 1 x H locs ls fo hw hW hS (lv_sub hl [1, 2, 3, 0] rfl)
set_option maxRecDepth 100000 in
set_option maxHeartbeats 4000000 in
set_option maxRecDepth 100000 in
theorem t_Scn_readEscape_55 {p : Program} {l : Launch} {e : Env} {R : Room} {s : State} {m : MethodId} {args : Array Value} {below : List Frame} {meth : Method} {c : Code} {cells slots : Nat} {Q : State → Prop} {dC : Nat → ClassId} {dI : Nat → Nat → Nat} {cI cB cJ cZ : ClassId} {A : Nat → Prop} {ad : Nat → Nat} {NN : Nat} {E : Heap} {tM tC : Nat} {kK kV : Nat → Nat} {post : Int32 → St → Prop} (hx : p.tables.exec = Jvm.exec) (hb : c.code = b_Scn_readEscape) (hml : c.maxLocals = 5) (hown : s.vm.findClass R_Scn = some m.cls) (hT : ∀ w ∈ TG, w.before args s = true) (hK : va_K (dC, dI) CL (TY cI cB cJ cZ) s) (hN : NW s) (hA : ∀ q : Nat, s.heap.size ≤ q → A q) (hRc : cells ≤ R.cells) (hRs : slots ≤ R.slots) (hRf : 1 ≤ R.frames) (hRl : 22 ≤ R.locals) (hNN : 152 ≤ NN) (hE : CE E tM tC kK kV A s) (hret : ∀ (r : Int32) (x : St) (H : Heap) (locs : List Loc) (pc : Nat) (ls : Array Slot), decode b_Scn_readEscape pc = .ok (.ireturn, 1) → post r x → Wd dC dI cI cB cJ cZ ad stC kcC NN A x H → va_S A s.heap H locs → W p l e R s m args below meth c H locs cells slots Q (F0 m pc ls [.int r]))  : ∀ (o : Nat) (l1 : Int32) (s0 : Int32) (x : St) (H : Heap) (locs : List Loc) (ls : Array Slot), (o < NN ∧ kcC o = 2) → j_Scn_readEscape_55 post o l1 s0 x → Wd dC dI cI cB cJ cZ ad stC kcC NN A x H → va_S A s.heap H locs → lv_has ls 5 [(0, .ref (ad o)), (1, .int l1)] → W p l e R s m args below meth c H locs cells slots Q (F0 m 55 ls [.int s0]) := by
  intro o l1 s0 x H locs ls fo hw hW hS hl
  unfold j_Scn_readEscape_55 at hw
  refine lv_istore_n (lv' := [(2, .int s0), (0, .ref (ad o)), (1, .int l1)]) hx hb d_Scn_readEscape_55 rfl hl (by decide) rfl (fun ls hl => ?_)
  refine lv_iload_n hx hb d_Scn_readEscape_56 rfl (lv_at hl 0 rfl) ?_
  refine lv_iconst (v := (-1)) hx hb d_Scn_readEscape_57 (by decide) ?_
  refine lv_icmp_ne (tgt := 65) hx hb d_Scn_readEscape_58 (by decide) (fun c7 => ?_) (fun c7 => ?_)
  · have hw := hw.1 c7
    refine lv_aload_n hx hb d_Scn_readEscape_65 rfl (lv_at hl 1 rfl) ?_
    refine lv_aload_n hx hb d_Scn_readEscape_66 rfl (lv_at hl 1 rfl) ?_
    refine w_geti (k := 2) (t := 2) (C := R_Scn) (T := F_Scn) (N := 8) hx hb hT hown hK hW fo.1 fo.2 (by decide) in_Scn rfl rfl (by decide) rfl fr_Scn_2 w_1_85 d_Scn_readEscape_67 ?_
    refine lv_iconst (v := 3) hx hb d_Scn_readEscape_70 (by decide) ?_
    refine lv_iadd hx hb d_Scn_readEscape_71 ?_
    have hF := hW.free hS hA
    refine va_calli (va_runV (C := R_Scn) (As := [.int ((fI x o 2) + 3)]) (rest := []) ⟨hx, hb, hml, hown, hT⟩ (k_Scn_hexAt l dC dI cI cB cJ cZ ad NN E tM tC kK kV hNN H.size o ((fI x o 2) + 3) x fo hw) ⟨callB_of 1 hT (gwt_in w_5_83) rfl rfl rfl (hT _ w_1_4) (hT _ w_5_80) (by decide +kernel) ⟨Nat.le_trans (Nat.le_of_ble_eq_true rfl) hRf, Nat.le_trans (Nat.le_of_ble_eq_true rfl) hRl⟩, hT _ w_5_82, hT _ ws_14⟩ ⟨PVc.blind, va_recv hK hW.1 (ci := 2) (q0 := o) rfl (pic_obj fo.1 fo.2 (by decide)), PVc.at _ hW hK hN hE hS hF⟩ rfl rfl hl.1 rfl (lv_room (Nat.le_of_ble_eq_true rfl)) d_Scn_readEscape_72 ⟨hRc, hRs⟩) hS (fun q _ h => hF q h) hF (fun r9 x8 t H locs ht hvm hw hB hz1 hk1 hS => ?_)
    have hW := Wd.back hB ht hF
    clear hB ht hF hz1 hk1 hvm
    exact t_Scn_readEscape_75 hx hb hml hown hT hK hN hA hRc hRs hRf hRl hNN hE hret  o l1 s0 r9 x8 H locs ls fo hw hW hS (lv_sub hl [1, 2, 0] rfl)
  · have hw := hw.2 c7
    refine lv_iconst (v := (-1)) hx hb d_Scn_readEscape_61 (by decide) ?_
    refine lv_goto (tgt := 75) hx hb d_Scn_readEscape_62 (by decide) ?_
    exact t_Scn_readEscape_75 hx hb hml hown hT hK hN hA hRc hRs hRf hRl hNN hE hret  o l1 s0 (-1) x H locs ls fo hw hW hS (lv_sub hl [1, 2, 0] rfl)
set_option maxRecDepth 100000 in
set_option maxHeartbeats 4000000 in
set_option maxRecDepth 100000 in
theorem t_Scn_readEscape_23 {p : Program} {l : Launch} {e : Env} {R : Room} {s : State} {m : MethodId} {args : Array Value} {below : List Frame} {meth : Method} {c : Code} {cells slots : Nat} {Q : State → Prop} {dC : Nat → ClassId} {dI : Nat → Nat → Nat} {cI cB cJ cZ : ClassId} {A : Nat → Prop} {ad : Nat → Nat} {NN : Nat} {E : Heap} {tM tC : Nat} {kK kV : Nat → Nat} {post : Int32 → St → Prop} (hx : p.tables.exec = Jvm.exec) (hb : c.code = b_Scn_readEscape) (hml : c.maxLocals = 5) (hown : s.vm.findClass R_Scn = some m.cls) (hT : ∀ w ∈ TG, w.before args s = true) (hK : va_K (dC, dI) CL (TY cI cB cJ cZ) s) (hN : NW s) (hA : ∀ q : Nat, s.heap.size ≤ q → A q) (hRc : cells ≤ R.cells) (hRs : slots ≤ R.slots) (hRf : 1 ≤ R.frames) (hRl : 22 ≤ R.locals) (hNN : 152 ≤ NN) (hE : CE E tM tC kK kV A s) (hret : ∀ (r : Int32) (x : St) (H : Heap) (locs : List Loc) (pc : Nat) (ls : Array Slot), decode b_Scn_readEscape pc = .ok (.ireturn, 1) → post r x → Wd dC dI cI cB cJ cZ ad stC kcC NN A x H → va_S A s.heap H locs → W p l e R s m args below meth c H locs cells slots Q (F0 m pc ls [.int r]))  : ∀ (o : Nat) (l1 : Int32) (x : St) (H : Heap) (locs : List Loc) (ls : Array Slot), (o < NN ∧ kcC o = 2) → j_Scn_readEscape_23 post o l1 x → Wd dC dI cI cB cJ cZ ad stC kcC NN A x H → va_S A s.heap H locs → lv_has ls 5 [(0, .ref (ad o)), (1, .int l1)] → W p l e R s m args below meth c H locs cells slots Q (F0 m 23 ls []) := by
  intro o l1 x H locs ls fo hw hW hS hl
  unfold j_Scn_readEscape_23 at hw
  refine lv_aload_n hx hb d_Scn_readEscape_23 rfl (lv_at hl 0 rfl) ?_
  refine lv_dup hx hb d_Scn_readEscape_24 rfl ?_
  refine w_geti (k := 2) (t := 2) (C := R_Scn) (T := F_Scn) (N := 8) hx hb hT hown hK hW fo.1 fo.2 (by decide) in_Scn rfl rfl (by decide) rfl fr_Scn_2 w_1_85 d_Scn_readEscape_25 ?_
  refine lv_iconst (v := 2) hx hb d_Scn_readEscape_28 (by decide) ?_
  refine lv_iadd hx hb d_Scn_readEscape_29 ?_
  refine w_puti (ty := .int) (k := 2) (t := 2) (C := R_Scn) (T := F_Scn) (N := 8) hx hb hT hown hK hW hS fo.1 fo.2 (by decide) in_Scn t_Scn t_Scn_ok n_Scn rfl rfl (by decide) rfl fr_Scn_2 w_1_85 (by decide +kernel) rfl rfl d_Scn_readEscape_30 (fun H locs hW hS => ?_)
  obtain ⟨x10, ex10⟩ : ∃ y : St, y = setI x o 2 ((fI x o 2) + 2) := ⟨_, rfl⟩
  rw [← ex10] at hW
  have hw := hw x10 ex10
  refine lv_iload_n hx hb d_Scn_readEscape_33 rfl (lv_at hl 1 rfl) ?_
  exact hret l1 x10 H locs 34 ls d_Scn_readEscape_34 hw hW hS
set_option maxRecDepth 100000 in
set_option maxHeartbeats 4000000 in
set_option maxRecDepth 100000 in
theorem t_Scn_readEscape_e {p : Program} {l : Launch} {e : Env} {R : Room} {s : State} {m : MethodId} {args : Array Value} {below : List Frame} {meth : Method} {c : Code} {cells slots : Nat} {Q : State → Prop} {dC : Nat → ClassId} {dI : Nat → Nat → Nat} {cI cB cJ cZ : ClassId} {A : Nat → Prop} {ad : Nat → Nat} {NN : Nat} {E : Heap} {tM tC : Nat} {kK kV : Nat → Nat} {post : Int32 → St → Prop} (hx : p.tables.exec = Jvm.exec) (hb : c.code = b_Scn_readEscape) (hml : c.maxLocals = 5) (hown : s.vm.findClass R_Scn = some m.cls) (hT : ∀ w ∈ TG, w.before args s = true) (hK : va_K (dC, dI) CL (TY cI cB cJ cZ) s) (hN : NW s) (hA : ∀ q : Nat, s.heap.size ≤ q → A q) (hRc : cells ≤ R.cells) (hRs : slots ≤ R.slots) (hRf : 1 ≤ R.frames) (hRl : 22 ≤ R.locals) (hNN : 152 ≤ NN) (hE : CE E tM tC kK kV A s) (hret : ∀ (r : Int32) (x : St) (H : Heap) (locs : List Loc) (pc : Nat) (ls : Array Slot), decode b_Scn_readEscape pc = .ok (.ireturn, 1) → post r x → Wd dC dI cI cB cJ cZ ad stC kcC NN A x H → va_S A s.heap H locs → W p l e R s m args below meth c H locs cells slots Q (F0 m pc ls [.int r])) : ∀ (o : Nat) (x : St) (H : Heap) (locs : List Loc) (ls : Array Slot), (o < NN ∧ kcC o = 2) → wp_Scn_readEscape post o x → Wd dC dI cI cB cJ cZ ad stC kcC NN A x H → va_S A s.heap H locs → lv_has ls 5 [(0, .ref (ad o))] → W p l e R s m args below meth c H locs cells slots Q (F0 m 0 ls []) := by
  intro o x H locs ls fo hw hW hS hl
  unfold wp_Scn_readEscape at hw
  refine lv_aload_n hx hb d_Scn_readEscape_0 rfl (lv_at hl 0 rfl) ?_
  refine lv_aload_n hx hb d_Scn_readEscape_1 rfl (lv_at hl 0 rfl) ?_
  refine w_geti (k := 2) (t := 2) (C := R_Scn) (T := F_Scn) (N := 8) hx hb hT hown hK hW fo.1 fo.2 (by decide) in_Scn rfl rfl (by decide) rfl fr_Scn_2 w_1_85 d_Scn_readEscape_2 ?_
  refine lv_iconst (v := 1) hx hb d_Scn_readEscape_5 (by decide) ?_
  refine lv_iadd hx hb d_Scn_readEscape_6 ?_
  have hF := hW.free hS hA
  refine va_calli (va_runV (C := R_Scn) (As := [.int ((fI x o 2) + 1)]) (rest := []) ⟨hx, hb, hml, hown, hT⟩ (k_Scn_byteAt l dC dI cI cB cJ cZ ad NN E tM tC kK kV hNN H.size o ((fI x o 2) + 1) x fo hw) ⟨callB_of 1 hT (gwt_in w_5_75) rfl rfl rfl (hT _ w_1_4) (hT _ w_5_72) (by decide +kernel) ⟨Nat.le_trans (Nat.le_of_ble_eq_true rfl) hRf, Nat.le_trans (Nat.le_of_ble_eq_true rfl) hRl⟩, hT _ w_5_73, hT _ w_5_74⟩ ⟨PVc.blind, va_recv hK hW.1 (ci := 2) (q0 := o) rfl (pic_obj fo.1 fo.2 (by decide)), PVc.at _ hW hK hN hE hS hF⟩ rfl rfl hl.1 rfl (lv_room (Nat.le_of_ble_eq_true rfl)) d_Scn_readEscape_7 ⟨hRc, hRs⟩) hS (fun q _ h => hF q h) hF (fun r12 x11 t H locs ht hvm hw hB hz1 hk1 hS => ?_)
  have hW := Wd.back hB ht hF
  clear hB ht hF hz1 hk1 hvm
  refine lv_istore_n (lv' := [(1, .int r12), (0, .ref (ad o))]) hx hb d_Scn_readEscape_10 rfl hl (by decide) rfl (fun ls hl => ?_)
  refine lv_iload_n hx hb d_Scn_readEscape_11 rfl (lv_at hl 0 rfl) ?_
  refine lv_bipush (v := 39) hx hb d_Scn_readEscape_12 (by decide) ?_
  refine lv_icmp_eq (tgt := 23) hx hb d_Scn_readEscape_14 (by decide) (fun c13 => ?_) (fun c13 => ?_)
  · have hw := hw.1 c13
    exact t_Scn_readEscape_23 hx hb hml hown hT hK hN hA hRc hRs hRf hRl hNN hE hret  o r12 x11 H locs ls fo hw hW hS (lv_sub hl [1, 0] rfl)
  · have hw := hw.2 c13
    refine lv_iload_n hx hb d_Scn_readEscape_17 rfl (lv_at hl 0 rfl) ?_
    refine lv_bipush (v := 92) hx hb d_Scn_readEscape_18 (by decide) ?_
    refine lv_icmp_ne (tgt := 35) hx hb d_Scn_readEscape_20 (by decide) (fun c14 => ?_) (fun c14 => ?_)
    · have hw := hw.1 c14
      refine lv_iload_n hx hb d_Scn_readEscape_35 rfl (lv_at hl 0 rfl) ?_
      refine lv_bipush (v := 120) hx hb d_Scn_readEscape_36 (by decide) ?_
      refine lv_icmp_ne (tgt := 54) hx hb d_Scn_readEscape_38 (by decide) (fun c15 => ?_) (fun c15 => ?_)
      · have hw := hw.1 c15
        refine lv_iconst (v := (-1)) hx hb d_Scn_readEscape_54 (by decide) ?_
        exact t_Scn_readEscape_55 hx hb hml hown hT hK hN hA hRc hRs hRf hRl hNN hE hret  o r12 (-1) x11 H locs ls fo hw hW hS (lv_sub hl [1, 0] rfl)
      · have hw := hw.2 c15
        refine lv_aload_n hx hb d_Scn_readEscape_41 rfl (lv_at hl 1 rfl) ?_
        refine lv_aload_n hx hb d_Scn_readEscape_42 rfl (lv_at hl 1 rfl) ?_
        refine w_geti (k := 2) (t := 2) (C := R_Scn) (T := F_Scn) (N := 8) hx hb hT hown hK hW fo.1 fo.2 (by decide) in_Scn rfl rfl (by decide) rfl fr_Scn_2 w_1_85 d_Scn_readEscape_43 ?_
        refine lv_iconst (v := 2) hx hb d_Scn_readEscape_46 (by decide) ?_
        refine lv_iadd hx hb d_Scn_readEscape_47 ?_
        have hF := hW.free hS hA
        refine va_calli (va_runV (C := R_Scn) (As := [.int ((fI x11 o 2) + 2)]) (rest := []) ⟨hx, hb, hml, hown, hT⟩ (k_Scn_hexAt l dC dI cI cB cJ cZ ad NN E tM tC kK kV hNN H.size o ((fI x11 o 2) + 2) x11 fo hw) ⟨callB_of 1 hT (gwt_in w_5_83) rfl rfl rfl (hT _ w_1_4) (hT _ w_5_80) (by decide +kernel) ⟨Nat.le_trans (Nat.le_of_ble_eq_true rfl) hRf, Nat.le_trans (Nat.le_of_ble_eq_true rfl) hRl⟩, hT _ w_5_82, hT _ ws_14⟩ ⟨PVc.blind, va_recv hK hW.1 (ci := 2) (q0 := o) rfl (pic_obj fo.1 fo.2 (by decide)), PVc.at _ hW hK hN hE hS hF⟩ rfl rfl hl.1 rfl (lv_room (Nat.le_of_ble_eq_true rfl)) d_Scn_readEscape_48 ⟨hRc, hRs⟩) hS (fun q _ h => hF q h) hF (fun r17 x16 t H locs ht hvm hw hB hz1 hk1 hS => ?_)
        have hW := Wd.back hB ht hF
        clear hB ht hF hz1 hk1 hvm
        refine lv_goto (tgt := 55) hx hb d_Scn_readEscape_51 (by decide) ?_
        exact t_Scn_readEscape_55 hx hb hml hown hT hK hN hA hRc hRs hRf hRl hNN hE hret  o r12 r17 x16 H locs ls fo hw hW hS (lv_sub hl [1, 0] rfl)
    · have hw := hw.2 c14
      exact t_Scn_readEscape_23 hx hb hml hown hT hK hN hA hRc hRs hRf hRl hNN hE hret  o r12 x11 H locs ls fo hw hW hS (lv_sub hl [1, 0] rfl)
set_option maxHeartbeats 4000000 in
set_option maxRecDepth 100000 in
theorem k_Scn_readEscape (l : Launch) (dC : Nat → ClassId) (dI : Nat → Nat → Nat) (cI cB cJ cZ : ClassId) (ad : Nat → Nat) (NN : Nat) (E : Heap) (tM tC : Nat) (kK kV : Nat → Nat) (hNN : 152 ≤ NN) (sz : Nat) (o : Nat) (x : St) (fo : o < NN ∧ kcC o = 2) {post : Int32 → St → Prop} (hw : wp_Scn_readEscape post o x) : Met l y_Scn_readEscape (wsOf y_Scn_readEscape b_Scn_readEscape 5 (some (.int))) ({ frames := 1, cells := 0, slots := 0, locals := 22 }) (va_Pc [.ref (ad o)] (PVc dC dI cI cB cJ cZ ad stC kcC NN E tM tC kK kV sz x)) (va_Qi (fun (r : Int32) (y : St) => post r y) (fun y t => Wd dC dI cI cB cJ cZ ad stC kcC NN (va_A (pic ad stC kcC NN cI cB cJ cZ x) sz) y t.heap) (va_A (pic ad stC kcC NN cI cB cJ cZ x) sz)) 0 0 (va_A (pic ad stC kcC NN cI cB cJ cZ x) sz) := by
  refine Met.ofW (cc := b_Scn_readEscape) (maxL := 5) (ret := some (.int)) (by decide) rfl ?_
  intro p e s m args below meth c s₁ B hml hv
  obtain ⟨rfl, ⟨hsz, hW0, hK, hN⟩, hE⟩ := hv
  have hx := B.exec
  have hb := B.bytes
  have hr := B.returns
  have hts := atoms_spec B.pre
  have hT : ∀ w ∈ TG, w.before _ s = true := fun w h => hts w (List.mem_cons_of_mem _ h)
  have hown : s.vm.findClass R_Scn = some m.cls := findClass_of_methodNamed B.named
  have hlocks := B.notSynchronized
  subst hsz
  have hW : Wd dC dI cI cB cJ cZ ad stC kcC NN (va_A (pic ad stC kcC NN cI cB cJ cZ x) s.heap.size) x s.heap := ⟨hW0.1, hW0.2.1.self (sz := s.heap.size), hW0.2.2⟩
  generalize hAe : va_A (pic ad stC kcC NN cI cB cJ cZ x) s.heap.size = A at hW hE ⊢
  have hA : ∀ q : Nat, s.heap.size ≤ q → A q := fun q h => by rw [← hAe]; exact Or.inr h
  have hS : va_S A s.heap s.heap [] := va_S.rf
  have hl := lv_entry ([.ref (ad o)]) (n := 5) (Nat.le_of_ble_eq_true rfl)
  rw [lg_entry_eq]
  generalize (lg_sl ([.ref (ad o)]) ++ List.replicate (5 - (lg_sl ([.ref (ad o)])).length) Slot.unset).toArray = ls at hl ⊢
  have hl : lv_has ls 5 [(0, .ref (ad o))] := hl
  exact t_Scn_readEscape_e hx hb hml hown hT hK hN hA (Nat.le_refl 0) (Nat.le_refl 0) (Nat.le_refl 1) (Nat.le_refl 22) hNN hE (fun r x H locs pc ls hd hp hW hS => W.iret (v := r) hx hb hr (fun t ht hM => ⟨⟨r, x, rfl, hp, Wd.back hW ht.symm (fun _ z => z)⟩, hS.F ht⟩) hS.2.2 hd hlocks)  o x _ _ ls fo hw hW hS hl
set_option maxRecDepth 100000 in
set_option maxHeartbeats 4000000 in
set_option maxRecDepth 100000 in
theorem t_Scn_readQuoted_142 {p : Program} {l : Launch} {e : Env} {R : Room} {s : State} {m : MethodId} {args : Array Value} {below : List Frame} {meth : Method} {c : Code} {cells slots : Nat} {Q : State → Prop} {dC : Nat → ClassId} {dI : Nat → Nat → Nat} {cI cB cJ cZ : ClassId} {A : Nat → Prop} {ad : Nat → Nat} {NN : Nat} {E : Heap} {tM tC : Nat} {kK kV : Nat → Nat} {post : St → Prop} {rec17 : Nat → Nat → Int32 → Int32 → St → Prop} (hx : p.tables.exec = Jvm.exec) (hb : c.code = b_Scn_readQuoted) (hml : c.maxLocals = 6) (hown : s.vm.findClass R_Scn = some m.cls) (hT : ∀ w ∈ TG, w.before args s = true) (hK : va_K (dC, dI) CL (TY cI cB cJ cZ) s) (hN : NW s) (hA : ∀ q : Nat, s.heap.size ≤ q → A q) (hRc : cells ≤ R.cells) (hRs : slots ≤ R.slots) (hRf : 2 ≤ R.frames) (hRl : 46 ≤ R.locals) (hNN : 152 ≤ NN) (hE : CE E tM tC kK kV A s) (hret : ∀ (x : St) (H : Heap) (locs : List Loc) (pc : Nat) (ls : Array Slot), decode b_Scn_readQuoted pc = .ok (.return_, 1) → post x → Wd dC dI cI cB cJ cZ ad stC kcC NN A x H → va_S A s.heap H locs → W p l e R s m args below meth c H locs cells slots Q (F0 m pc ls [])) (hrec17 : ∀ (o : Nat) (l1 : Nat) (l2 : Int32) (l3 : Int32) (x : St) (H : Heap) (locs : List Loc) (ls : Array Slot), (o < NN ∧ kcC o = 2) → (l1 < NN ∧ kcC l1 = 21) → rec17 o l1 l2 l3 x → Wd dC dI cI cB cJ cZ ad stC kcC NN A x H → va_S A s.heap H locs → lv_has ls 6 [(0, .ref (ad o)), (1, .ref (ad l1)), (2, .int l2), (3, .int l3)] → W p l e R s m args below meth c H locs cells slots Q (F0 m 17 ls [])) : ∀ (o : Nat) (l1 : Nat) (l2 : Int32) (l3 : Int32) (l4 : Int32) (l5 : Int32) (x : St) (H : Heap) (locs : List Loc) (ls : Array Slot), (o < NN ∧ kcC o = 2) → (l1 < NN ∧ kcC l1 = 21) → j_Scn_readQuoted_142 post rec17 o l1 l2 l3 l4 l5 x → Wd dC dI cI cB cJ cZ ad stC kcC NN A x H → va_S A s.heap H locs → lv_has ls 6 [(0, .ref (ad o)), (1, .ref (ad l1)), (2, .int l2), (3, .int l3), (4, .int l4), (5, .int l5)] → W p l e R s m args below meth c H locs cells slots Q (F0 m 142 ls []) := by
  intro o l1 l2 l3 l4 l5 x H locs ls fo fl1 hw hW hS hl
  unfold j_Scn_readQuoted_142 at hw
  refine lv_aload_n hx hb d_Scn_readQuoted_142 rfl (lv_at hl 0 rfl) ?_
  have hF := hW.free hS hA
  refine va_calli (va_runV (C := R_Scn) (As := []) (rest := []) ⟨hx, hb, hml, hown, hT⟩ (k_Scn_good l dC dI cI cB cJ cZ ad NN E tM tC kK kV hNN H.size o x fo hw) ⟨callB_of 0 hT (gwt_in w_4_106) rfl rfl rfl (hT _ w_1_4) (hT _ w_4_119) (by decide +kernel) ⟨Nat.le_trans (Nat.le_of_ble_eq_true rfl) hRf, Nat.le_trans (Nat.le_of_ble_eq_true rfl) hRl⟩, hT _ w_4_104, hT _ w_4_105⟩ ⟨PVc.blind, va_recv hK hW.1 (ci := 2) (q0 := o) rfl (pic_obj fo.1 fo.2 (by decide)), PVc.at _ hW hK hN hE hS hF⟩ rfl rfl hl.1 rfl (lv_room (Nat.le_of_ble_eq_true rfl)) d_Scn_readQuoted_143 ⟨hRc, hRs⟩) hS (fun q _ h => hF q h) hF (fun r2 x1 t H locs ht hvm hw hB hz1 hk1 hS => ?_)
  have hW := Wd.back hB ht hF
  clear hB ht hF hz1 hk1 hvm
  refine lv_if_ne (tgt := 150) hx hb d_Scn_readQuoted_146 (by decide) (fun c3 => ?_) (fun c3 => ?_)
  · have hw := hw.1 c3
    refine lv_aload_n hx hb d_Scn_readQuoted_150 rfl (lv_at hl 1 rfl) ?_
    refine lv_iload_n hx hb d_Scn_readQuoted_151 rfl (lv_at hl 2 rfl) ?_
    refine lv_aload_n hx hb d_Scn_readQuoted_152 rfl (lv_at hl 0 rfl) ?_
    refine w_geti (k := 7) (t := 2) (C := R_Scn) (T := F_Scn) (N := 8) hx hb hT hown hK hW fo.1 fo.2 (by decide) in_Scn rfl rfl (by decide) rfl fr_Scn_7 w_1_105 d_Scn_readQuoted_153 ?_
    refine lv_iadd hx hb d_Scn_readQuoted_156 ?_
    refine lv_iload hx hb d_Scn_readQuoted_157 (lv_at hl 5 rfl) ?_
    refine lv_i2b hx hb d_Scn_readQuoted_159 rfl ?_
    obtain ⟨hi, hw⟩ := hw
    refine w_bast (o := l1) hx hb hK hW hS fl1.1 fl1.2 hi d_Scn_readQuoted_160 (fun H locs hW hS => ?_)
    obtain ⟨x4, ex4⟩ : ∃ y : St, y = setA x1 l1 (l2 + (fI x1 o 7)) (vp_nar .byte (l5 : Int32).toInt8.toInt32) := ⟨_, rfl⟩
    rw [← ex4] at hW
    have hw := hw x4 ex4
    refine lv_aload_n hx hb d_Scn_readQuoted_161 rfl (lv_at hl 0 rfl) ?_
    refine lv_dup hx hb d_Scn_readQuoted_162 rfl ?_
    refine w_geti (k := 7) (t := 2) (C := R_Scn) (T := F_Scn) (N := 8) hx hb hT hown hK hW fo.1 fo.2 (by decide) in_Scn rfl rfl (by decide) rfl fr_Scn_7 w_1_105 d_Scn_readQuoted_163 ?_
    refine lv_iconst (v := 1) hx hb d_Scn_readQuoted_166 (by decide) ?_
    refine lv_iadd hx hb d_Scn_readQuoted_167 ?_
    refine w_puti (ty := .int) (k := 7) (t := 2) (C := R_Scn) (T := F_Scn) (N := 8) hx hb hT hown hK hW hS fo.1 fo.2 (by decide) in_Scn t_Scn t_Scn_ok n_Scn rfl rfl (by decide) rfl fr_Scn_7 w_1_105 (by decide +kernel) rfl rfl d_Scn_readQuoted_168 (fun H locs hW hS => ?_)
    obtain ⟨x5, ex5⟩ : ∃ y : St, y = setI x4 o 7 ((fI x4 o 7) + 1) := ⟨_, rfl⟩
    rw [← ex5] at hW
    have hw := hw x5 ex5
    refine lv_iinc (v := (l3 + 1)) (lv' := [(3, .int (l3 + 1)), (0, .ref (ad o)), (1, .ref (ad l1)), (2, .int l2), (4, .int l4), (5, .int l5)]) hx hb d_Scn_readQuoted_171 hl (k := 3) rfl rfl (by decide) rfl (fun ls hl => ?_)
    refine lv_goto (tgt := 17) hx hb d_Scn_readQuoted_174 (by decide) ?_
    exact hrec17 o l1 l2 (l3 + 1) x5 H locs ls fo fl1 hw hW hS (lv_sub hl [1, 2, 3, 0] rfl)
  · have hw := hw.2 c3
    exact hret x1 H locs 149 ls d_Scn_readQuoted_149 hw hW hS
set_option maxRecDepth 100000 in
set_option maxHeartbeats 4000000 in
set_option maxRecDepth 100000 in
theorem t_Scn_readQuoted_103 {p : Program} {l : Launch} {e : Env} {R : Room} {s : State} {m : MethodId} {args : Array Value} {below : List Frame} {meth : Method} {c : Code} {cells slots : Nat} {Q : State → Prop} {dC : Nat → ClassId} {dI : Nat → Nat → Nat} {cI cB cJ cZ : ClassId} {A : Nat → Prop} {ad : Nat → Nat} {NN : Nat} {E : Heap} {tM tC : Nat} {kK kV : Nat → Nat} {post : St → Prop} (hx : p.tables.exec = Jvm.exec) (hb : c.code = b_Scn_readQuoted) (hml : c.maxLocals = 6) (hown : s.vm.findClass R_Scn = some m.cls) (hT : ∀ w ∈ TG, w.before args s = true) (hK : va_K (dC, dI) CL (TY cI cB cJ cZ) s) (hN : NW s) (hA : ∀ q : Nat, s.heap.size ≤ q → A q) (hRc : cells ≤ R.cells) (hRs : slots ≤ R.slots) (hRf : 2 ≤ R.frames) (hRl : 46 ≤ R.locals) (hNN : 152 ≤ NN) (hE : CE E tM tC kK kV A s) (hret : ∀ (x : St) (H : Heap) (locs : List Loc) (pc : Nat) (ls : Array Slot), decode b_Scn_readQuoted pc = .ok (.return_, 1) → post x → Wd dC dI cI cB cJ cZ ad stC kcC NN A x H → va_S A s.heap H locs → W p l e R s m args below meth c H locs cells slots Q (F0 m pc ls []))  : ∀ (o : Nat) (l1 : Nat) (l2 : Int32) (l3 : Int32) (l4 : Int32) (x : St) (H : Heap) (locs : List Loc) (ls : Array Slot), (o < NN ∧ kcC o = 2) → (l1 < NN ∧ kcC l1 = 21) → j_Scn_readQuoted_103 post o l1 l2 l3 l4 x → Wd dC dI cI cB cJ cZ ad stC kcC NN A x H → va_S A s.heap H locs → lv_has ls 6 [(0, .ref (ad o)), (1, .ref (ad l1)), (2, .int l2), (3, .int l3), (4, .int l4)] → W p l e R s m args below meth c H locs cells slots Q (F0 m 103 ls []) := by
  intro o l1 l2 l3 l4 x H locs ls fo fl1 hw hW hS hl
  unfold j_Scn_readQuoted_103 at hw
  refine lv_aload_n hx hb d_Scn_readQuoted_103 rfl (lv_at hl 0 rfl) ?_
  refine lv_aload_n hx hb d_Scn_readQuoted_104 rfl (lv_at hl 0 rfl) ?_
  refine w_geti (k := 2) (t := 2) (C := R_Scn) (T := F_Scn) (N := 8) hx hb hT hown hK hW fo.1 fo.2 (by decide) in_Scn rfl rfl (by decide) rfl fr_Scn_2 w_1_85 d_Scn_readQuoted_105 ?_
  have hF := hW.free hS hA
  refine va_callv (va_runV (C := R_Scn) (As := [.int (fI x o 2)]) (rest := []) ⟨hx, hb, hml, hown, hT⟩ (k_Scn_refuse l dC dI cI cB cJ cZ ad NN E tM tC kK kV hNN H.size o (fI x o 2) x fo hw) ⟨callB_of 1 hT (gwt_in w_4_128) rfl rfl rfl (hT _ w_1_4) (hT _ w_4_125) (by decide +kernel) ⟨Nat.le_trans (Nat.le_of_ble_eq_true rfl) hRf, Nat.le_trans (Nat.le_of_ble_eq_true rfl) hRl⟩, hT _ w_4_126, hT _ w_4_127⟩ ⟨PVc.blind, va_recv hK hW.1 (ci := 2) (q0 := o) rfl (pic_obj fo.1 fo.2 (by decide)), PVc.at _ hW hK hN hE hS hF⟩ rfl rfl hl.1 rfl (lv_room (Nat.le_of_ble_eq_true rfl)) d_Scn_readQuoted_108 ⟨hRc, hRs⟩) hS (fun q _ h => hF q h) hF (fun  x6 t H locs ht hvm hw hB hz1 hk1 hS => ?_)
  have hW := Wd.back hB ht hF
  clear hB ht hF hz1 hk1 hvm
  exact hret x6 H locs 111 ls d_Scn_readQuoted_111 hw hW hS
set_option maxRecDepth 100000 in
set_option maxHeartbeats 4000000 in
set_option maxRecDepth 100000 in
theorem t_Scn_readQuoted_17 {p : Program} {l : Launch} {e : Env} {R : Room} {s : State} {m : MethodId} {args : Array Value} {below : List Frame} {meth : Method} {c : Code} {cells slots : Nat} {Q : State → Prop} {dC : Nat → ClassId} {dI : Nat → Nat → Nat} {cI cB cJ cZ : ClassId} {A : Nat → Prop} {ad : Nat → Nat} {NN : Nat} {E : Heap} {tM tC : Nat} {kK kV : Nat → Nat} {post : St → Prop} {rec17 : Nat → Nat → Int32 → Int32 → St → Prop} (hx : p.tables.exec = Jvm.exec) (hb : c.code = b_Scn_readQuoted) (hml : c.maxLocals = 6) (hown : s.vm.findClass R_Scn = some m.cls) (hT : ∀ w ∈ TG, w.before args s = true) (hK : va_K (dC, dI) CL (TY cI cB cJ cZ) s) (hN : NW s) (hA : ∀ q : Nat, s.heap.size ≤ q → A q) (hRc : cells ≤ R.cells) (hRs : slots ≤ R.slots) (hRf : 2 ≤ R.frames) (hRl : 46 ≤ R.locals) (hNN : 152 ≤ NN) (hE : CE E tM tC kK kV A s) (hret : ∀ (x : St) (H : Heap) (locs : List Loc) (pc : Nat) (ls : Array Slot), decode b_Scn_readQuoted pc = .ok (.return_, 1) → post x → Wd dC dI cI cB cJ cZ ad stC kcC NN A x H → va_S A s.heap H locs → W p l e R s m args below meth c H locs cells slots Q (F0 m pc ls [])) (hrec17 : ∀ (o : Nat) (l1 : Nat) (l2 : Int32) (l3 : Int32) (x : St) (H : Heap) (locs : List Loc) (ls : Array Slot), (o < NN ∧ kcC o = 2) → (l1 < NN ∧ kcC l1 = 21) → rec17 o l1 l2 l3 x → Wd dC dI cI cB cJ cZ ad stC kcC NN A x H → va_S A s.heap H locs → lv_has ls 6 [(0, .ref (ad o)), (1, .ref (ad l1)), (2, .int l2), (3, .int l3)] → W p l e R s m args below meth c H locs cells slots Q (F0 m 17 ls [])) : ∀ (o : Nat) (l1 : Nat) (l2 : Int32) (l3 : Int32) (x : St) (H : Heap) (locs : List Loc) (ls : Array Slot), (o < NN ∧ kcC o = 2) → (l1 < NN ∧ kcC l1 = 21) → j_Scn_readQuoted_17 post rec17 o l1 l2 l3 x → Wd dC dI cI cB cJ cZ ad stC kcC NN A x H → va_S A s.heap H locs → lv_has ls 6 [(0, .ref (ad o)), (1, .ref (ad l1)), (2, .int l2), (3, .int l3)] → W p l e R s m args below meth c H locs cells slots Q (F0 m 17 ls []) := by
  intro o l1 l2 l3 x H locs ls fo fl1 hw hW hS hl
  unfold j_Scn_readQuoted_17 at hw
  refine lv_iload_n hx hb d_Scn_readQuoted_17 rfl (lv_at hl 3 rfl) ?_
  refine lv_aload_n hx hb d_Scn_readQuoted_18 rfl (lv_at hl 0 rfl) ?_
  refine w_geti (k := 1) (t := 2) (C := R_Scn) (T := F_Scn) (N := 8) hx hb hT hown hK hW fo.1 fo.2 (by decide) in_Scn rfl rfl (by decide) rfl fr_Scn_1 w_1_81 d_Scn_readQuoted_19 ?_
  refine lv_icmp_gt (tgt := 177) hx hb d_Scn_readQuoted_22 (by decide) (fun c7 => ?_) (fun c7 => ?_)
  · have hw := hw.1 c7
    exact hret x H locs 177 ls d_Scn_readQuoted_177 hw hW hS
  · have hw := hw.2 c7
    refine lv_aload_n hx hb d_Scn_readQuoted_25 rfl (lv_at hl 0 rfl) ?_
    refine lv_aload_n hx hb d_Scn_readQuoted_26 rfl (lv_at hl 0 rfl) ?_
    refine w_geti (k := 2) (t := 2) (C := R_Scn) (T := F_Scn) (N := 8) hx hb hT hown hK hW fo.1 fo.2 (by decide) in_Scn rfl rfl (by decide) rfl fr_Scn_2 w_1_85 d_Scn_readQuoted_27 ?_
    have hF := hW.free hS hA
    refine va_calli (va_runV (C := R_Scn) (As := [.int (fI x o 2)]) (rest := []) ⟨hx, hb, hml, hown, hT⟩ (k_Scn_byteAt l dC dI cI cB cJ cZ ad NN E tM tC kK kV hNN H.size o (fI x o 2) x fo hw) ⟨callB_of 1 hT (gwt_in w_5_75) rfl rfl rfl (hT _ w_1_4) (hT _ w_5_72) (by decide +kernel) ⟨Nat.le_trans (Nat.le_of_ble_eq_true rfl) hRf, Nat.le_trans (Nat.le_of_ble_eq_true rfl) hRl⟩, hT _ w_5_73, hT _ w_5_74⟩ ⟨PVc.blind, va_recv hK hW.1 (ci := 2) (q0 := o) rfl (pic_obj fo.1 fo.2 (by decide)), PVc.at _ hW hK hN hE hS hF⟩ rfl rfl hl.1 rfl (lv_room (Nat.le_of_ble_eq_true rfl)) d_Scn_readQuoted_30 ⟨hRc, hRs⟩) hS (fun q _ h => hF q h) hF (fun r9 x8 t H locs ht hvm hw hB hz1 hk1 hS => ?_)
    have hW := Wd.back hB ht hF
    clear hB ht hF hz1 hk1 hvm
    refine lv_istore (lv' := [(4, .int r9), (0, .ref (ad o)), (1, .ref (ad l1)), (2, .int l2), (3, .int l3)]) hx hb d_Scn_readQuoted_33 hl (by decide) rfl (fun ls hl => ?_)
    refine lv_iload hx hb d_Scn_readQuoted_35 (lv_at hl 0 rfl) ?_
    refine lv_iconst (v := (-1)) hx hb d_Scn_readQuoted_37 (by decide) ?_
    refine lv_icmp_ne (tgt := 50) hx hb d_Scn_readQuoted_38 (by decide) (fun c10 => ?_) (fun c10 => ?_)
    · have hw := hw.1 c10
      refine lv_iload hx hb d_Scn_readQuoted_50 (lv_at hl 0 rfl) ?_
      refine lv_bipush (v := 39) hx hb d_Scn_readQuoted_52 (by decide) ?_
      refine lv_icmp_ne (tgt := 68) hx hb d_Scn_readQuoted_54 (by decide) (fun c11 => ?_) (fun c11 => ?_)
      · have hw := hw.1 c11
        refine lv_iload hx hb d_Scn_readQuoted_68 (lv_at hl 0 rfl) ?_
        refine lv_bipush (v := 32) hx hb d_Scn_readQuoted_70 (by decide) ?_
        refine lv_icmp_lt (tgt := 103) hx hb d_Scn_readQuoted_72 (by decide) (fun c12 => ?_) (fun c12 => ?_)
        · have hw := hw.1 c12
          exact t_Scn_readQuoted_103 hx hb hml hown hT hK hN hA hRc hRs hRf hRl hNN hE hret  o l1 l2 l3 r9 x8 H locs ls fo fl1 hw hW hS (lv_sub hl [1, 2, 3, 4, 0] rfl)
        · have hw := hw.2 c12
          refine lv_iload hx hb d_Scn_readQuoted_75 (lv_at hl 0 rfl) ?_
          refine lv_bipush (v := 126) hx hb d_Scn_readQuoted_77 (by decide) ?_
          refine lv_icmp_gt (tgt := 103) hx hb d_Scn_readQuoted_79 (by decide) (fun c13 => ?_) (fun c13 => ?_)
          · have hw := hw.1 c13
            exact t_Scn_readQuoted_103 hx hb hml hown hT hK hN hA hRc hRs hRf hRl hNN hE hret  o l1 l2 l3 r9 x8 H locs ls fo fl1 hw hW hS (lv_sub hl [1, 2, 3, 4, 0] rfl)
          · have hw := hw.2 c13
            refine lv_aload_n hx hb d_Scn_readQuoted_82 rfl (lv_at hl 1 rfl) ?_
            refine w_geti (k := 7) (t := 2) (C := R_Scn) (T := F_Scn) (N := 8) hx hb hT hown hK hW fo.1 fo.2 (by decide) in_Scn rfl rfl (by decide) rfl fr_Scn_7 w_1_105 d_Scn_readQuoted_83 ?_
            refine lv_sipush (v := 255) hx hb d_Scn_readQuoted_86 (by decide) ?_
            refine lv_icmp_ge (tgt := 103) hx hb d_Scn_readQuoted_89 (by decide) (fun c14 => ?_) (fun c14 => ?_)
            · have hw := hw.1 c14
              exact t_Scn_readQuoted_103 hx hb hml hown hT hK hN hA hRc hRs hRf hRl hNN hE hret  o l1 l2 l3 r9 x8 H locs ls fo fl1 hw hW hS (lv_sub hl [1, 2, 3, 4, 0] rfl)
            · have hw := hw.2 c14
              refine lv_iload_n hx hb d_Scn_readQuoted_92 rfl (lv_at hl 3 rfl) ?_
              refine lv_aload_n hx hb d_Scn_readQuoted_93 rfl (lv_at hl 1 rfl) ?_
              refine w_geti (k := 7) (t := 2) (C := R_Scn) (T := F_Scn) (N := 8) hx hb hT hown hK hW fo.1 fo.2 (by decide) in_Scn rfl rfl (by decide) rfl fr_Scn_7 w_1_105 d_Scn_readQuoted_94 ?_
              refine lv_iadd hx hb d_Scn_readQuoted_97 ?_
              refine lv_aload_n hx hb d_Scn_readQuoted_98 rfl (lv_at hl 2 rfl) ?_
              refine w_alen (o := l1) (t0 := 1) hx hb hK hW (pic_byte fl1.1 fl1.2) rfl rfl d_Scn_readQuoted_99 ?_
              refine lv_icmp_lt (tgt := 112) hx hb d_Scn_readQuoted_100 (by decide) (fun c15 => ?_) (fun c15 => ?_)
              · have hw := hw.1 c15
                refine lv_iload hx hb d_Scn_readQuoted_112 (lv_at hl 0 rfl) ?_
                refine lv_istore (lv' := [(5, .int r9), (4, .int r9), (0, .ref (ad o)), (1, .ref (ad l1)), (2, .int l2), (3, .int l3)]) hx hb d_Scn_readQuoted_114 hl (by decide) rfl (fun ls hl => ?_)
                refine lv_iload hx hb d_Scn_readQuoted_116 (lv_at hl 1 rfl) ?_
                refine lv_bipush (v := 92) hx hb d_Scn_readQuoted_118 (by decide) ?_
                refine lv_icmp_ne (tgt := 132) hx hb d_Scn_readQuoted_120 (by decide) (fun c16 => ?_) (fun c16 => ?_)
                · have hw := hw.1 c16
                  refine lv_aload_n hx hb d_Scn_readQuoted_132 rfl (lv_at hl 2 rfl) ?_
                  refine lv_dup hx hb d_Scn_readQuoted_133 rfl ?_
                  refine w_geti (k := 2) (t := 2) (C := R_Scn) (T := F_Scn) (N := 8) hx hb hT hown hK hW fo.1 fo.2 (by decide) in_Scn rfl rfl (by decide) rfl fr_Scn_2 w_1_85 d_Scn_readQuoted_134 ?_
                  refine lv_iconst (v := 1) hx hb d_Scn_readQuoted_137 (by decide) ?_
                  refine lv_iadd hx hb d_Scn_readQuoted_138 ?_
                  refine w_puti (ty := .int) (k := 2) (t := 2) (C := R_Scn) (T := F_Scn) (N := 8) hx hb hT hown hK hW hS fo.1 fo.2 (by decide) in_Scn t_Scn t_Scn_ok n_Scn rfl rfl (by decide) rfl fr_Scn_2 w_1_85 (by decide +kernel) rfl rfl d_Scn_readQuoted_139 (fun H locs hW hS => ?_)
                  obtain ⟨x17, ex17⟩ : ∃ y : St, y = setI x8 o 2 ((fI x8 o 2) + 1) := ⟨_, rfl⟩
                  rw [← ex17] at hW
                  have hw := hw x17 ex17
                  exact t_Scn_readQuoted_142 hx hb hml hown hT hK hN hA hRc hRs hRf hRl hNN hE hret hrec17 o l1 l2 l3 r9 r9 x17 H locs ls fo fl1 hw hW hS (lv_sub hl [2, 3, 4, 5, 1, 0] rfl)
                · have hw := hw.2 c16
                  refine lv_aload_n hx hb d_Scn_readQuoted_123 rfl (lv_at hl 2 rfl) ?_
                  have hF := hW.free hS hA
                  refine va_calli (va_runV (C := R_Scn) (As := []) (rest := []) ⟨hx, hb, hml, hown, hT⟩ (k_Scn_readEscape l dC dI cI cB cJ cZ ad NN E tM tC kK kV hNN H.size o x8 fo hw) ⟨callB_of 0 hT (gwt_in w_5_79) rfl rfl rfl (hT _ w_1_4) (hT _ w_5_76) (by decide +kernel) ⟨Nat.le_trans (Nat.le_of_ble_eq_true rfl) hRf, Nat.le_trans (Nat.le_of_ble_eq_true rfl) hRl⟩, hT _ w_5_78, hT _ ws_13⟩ ⟨PVc.blind, va_recv hK hW.1 (ci := 2) (q0 := o) rfl (pic_obj fo.1 fo.2 (by decide)), PVc.at _ hW hK hN hE hS hF⟩ rfl rfl hl.1 rfl (lv_room (Nat.le_of_ble_eq_true rfl)) d_Scn_readQuoted_124 ⟨hRc, hRs⟩) hS (fun q _ h => hF q h) hF (fun r19 x18 t H locs ht hvm hw hB hz1 hk1 hS => ?_)
                  have hW := Wd.back hB ht hF
                  clear hB ht hF hz1 hk1 hvm
                  refine lv_istore (lv' := [(5, .int r19), (4, .int r9), (0, .ref (ad o)), (1, .ref (ad l1)), (2, .int l2), (3, .int l3)]) hx hb d_Scn_readQuoted_127 hl (by decide) rfl (fun ls hl => ?_)
                  refine lv_goto (tgt := 142) hx hb d_Scn_readQuoted_129 (by decide) ?_
                  exact t_Scn_readQuoted_142 hx hb hml hown hT hK hN hA hRc hRs hRf hRl hNN hE hret hrec17 o l1 l2 l3 r9 r19 x18 H locs ls fo fl1 hw hW hS (lv_sub hl [2, 3, 4, 5, 1, 0] rfl)
              · have hw := hw.2 c15
                exact t_Scn_readQuoted_103 hx hb hml hown hT hK hN hA hRc hRs hRf hRl hNN hE hret  o l1 l2 l3 r9 x8 H locs ls fo fl1 hw hW hS (lv_sub hl [1, 2, 3, 4, 0] rfl)
      · have hw := hw.2 c11
        refine lv_aload_n hx hb d_Scn_readQuoted_57 rfl (lv_at hl 1 rfl) ?_
        refine lv_dup hx hb d_Scn_readQuoted_58 rfl ?_
        refine w_geti (k := 2) (t := 2) (C := R_Scn) (T := F_Scn) (N := 8) hx hb hT hown hK hW fo.1 fo.2 (by decide) in_Scn rfl rfl (by decide) rfl fr_Scn_2 w_1_85 d_Scn_readQuoted_59 ?_
        refine lv_iconst (v := 1) hx hb d_Scn_readQuoted_62 (by decide) ?_
        refine lv_iadd hx hb d_Scn_readQuoted_63 ?_
        refine w_puti (ty := .int) (k := 2) (t := 2) (C := R_Scn) (T := F_Scn) (N := 8) hx hb hT hown hK hW hS fo.1 fo.2 (by decide) in_Scn t_Scn t_Scn_ok n_Scn rfl rfl (by decide) rfl fr_Scn_2 w_1_85 (by decide +kernel) rfl rfl d_Scn_readQuoted_64 (fun H locs hW hS => ?_)
        obtain ⟨x20, ex20⟩ : ∃ y : St, y = setI x8 o 2 ((fI x8 o 2) + 1) := ⟨_, rfl⟩
        rw [← ex20] at hW
        have hw := hw x20 ex20
        exact hret x20 H locs 67 ls d_Scn_readQuoted_67 hw hW hS
    · have hw := hw.2 c10
      refine lv_aload_n hx hb d_Scn_readQuoted_41 rfl (lv_at hl 1 rfl) ?_
      refine lv_aload_n hx hb d_Scn_readQuoted_42 rfl (lv_at hl 1 rfl) ?_
      refine w_geti (k := 1) (t := 2) (C := R_Scn) (T := F_Scn) (N := 8) hx hb hT hown hK hW fo.1 fo.2 (by decide) in_Scn rfl rfl (by decide) rfl fr_Scn_1 w_1_81 d_Scn_readQuoted_43 ?_
      have hF := hW.free hS hA
      refine va_callv (va_runV (C := R_Scn) (As := [.int (fI x8 o 1)]) (rest := []) ⟨hx, hb, hml, hown, hT⟩ (k_Scn_refuse l dC dI cI cB cJ cZ ad NN E tM tC kK kV hNN H.size o (fI x8 o 1) x8 fo hw) ⟨callB_of 1 hT (gwt_in w_4_128) rfl rfl rfl (hT _ w_1_4) (hT _ w_4_125) (by decide +kernel) ⟨Nat.le_trans (Nat.le_of_ble_eq_true rfl) hRf, Nat.le_trans (Nat.le_of_ble_eq_true rfl) hRl⟩, hT _ w_4_126, hT _ w_4_127⟩ ⟨PVc.blind, va_recv hK hW.1 (ci := 2) (q0 := o) rfl (pic_obj fo.1 fo.2 (by decide)), PVc.at _ hW hK hN hE hS hF⟩ rfl rfl hl.1 rfl (lv_room (Nat.le_of_ble_eq_true rfl)) d_Scn_readQuoted_46 ⟨hRc, hRs⟩) hS (fun q _ h => hF q h) hF (fun  x21 t H locs ht hvm hw hB hz1 hk1 hS => ?_)
      have hW := Wd.back hB ht hF
      clear hB ht hF hz1 hk1 hvm
      exact hret x21 H locs 49 ls d_Scn_readQuoted_49 hw hW hS
set_option maxHeartbeats 4000000 in
set_option maxRecDepth 100000 in
theorem tl_Scn_readQuoted_17 {p : Program} {l : Launch} {e : Env} {R : Room} {s : State} {m : MethodId} {args : Array Value} {below : List Frame} {meth : Method} {c : Code} {cells slots : Nat} {Q : State → Prop} {dC : Nat → ClassId} {dI : Nat → Nat → Nat} {cI cB cJ cZ : ClassId} {A : Nat → Prop} {ad : Nat → Nat} {NN : Nat} {E : Heap} {tM tC : Nat} {kK kV : Nat → Nat} {post : St → Prop} (hx : p.tables.exec = Jvm.exec) (hb : c.code = b_Scn_readQuoted) (hml : c.maxLocals = 6) (hown : s.vm.findClass R_Scn = some m.cls) (hT : ∀ w ∈ TG, w.before args s = true) (hK : va_K (dC, dI) CL (TY cI cB cJ cZ) s) (hN : NW s) (hA : ∀ q : Nat, s.heap.size ≤ q → A q) (hRc : cells ≤ R.cells) (hRs : slots ≤ R.slots) (hRf : 2 ≤ R.frames) (hRl : 46 ≤ R.locals) (hNN : 152 ≤ NN) (hE : CE E tM tC kK kV A s) (hret : ∀ (x : St) (H : Heap) (locs : List Loc) (pc : Nat) (ls : Array Slot), decode b_Scn_readQuoted pc = .ok (.return_, 1) → post x → Wd dC dI cI cB cJ cZ ad stC kcC NN A x H → va_S A s.heap H locs → W p l e R s m args below meth c H locs cells slots Q (F0 m pc ls []))  : ∀ n : Nat, ∀ (o : Nat) (l1 : Nat) (l2 : Int32) (l3 : Int32) (x : St) (H : Heap) (locs : List Loc) (ls : Array Slot), (o < NN ∧ kcC o = 2) → (l1 < NN ∧ kcC l1 = 21) → wl_Scn_readQuoted_17 post n o l1 l2 l3 x → Wd dC dI cI cB cJ cZ ad stC kcC NN A x H → va_S A s.heap H locs → lv_has ls 6 [(0, .ref (ad o)), (1, .ref (ad l1)), (2, .int l2), (3, .int l3)] → W p l e R s m args below meth c H locs cells slots Q (F0 m 17 ls []) := by
  intro n
  induction n with
  | zero => intro o l1 l2 l3 x H locs ls fo fl1 hw; exact hw.elim
  | succ n ih => intro o l1 l2 l3 x H locs ls fo fl1 hw hW hS hl; exact t_Scn_readQuoted_17 hx hb hml hown hT hK hN hA hRc hRs hRf hRl hNN hE hret  ih o l1 l2 l3 x H locs ls fo fl1 hw hW hS hl
set_option maxRecDepth 100000 in
set_option maxHeartbeats 4000000 in
set_option maxRecDepth 100000 in
theorem t_Scn_readQuoted_e {p : Program} {l : Launch} {e : Env} {R : Room} {s : State} {m : MethodId} {args : Array Value} {below : List Frame} {meth : Method} {c : Code} {cells slots : Nat} {Q : State → Prop} {dC : Nat → ClassId} {dI : Nat → Nat → Nat} {cI cB cJ cZ : ClassId} {A : Nat → Prop} {ad : Nat → Nat} {NN : Nat} {E : Heap} {tM tC : Nat} {kK kV : Nat → Nat} {post : St → Prop} (hx : p.tables.exec = Jvm.exec) (hb : c.code = b_Scn_readQuoted) (hml : c.maxLocals = 6) (hown : s.vm.findClass R_Scn = some m.cls) (hT : ∀ w ∈ TG, w.before args s = true) (hK : va_K (dC, dI) CL (TY cI cB cJ cZ) s) (hN : NW s) (hA : ∀ q : Nat, s.heap.size ≤ q → A q) (hRc : cells ≤ R.cells) (hRs : slots ≤ R.slots) (hRf : 2 ≤ R.frames) (hRl : 46 ≤ R.locals) (hNN : 152 ≤ NN) (hE : CE E tM tC kK kV A s) (hret : ∀ (x : St) (H : Heap) (locs : List Loc) (pc : Nat) (ls : Array Slot), decode b_Scn_readQuoted pc = .ok (.return_, 1) → post x → Wd dC dI cI cB cJ cZ ad stC kcC NN A x H → va_S A s.heap H locs → W p l e R s m args below meth c H locs cells slots Q (F0 m pc ls [])) : ∀ (o : Nat) (l1 : Nat) (l2 : Int32) (x : St) (H : Heap) (locs : List Loc) (ls : Array Slot), (o < NN ∧ kcC o = 2) → (l1 < NN ∧ kcC l1 = 21) → wp_Scn_readQuoted post o l1 l2 x → Wd dC dI cI cB cJ cZ ad stC kcC NN A x H → va_S A s.heap H locs → lv_has ls 6 [(0, .ref (ad o)), (1, .ref (ad l1)), (2, .int l2)] → W p l e R s m args below meth c H locs cells slots Q (F0 m 0 ls []) := by
  intro o l1 l2 x H locs ls fo fl1 hw hW hS hl
  unfold wp_Scn_readQuoted at hw
  refine lv_aload_n hx hb d_Scn_readQuoted_0 rfl (lv_at hl 0 rfl) ?_
  refine lv_iconst (v := 0) hx hb d_Scn_readQuoted_1 (by decide) ?_
  refine w_puti (ty := .int) (k := 7) (t := 2) (C := R_Scn) (T := F_Scn) (N := 8) hx hb hT hown hK hW hS fo.1 fo.2 (by decide) in_Scn t_Scn t_Scn_ok n_Scn rfl rfl (by decide) rfl fr_Scn_7 w_1_105 (by decide +kernel) rfl rfl d_Scn_readQuoted_2 (fun H locs hW hS => ?_)
  obtain ⟨x22, ex22⟩ : ∃ y : St, y = setI x o 7 0 := ⟨_, rfl⟩
  rw [← ex22] at hW
  have hw := hw x22 ex22
  refine lv_aload_n hx hb d_Scn_readQuoted_5 rfl (lv_at hl 0 rfl) ?_
  refine lv_dup hx hb d_Scn_readQuoted_6 rfl ?_
  refine w_geti (k := 2) (t := 2) (C := R_Scn) (T := F_Scn) (N := 8) hx hb hT hown hK hW fo.1 fo.2 (by decide) in_Scn rfl rfl (by decide) rfl fr_Scn_2 w_1_85 d_Scn_readQuoted_7 ?_
  refine lv_iconst (v := 1) hx hb d_Scn_readQuoted_10 (by decide) ?_
  refine lv_iadd hx hb d_Scn_readQuoted_11 ?_
  refine w_puti (ty := .int) (k := 2) (t := 2) (C := R_Scn) (T := F_Scn) (N := 8) hx hb hT hown hK hW hS fo.1 fo.2 (by decide) in_Scn t_Scn t_Scn_ok n_Scn rfl rfl (by decide) rfl fr_Scn_2 w_1_85 (by decide +kernel) rfl rfl d_Scn_readQuoted_12 (fun H locs hW hS => ?_)
  obtain ⟨x23, ex23⟩ : ∃ y : St, y = setI x22 o 2 ((fI x22 o 2) + 1) := ⟨_, rfl⟩
  rw [← ex23] at hW
  have hw := hw x23 ex23
  refine lv_iconst (v := 0) hx hb d_Scn_readQuoted_15 (by decide) ?_
  refine lv_istore_n (lv' := [(3, .int 0), (0, .ref (ad o)), (1, .ref (ad l1)), (2, .int l2)]) hx hb d_Scn_readQuoted_16 rfl hl (by decide) rfl (fun ls hl => ?_)
  obtain ⟨n, hw⟩ := hw
  exact tl_Scn_readQuoted_17 hx hb hml hown hT hK hN hA hRc hRs hRf hRl hNN hE hret  n o l1 l2 0 x23 H locs ls fo fl1 hw hW hS (lv_sub hl [1, 2, 3, 0] rfl)
set_option maxHeartbeats 4000000 in
set_option maxRecDepth 100000 in
theorem k_Scn_readQuoted (l : Launch) (dC : Nat → ClassId) (dI : Nat → Nat → Nat) (cI cB cJ cZ : ClassId) (ad : Nat → Nat) (NN : Nat) (E : Heap) (tM tC : Nat) (kK kV : Nat → Nat) (hNN : 152 ≤ NN) (sz : Nat) (o : Nat) (l1 : Nat) (l2 : Int32) (x : St) (fo : o < NN ∧ kcC o = 2) (fl1 : l1 < NN ∧ kcC l1 = 21) {post : St → Prop} (hw : wp_Scn_readQuoted post o l1 l2 x) : Met l y_Scn_readQuoted (wsOf y_Scn_readQuoted b_Scn_readQuoted 6 (none)) ({ frames := 2, cells := 0, slots := 0, locals := 46 }) (va_Pc [.ref (ad o), .ref (ad l1), .int l2] (PVc dC dI cI cB cJ cZ ad stC kcC NN E tM tC kK kV sz x)) (va_Qv (fun (y : St) => post y) (fun y t => Wd dC dI cI cB cJ cZ ad stC kcC NN (va_A (pic ad stC kcC NN cI cB cJ cZ x) sz) y t.heap) (va_A (pic ad stC kcC NN cI cB cJ cZ x) sz)) 0 0 (va_A (pic ad stC kcC NN cI cB cJ cZ x) sz) := by
  refine Met.ofW (cc := b_Scn_readQuoted) (maxL := 6) (ret := none) (by decide) rfl ?_
  intro p e s m args below meth c s₁ B hml hv
  obtain ⟨rfl, ⟨hsz, hW0, hK, hN⟩, hE⟩ := hv
  have hx := B.exec
  have hb := B.bytes
  have hr := B.returns
  have hts := atoms_spec B.pre
  have hT : ∀ w ∈ TG, w.before _ s = true := fun w h => hts w (List.mem_cons_of_mem _ h)
  have hown : s.vm.findClass R_Scn = some m.cls := findClass_of_methodNamed B.named
  have hlocks := B.notSynchronized
  subst hsz
  have hW : Wd dC dI cI cB cJ cZ ad stC kcC NN (va_A (pic ad stC kcC NN cI cB cJ cZ x) s.heap.size) x s.heap := ⟨hW0.1, hW0.2.1.self (sz := s.heap.size), hW0.2.2⟩
  generalize hAe : va_A (pic ad stC kcC NN cI cB cJ cZ x) s.heap.size = A at hW hE ⊢
  have hA : ∀ q : Nat, s.heap.size ≤ q → A q := fun q h => by rw [← hAe]; exact Or.inr h
  have hS : va_S A s.heap s.heap [] := va_S.rf
  have hl := lv_entry ([.ref (ad o), .ref (ad l1), .int l2]) (n := 6) (Nat.le_of_ble_eq_true rfl)
  rw [lg_entry_eq]
  generalize (lg_sl ([.ref (ad o), .ref (ad l1), .int l2]) ++ List.replicate (6 - (lg_sl ([.ref (ad o), .ref (ad l1), .int l2])).length) Slot.unset).toArray = ls at hl ⊢
  have hl : lv_has ls 6 [(0, .ref (ad o)), (1, .ref (ad l1)), (2, .int l2)] := hl
  exact t_Scn_readQuoted_e hx hb hml hown hT hK hN hA (Nat.le_refl 0) (Nat.le_refl 0) (Nat.le_refl 2) (Nat.le_refl 46) hNN hE (fun x H locs pc ls hd hp hW hS => W.vret hx hb hr (fun t ht hM => ⟨⟨x, rfl, hp, Wd.back hW ht.symm (fun _ z => z)⟩, hS.F ht⟩) hS.2.2 hd hlocks)  o l1 l2 x _ _ ls fo fl1 hw hW hS hl
set_option maxRecDepth 100000 in
set_option maxHeartbeats 4000000 in
set_option maxRecDepth 100000 in
theorem t_V_reference_e {p : Program} {l : Launch} {e : Env} {R : Room} {s : State} {m : MethodId} {args : Array Value} {below : List Frame} {meth : Method} {c : Code} {cells slots : Nat} {Q : State → Prop} {dC : Nat → ClassId} {dI : Nat → Nat → Nat} {cI cB cJ cZ : ClassId} {A : Nat → Prop} {ad : Nat → Nat} {NN : Nat} {E : Heap} {tM tC : Nat} {kK kV : Nat → Nat} {post : Int64 → St → Prop} (hx : p.tables.exec = Jvm.exec) (hb : c.code = b_V_reference) (hml : c.maxLocals = 2) (hown : s.vm.findClass R_V = some m.cls) (hT : ∀ w ∈ TG, w.before args s = true) (hK : va_K (dC, dI) CL (TY cI cB cJ cZ) s) (hN : NW s) (hA : ∀ q : Nat, s.heap.size ≤ q → A q) (hRc : cells ≤ R.cells) (hRs : slots ≤ R.slots) (hRf : 0 ≤ R.frames) (hRl : 0 ≤ R.locals) (hNN : 152 ≤ NN) (hE : CE E tM tC kK kV A s) (hret : ∀ (r : Int64) (x : St) (H : Heap) (locs : List Loc) (pc : Nat) (ls : Array Slot), decode b_V_reference pc = .ok (.lreturn, 1) → post r x → Wd dC dI cI cB cJ cZ ad stC kcC NN A x H → va_S A s.heap H locs → W p l e R s m args below meth c H locs cells slots Q (F0 m pc ls [.long r])) : ∀ (l0 : Int32) (l1 : Int32) (x : St) (H : Heap) (locs : List Loc) (ls : Array Slot), wp_V_reference post l0 l1 x → Wd dC dI cI cB cJ cZ ad stC kcC NN A x H → va_S A s.heap H locs → lv_has ls 2 [(0, .int l0), (1, .int l1)] → W p l e R s m args below meth c H locs cells slots Q (F0 m 0 ls []) := by
  intro l0 l1 x H locs ls  hw hW hS hl
  unfold wp_V_reference at hw
  refine lv_iload_n hx hb d_V_reference_0 rfl (lv_at hl 0 rfl) ?_
  refine lv_i2l hx hb d_V_reference_1 rfl ?_
  refine lv_ldc2 hx hb hown (hT _ w_5_87) d_V_reference_2 ?_
  refine lv_lmul hx hb d_V_reference_5 ?_
  refine lv_iload_n hx hb d_V_reference_6 rfl (lv_at hl 1 rfl) ?_
  refine lv_i2l hx hb d_V_reference_7 rfl ?_
  refine lv_ladd hx hb d_V_reference_8 ?_
  exact hret (((l0 : Int32).toInt64 * 256) + (l1 : Int32).toInt64) x H locs 9 ls d_V_reference_9 hw hW hS
set_option maxHeartbeats 4000000 in
set_option maxRecDepth 100000 in
theorem k_V_reference (l : Launch) (dC : Nat → ClassId) (dI : Nat → Nat → Nat) (cI cB cJ cZ : ClassId) (ad : Nat → Nat) (NN : Nat) (E : Heap) (tM tC : Nat) (kK kV : Nat → Nat) (hNN : 152 ≤ NN) (sz : Nat) (l0 : Int32) (l1 : Int32) (x : St) {post : Int64 → St → Prop} (hw : wp_V_reference post l0 l1 x) : Met l y_V_reference (wsOf y_V_reference b_V_reference 2 (some (.long))) ({ frames := 0, cells := 0, slots := 0, locals := 0 }) (va_Pc [.int l0, .int l1] (PVc dC dI cI cB cJ cZ ad stC kcC NN E tM tC kK kV sz x)) (va_Ql (fun (r : Int64) (y : St) => post r y) (fun y t => Wd dC dI cI cB cJ cZ ad stC kcC NN (va_A (pic ad stC kcC NN cI cB cJ cZ x) sz) y t.heap) (va_A (pic ad stC kcC NN cI cB cJ cZ x) sz)) 0 0 (va_A (pic ad stC kcC NN cI cB cJ cZ x) sz) := by
  refine Met.ofW (cc := b_V_reference) (maxL := 2) (ret := some (.long)) (by decide) rfl ?_
  intro p e s m args below meth c s₁ B hml hv
  obtain ⟨rfl, ⟨hsz, hW0, hK, hN⟩, hE⟩ := hv
  have hx := B.exec
  have hb := B.bytes
  have hr := B.returns
  have hts := atoms_spec B.pre
  have hT : ∀ w ∈ TG, w.before _ s = true := fun w h => hts w (List.mem_cons_of_mem _ h)
  have hown : s.vm.findClass R_V = some m.cls := findClass_of_methodNamed B.named
  have hlocks := B.notSynchronized
  subst hsz
  have hW : Wd dC dI cI cB cJ cZ ad stC kcC NN (va_A (pic ad stC kcC NN cI cB cJ cZ x) s.heap.size) x s.heap := ⟨hW0.1, hW0.2.1.self (sz := s.heap.size), hW0.2.2⟩
  generalize hAe : va_A (pic ad stC kcC NN cI cB cJ cZ x) s.heap.size = A at hW hE ⊢
  have hA : ∀ q : Nat, s.heap.size ≤ q → A q := fun q h => by rw [← hAe]; exact Or.inr h
  have hS : va_S A s.heap s.heap [] := va_S.rf
  have hl := lv_entry ([.int l0, .int l1]) (n := 2) (Nat.le_of_ble_eq_true rfl)
  rw [lg_entry_eq]
  generalize (lg_sl ([.int l0, .int l1]) ++ List.replicate (2 - (lg_sl ([.int l0, .int l1])).length) Slot.unset).toArray = ls at hl ⊢
  have hl : lv_has ls 2 [(0, .int l0), (1, .int l1)] := hl
  exact t_V_reference_e hx hb hml hown hT hK hN hA (Nat.le_refl 0) (Nat.le_refl 0) (Nat.le_refl 0) (Nat.le_refl 0) hNN hE (fun r x H locs pc ls hd hp hW hS => W.lret (v := r) hx hb hr (fun t ht hM => ⟨⟨r, x, rfl, hp, Wd.back hW ht.symm (fun _ z => z)⟩, hS.F ht⟩) hS.2.2 hd hlocks)  l0 l1 x _ _ ls  hw hW hS hl
set_option maxRecDepth 100000 in
set_option maxHeartbeats 4000000 in
set_option maxRecDepth 100000 in
theorem t_V_isDigit_16 {p : Program} {l : Launch} {e : Env} {R : Room} {s : State} {m : MethodId} {args : Array Value} {below : List Frame} {meth : Method} {c : Code} {cells slots : Nat} {Q : State → Prop} {dC : Nat → ClassId} {dI : Nat → Nat → Nat} {cI cB cJ cZ : ClassId} {A : Nat → Prop} {ad : Nat → Nat} {NN : Nat} {E : Heap} {tM tC : Nat} {kK kV : Nat → Nat} {post : Int32 → St → Prop} (hx : p.tables.exec = Jvm.exec) (hb : c.code = b_V_isDigit) (hml : c.maxLocals = 1) (hown : s.vm.findClass R_V = some m.cls) (hT : ∀ w ∈ TG, w.before args s = true) (hK : va_K (dC, dI) CL (TY cI cB cJ cZ) s) (hN : NW s) (hA : ∀ q : Nat, s.heap.size ≤ q → A q) (hRc : cells ≤ R.cells) (hRs : slots ≤ R.slots) (hRf : 0 ≤ R.frames) (hRl : 0 ≤ R.locals) (hNN : 152 ≤ NN) (hE : CE E tM tC kK kV A s) (hret : ∀ (r : Int32) (x : St) (H : Heap) (locs : List Loc) (pc : Nat) (ls : Array Slot), decode b_V_isDigit pc = .ok (.ireturn, 1) → narrow .boolean (.int r) = .int r → post r x → Wd dC dI cI cB cJ cZ ad stC kcC NN A x H → va_S A s.heap H locs → W p l e R s m args below meth c H locs cells slots Q (F0 m pc ls [.int r]))  : ∀ (l0 : Int32) (x : St) (H : Heap) (locs : List Loc) (ls : Array Slot), j_V_isDigit_16 post l0 x → Wd dC dI cI cB cJ cZ ad stC kcC NN A x H → va_S A s.heap H locs → lv_has ls 1 [(0, .int l0)] → W p l e R s m args below meth c H locs cells slots Q (F0 m 16 ls []) := by
  intro l0 x H locs ls  hw hW hS hl
  unfold j_V_isDigit_16 at hw
  refine lv_iconst (v := 0) hx hb d_V_isDigit_16 (by decide) ?_
  exact hret 0 x H locs 17 ls d_V_isDigit_17 rfl hw hW hS
set_option maxRecDepth 100000 in
set_option maxHeartbeats 4000000 in
set_option maxRecDepth 100000 in
theorem t_V_isDigit_e {p : Program} {l : Launch} {e : Env} {R : Room} {s : State} {m : MethodId} {args : Array Value} {below : List Frame} {meth : Method} {c : Code} {cells slots : Nat} {Q : State → Prop} {dC : Nat → ClassId} {dI : Nat → Nat → Nat} {cI cB cJ cZ : ClassId} {A : Nat → Prop} {ad : Nat → Nat} {NN : Nat} {E : Heap} {tM tC : Nat} {kK kV : Nat → Nat} {post : Int32 → St → Prop} (hx : p.tables.exec = Jvm.exec) (hb : c.code = b_V_isDigit) (hml : c.maxLocals = 1) (hown : s.vm.findClass R_V = some m.cls) (hT : ∀ w ∈ TG, w.before args s = true) (hK : va_K (dC, dI) CL (TY cI cB cJ cZ) s) (hN : NW s) (hA : ∀ q : Nat, s.heap.size ≤ q → A q) (hRc : cells ≤ R.cells) (hRs : slots ≤ R.slots) (hRf : 0 ≤ R.frames) (hRl : 0 ≤ R.locals) (hNN : 152 ≤ NN) (hE : CE E tM tC kK kV A s) (hret : ∀ (r : Int32) (x : St) (H : Heap) (locs : List Loc) (pc : Nat) (ls : Array Slot), decode b_V_isDigit pc = .ok (.ireturn, 1) → narrow .boolean (.int r) = .int r → post r x → Wd dC dI cI cB cJ cZ ad stC kcC NN A x H → va_S A s.heap H locs → W p l e R s m args below meth c H locs cells slots Q (F0 m pc ls [.int r])) : ∀ (l0 : Int32) (x : St) (H : Heap) (locs : List Loc) (ls : Array Slot), wp_V_isDigit post l0 x → Wd dC dI cI cB cJ cZ ad stC kcC NN A x H → va_S A s.heap H locs → lv_has ls 1 [(0, .int l0)] → W p l e R s m args below meth c H locs cells slots Q (F0 m 0 ls []) := by
  intro l0 x H locs ls  hw hW hS hl
  unfold wp_V_isDigit at hw
  refine lv_iload_n hx hb d_V_isDigit_0 rfl (lv_at hl 0 rfl) ?_
  refine lv_bipush (v := 48) hx hb d_V_isDigit_1 (by decide) ?_
  refine lv_icmp_lt (tgt := 16) hx hb d_V_isDigit_3 (by decide) (fun c1 => ?_) (fun c1 => ?_)
  · have hw := hw.1 c1
    exact t_V_isDigit_16 hx hb hml hown hT hK hN hA hRc hRs hRf hRl hNN hE hret  l0 x H locs ls  hw hW hS (lv_sub hl [0] rfl)
  · have hw := hw.2 c1
    refine lv_iload_n hx hb d_V_isDigit_6 rfl (lv_at hl 0 rfl) ?_
    refine lv_bipush (v := 57) hx hb d_V_isDigit_7 (by decide) ?_
    refine lv_icmp_gt (tgt := 16) hx hb d_V_isDigit_9 (by decide) (fun c2 => ?_) (fun c2 => ?_)
    · have hw := hw.1 c2
      exact t_V_isDigit_16 hx hb hml hown hT hK hN hA hRc hRs hRf hRl hNN hE hret  l0 x H locs ls  hw hW hS (lv_sub hl [0] rfl)
    · have hw := hw.2 c2
      refine lv_iconst (v := 1) hx hb d_V_isDigit_12 (by decide) ?_
      refine lv_goto (tgt := 17) hx hb d_V_isDigit_13 (by decide) ?_
      exact hret 1 x H locs 17 ls d_V_isDigit_17 rfl hw hW hS
set_option maxHeartbeats 4000000 in
set_option maxRecDepth 100000 in
theorem k_V_isDigit (l : Launch) (dC : Nat → ClassId) (dI : Nat → Nat → Nat) (cI cB cJ cZ : ClassId) (ad : Nat → Nat) (NN : Nat) (E : Heap) (tM tC : Nat) (kK kV : Nat → Nat) (hNN : 152 ≤ NN) (sz : Nat) (l0 : Int32) (x : St) {post : Int32 → St → Prop} (hw : wp_V_isDigit post l0 x) : Met l y_V_isDigit (wsOf y_V_isDigit b_V_isDigit 1 (some (.boolean))) ({ frames := 0, cells := 0, slots := 0, locals := 0 }) (va_Pc [.int l0] (PVc dC dI cI cB cJ cZ ad stC kcC NN E tM tC kK kV sz x)) (va_Qi (fun (r : Int32) (y : St) => post r y) (fun y t => Wd dC dI cI cB cJ cZ ad stC kcC NN (va_A (pic ad stC kcC NN cI cB cJ cZ x) sz) y t.heap) (va_A (pic ad stC kcC NN cI cB cJ cZ x) sz)) 0 0 (va_A (pic ad stC kcC NN cI cB cJ cZ x) sz) := by
  refine Met.ofW (cc := b_V_isDigit) (maxL := 1) (ret := some (.boolean)) (by decide) rfl ?_
  intro p e s m args below meth c s₁ B hml hv
  obtain ⟨rfl, ⟨hsz, hW0, hK, hN⟩, hE⟩ := hv
  have hx := B.exec
  have hb := B.bytes
  have hr := B.returns
  have hts := atoms_spec B.pre
  have hT : ∀ w ∈ TG, w.before _ s = true := fun w h => hts w (List.mem_cons_of_mem _ h)
  have hown : s.vm.findClass R_V = some m.cls := findClass_of_methodNamed B.named
  have hlocks := B.notSynchronized
  subst hsz
  have hW : Wd dC dI cI cB cJ cZ ad stC kcC NN (va_A (pic ad stC kcC NN cI cB cJ cZ x) s.heap.size) x s.heap := ⟨hW0.1, hW0.2.1.self (sz := s.heap.size), hW0.2.2⟩
  generalize hAe : va_A (pic ad stC kcC NN cI cB cJ cZ x) s.heap.size = A at hW hE ⊢
  have hA : ∀ q : Nat, s.heap.size ≤ q → A q := fun q h => by rw [← hAe]; exact Or.inr h
  have hS : va_S A s.heap s.heap [] := va_S.rf
  have hl := lv_entry ([.int l0]) (n := 1) (Nat.le_of_ble_eq_true rfl)
  rw [lg_entry_eq]
  generalize (lg_sl ([.int l0]) ++ List.replicate (1 - (lg_sl ([.int l0])).length) Slot.unset).toArray = ls at hl ⊢
  have hl : lv_has ls 1 [(0, .int l0)] := hl
  exact t_V_isDigit_e hx hb hml hown hT hK hN hA (Nat.le_refl 0) (Nat.le_refl 0) (Nat.le_refl 0) (Nat.le_refl 0) hNN hE (fun r x H locs pc ls hd hz hp hW hS => W.zret (v := r) (ty := .boolean) hx hb hr hz (fun t ht hM => ⟨⟨r, x, rfl, hp, Wd.back hW ht.symm (fun _ z => z)⟩, hS.F ht⟩) hS.2.2 hd hlocks)  l0 x _ _ ls  hw hW hS hl
set_option maxRecDepth 100000 in
set_option maxHeartbeats 4000000 in
set_option maxRecDepth 100000 in
theorem t_Scn_atNumber_18 {p : Program} {l : Launch} {e : Env} {R : Room} {s : State} {m : MethodId} {args : Array Value} {below : List Frame} {meth : Method} {c : Code} {cells slots : Nat} {Q : State → Prop} {dC : Nat → ClassId} {dI : Nat → Nat → Nat} {cI cB cJ cZ : ClassId} {A : Nat → Prop} {ad : Nat → Nat} {NN : Nat} {E : Heap} {tM tC : Nat} {kK kV : Nat → Nat} {post : Int32 → St → Prop} (hx : p.tables.exec = Jvm.exec) (hb : c.code = b_Scn_atNumber) (hml : c.maxLocals = 2) (hown : s.vm.findClass R_Scn = some m.cls) (hT : ∀ w ∈ TG, w.before args s = true) (hK : va_K (dC, dI) CL (TY cI cB cJ cZ) s) (hN : NW s) (hA : ∀ q : Nat, s.heap.size ≤ q → A q) (hRc : cells ≤ R.cells) (hRs : slots ≤ R.slots) (hRf : 1 ≤ R.frames) (hRl : 20 ≤ R.locals) (hNN : 152 ≤ NN) (hE : CE E tM tC kK kV A s) (hret : ∀ (r : Int32) (x : St) (H : Heap) (locs : List Loc) (pc : Nat) (ls : Array Slot), decode b_Scn_atNumber pc = .ok (.ireturn, 1) → narrow .boolean (.int r) = .int r → post r x → Wd dC dI cI cB cJ cZ ad stC kcC NN A x H → va_S A s.heap H locs → W p l e R s m args below meth c H locs cells slots Q (F0 m pc ls [.int r]))  : ∀ (o : Nat) (l1 : Int32) (x : St) (H : Heap) (locs : List Loc) (ls : Array Slot), (o < NN ∧ kcC o = 2) → j_Scn_atNumber_18 post o l1 x → Wd dC dI cI cB cJ cZ ad stC kcC NN A x H → va_S A s.heap H locs → lv_has ls 2 [(0, .ref (ad o)), (1, .int l1)] → W p l e R s m args below meth c H locs cells slots Q (F0 m 18 ls []) := by
  intro o l1 x H locs ls fo hw hW hS hl
  unfold j_Scn_atNumber_18 at hw
  refine lv_iconst (v := 1) hx hb d_Scn_atNumber_18 (by decide) ?_
  refine lv_goto (tgt := 23) hx hb d_Scn_atNumber_19 (by decide) ?_
  exact hret 1 x H locs 23 ls d_Scn_atNumber_23 rfl hw hW hS
set_option maxRecDepth 100000 in
set_option maxHeartbeats 4000000 in
set_option maxRecDepth 100000 in
theorem t_Scn_atNumber_e {p : Program} {l : Launch} {e : Env} {R : Room} {s : State} {m : MethodId} {args : Array Value} {below : List Frame} {meth : Method} {c : Code} {cells slots : Nat} {Q : State → Prop} {dC : Nat → ClassId} {dI : Nat → Nat → Nat} {cI cB cJ cZ : ClassId} {A : Nat → Prop} {ad : Nat → Nat} {NN : Nat} {E : Heap} {tM tC : Nat} {kK kV : Nat → Nat} {post : Int32 → St → Prop} (hx : p.tables.exec = Jvm.exec) (hb : c.code = b_Scn_atNumber) (hml : c.maxLocals = 2) (hown : s.vm.findClass R_Scn = some m.cls) (hT : ∀ w ∈ TG, w.before args s = true) (hK : va_K (dC, dI) CL (TY cI cB cJ cZ) s) (hN : NW s) (hA : ∀ q : Nat, s.heap.size ≤ q → A q) (hRc : cells ≤ R.cells) (hRs : slots ≤ R.slots) (hRf : 1 ≤ R.frames) (hRl : 20 ≤ R.locals) (hNN : 152 ≤ NN) (hE : CE E tM tC kK kV A s) (hret : ∀ (r : Int32) (x : St) (H : Heap) (locs : List Loc) (pc : Nat) (ls : Array Slot), decode b_Scn_atNumber pc = .ok (.ireturn, 1) → narrow .boolean (.int r) = .int r → post r x → Wd dC dI cI cB cJ cZ ad stC kcC NN A x H → va_S A s.heap H locs → W p l e R s m args below meth c H locs cells slots Q (F0 m pc ls [.int r])) : ∀ (o : Nat) (x : St) (H : Heap) (locs : List Loc) (ls : Array Slot), (o < NN ∧ kcC o = 2) → wp_Scn_atNumber post o x → Wd dC dI cI cB cJ cZ ad stC kcC NN A x H → va_S A s.heap H locs → lv_has ls 2 [(0, .ref (ad o))] → W p l e R s m args below meth c H locs cells slots Q (F0 m 0 ls []) := by
  intro o x H locs ls fo hw hW hS hl
  unfold wp_Scn_atNumber at hw
  refine lv_aload_n hx hb d_Scn_atNumber_0 rfl (lv_at hl 0 rfl) ?_
  have hF := hW.free hS hA
  refine va_calli (va_runV (C := R_Scn) (As := []) (rest := []) ⟨hx, hb, hml, hown, hT⟩ (k_Scn_next l dC dI cI cB cJ cZ ad NN E tM tC kK kV hNN H.size o x fo hw) ⟨callB_of 0 hT (gwt_in w_4_110) rfl rfl rfl (hT _ w_1_4) (hT _ w_4_124) (by decide +kernel) ⟨Nat.le_trans (Nat.le_of_ble_eq_true rfl) hRf, Nat.le_trans (Nat.le_of_ble_eq_true rfl) hRl⟩, hT _ w_4_108, hT _ w_4_109⟩ ⟨PVc.blind, va_recv hK hW.1 (ci := 2) (q0 := o) rfl (pic_obj fo.1 fo.2 (by decide)), PVc.at _ hW hK hN hE hS hF⟩ rfl rfl hl.1 rfl (lv_room (Nat.le_of_ble_eq_true rfl)) d_Scn_atNumber_1 ⟨hRc, hRs⟩) hS (fun q _ h => hF q h) hF (fun r2 x1 t H locs ht hvm hw hB hz1 hk1 hS => ?_)
  have hW := Wd.back hB ht hF
  clear hB ht hF hz1 hk1 hvm
  refine lv_istore_n (lv' := [(1, .int r2), (0, .ref (ad o))]) hx hb d_Scn_atNumber_4 rfl hl (by decide) rfl (fun ls hl => ?_)
  refine lv_iload_n hx hb d_Scn_atNumber_5 rfl (lv_at hl 0 rfl) ?_
  refine lv_bipush (v := 45) hx hb d_Scn_atNumber_6 (by decide) ?_
  refine lv_icmp_eq (tgt := 18) hx hb d_Scn_atNumber_8 (by decide) (fun c3 => ?_) (fun c3 => ?_)
  · have hw := hw.1 c3
    exact t_Scn_atNumber_18 hx hb hml hown hT hK hN hA hRc hRs hRf hRl hNN hE hret  o r2 x1 H locs ls fo hw hW hS (lv_sub hl [1, 0] rfl)
  · have hw := hw.2 c3
    refine lv_iload_n hx hb d_Scn_atNumber_11 rfl (lv_at hl 0 rfl) ?_
    have hF := hW.free hS hA
    refine va_calli (va_runSN (As := [.int r2]) (rest := []) ⟨hx, hb, hml, hown, hT⟩ (k_V_isDigit l dC dI cI cB cJ cZ ad NN E tM tC kK kV hNN H.size r2 x1  hw) ⟨va_cnB 1 hT (gwt_in w_5_94) rfl rfl rfl (hN _ wn_5_92 rfl) (hT _ w_1_1) (by decide +kernel) ⟨Nat.le_trans (Nat.le_of_ble_eq_true rfl) hRf, Nat.le_trans (Nat.le_of_ble_eq_true rfl) hRl⟩, hT _ w_5_93, trivial⟩ ⟨PVc.blind, PVc.at _ hW hK hN hE hS hF⟩ rfl rfl hl.1 rfl (lv_room (Nat.le_of_ble_eq_true rfl)) d_Scn_atNumber_12 ⟨hRc, hRs⟩) hS (fun q _ h => hF q h) hF (fun r5 x4 t H locs ht hvm hw hB hz1 hk1 hS => ?_)
    have hW := Wd.back hB ht hF
    clear hB ht hF hz1 hk1 hvm
    refine lv_if_eq (tgt := 22) hx hb d_Scn_atNumber_15 (by decide) (fun c6 => ?_) (fun c6 => ?_)
    · have hw := hw.1 c6
      refine lv_iconst (v := 0) hx hb d_Scn_atNumber_22 (by decide) ?_
      exact hret 0 x4 H locs 23 ls d_Scn_atNumber_23 rfl hw hW hS
    · have hw := hw.2 c6
      exact t_Scn_atNumber_18 hx hb hml hown hT hK hN hA hRc hRs hRf hRl hNN hE hret  o r2 x4 H locs ls fo hw hW hS (lv_sub hl [1, 0] rfl)
set_option maxHeartbeats 4000000 in
set_option maxRecDepth 100000 in
theorem k_Scn_atNumber (l : Launch) (dC : Nat → ClassId) (dI : Nat → Nat → Nat) (cI cB cJ cZ : ClassId) (ad : Nat → Nat) (NN : Nat) (E : Heap) (tM tC : Nat) (kK kV : Nat → Nat) (hNN : 152 ≤ NN) (sz : Nat) (o : Nat) (x : St) (fo : o < NN ∧ kcC o = 2) {post : Int32 → St → Prop} (hw : wp_Scn_atNumber post o x) : Met l y_Scn_atNumber (wsOf y_Scn_atNumber b_Scn_atNumber 2 (some (.boolean))) ({ frames := 1, cells := 0, slots := 0, locals := 20 }) (va_Pc [.ref (ad o)] (PVc dC dI cI cB cJ cZ ad stC kcC NN E tM tC kK kV sz x)) (va_Qi (fun (r : Int32) (y : St) => post r y) (fun y t => Wd dC dI cI cB cJ cZ ad stC kcC NN (va_A (pic ad stC kcC NN cI cB cJ cZ x) sz) y t.heap) (va_A (pic ad stC kcC NN cI cB cJ cZ x) sz)) 0 0 (va_A (pic ad stC kcC NN cI cB cJ cZ x) sz) := by
  refine Met.ofW (cc := b_Scn_atNumber) (maxL := 2) (ret := some (.boolean)) (by decide) rfl ?_
  intro p e s m args below meth c s₁ B hml hv
  obtain ⟨rfl, ⟨hsz, hW0, hK, hN⟩, hE⟩ := hv
  have hx := B.exec
  have hb := B.bytes
  have hr := B.returns
  have hts := atoms_spec B.pre
  have hT : ∀ w ∈ TG, w.before _ s = true := fun w h => hts w (List.mem_cons_of_mem _ h)
  have hown : s.vm.findClass R_Scn = some m.cls := findClass_of_methodNamed B.named
  have hlocks := B.notSynchronized
  subst hsz
  have hW : Wd dC dI cI cB cJ cZ ad stC kcC NN (va_A (pic ad stC kcC NN cI cB cJ cZ x) s.heap.size) x s.heap := ⟨hW0.1, hW0.2.1.self (sz := s.heap.size), hW0.2.2⟩
  generalize hAe : va_A (pic ad stC kcC NN cI cB cJ cZ x) s.heap.size = A at hW hE ⊢
  have hA : ∀ q : Nat, s.heap.size ≤ q → A q := fun q h => by rw [← hAe]; exact Or.inr h
  have hS : va_S A s.heap s.heap [] := va_S.rf
  have hl := lv_entry ([.ref (ad o)]) (n := 2) (Nat.le_of_ble_eq_true rfl)
  rw [lg_entry_eq]
  generalize (lg_sl ([.ref (ad o)]) ++ List.replicate (2 - (lg_sl ([.ref (ad o)])).length) Slot.unset).toArray = ls at hl ⊢
  have hl : lv_has ls 2 [(0, .ref (ad o))] := hl
  exact t_Scn_atNumber_e hx hb hml hown hT hK hN hA (Nat.le_refl 0) (Nat.le_refl 0) (Nat.le_refl 1) (Nat.le_refl 20) hNN hE (fun r x H locs pc ls hd hz hp hW hS => W.zret (v := r) (ty := .boolean) hx hb hr hz (fun t ht hM => ⟨⟨r, x, rfl, hp, Wd.back hW ht.symm (fun _ z => z)⟩, hS.F ht⟩) hS.2.2 hd hlocks)  o x _ _ ls fo hw hW hS hl
set_option maxRecDepth 100000 in
set_option maxHeartbeats 4000000 in
set_option maxRecDepth 100000 in
theorem t_Scn_readDigits_106 {p : Program} {l : Launch} {e : Env} {R : Room} {s : State} {m : MethodId} {args : Array Value} {below : List Frame} {meth : Method} {c : Code} {cells slots : Nat} {Q : State → Prop} {dC : Nat → ClassId} {dI : Nat → Nat → Nat} {cI cB cJ cZ : ClassId} {A : Nat → Prop} {ad : Nat → Nat} {NN : Nat} {E : Heap} {tM tC : Nat} {kK kV : Nat → Nat} {post : Int32 → St → Prop} (hx : p.tables.exec = Jvm.exec) (hb : c.code = b_Scn_readDigits) (hml : c.maxLocals = 3) (hown : s.vm.findClass R_Scn = some m.cls) (hT : ∀ w ∈ TG, w.before args s = true) (hK : va_K (dC, dI) CL (TY cI cB cJ cZ) s) (hN : NW s) (hA : ∀ q : Nat, s.heap.size ≤ q → A q) (hRc : cells ≤ R.cells) (hRs : slots ≤ R.slots) (hRf : 1 ≤ R.frames) (hRl : 20 ≤ R.locals) (hNN : 152 ≤ NN) (hE : CE E tM tC kK kV A s) (hret : ∀ (r : Int32) (x : St) (H : Heap) (locs : List Loc) (pc : Nat) (ls : Array Slot), decode b_Scn_readDigits pc = .ok (.ireturn, 1) → narrow .boolean (.int r) = .int r → post r x → Wd dC dI cI cB cJ cZ ad stC kcC NN A x H → va_S A s.heap H locs → W p l e R s m args below meth c H locs cells slots Q (F0 m pc ls [.int r]))  : ∀ (o : Nat) (l1 : Int32) (x : St) (H : Heap) (locs : List Loc) (ls : Array Slot), (o < NN ∧ kcC o = 2) → j_Scn_readDigits_106 post o l1 x → Wd dC dI cI cB cJ cZ ad stC kcC NN A x H → va_S A s.heap H locs → lv_has ls 3 [(0, .ref (ad o)), (1, .int l1)] → W p l e R s m args below meth c H locs cells slots Q (F0 m 106 ls []) := by
  intro o l1 x H locs ls fo hw hW hS hl
  unfold j_Scn_readDigits_106 at hw
  refine lv_iload_n hx hb d_Scn_readDigits_106 rfl (lv_at hl 1 rfl) ?_
  exact hret l1 x H locs 107 ls d_Scn_readDigits_107 hw.1 hw.2 hW hS
set_option maxRecDepth 100000 in
set_option maxHeartbeats 4000000 in
set_option maxRecDepth 100000 in
theorem t_Scn_readDigits_93 {p : Program} {l : Launch} {e : Env} {R : Room} {s : State} {m : MethodId} {args : Array Value} {below : List Frame} {meth : Method} {c : Code} {cells slots : Nat} {Q : State → Prop} {dC : Nat → ClassId} {dI : Nat → Nat → Nat} {cI cB cJ cZ : ClassId} {A : Nat → Prop} {ad : Nat → Nat} {NN : Nat} {E : Heap} {tM tC : Nat} {kK kV : Nat → Nat} {post : Int32 → St → Prop} {rec7 : Nat → Int32 → St → Prop} (hx : p.tables.exec = Jvm.exec) (hb : c.code = b_Scn_readDigits) (hml : c.maxLocals = 3) (hown : s.vm.findClass R_Scn = some m.cls) (hT : ∀ w ∈ TG, w.before args s = true) (hK : va_K (dC, dI) CL (TY cI cB cJ cZ) s) (hN : NW s) (hA : ∀ q : Nat, s.heap.size ≤ q → A q) (hRc : cells ≤ R.cells) (hRs : slots ≤ R.slots) (hRf : 1 ≤ R.frames) (hRl : 20 ≤ R.locals) (hNN : 152 ≤ NN) (hE : CE E tM tC kK kV A s) (hret : ∀ (r : Int32) (x : St) (H : Heap) (locs : List Loc) (pc : Nat) (ls : Array Slot), decode b_Scn_readDigits pc = .ok (.ireturn, 1) → narrow .boolean (.int r) = .int r → post r x → Wd dC dI cI cB cJ cZ ad stC kcC NN A x H → va_S A s.heap H locs → W p l e R s m args below meth c H locs cells slots Q (F0 m pc ls [.int r])) (hrec7 : ∀ (o : Nat) (l1 : Int32) (x : St) (H : Heap) (locs : List Loc) (ls : Array Slot), (o < NN ∧ kcC o = 2) → rec7 o l1 x → Wd dC dI cI cB cJ cZ ad stC kcC NN A x H → va_S A s.heap H locs → lv_has ls 3 [(0, .ref (ad o)), (1, .int l1)] → W p l e R s m args below meth c H locs cells slots Q (F0 m 7 ls [])) : ∀ (o : Nat) (l1 : Int32) (l2 : Int32) (x : St) (H : Heap) (locs : List Loc) (ls : Array Slot), (o < NN ∧ kcC o = 2) → j_Scn_readDigits_93 post rec7 o l1 l2 x → Wd dC dI cI cB cJ cZ ad stC kcC NN A x H → va_S A s.heap H locs → lv_has ls 3 [(0, .ref (ad o)), (1, .int l1), (2, .int l2)] → W p l e R s m args below meth c H locs cells slots Q (F0 m 93 ls []) := by
  intro o l1 l2 x H locs ls fo hw hW hS hl
  unfold j_Scn_readDigits_93 at hw
  refine lv_aload_n hx hb d_Scn_readDigits_93 rfl (lv_at hl 0 rfl) ?_
  refine lv_dup hx hb d_Scn_readDigits_94 rfl ?_
  refine w_geti (k := 2) (t := 2) (C := R_Scn) (T := F_Scn) (N := 8) hx hb hT hown hK hW fo.1 fo.2 (by decide) in_Scn rfl rfl (by decide) rfl fr_Scn_2 w_1_85 d_Scn_readDigits_95 ?_
  refine lv_iconst (v := 1) hx hb d_Scn_readDigits_98 (by decide) ?_
  refine lv_iadd hx hb d_Scn_readDigits_99 ?_
  refine w_puti (ty := .int) (k := 2) (t := 2) (C := R_Scn) (T := F_Scn) (N := 8) hx hb hT hown hK hW hS fo.1 fo.2 (by decide) in_Scn t_Scn t_Scn_ok n_Scn rfl rfl (by decide) rfl fr_Scn_2 w_1_85 (by decide +kernel) rfl rfl d_Scn_readDigits_100 (fun H locs hW hS => ?_)
  obtain ⟨x1, ex1⟩ : ∃ y : St, y = setI x o 2 ((fI x o 2) + 1) := ⟨_, rfl⟩
  rw [← ex1] at hW
  have hw := hw x1 ex1
  refine lv_goto (tgt := 7) hx hb d_Scn_readDigits_103 (by decide) ?_
  exact hrec7 o l1 x1 H locs ls fo hw hW hS (lv_sub hl [0, 1] rfl)
set_option maxRecDepth 100000 in
set_option maxHeartbeats 4000000 in
set_option maxRecDepth 100000 in
theorem t_Scn_readDigits_73 {p : Program} {l : Launch} {e : Env} {R : Room} {s : State} {m : MethodId} {args : Array Value} {below : List Frame} {meth : Method} {c : Code} {cells slots : Nat} {Q : State → Prop} {dC : Nat → ClassId} {dI : Nat → Nat → Nat} {cI cB cJ cZ : ClassId} {A : Nat → Prop} {ad : Nat → Nat} {NN : Nat} {E : Heap} {tM tC : Nat} {kK kV : Nat → Nat} {post : Int32 → St → Prop} {rec7 : Nat → Int32 → St → Prop} (hx : p.tables.exec = Jvm.exec) (hb : c.code = b_Scn_readDigits) (hml : c.maxLocals = 3) (hown : s.vm.findClass R_Scn = some m.cls) (hT : ∀ w ∈ TG, w.before args s = true) (hK : va_K (dC, dI) CL (TY cI cB cJ cZ) s) (hN : NW s) (hA : ∀ q : Nat, s.heap.size ≤ q → A q) (hRc : cells ≤ R.cells) (hRs : slots ≤ R.slots) (hRf : 1 ≤ R.frames) (hRl : 20 ≤ R.locals) (hNN : 152 ≤ NN) (hE : CE E tM tC kK kV A s) (hret : ∀ (r : Int32) (x : St) (H : Heap) (locs : List Loc) (pc : Nat) (ls : Array Slot), decode b_Scn_readDigits pc = .ok (.ireturn, 1) → narrow .boolean (.int r) = .int r → post r x → Wd dC dI cI cB cJ cZ ad stC kcC NN A x H → va_S A s.heap H locs → W p l e R s m args below meth c H locs cells slots Q (F0 m pc ls [.int r])) (hrec7 : ∀ (o : Nat) (l1 : Int32) (x : St) (H : Heap) (locs : List Loc) (ls : Array Slot), (o < NN ∧ kcC o = 2) → rec7 o l1 x → Wd dC dI cI cB cJ cZ ad stC kcC NN A x H → va_S A s.heap H locs → lv_has ls 3 [(0, .ref (ad o)), (1, .int l1)] → W p l e R s m args below meth c H locs cells slots Q (F0 m 7 ls [])) : ∀ (o : Nat) (l1 : Int32) (l2 : Int32) (s0 : Int32) (x : St) (H : Heap) (locs : List Loc) (ls : Array Slot), (o < NN ∧ kcC o = 2) → j_Scn_readDigits_73 post rec7 o l1 l2 s0 x → Wd dC dI cI cB cJ cZ ad stC kcC NN A x H → va_S A s.heap H locs → lv_has ls 3 [(0, .ref (ad o)), (1, .int l1), (2, .int l2)] → W p l e R s m args below meth c H locs cells slots Q (F0 m 73 ls [.int s0]) := by
  intro o l1 l2 s0 x H locs ls fo hw hW hS hl
  unfold j_Scn_readDigits_73 at hw
  refine lv_istore_n (lv' := [(1, .int s0), (0, .ref (ad o)), (2, .int l2)]) hx hb d_Scn_readDigits_73 rfl hl (by decide) rfl (fun ls hl => ?_)
  refine lv_iload_n hx hb d_Scn_readDigits_74 rfl (lv_at hl 0 rfl) ?_
  refine lv_if_eq (tgt := 93) hx hb d_Scn_readDigits_75 (by decide) (fun c2 => ?_) (fun c2 => ?_)
  · have hw := hw.1 c2
    exact t_Scn_readDigits_93 hx hb hml hown hT hK hN hA hRc hRs hRf hRl hNN hE hret hrec7 o s0 l2 x H locs ls fo hw hW hS (lv_sub hl [1, 0, 2] rfl)
  · have hw := hw.2 c2
    refine lv_aload_n hx hb d_Scn_readDigits_78 rfl (lv_at hl 1 rfl) ?_
    refine lv_aload_n hx hb d_Scn_readDigits_79 rfl (lv_at hl 1 rfl) ?_
    refine w_getj (k := 6) (t := 2) (C := R_Scn) (T := F_Scn) (N := 8) hx hb hT hown hK hW fo.1 fo.2 (by decide) in_Scn rfl rfl (by decide) rfl fr_Scn_6 w_1_102 d_Scn_readDigits_80 ?_
    refine lv_ldc2 hx hb hown (hT _ w_5_104) d_Scn_readDigits_83 ?_
    refine lv_lmul hx hb d_Scn_readDigits_86 ?_
    refine lv_iload_n hx hb d_Scn_readDigits_87 rfl (lv_at hl 2 rfl) ?_
    refine lv_i2l hx hb d_Scn_readDigits_88 rfl ?_
    refine lv_lsub hx hb d_Scn_readDigits_89 ?_
    refine w_putj (k := 6) (t := 2) (C := R_Scn) (T := F_Scn) (N := 8) hx hb hT hown hK hW hS fo.1 fo.2 (by decide) in_Scn t_Scn t_Scn_ok n_Scn rfl rfl (by decide) rfl fr_Scn_6 w_1_102 (by decide +kernel) d_Scn_readDigits_90 (fun H locs hW hS => ?_)
    obtain ⟨x3, ex3⟩ : ∃ y : St, y = setJ x o 6 (((fJ x o 6) * 10) - (l2 : Int32).toInt64) := ⟨_, rfl⟩
    rw [← ex3] at hW
    have hw := hw x3 ex3
    exact t_Scn_readDigits_93 hx hb hml hown hT hK hN hA hRc hRs hRf hRl hNN hE hret hrec7 o s0 l2 x3 H locs ls fo hw hW hS (lv_sub hl [1, 0, 2] rfl)
set_option maxRecDepth 100000 in
set_option maxHeartbeats 4000000 in
set_option maxRecDepth 100000 in
theorem t_Scn_readDigits_72 {p : Program} {l : Launch} {e : Env} {R : Room} {s : State} {m : MethodId} {args : Array Value} {below : List Frame} {meth : Method} {c : Code} {cells slots : Nat} {Q : State → Prop} {dC : Nat → ClassId} {dI : Nat → Nat → Nat} {cI cB cJ cZ : ClassId} {A : Nat → Prop} {ad : Nat → Nat} {NN : Nat} {E : Heap} {tM tC : Nat} {kK kV : Nat → Nat} {post : Int32 → St → Prop} {rec7 : Nat → Int32 → St → Prop} (hx : p.tables.exec = Jvm.exec) (hb : c.code = b_Scn_readDigits) (hml : c.maxLocals = 3) (hown : s.vm.findClass R_Scn = some m.cls) (hT : ∀ w ∈ TG, w.before args s = true) (hK : va_K (dC, dI) CL (TY cI cB cJ cZ) s) (hN : NW s) (hA : ∀ q : Nat, s.heap.size ≤ q → A q) (hRc : cells ≤ R.cells) (hRs : slots ≤ R.slots) (hRf : 1 ≤ R.frames) (hRl : 20 ≤ R.locals) (hNN : 152 ≤ NN) (hE : CE E tM tC kK kV A s) (hret : ∀ (r : Int32) (x : St) (H : Heap) (locs : List Loc) (pc : Nat) (ls : Array Slot), decode b_Scn_readDigits pc = .ok (.ireturn, 1) → narrow .boolean (.int r) = .int r → post r x → Wd dC dI cI cB cJ cZ ad stC kcC NN A x H → va_S A s.heap H locs → W p l e R s m args below meth c H locs cells slots Q (F0 m pc ls [.int r])) (hrec7 : ∀ (o : Nat) (l1 : Int32) (x : St) (H : Heap) (locs : List Loc) (ls : Array Slot), (o < NN ∧ kcC o = 2) → rec7 o l1 x → Wd dC dI cI cB cJ cZ ad stC kcC NN A x H → va_S A s.heap H locs → lv_has ls 3 [(0, .ref (ad o)), (1, .int l1)] → W p l e R s m args below meth c H locs cells slots Q (F0 m 7 ls [])) : ∀ (o : Nat) (l1 : Int32) (l2 : Int32) (x : St) (H : Heap) (locs : List Loc) (ls : Array Slot), (o < NN ∧ kcC o = 2) → j_Scn_readDigits_72 post rec7 o l1 l2 x → Wd dC dI cI cB cJ cZ ad stC kcC NN A x H → va_S A s.heap H locs → lv_has ls 3 [(0, .ref (ad o)), (1, .int l1), (2, .int l2)] → W p l e R s m args below meth c H locs cells slots Q (F0 m 72 ls []) := by
  intro o l1 l2 x H locs ls fo hw hW hS hl
  unfold j_Scn_readDigits_72 at hw
  refine lv_iconst (v := 0) hx hb d_Scn_readDigits_72 (by decide) ?_
  exact t_Scn_readDigits_73 hx hb hml hown hT hK hN hA hRc hRs hRf hRl hNN hE hret hrec7 o l1 l2 0 x H locs ls fo hw hW hS (lv_sub hl [0, 1, 2] rfl)
set_option maxRecDepth 100000 in
set_option maxHeartbeats 4000000 in
set_option maxRecDepth 100000 in
theorem t_Scn_readDigits_7 {p : Program} {l : Launch} {e : Env} {R : Room} {s : State} {m : MethodId} {args : Array Value} {below : List Frame} {meth : Method} {c : Code} {cells slots : Nat} {Q : State → Prop} {dC : Nat → ClassId} {dI : Nat → Nat → Nat} {cI cB cJ cZ : ClassId} {A : Nat → Prop} {ad : Nat → Nat} {NN : Nat} {E : Heap} {tM tC : Nat} {kK kV : Nat → Nat} {post : Int32 → St → Prop} {rec7 : Nat → Int32 → St → Prop} (hx : p.tables.exec = Jvm.exec) (hb : c.code = b_Scn_readDigits) (hml : c.maxLocals = 3) (hown : s.vm.findClass R_Scn = some m.cls) (hT : ∀ w ∈ TG, w.before args s = true) (hK : va_K (dC, dI) CL (TY cI cB cJ cZ) s) (hN : NW s) (hA : ∀ q : Nat, s.heap.size ≤ q → A q) (hRc : cells ≤ R.cells) (hRs : slots ≤ R.slots) (hRf : 1 ≤ R.frames) (hRl : 20 ≤ R.locals) (hNN : 152 ≤ NN) (hE : CE E tM tC kK kV A s) (hret : ∀ (r : Int32) (x : St) (H : Heap) (locs : List Loc) (pc : Nat) (ls : Array Slot), decode b_Scn_readDigits pc = .ok (.ireturn, 1) → narrow .boolean (.int r) = .int r → post r x → Wd dC dI cI cB cJ cZ ad stC kcC NN A x H → va_S A s.heap H locs → W p l e R s m args below meth c H locs cells slots Q (F0 m pc ls [.int r])) (hrec7 : ∀ (o : Nat) (l1 : Int32) (x : St) (H : Heap) (locs : List Loc) (ls : Array Slot), (o < NN ∧ kcC o = 2) → rec7 o l1 x → Wd dC dI cI cB cJ cZ ad stC kcC NN A x H → va_S A s.heap H locs → lv_has ls 3 [(0, .ref (ad o)), (1, .int l1)] → W p l e R s m args below meth c H locs cells slots Q (F0 m 7 ls [])) : ∀ (o : Nat) (l1 : Int32) (x : St) (H : Heap) (locs : List Loc) (ls : Array Slot), (o < NN ∧ kcC o = 2) → j_Scn_readDigits_7 post rec7 o l1 x → Wd dC dI cI cB cJ cZ ad stC kcC NN A x H → va_S A s.heap H locs → lv_has ls 3 [(0, .ref (ad o)), (1, .int l1)] → W p l e R s m args below meth c H locs cells slots Q (F0 m 7 ls []) := by
  intro o l1 x H locs ls fo hw hW hS hl
  unfold j_Scn_readDigits_7 at hw
  refine lv_aload_n hx hb d_Scn_readDigits_7 rfl (lv_at hl 0 rfl) ?_
  refine w_geti (k := 2) (t := 2) (C := R_Scn) (T := F_Scn) (N := 8) hx hb hT hown hK hW fo.1 fo.2 (by decide) in_Scn rfl rfl (by decide) rfl fr_Scn_2 w_1_85 d_Scn_readDigits_8 ?_
  refine lv_aload_n hx hb d_Scn_readDigits_11 rfl (lv_at hl 0 rfl) ?_
  refine w_geti (k := 1) (t := 2) (C := R_Scn) (T := F_Scn) (N := 8) hx hb hT hown hK hW fo.1 fo.2 (by decide) in_Scn rfl rfl (by decide) rfl fr_Scn_1 w_1_81 d_Scn_readDigits_12 ?_
  refine lv_icmp_ge (tgt := 106) hx hb d_Scn_readDigits_15 (by decide) (fun c4 => ?_) (fun c4 => ?_)
  · have hw := hw.1 c4
    exact t_Scn_readDigits_106 hx hb hml hown hT hK hN hA hRc hRs hRf hRl hNN hE hret  o l1 x H locs ls fo hw hW hS (lv_sub hl [0, 1] rfl)
  · have hw := hw.2 c4
    refine lv_aload_n hx hb d_Scn_readDigits_18 rfl (lv_at hl 0 rfl) ?_
    obtain ⟨q5, hq5, hw⟩ := hw
    refine w_getr (q := q5) (k := 0) (t := 2) (C := R_Scn) (T := F_Scn) (N := 8) hx hb hT hown hK hW fo.1 fo.2 (by decide) in_Scn rfl rfl (by decide) rfl fr_Scn_0 w_1_77 d_Scn_readDigits_19 hq5 (fun aq5 bq5 => ?_)
    have fq5 : q5 < NN ∧ kcC q5 = 21 := ⟨aq5, bq5⟩
    refine lv_aload_n hx hb d_Scn_readDigits_22 rfl (lv_at hl 0 rfl) ?_
    refine w_geti (k := 2) (t := 2) (C := R_Scn) (T := F_Scn) (N := 8) hx hb hT hown hK hW fo.1 fo.2 (by decide) in_Scn rfl rfl (by decide) rfl fr_Scn_2 w_1_85 d_Scn_readDigits_23 ?_
    obtain ⟨hi, hw⟩ := hw
    refine w_bald (o := q5) hx hb hK hW fq5.1 fq5.2 hi d_Scn_readDigits_26 ?_
    have hF := hW.free hS hA
    refine va_calli (va_runSN (As := [.int (rA x q5 (fI x o 2))]) (rest := []) ⟨hx, hb, hml, hown, hT⟩ (k_V_isDigit l dC dI cI cB cJ cZ ad NN E tM tC kK kV hNN H.size (rA x q5 (fI x o 2)) x  hw) ⟨va_cnB 1 hT (gwt_in w_5_94) rfl rfl rfl (hN _ wn_5_92 rfl) (hT _ w_1_1) (by decide +kernel) ⟨Nat.le_trans (Nat.le_of_ble_eq_true rfl) hRf, Nat.le_trans (Nat.le_of_ble_eq_true rfl) hRl⟩, hT _ w_5_93, trivial⟩ ⟨PVc.blind, PVc.at _ hW hK hN hE hS hF⟩ rfl rfl hl.1 rfl (lv_room (Nat.le_of_ble_eq_true rfl)) d_Scn_readDigits_27 ⟨hRc, hRs⟩) hS (fun q _ h => hF q h) hF (fun r7 x6 t H locs ht hvm hw hB hz1 hk1 hS => ?_)
    have hW := Wd.back hB ht hF
    clear hB ht hF hz1 hk1 hvm
    refine lv_if_eq (tgt := 106) hx hb d_Scn_readDigits_30 (by decide) (fun c8 => ?_) (fun c8 => ?_)
    · have hw := hw.1 c8
      exact t_Scn_readDigits_106 hx hb hml hown hT hK hN hA hRc hRs hRf hRl hNN hE hret  o l1 x6 H locs ls fo hw hW hS (lv_sub hl [0, 1] rfl)
    · have hw := hw.2 c8
      refine lv_aload_n hx hb d_Scn_readDigits_33 rfl (lv_at hl 0 rfl) ?_
      obtain ⟨q9, hq9, hw⟩ := hw
      refine w_getr (q := q9) (k := 0) (t := 2) (C := R_Scn) (T := F_Scn) (N := 8) hx hb hT hown hK hW fo.1 fo.2 (by decide) in_Scn rfl rfl (by decide) rfl fr_Scn_0 w_1_77 d_Scn_readDigits_34 hq9 (fun aq9 bq9 => ?_)
      have fq9 : q9 < NN ∧ kcC q9 = 21 := ⟨aq9, bq9⟩
      refine lv_aload_n hx hb d_Scn_readDigits_37 rfl (lv_at hl 0 rfl) ?_
      refine w_geti (k := 2) (t := 2) (C := R_Scn) (T := F_Scn) (N := 8) hx hb hT hown hK hW fo.1 fo.2 (by decide) in_Scn rfl rfl (by decide) rfl fr_Scn_2 w_1_85 d_Scn_readDigits_38 ?_
      obtain ⟨hi, hw⟩ := hw
      refine w_bald (o := q9) hx hb hK hW fq9.1 fq9.2 hi d_Scn_readDigits_41 ?_
      refine lv_bipush (v := 48) hx hb d_Scn_readDigits_42 (by decide) ?_
      refine lv_isub hx hb d_Scn_readDigits_44 ?_
      refine lv_topi (fun v10 ev10 => ?_)
      have hw := hw v10 ev10
      refine lv_istore_n (lv' := [(2, .int v10), (0, .ref (ad o)), (1, .int l1)]) hx hb d_Scn_readDigits_45 rfl hl (by decide) rfl (fun ls hl => ?_)
      refine lv_iload_n hx hb d_Scn_readDigits_46 rfl (lv_at hl 2 rfl) ?_
      refine lv_if_eq (tgt := 72) hx hb d_Scn_readDigits_47 (by decide) (fun c11 => ?_) (fun c11 => ?_)
      · have hw := hw.1 c11
        exact t_Scn_readDigits_72 hx hb hml hown hT hK hN hA hRc hRs hRf hRl hNN hE hret hrec7 o l1 v10 x6 H locs ls fo hw hW hS (lv_sub hl [1, 2, 0] rfl)
      · have hw := hw.2 c11
        refine lv_aload_n hx hb d_Scn_readDigits_50 rfl (lv_at hl 1 rfl) ?_
        refine w_getj (k := 6) (t := 2) (C := R_Scn) (T := F_Scn) (N := 8) hx hb hT hown hK hW fo.1 fo.2 (by decide) in_Scn rfl rfl (by decide) rfl fr_Scn_6 w_1_102 d_Scn_readDigits_51 ?_
        refine lv_ldc2 hx hb hown (hT _ w_5_103) d_Scn_readDigits_54 ?_
        refine lv_iload_n hx hb d_Scn_readDigits_57 rfl (lv_at hl 0 rfl) ?_
        refine lv_i2l hx hb d_Scn_readDigits_58 rfl ?_
        refine lv_ladd hx hb d_Scn_readDigits_59 ?_
        refine lv_ldc2 hx hb hown (hT _ w_5_104) d_Scn_readDigits_60 ?_
        refine lv_ldiv hx hb d_Scn_readDigits_63 (by decide) ?_
        refine W.lcmp hx hb d_Scn_readDigits_64 ?_
        refine lv_if_lt (tgt := 72) hx hb d_Scn_readDigits_65 (by decide) (fun c12 => ?_) (fun c12 => ?_)
        · have hw := hw.1 c12
          exact t_Scn_readDigits_72 hx hb hml hown hT hK hN hA hRc hRs hRf hRl hNN hE hret hrec7 o l1 v10 x6 H locs ls fo hw hW hS (lv_sub hl [1, 2, 0] rfl)
        · have hw := hw.2 c12
          refine lv_iconst (v := 1) hx hb d_Scn_readDigits_68 (by decide) ?_
          refine lv_goto (tgt := 73) hx hb d_Scn_readDigits_69 (by decide) ?_
          exact t_Scn_readDigits_73 hx hb hml hown hT hK hN hA hRc hRs hRf hRl hNN hE hret hrec7 o l1 v10 1 x6 H locs ls fo hw hW hS (lv_sub hl [1, 2, 0] rfl)
set_option maxHeartbeats 4000000 in
set_option maxRecDepth 100000 in
theorem tl_Scn_readDigits_7 {p : Program} {l : Launch} {e : Env} {R : Room} {s : State} {m : MethodId} {args : Array Value} {below : List Frame} {meth : Method} {c : Code} {cells slots : Nat} {Q : State → Prop} {dC : Nat → ClassId} {dI : Nat → Nat → Nat} {cI cB cJ cZ : ClassId} {A : Nat → Prop} {ad : Nat → Nat} {NN : Nat} {E : Heap} {tM tC : Nat} {kK kV : Nat → Nat} {post : Int32 → St → Prop} (hx : p.tables.exec = Jvm.exec) (hb : c.code = b_Scn_readDigits) (hml : c.maxLocals = 3) (hown : s.vm.findClass R_Scn = some m.cls) (hT : ∀ w ∈ TG, w.before args s = true) (hK : va_K (dC, dI) CL (TY cI cB cJ cZ) s) (hN : NW s) (hA : ∀ q : Nat, s.heap.size ≤ q → A q) (hRc : cells ≤ R.cells) (hRs : slots ≤ R.slots) (hRf : 1 ≤ R.frames) (hRl : 20 ≤ R.locals) (hNN : 152 ≤ NN) (hE : CE E tM tC kK kV A s) (hret : ∀ (r : Int32) (x : St) (H : Heap) (locs : List Loc) (pc : Nat) (ls : Array Slot), decode b_Scn_readDigits pc = .ok (.ireturn, 1) → narrow .boolean (.int r) = .int r → post r x → Wd dC dI cI cB cJ cZ ad stC kcC NN A x H → va_S A s.heap H locs → W p l e R s m args below meth c H locs cells slots Q (F0 m pc ls [.int r]))  : ∀ n : Nat, ∀ (o : Nat) (l1 : Int32) (x : St) (H : Heap) (locs : List Loc) (ls : Array Slot), (o < NN ∧ kcC o = 2) → wl_Scn_readDigits_7 post n o l1 x → Wd dC dI cI cB cJ cZ ad stC kcC NN A x H → va_S A s.heap H locs → lv_has ls 3 [(0, .ref (ad o)), (1, .int l1)] → W p l e R s m args below meth c H locs cells slots Q (F0 m 7 ls []) := by
  intro n
  induction n with
  | zero => intro o l1 x H locs ls fo hw; exact hw.elim
  | succ n ih => intro o l1 x H locs ls fo hw hW hS hl; exact t_Scn_readDigits_7 hx hb hml hown hT hK hN hA hRc hRs hRf hRl hNN hE hret  ih o l1 x H locs ls fo hw hW hS hl
set_option maxRecDepth 100000 in
set_option maxHeartbeats 4000000 in
set_option maxRecDepth 100000 in
theorem t_Scn_readDigits_e {p : Program} {l : Launch} {e : Env} {R : Room} {s : State} {m : MethodId} {args : Array Value} {below : List Frame} {meth : Method} {c : Code} {cells slots : Nat} {Q : State → Prop} {dC : Nat → ClassId} {dI : Nat → Nat → Nat} {cI cB cJ cZ : ClassId} {A : Nat → Prop} {ad : Nat → Nat} {NN : Nat} {E : Heap} {tM tC : Nat} {kK kV : Nat → Nat} {post : Int32 → St → Prop} (hx : p.tables.exec = Jvm.exec) (hb : c.code = b_Scn_readDigits) (hml : c.maxLocals = 3) (hown : s.vm.findClass R_Scn = some m.cls) (hT : ∀ w ∈ TG, w.before args s = true) (hK : va_K (dC, dI) CL (TY cI cB cJ cZ) s) (hN : NW s) (hA : ∀ q : Nat, s.heap.size ≤ q → A q) (hRc : cells ≤ R.cells) (hRs : slots ≤ R.slots) (hRf : 1 ≤ R.frames) (hRl : 20 ≤ R.locals) (hNN : 152 ≤ NN) (hE : CE E tM tC kK kV A s) (hret : ∀ (r : Int32) (x : St) (H : Heap) (locs : List Loc) (pc : Nat) (ls : Array Slot), decode b_Scn_readDigits pc = .ok (.ireturn, 1) → narrow .boolean (.int r) = .int r → post r x → Wd dC dI cI cB cJ cZ ad stC kcC NN A x H → va_S A s.heap H locs → W p l e R s m args below meth c H locs cells slots Q (F0 m pc ls [.int r])) : ∀ (o : Nat) (x : St) (H : Heap) (locs : List Loc) (ls : Array Slot), (o < NN ∧ kcC o = 2) → wp_Scn_readDigits post o x → Wd dC dI cI cB cJ cZ ad stC kcC NN A x H → va_S A s.heap H locs → lv_has ls 3 [(0, .ref (ad o))] → W p l e R s m args below meth c H locs cells slots Q (F0 m 0 ls []) := by
  intro o x H locs ls fo hw hW hS hl
  unfold wp_Scn_readDigits at hw
  refine lv_iconst (v := 1) hx hb d_Scn_readDigits_0 (by decide) ?_
  refine lv_istore_n (lv' := [(1, .int 1), (0, .ref (ad o))]) hx hb d_Scn_readDigits_1 rfl hl (by decide) rfl (fun ls hl => ?_)
  refine lv_aload_n hx hb d_Scn_readDigits_2 rfl (lv_at hl 1 rfl) ?_
  refine lv_lconst (v := 0) hx hb d_Scn_readDigits_3 (by decide) ?_
  refine w_putj (k := 6) (t := 2) (C := R_Scn) (T := F_Scn) (N := 8) hx hb hT hown hK hW hS fo.1 fo.2 (by decide) in_Scn t_Scn t_Scn_ok n_Scn rfl rfl (by decide) rfl fr_Scn_6 w_1_102 (by decide +kernel) d_Scn_readDigits_4 (fun H locs hW hS => ?_)
  obtain ⟨x13, ex13⟩ : ∃ y : St, y = setJ x o 6 0 := ⟨_, rfl⟩
  rw [← ex13] at hW
  have hw := hw x13 ex13
  obtain ⟨n, hw⟩ := hw
  exact tl_Scn_readDigits_7 hx hb hml hown hT hK hN hA hRc hRs hRf hRl hNN hE hret  n o 1 x13 H locs ls fo hw hW hS (lv_sub hl [1, 0] rfl)
set_option maxHeartbeats 4000000 in
set_option maxRecDepth 100000 in
theorem k_Scn_readDigits (l : Launch) (dC : Nat → ClassId) (dI : Nat → Nat → Nat) (cI cB cJ cZ : ClassId) (ad : Nat → Nat) (NN : Nat) (E : Heap) (tM tC : Nat) (kK kV : Nat → Nat) (hNN : 152 ≤ NN) (sz : Nat) (o : Nat) (x : St) (fo : o < NN ∧ kcC o = 2) {post : Int32 → St → Prop} (hw : wp_Scn_readDigits post o x) : Met l y_Scn_readDigits (wsOf y_Scn_readDigits b_Scn_readDigits 3 (some (.boolean))) ({ frames := 1, cells := 0, slots := 0, locals := 20 }) (va_Pc [.ref (ad o)] (PVc dC dI cI cB cJ cZ ad stC kcC NN E tM tC kK kV sz x)) (va_Qi (fun (r : Int32) (y : St) => post r y) (fun y t => Wd dC dI cI cB cJ cZ ad stC kcC NN (va_A (pic ad stC kcC NN cI cB cJ cZ x) sz) y t.heap) (va_A (pic ad stC kcC NN cI cB cJ cZ x) sz)) 0 0 (va_A (pic ad stC kcC NN cI cB cJ cZ x) sz) := by
  refine Met.ofW (cc := b_Scn_readDigits) (maxL := 3) (ret := some (.boolean)) (by decide) rfl ?_
  intro p e s m args below meth c s₁ B hml hv
  obtain ⟨rfl, ⟨hsz, hW0, hK, hN⟩, hE⟩ := hv
  have hx := B.exec
  have hb := B.bytes
  have hr := B.returns
  have hts := atoms_spec B.pre
  have hT : ∀ w ∈ TG, w.before _ s = true := fun w h => hts w (List.mem_cons_of_mem _ h)
  have hown : s.vm.findClass R_Scn = some m.cls := findClass_of_methodNamed B.named
  have hlocks := B.notSynchronized
  subst hsz
  have hW : Wd dC dI cI cB cJ cZ ad stC kcC NN (va_A (pic ad stC kcC NN cI cB cJ cZ x) s.heap.size) x s.heap := ⟨hW0.1, hW0.2.1.self (sz := s.heap.size), hW0.2.2⟩
  generalize hAe : va_A (pic ad stC kcC NN cI cB cJ cZ x) s.heap.size = A at hW hE ⊢
  have hA : ∀ q : Nat, s.heap.size ≤ q → A q := fun q h => by rw [← hAe]; exact Or.inr h
  have hS : va_S A s.heap s.heap [] := va_S.rf
  have hl := lv_entry ([.ref (ad o)]) (n := 3) (Nat.le_of_ble_eq_true rfl)
  rw [lg_entry_eq]
  generalize (lg_sl ([.ref (ad o)]) ++ List.replicate (3 - (lg_sl ([.ref (ad o)])).length) Slot.unset).toArray = ls at hl ⊢
  have hl : lv_has ls 3 [(0, .ref (ad o))] := hl
  exact t_Scn_readDigits_e hx hb hml hown hT hK hN hA (Nat.le_refl 0) (Nat.le_refl 0) (Nat.le_refl 1) (Nat.le_refl 20) hNN hE (fun r x H locs pc ls hd hz hp hW hS => W.zret (v := r) (ty := .boolean) hx hb hr hz (fun t ht hM => ⟨⟨r, x, rfl, hp, Wd.back hW ht.symm (fun _ z => z)⟩, hS.F ht⟩) hS.2.2 hd hlocks)  o x _ _ ls fo hw hW hS hl
end
