theorem w_1_14 : (Jvm.Cond.initialized "StripedVault$Assembler") ∈ TG := tw_1 14 (by decide +kernel) (by decide +kernel)
theorem w_2_141 : (Jvm.Cond.fieldLink "StripedVault$Assembler" (171 : Nat) "StripedVault$Vault" "pool" "[B") ∈ TG := tw_2 141 (by decide +kernel) (by decide +kernel)
theorem w_3_221 : (Jvm.Cond.fieldLink "StripedVault$Assembler" (15 : Nat) "StripedVault$Assembler" "out" "LStripedVault$Sink;") ∈ TG := tw_3 221 (by decide +kernel) (by decide +kernel)
theorem w_7_114 : (Jvm.Cond.methodLink "StripedVault$Assembler" (147 : Nat) ({ cls := "StripedVault$Assembler", name := "writeWord", desc := "(Ljava/lang/String;)V" } : Jvm.MethodName)) ∈ TG := tw_7 114 (by decide +kernel) (by decide +kernel)
theorem w_7_116 : (Jvm.Cond.instanceMethod ({ cls := "StripedVault$Assembler", name := "writeWord", desc := "(Ljava/lang/String;)V" } : Jvm.MethodName)) ∈ TG := tw_7 116 (by decide +kernel) (by decide +kernel)
theorem w_7_117 : (Jvm.Cond.code ({ cls := "StripedVault$Assembler", name := "writeWord", desc := "(Ljava/lang/String;)V" } : Jvm.MethodName) prog_3_method_7_code (3 : Nat) (Option.none : Option Jvm.ClassFile.FieldType)) ∈ TG := tw_7 117 (by decide +kernel) (by decide +kernel)
theorem w_7_118 : (Jvm.Cond.methodLink "StripedVault$Assembler" (154 : Nat) ({ cls := "java/lang/String", name := "length", desc := "()I" } : Jvm.MethodName)) ∈ TG := tw_7 118 (by decide +kernel) (by decide +kernel)
theorem w_7_119 : (Jvm.Cond.methodLink "StripedVault$Assembler" (160 : Nat) ({ cls := "java/lang/String", name := "charAt", desc := "(I)C" } : Jvm.MethodName)) ∈ TG := tw_7 119 (by decide +kernel) (by decide +kernel)
theorem w_7_120 : (Jvm.Cond.methodLink "StripedVault$Assembler" (176 : Nat) ({ cls := "StripedVault$Assembler", name := "hexDigit", desc := "(I)I" } : Jvm.MethodName)) ∈ TG := tw_7 120 (by decide +kernel) (by decide +kernel)
theorem w_7_121 : (Jvm.Cond.static ({ cls := "StripedVault$Assembler", name := "hexDigit", desc := "(I)I" } : Jvm.MethodName)) ∈ TG := tw_7 121 (by decide +kernel) (by decide +kernel)
theorem w_7_122 : (Jvm.Cond.code ({ cls := "StripedVault$Assembler", name := "hexDigit", desc := "(I)I" } : Jvm.MethodName) prog_3_method_9_code (1 : Nat) (Option.some Jvm.ClassFile.FieldType.int)) ∈ TG := tw_7 122 (by decide +kernel) (by decide +kernel)
theorem w_7_129 : (Jvm.Cond.constantLong "StripedVault$Sink" (84 : Nat) (10 : Int64)) ∈ TG := tw_7 129 (by decide +kernel) (by decide +kernel)
theorem w_7_130 : (Jvm.Cond.methodLink "StripedVault$Sink" (86 : Nat) ({ cls := "java/lang/Math", name := "abs", desc := "(J)J" } : Jvm.MethodName)) ∈ TG := tw_7 130 (by decide +kernel) (by decide +kernel)
theorem w_7_131 : (Jvm.Cond.static ({ cls := "java/lang/Math", name := "abs", desc := "(J)J" } : Jvm.MethodName)) ∈ TG := tw_7 131 (by decide +kernel) (by decide +kernel)
theorem w_7_132 : (Jvm.Cond.code ({ cls := "java/lang/Math", name := "abs", desc := "(J)J" } : Jvm.MethodName) prog_17_method_61_code (2 : Nat) (Option.some Jvm.ClassFile.FieldType.long)) ∈ TG := tw_7 132 (by decide +kernel) (by decide +kernel)
theorem w_7_91 : (Jvm.Cond.methodLink "StripedVault$Assembler" (84 : Nat) ({ cls := "StripedVault$Sink", name := "put", desc := "(I)V" } : Jvm.MethodName)) ∈ TG := tw_7 91 (by decide +kernel) (by decide +kernel)
theorem wn_7_111 : (Jvm.Cond.methodLinkNest "StripedVault$Assembler" (164 : Nat) ({ cls := "StripedVault", name := "placeOf", desc := "(J)I" } : Jvm.MethodName) "StripedVault") ∈ lw_tbl := tb_7 _ (List.mem_of_getElem? (i := 111) (by decide +kernel))
theorem wn_7_112 : (Jvm.Cond.methodLinkNest "StripedVault$Assembler" (168 : Nat) ({ cls := "StripedVault", name := "sizeOf", desc := "(J)I" } : Jvm.MethodName) "StripedVault") ∈ lw_tbl := tb_7 _ (List.mem_of_getElem? (i := 112) (by decide +kernel))
theorem ws_67 : Cond.selects R_Asm y_Asm_writeWord y_Asm_writeWord ∈ TG := tw_s 67 (by decide +kernel) (by decide +kernel)
theorem d_Wrt_finish_101 : decode b_Wrt_finish 101 = .ok (.iconst 0, 1) := by decide +kernel
theorem d_Wrt_finish_102 : decode b_Wrt_finish 102 = .ok (.ireturn, 1) := by decide +kernel
theorem d_Wrt_finish_0 : decode b_Wrt_finish 0 = .ok (.aload_n 0, 1) := by decide +kernel
theorem d_Wrt_finish_1 : decode b_Wrt_finish 1 = .ok (.getfield 15, 3) := by decide +kernel
theorem d_Wrt_finish_4 : decode b_Wrt_finish 4 = .ok (.aload_n 0, 1) := by decide +kernel
theorem d_Wrt_finish_5 : decode b_Wrt_finish 5 = .ok (.getfield 21, 3) := by decide +kernel
theorem d_Wrt_finish_8 : decode b_Wrt_finish 8 = .ok (.getfield 123, 3) := by decide +kernel
theorem d_Wrt_finish_11 : decode b_Wrt_finish 11 = .ok (.iconst 0, 1) := by decide +kernel
theorem d_Wrt_finish_12 : decode b_Wrt_finish 12 = .ok (.aload_n 0, 1) := by decide +kernel
theorem d_Wrt_finish_13 : decode b_Wrt_finish 13 = .ok (.getfield 21, 3) := by decide +kernel
theorem d_Wrt_finish_16 : decode b_Wrt_finish 16 = .ok (.getfield 126, 3) := by decide +kernel
theorem d_Wrt_finish_19 : decode b_Wrt_finish 19 = .ok (.invokevirtual 88, 3) := by decide +kernel
theorem d_Wrt_finish_22 : decode b_Wrt_finish 22 = .ok (.aload_n 0, 1) := by decide +kernel
theorem d_Wrt_finish_23 : decode b_Wrt_finish 23 = .ok (.getfield 15, 3) := by decide +kernel
theorem d_Wrt_finish_26 : decode b_Wrt_finish 26 = .ok (.aload_n 0, 1) := by decide +kernel
theorem d_Wrt_finish_27 : decode b_Wrt_finish 27 = .ok (.getfield 21, 3) := by decide +kernel
theorem d_Wrt_finish_30 : decode b_Wrt_finish 30 = .ok (.getfield 126, 3) := by decide +kernel
theorem d_Wrt_finish_33 : decode b_Wrt_finish 33 = .ok (.i2l, 1) := by decide +kernel
theorem d_Wrt_finish_34 : decode b_Wrt_finish 34 = .ok (.iconst 4, 1) := by decide +kernel
theorem d_Wrt_finish_35 : decode b_Wrt_finish 35 = .ok (.invokevirtual 127, 3) := by decide +kernel
theorem d_Wrt_finish_38 : decode b_Wrt_finish 38 = .ok (.aload_n 0, 1) := by decide +kernel
theorem d_Wrt_finish_39 : decode b_Wrt_finish 39 = .ok (.getfield 15, 3) := by decide +kernel
theorem d_Wrt_finish_42 : decode b_Wrt_finish 42 = .ok (.aload_n 0, 1) := by decide +kernel
theorem d_Wrt_finish_43 : decode b_Wrt_finish 43 = .ok (.getfield 21, 3) := by decide +kernel
theorem d_Wrt_finish_46 : decode b_Wrt_finish 46 = .ok (.getfield 123, 3) := by decide +kernel
theorem d_Wrt_finish_49 : decode b_Wrt_finish 49 = .ok (.iconst 0, 1) := by decide +kernel
theorem d_Wrt_finish_50 : decode b_Wrt_finish 50 = .ok (.aload_n 0, 1) := by decide +kernel
theorem d_Wrt_finish_51 : decode b_Wrt_finish 51 = .ok (.getfield 21, 3) := by decide +kernel
theorem d_Wrt_finish_54 : decode b_Wrt_finish 54 = .ok (.getfield 126, 3) := by decide +kernel
theorem d_Wrt_finish_57 : decode b_Wrt_finish 57 = .ok (.invokestatic 131, 3) := by decide +kernel
theorem d_Wrt_finish_60 : decode b_Wrt_finish 60 = .ok (.i2l, 1) := by decide +kernel
theorem d_Wrt_finish_61 : decode b_Wrt_finish 61 = .ok (.iconst 4, 1) := by decide +kernel
theorem d_Wrt_finish_62 : decode b_Wrt_finish 62 = .ok (.invokevirtual 127, 3) := by decide +kernel
theorem d_Wrt_finish_65 : decode b_Wrt_finish 65 = .ok (.aload_n 0, 1) := by decide +kernel
theorem d_Wrt_finish_66 : decode b_Wrt_finish 66 = .ok (.getfield 15, 3) := by decide +kernel
theorem d_Wrt_finish_69 : decode b_Wrt_finish 69 = .ok (.getstatic 84, 3) := by decide +kernel
theorem d_Wrt_finish_72 : decode b_Wrt_finish 72 = .ok (.iconst 0, 1) := by decide +kernel
theorem d_Wrt_finish_73 : decode b_Wrt_finish 73 = .ok (.iconst 4, 1) := by decide +kernel
theorem d_Wrt_finish_74 : decode b_Wrt_finish 74 = .ok (.invokevirtual 88, 3) := by decide +kernel
theorem d_Wrt_finish_77 : decode b_Wrt_finish 77 = .ok (.aload_n 0, 1) := by decide +kernel
theorem d_Wrt_finish_78 : decode b_Wrt_finish 78 = .ok (.getfield 15, 3) := by decide +kernel
theorem d_Wrt_finish_81 : decode b_Wrt_finish 81 = .ok (.getfield 135, 3) := by decide +kernel
theorem d_Wrt_finish_84 : decode b_Wrt_finish 84 = .ok (.ifCond .ne 17, 3) := by decide +kernel
theorem d_Wrt_finish_87 : decode b_Wrt_finish 87 = .ok (.aload_n 0, 1) := by decide +kernel
theorem d_Wrt_finish_88 : decode b_Wrt_finish 88 = .ok (.getfield 21, 3) := by decide +kernel
theorem d_Wrt_finish_91 : decode b_Wrt_finish 91 = .ok (.getfield 135, 3) := by decide +kernel
theorem d_Wrt_finish_94 : decode b_Wrt_finish 94 = .ok (.ifCond .ne 7, 3) := by decide +kernel
theorem d_Wrt_finish_97 : decode b_Wrt_finish 97 = .ok (.iconst 1, 1) := by decide +kernel
theorem d_Wrt_finish_98 : decode b_Wrt_finish 98 = .ok (.goto 4, 3) := by decide +kernel
theorem d_Asm_writeWord_2 : decode b_Asm_writeWord 2 = .ok (.iload_n 2, 1) := by decide +kernel
theorem d_Asm_writeWord_3 : decode b_Asm_writeWord 3 = .ok (.aload_n 1, 1) := by decide +kernel
theorem d_Asm_writeWord_4 : decode b_Asm_writeWord 4 = .ok (.invokevirtual 154, 3) := by decide +kernel
theorem d_Asm_writeWord_7 : decode b_Asm_writeWord 7 = .ok (.if_icmp .ge 21, 3) := by decide +kernel
theorem d_Asm_writeWord_28 : decode b_Asm_writeWord 28 = .ok (.return_, 1) := by decide +kernel
theorem d_Asm_writeWord_10 : decode b_Asm_writeWord 10 = .ok (.aload_n 0, 1) := by decide +kernel
theorem d_Asm_writeWord_11 : decode b_Asm_writeWord 11 = .ok (.getfield 15, 3) := by decide +kernel
theorem d_Asm_writeWord_14 : decode b_Asm_writeWord 14 = .ok (.aload_n 1, 1) := by decide +kernel
theorem d_Asm_writeWord_15 : decode b_Asm_writeWord 15 = .ok (.iload_n 2, 1) := by decide +kernel
theorem d_Asm_writeWord_16 : decode b_Asm_writeWord 16 = .ok (.invokevirtual 160, 3) := by decide +kernel
theorem d_Asm_writeWord_19 : decode b_Asm_writeWord 19 = .ok (.invokevirtual 84, 3) := by decide +kernel
theorem d_Asm_writeWord_22 : decode b_Asm_writeWord 22 = .ok (.iinc 2 1, 3) := by decide +kernel
theorem d_Asm_writeWord_25 : decode b_Asm_writeWord 25 = .ok (.goto (-23), 3) := by decide +kernel
theorem d_Asm_writeWord_0 : decode b_Asm_writeWord 0 = .ok (.iconst 0, 1) := by decide +kernel
theorem d_Asm_writeWord_1 : decode b_Asm_writeWord 1 = .ok (.istore_n 2, 1) := by decide +kernel
theorem d_Asm_writeText_132 : decode b_Asm_writeText 132 = .ok (.iinc 5 1, 3) := by decide +kernel
theorem d_Asm_writeText_135 : decode b_Asm_writeText 135 = .ok (.goto (-110), 3) := by decide +kernel
theorem d_Asm_writeText_123 : decode b_Asm_writeText 123 = .ok (.aload_n 0, 1) := by decide +kernel
theorem d_Asm_writeText_124 : decode b_Asm_writeText 124 = .ok (.getfield 15, 3) := by decide +kernel
theorem d_Asm_writeText_127 : decode b_Asm_writeText 127 = .ok (.iload 6, 2) := by decide +kernel
theorem d_Asm_writeText_129 : decode b_Asm_writeText 129 = .ok (.invokevirtual 84, 3) := by decide +kernel
theorem d_Asm_writeText_114 : decode b_Asm_writeText 114 = .ok (.aload_n 0, 1) := by decide +kernel
theorem d_Asm_writeText_115 : decode b_Asm_writeText 115 = .ok (.getfield 15, 3) := by decide +kernel
theorem d_Asm_writeText_118 : decode b_Asm_writeText 118 = .ok (.bipush 92, 2) := by decide +kernel
theorem d_Asm_writeText_120 : decode b_Asm_writeText 120 = .ok (.invokevirtual 84, 3) := by decide +kernel
theorem d_Asm_writeText_62 : decode b_Asm_writeText 62 = .ok (.aload_n 0, 1) := by decide +kernel
theorem d_Asm_writeText_63 : decode b_Asm_writeText 63 = .ok (.ldc 174, 2) := by decide +kernel
theorem d_Asm_writeText_65 : decode b_Asm_writeText 65 = .ok (.invokevirtual 147, 3) := by decide +kernel
theorem d_Asm_writeText_68 : decode b_Asm_writeText 68 = .ok (.aload_n 0, 1) := by decide +kernel
theorem d_Asm_writeText_69 : decode b_Asm_writeText 69 = .ok (.getfield 15, 3) := by decide +kernel
theorem d_Asm_writeText_72 : decode b_Asm_writeText 72 = .ok (.iload 6, 2) := by decide +kernel
theorem d_Asm_writeText_74 : decode b_Asm_writeText 74 = .ok (.iconst 4, 1) := by decide +kernel
theorem d_Asm_writeText_75 : decode b_Asm_writeText 75 = .ok (.ishr, 1) := by decide +kernel
theorem d_Asm_writeText_76 : decode b_Asm_writeText 76 = .ok (.invokestatic 176, 3) := by decide +kernel
theorem d_Asm_writeText_79 : decode b_Asm_writeText 79 = .ok (.invokevirtual 84, 3) := by decide +kernel
theorem d_Asm_writeText_82 : decode b_Asm_writeText 82 = .ok (.aload_n 0, 1) := by decide +kernel
theorem d_Asm_writeText_83 : decode b_Asm_writeText 83 = .ok (.getfield 15, 3) := by decide +kernel
theorem d_Asm_writeText_86 : decode b_Asm_writeText 86 = .ok (.iload 6, 2) := by decide +kernel
theorem d_Asm_writeText_88 : decode b_Asm_writeText 88 = .ok (.bipush 15, 2) := by decide +kernel
theorem d_Asm_writeText_90 : decode b_Asm_writeText 90 = .ok (.iand, 1) := by decide +kernel
theorem d_Asm_writeText_91 : decode b_Asm_writeText 91 = .ok (.invokestatic 176, 3) := by decide +kernel
theorem d_Asm_writeText_94 : decode b_Asm_writeText 94 = .ok (.invokevirtual 84, 3) := by decide +kernel
theorem d_Asm_writeText_97 : decode b_Asm_writeText 97 = .ok (.goto 35, 3) := by decide +kernel
theorem d_Asm_writeText_25 : decode b_Asm_writeText 25 = .ok (.iload 5, 2) := by decide +kernel
theorem d_Asm_writeText_27 : decode b_Asm_writeText 27 = .ok (.iload 4, 2) := by decide +kernel
theorem d_Asm_writeText_29 : decode b_Asm_writeText 29 = .ok (.if_icmp .ge 109, 3) := by decide +kernel
theorem d_Asm_writeText_138 : decode b_Asm_writeText 138 = .ok (.aload_n 0, 1) := by decide +kernel
theorem d_Asm_writeText_139 : decode b_Asm_writeText 139 = .ok (.getfield 15, 3) := by decide +kernel
theorem d_Asm_writeText_142 : decode b_Asm_writeText 142 = .ok (.bipush 39, 2) := by decide +kernel
theorem d_Asm_writeText_144 : decode b_Asm_writeText 144 = .ok (.invokevirtual 84, 3) := by decide +kernel
theorem d_Asm_writeText_147 : decode b_Asm_writeText 147 = .ok (.return_, 1) := by decide +kernel
theorem d_Asm_writeText_32 : decode b_Asm_writeText 32 = .ok (.aload_n 0, 1) := by decide +kernel
theorem d_Asm_writeText_33 : decode b_Asm_writeText 33 = .ok (.getfield 28, 3) := by decide +kernel
theorem d_Asm_writeText_36 : decode b_Asm_writeText 36 = .ok (.getfield 171, 3) := by decide +kernel
theorem d_Asm_writeText_39 : decode b_Asm_writeText 39 = .ok (.iload 5, 2) := by decide +kernel
theorem d_Asm_writeText_41 : decode b_Asm_writeText 41 = .ok (.baload, 1) := by decide +kernel
theorem d_Asm_writeText_42 : decode b_Asm_writeText 42 = .ok (.sipush 255, 3) := by decide +kernel
theorem d_Asm_writeText_45 : decode b_Asm_writeText 45 = .ok (.iand, 1) := by decide +kernel
theorem d_Asm_writeText_46 : decode b_Asm_writeText 46 = .ok (.istore 6, 2) := by decide +kernel
theorem d_Asm_writeText_48 : decode b_Asm_writeText 48 = .ok (.iload 6, 2) := by decide +kernel
theorem d_Asm_writeText_50 : decode b_Asm_writeText 50 = .ok (.bipush 32, 2) := by decide +kernel
theorem d_Asm_writeText_52 : decode b_Asm_writeText 52 = .ok (.if_icmp .lt 10, 3) := by decide +kernel
theorem d_Asm_writeText_55 : decode b_Asm_writeText 55 = .ok (.iload 6, 2) := by decide +kernel
theorem d_Asm_writeText_57 : decode b_Asm_writeText 57 = .ok (.bipush 126, 2) := by decide +kernel
theorem d_Asm_writeText_59 : decode b_Asm_writeText 59 = .ok (.if_icmp .le 41, 3) := by decide +kernel
theorem d_Asm_writeText_100 : decode b_Asm_writeText 100 = .ok (.iload 6, 2) := by decide +kernel
theorem d_Asm_writeText_102 : decode b_Asm_writeText 102 = .ok (.bipush 39, 2) := by decide +kernel
theorem d_Asm_writeText_104 : decode b_Asm_writeText 104 = .ok (.if_icmp .eq 10, 3) := by decide +kernel
theorem d_Asm_writeText_107 : decode b_Asm_writeText 107 = .ok (.iload 6, 2) := by decide +kernel
theorem d_Asm_writeText_109 : decode b_Asm_writeText 109 = .ok (.bipush 92, 2) := by decide +kernel
theorem d_Asm_writeText_111 : decode b_Asm_writeText 111 = .ok (.if_icmp .ne 12, 3) := by decide +kernel
theorem d_Asm_writeText_0 : decode b_Asm_writeText 0 = .ok (.lload_n 1, 1) := by decide +kernel
theorem d_Asm_writeText_1 : decode b_Asm_writeText 1 = .ok (.invokestatic 164, 3) := by decide +kernel
theorem d_Asm_writeText_4 : decode b_Asm_writeText 4 = .ok (.istore_n 3, 1) := by decide +kernel
theorem d_Asm_writeText_5 : decode b_Asm_writeText 5 = .ok (.iload_n 3, 1) := by decide +kernel
theorem d_Asm_writeText_6 : decode b_Asm_writeText 6 = .ok (.lload_n 1, 1) := by decide +kernel
theorem d_Asm_writeText_7 : decode b_Asm_writeText 7 = .ok (.invokestatic 168, 3) := by decide +kernel
theorem d_Asm_writeText_10 : decode b_Asm_writeText 10 = .ok (.iadd, 1) := by decide +kernel
theorem d_Asm_writeText_11 : decode b_Asm_writeText 11 = .ok (.istore 4, 2) := by decide +kernel
theorem d_Asm_writeText_13 : decode b_Asm_writeText 13 = .ok (.aload_n 0, 1) := by decide +kernel
theorem d_Asm_writeText_14 : decode b_Asm_writeText 14 = .ok (.getfield 15, 3) := by decide +kernel
theorem d_Asm_writeText_17 : decode b_Asm_writeText 17 = .ok (.bipush 39, 2) := by decide +kernel
theorem d_Asm_writeText_19 : decode b_Asm_writeText 19 = .ok (.invokevirtual 84, 3) := by decide +kernel
theorem d_Asm_writeText_22 : decode b_Asm_writeText 22 = .ok (.iload_n 3, 1) := by decide +kernel
theorem d_Asm_writeText_23 : decode b_Asm_writeText 23 = .ok (.istore 5, 2) := by decide +kernel
theorem d_Snk_putDecimal_84 : decode b_Snk_putDecimal 84 = .ok (.iload 6, 2) := by decide +kernel
theorem d_Snk_putDecimal_86 : decode b_Snk_putDecimal 86 = .ok (.iload 7, 2) := by decide +kernel
theorem d_Snk_putDecimal_88 : decode b_Snk_putDecimal 88 = .ok (.if_icmp .ge 44, 3) := by decide +kernel
theorem d_Snk_putDecimal_132 : decode b_Snk_putDecimal 132 = .ok (.return_, 1) := by decide +kernel
theorem d_Snk_putDecimal_91 : decode b_Snk_putDecimal 91 = .ok (.aload_n 0, 1) := by decide +kernel
theorem d_Snk_putDecimal_92 : decode b_Snk_putDecimal 92 = .ok (.getfield 25, 3) := by decide +kernel
theorem d_Snk_putDecimal_95 : decode b_Snk_putDecimal 95 = .ok (.iload 6, 2) := by decide +kernel
theorem d_Snk_putDecimal_97 : decode b_Snk_putDecimal 97 = .ok (.baload, 1) := by decide +kernel
theorem d_Snk_putDecimal_98 : decode b_Snk_putDecimal 98 = .ok (.istore 8, 2) := by decide +kernel
theorem d_Snk_putDecimal_100 : decode b_Snk_putDecimal 100 = .ok (.aload_n 0, 1) := by decide +kernel
theorem d_Snk_putDecimal_101 : decode b_Snk_putDecimal 101 = .ok (.getfield 25, 3) := by decide +kernel
theorem d_Snk_putDecimal_104 : decode b_Snk_putDecimal 104 = .ok (.iload 6, 2) := by decide +kernel
theorem d_Snk_putDecimal_106 : decode b_Snk_putDecimal 106 = .ok (.aload_n 0, 1) := by decide +kernel
theorem d_Snk_putDecimal_107 : decode b_Snk_putDecimal 107 = .ok (.getfield 25, 3) := by decide +kernel
theorem d_Snk_putDecimal_110 : decode b_Snk_putDecimal 110 = .ok (.iload 7, 2) := by decide +kernel
theorem d_Snk_putDecimal_112 : decode b_Snk_putDecimal 112 = .ok (.baload, 1) := by decide +kernel
theorem d_Snk_putDecimal_113 : decode b_Snk_putDecimal 113 = .ok (.bastore, 1) := by decide +kernel
theorem d_Snk_putDecimal_114 : decode b_Snk_putDecimal 114 = .ok (.aload_n 0, 1) := by decide +kernel
theorem d_Snk_putDecimal_115 : decode b_Snk_putDecimal 115 = .ok (.getfield 25, 3) := by decide +kernel
theorem d_Snk_putDecimal_118 : decode b_Snk_putDecimal 118 = .ok (.iload 7, 2) := by decide +kernel
theorem d_Snk_putDecimal_120 : decode b_Snk_putDecimal 120 = .ok (.iload 8, 2) := by decide +kernel
theorem d_Snk_putDecimal_122 : decode b_Snk_putDecimal 122 = .ok (.bastore, 1) := by decide +kernel
theorem d_Snk_putDecimal_123 : decode b_Snk_putDecimal 123 = .ok (.iinc 6 1, 3) := by decide +kernel
theorem d_Snk_putDecimal_126 : decode b_Snk_putDecimal 126 = .ok (.iinc 7 (-1), 3) := by decide +kernel
theorem d_Snk_putDecimal_129 : decode b_Snk_putDecimal 129 = .ok (.goto (-45), 3) := by decide +kernel
theorem d_Snk_putDecimal_73 : decode b_Snk_putDecimal 73 = .ok (.iload_n 3, 1) := by decide +kernel
theorem d_Snk_putDecimal_74 : decode b_Snk_putDecimal 74 = .ok (.istore 6, 2) := by decide +kernel
theorem d_Snk_putDecimal_76 : decode b_Snk_putDecimal 76 = .ok (.aload_n 0, 1) := by decide +kernel
theorem d_Snk_putDecimal_77 : decode b_Snk_putDecimal 77 = .ok (.getfield 29, 3) := by decide +kernel
theorem d_Snk_putDecimal_80 : decode b_Snk_putDecimal 80 = .ok (.iconst 1, 1) := by decide +kernel
theorem d_Snk_putDecimal_81 : decode b_Snk_putDecimal 81 = .ok (.isub, 1) := by decide +kernel
theorem d_Snk_putDecimal_82 : decode b_Snk_putDecimal 82 = .ok (.istore 7, 2) := by decide +kernel
theorem d_Snk_putDecimal_61 : decode b_Snk_putDecimal 61 = .ok (.lload_n 1, 1) := by decide +kernel
theorem d_Snk_putDecimal_62 : decode b_Snk_putDecimal 62 = .ok (.lconst 0, 1) := by decide +kernel
theorem d_Snk_putDecimal_63 : decode b_Snk_putDecimal 63 = .ok (.lcmp, 1) := by decide +kernel
theorem d_Snk_putDecimal_64 : decode b_Snk_putDecimal 64 = .ok (.ifCond .ge 9, 3) := by decide +kernel
theorem d_Snk_putDecimal_67 : decode b_Snk_putDecimal 67 = .ok (.aload_n 0, 1) := by decide +kernel
theorem d_Snk_putDecimal_68 : decode b_Snk_putDecimal 68 = .ok (.bipush 45, 2) := by decide +kernel
theorem d_Snk_putDecimal_70 : decode b_Snk_putDecimal 70 = .ok (.invokevirtual 57, 3) := by decide +kernel
theorem d_Snk_putDecimal_30 : decode b_Snk_putDecimal 30 = .ok (.aload_n 0, 1) := by decide +kernel
theorem d_Snk_putDecimal_31 : decode b_Snk_putDecimal 31 = .ok (.bipush 48, 2) := by decide +kernel
theorem d_Snk_putDecimal_33 : decode b_Snk_putDecimal 33 = .ok (.lload 4, 2) := by decide +kernel
theorem d_Snk_putDecimal_35 : decode b_Snk_putDecimal 35 = .ok (.ldc2_w 84, 3) := by decide +kernel
theorem d_Snk_putDecimal_38 : decode b_Snk_putDecimal 38 = .ok (.lrem, 1) := by decide +kernel
theorem d_Snk_putDecimal_39 : decode b_Snk_putDecimal 39 = .ok (.invokestatic 86, 3) := by decide +kernel
theorem d_Snk_putDecimal_42 : decode b_Snk_putDecimal 42 = .ok (.l2i, 1) := by decide +kernel
theorem d_Snk_putDecimal_43 : decode b_Snk_putDecimal 43 = .ok (.iadd, 1) := by decide +kernel
theorem d_Snk_putDecimal_44 : decode b_Snk_putDecimal 44 = .ok (.invokevirtual 57, 3) := by decide +kernel
theorem d_Snk_putDecimal_47 : decode b_Snk_putDecimal 47 = .ok (.lload 4, 2) := by decide +kernel
theorem d_Snk_putDecimal_49 : decode b_Snk_putDecimal 49 = .ok (.ldc2_w 84, 3) := by decide +kernel
theorem d_Snk_putDecimal_52 : decode b_Snk_putDecimal 52 = .ok (.ldiv, 1) := by decide +kernel
theorem d_Snk_putDecimal_53 : decode b_Snk_putDecimal 53 = .ok (.lstore 4, 2) := by decide +kernel
theorem d_Snk_putDecimal_55 : decode b_Snk_putDecimal 55 = .ok (.iinc 6 1, 3) := by decide +kernel
theorem d_Snk_putDecimal_58 : decode b_Snk_putDecimal 58 = .ok (.goto (-47), 3) := by decide +kernel
theorem d_Snk_putDecimal_11 : decode b_Snk_putDecimal 11 = .ok (.iload 6, 2) := by decide +kernel
theorem d_Snk_putDecimal_13 : decode b_Snk_putDecimal 13 = .ok (.bipush 20, 2) := by decide +kernel
theorem d_Snk_putDecimal_15 : decode b_Snk_putDecimal 15 = .ok (.if_icmp .ge 46, 3) := by decide +kernel
theorem d_Snk_putDecimal_18 : decode b_Snk_putDecimal 18 = .ok (.iload 6, 2) := by decide +kernel
theorem d_Snk_putDecimal_20 : decode b_Snk_putDecimal 20 = .ok (.ifCond .eq 10, 3) := by decide +kernel
theorem d_Snk_putDecimal_23 : decode b_Snk_putDecimal 23 = .ok (.lload 4, 2) := by decide +kernel
theorem d_Snk_putDecimal_25 : decode b_Snk_putDecimal 25 = .ok (.lconst 0, 1) := by decide +kernel
theorem d_Snk_putDecimal_26 : decode b_Snk_putDecimal 26 = .ok (.lcmp, 1) := by decide +kernel
theorem d_Snk_putDecimal_27 : decode b_Snk_putDecimal 27 = .ok (.ifCond .eq 34, 3) := by decide +kernel
theorem d_Snk_putDecimal_0 : decode b_Snk_putDecimal 0 = .ok (.aload_n 0, 1) := by decide +kernel
theorem d_Snk_putDecimal_1 : decode b_Snk_putDecimal 1 = .ok (.getfield 29, 3) := by decide +kernel
theorem d_Snk_putDecimal_4 : decode b_Snk_putDecimal 4 = .ok (.istore_n 3, 1) := by decide +kernel
theorem d_Snk_putDecimal_5 : decode b_Snk_putDecimal 5 = .ok (.lload_n 1, 1) := by decide +kernel
theorem d_Snk_putDecimal_6 : decode b_Snk_putDecimal 6 = .ok (.lstore 4, 2) := by decide +kernel
theorem d_Snk_putDecimal_8 : decode b_Snk_putDecimal 8 = .ok (.iconst 0, 1) := by decide +kernel
theorem d_Snk_putDecimal_9 : decode b_Snk_putDecimal 9 = .ok (.istore 6, 2) := by decide +kernel
section
variable (l : Launch) (dC : Nat → ClassId) (dI : Nat → Nat → Nat) (cI cB cJ cZ : ClassId)
set_option maxRecDepth 100000 in
def j_Wrt_finish_101 (post : Int32 → St → Prop) (o : Nat) (kb : Nat) (nb : Nat) (x : St) : Prop := post 0 x
set_option maxHeartbeats 4000000 in
set_option maxRecDepth 100000 in
theorem t_Wrt_finish_101 {p : Program} {l : Launch} {e : Env} {R : Room} {s : State} {m : MethodId} {args : Array Value} {below : List Frame} {meth : Method} {c : Code} {Q : State → Prop} {dC : Nat → ClassId} {dI : Nat → Nat → Nat} {cI cB cJ cZ : ClassId} {A : Nat → Prop} {E : Heap} {tM tC : Nat} {kK kV : Nat → Nat} {ad0 : Nat → Nat} {NN0 : Nat} {post : Int32 → St → Prop} (hx : p.tables.exec = Jvm.exec) (hb : c.code = b_Wrt_finish) (hml : c.maxLocals = 1) (hown : s.vm.findClass R_Wrt = some m.cls) (hT : ∀ w ∈ TG, w.before args s = true) (hK : va_K (dC, dI) CL (TY cI cB cJ cZ) s) (hN : NW s) (hA : ∀ q : Nat, s.heap.size ≤ q → A q) (hRf : 5 ≤ R.frames) (hRl : 266 ≤ R.locals) (hE : CE E tM tC kK kV A s) (hret : ∀ (r : Int32) (ad : Nat → Nat) (NN cells slots : Nat) (x : St) (H : Heap) (locs : List Loc) (pc : Nat) (ls : Array Slot), decode b_Wrt_finish pc = .ok (.ireturn, 1) → narrow .boolean (.int r) = .int r → (NN0 ≤ NN ∧ ∀ o : Nat, o < NN0 → ad o = ad0 o) → cells ≤ R.cells → slots ≤ R.slots → post r x → Wd dC dI cI cB cJ cZ ad stC kcC NN A x H → va_S A s.heap H locs → W p l e R s m args below meth c H locs cells slots Q (F0 m pc ls [.int r]))  : ∀ (ad : Nat → Nat) (NN cells slots : Nat) (o : Nat) (kb : Nat) (nb : Nat) (x : St) (H : Heap) (locs : List Loc) (ls : Array Slot), (152 ≤ NN) → (NN0 ≤ NN ∧ ∀ o : Nat, o < NN0 → ad o = ad0 o) → (cells + kb ≤ R.cells) → (slots + nb ≤ R.slots) → (o < NN ∧ kcC o = 5) → j_Wrt_finish_101 post o kb nb x → Wd dC dI cI cB cJ cZ ad stC kcC NN A x H → va_S A s.heap H locs → lv_has ls 1 [(0, .ref (ad o))] → W p l e R s m args below meth c H locs cells slots Q (F0 m 101 ls []) := by
  intro ad NN cells slots o kb nb x H locs ls hNN hag hRc hRs fo hw hW hS hl
  unfold j_Wrt_finish_101 at hw
  refine lv_iconst (v := 0) hx hb d_Wrt_finish_101 (by decide) ?_
  exact hret 0 ad NN cells slots x H locs 102 ls d_Wrt_finish_102 rfl hag (Nat.le_trans (Nat.le_add_right _ _) hRc) (Nat.le_trans (Nat.le_add_right _ _) hRs) hw hW hS
set_option maxRecDepth 100000 in
def wp_Wrt_finish (post : Int32 → St → Prop) (o : Nat) (kb : Nat) (nb : Nat) (x : St) : Prop := (∃ q1 : Nat, fR x o 0 = some q1 ∧ (∃ q2 : Nat, fR x (stC o 1) 0 = some q2 ∧ (∃ k3 n4 k5 n6 : Nat, k3 + k5 = kb ∧ n4 + n6 = nb ∧ wp_Snk_putAll (fun (x7 : St) => (∃ q8 : Nat, fR x7 o 0 = some q8 ∧ (∃ k9 n10 k11 n12 : Nat, k9 + k11 = k5 ∧ n10 + n12 = n6 ∧ wp_Snk_putFixed (fun (x13 : St) => (∃ q14 : Nat, fR x13 o 0 = some q14 ∧ (∃ q15 : Nat, fR x13 (stC o 1) 0 = some q15 ∧ wp_V_checkOf (fun (r17 : Int32) (x16 : St) => (∃ k18 n19 k20 n21 : Nat, k18 + k20 = k11 ∧ n19 + n21 = n12 ∧ wp_Snk_putFixed (fun (x22 : St) => (∃ q23 : Nat, fR x22 o 0 = some q23 ∧ (∃ k24 n25 k26 n27 : Nat, k24 + k26 = k20 ∧ n25 + n27 = n21 ∧ wp_Snk_putAll (fun (x28 : St) => (∃ q29 : Nat, fR x28 o 0 = some q29 ∧ ((¬ (fI x28 q29 2) = 0 → j_Wrt_finish_101 post o k26 n27 x28) ∧ ((fI x28 q29 2) = 0 → ((¬ (fI x28 (stC o 1) 2) = 0 → j_Wrt_finish_101 post o k26 n27 x28) ∧ ((fI x28 (stC o 1) 2) = 0 → post 1 x28)))))) q23 tM 0 4 k24 n25 x22))) q14 (r17 : Int32).toInt64 4 k18 n19 x16)) q15 0 (fI x13 (stC o 1) 1) x13))) q8 ((fI x7 (stC o 1) 1) : Int32).toInt64 4 k9 n10 x7))) q1 q2 0 (fI x (stC o 1) 1) k3 n4 x)))
set_option maxHeartbeats 4000000 in
set_option maxRecDepth 100000 in
theorem t_Wrt_finish_e {p : Program} {l : Launch} {e : Env} {R : Room} {s : State} {m : MethodId} {args : Array Value} {below : List Frame} {meth : Method} {c : Code} {Q : State → Prop} {dC : Nat → ClassId} {dI : Nat → Nat → Nat} {cI cB cJ cZ : ClassId} {A : Nat → Prop} {E : Heap} {tM tC : Nat} {kK kV : Nat → Nat} {ad0 : Nat → Nat} {NN0 : Nat} {post : Int32 → St → Prop} (hx : p.tables.exec = Jvm.exec) (hb : c.code = b_Wrt_finish) (hml : c.maxLocals = 1) (hown : s.vm.findClass R_Wrt = some m.cls) (hT : ∀ w ∈ TG, w.before args s = true) (hK : va_K (dC, dI) CL (TY cI cB cJ cZ) s) (hN : NW s) (hA : ∀ q : Nat, s.heap.size ≤ q → A q) (hRf : 5 ≤ R.frames) (hRl : 266 ≤ R.locals) (hE : CE E tM tC kK kV A s) (hret : ∀ (r : Int32) (ad : Nat → Nat) (NN cells slots : Nat) (x : St) (H : Heap) (locs : List Loc) (pc : Nat) (ls : Array Slot), decode b_Wrt_finish pc = .ok (.ireturn, 1) → narrow .boolean (.int r) = .int r → (NN0 ≤ NN ∧ ∀ o : Nat, o < NN0 → ad o = ad0 o) → cells ≤ R.cells → slots ≤ R.slots → post r x → Wd dC dI cI cB cJ cZ ad stC kcC NN A x H → va_S A s.heap H locs → W p l e R s m args below meth c H locs cells slots Q (F0 m pc ls [.int r])) : ∀ (ad : Nat → Nat) (NN cells slots : Nat) (o : Nat) (kb : Nat) (nb : Nat) (x : St) (H : Heap) (locs : List Loc) (ls : Array Slot), (152 ≤ NN) → (NN0 ≤ NN ∧ ∀ o : Nat, o < NN0 → ad o = ad0 o) → (cells + kb ≤ R.cells) → (slots + nb ≤ R.slots) → (o < NN ∧ kcC o = 5) → wp_Wrt_finish post o kb nb x → Wd dC dI cI cB cJ cZ ad stC kcC NN A x H → va_S A s.heap H locs → lv_has ls 1 [(0, .ref (ad o))] → W p l e R s m args below meth c H locs cells slots Q (F0 m 0 ls []) := by
  intro ad NN cells slots o kb nb x H locs ls hNN hag hRc hRs fo hw hW hS hl
  unfold wp_Wrt_finish at hw
  refine lv_aload_n hx hb d_Wrt_finish_0 rfl (lv_at hl 0 rfl) ?_
  obtain ⟨q1, hq1, hw⟩ := hw
  refine w_getr (q := q1) (k := 0) (t := 5) (C := R_Wrt) (T := F_Wrt) (N := 20) hx hb hT hown hK hW fo.1 fo.2 (by decide) in_Wrt rfl rfl (by decide) rfl fr_Wrt_0 w_2_51 d_Wrt_finish_1 hq1 (fun aq1 bq1 => ?_)
  have fq1 : q1 < NN ∧ kcC q1 = 1 := ⟨aq1, bq1⟩
  refine lv_aload_n hx hb d_Wrt_finish_4 rfl (lv_at hl 0 rfl) ?_
  refine w_getf (q := (stC o 1)) (k := 1) (t := 5) (C := R_Wrt) (T := F_Wrt) (N := 20) hx hb hT hown hK hW fo.1 fo.2 (by decide) in_Wrt rfl rfl (by decide) rfl fr_Wrt_1 w_2_52 d_Wrt_finish_5 rfl ?_
  obtain ⟨q2, hq2, hw⟩ := hw
  refine w_getr (q := q2) (k := 0) (t := 1) (C := R_Snk) (T := F_Snk) (N := 7) hx hb hT hown hK hW (st_ty hNN fo.1 fo.2 rfl).1 (st_ty hNN fo.1 fo.2 rfl).2 (by decide) in_Snk rfl rfl (by decide) rfl fr_Snk_0 w_1_41 d_Wrt_finish_8 hq2 (fun aq2 bq2 => ?_)
  have fq2 : q2 < NN ∧ kcC q2 = 21 := ⟨aq2, bq2⟩
  refine lv_iconst (v := 0) hx hb d_Wrt_finish_11 (by decide) ?_
  refine lv_aload_n hx hb d_Wrt_finish_12 rfl (lv_at hl 0 rfl) ?_
  refine w_getf (q := (stC o 1)) (k := 1) (t := 5) (C := R_Wrt) (T := F_Wrt) (N := 20) hx hb hT hown hK hW fo.1 fo.2 (by decide) in_Wrt rfl rfl (by decide) rfl fr_Wrt_1 w_2_52 d_Wrt_finish_13 rfl ?_
  refine w_geti (k := 1) (t := 1) (C := R_Snk) (T := F_Snk) (N := 7) hx hb hT hown hK hW (st_ty hNN fo.1 fo.2 rfl).1 (st_ty hNN fo.1 fo.2 rfl).2 (by decide) in_Snk rfl rfl (by decide) rfl fr_Snk_1 w_1_46 d_Wrt_finish_16 ?_
  obtain ⟨k3, n4, k5, n6, ek3, en4, hw⟩ := hw
  have hF := hW.free hS hA
  refine va_callv (va_runV (C := R_Snk) (As := [.ref (ad q2), .int 0, .int (fI x (stC o 1) 1)]) (rest := []) ⟨hx, hb, hml, hown, hT⟩ (k_Snk_putAll l dC dI cI cB cJ cZ ad NN E tM tC kK kV hNN H.size q1 q2 0 (fI x (stC o 1) 1) k3 n4 x fq1 fq2 hw) ⟨callB_of 3 hT (gw_in w_5_138) rfl rfl rfl (hT _ w_1_2) (hT _ w_5_135) (by decide +kernel) ⟨Nat.le_trans (by decide) hRf, Nat.le_trans (by decide) hRl⟩, hT _ w_5_136, hT _ w_5_137⟩ ⟨PV.blind, va_recv hK hW.1 (ci := 1) (q0 := q1) rfl (pic_obj fq1.1 fq1.2 (by decide)), PV.at _ hW hK hN hE hS hF⟩ rfl rfl hl.1 rfl (lv_room (Nat.le_of_ble_eq_true rfl)) d_Wrt_finish_19 ⟨show cells + k3 ≤ R.cells by omega, show slots + n4 ≤ R.slots by omega⟩) hS (fun q _ h => hF q h) hF (fun  x7 t H locs ht hvm hw hB hz1 hk1 hS => ?_)
  obtain ⟨x7, ad, NN⟩ := x7
  obtain ⟨hB, hle, hg⟩ := hB
  try dsimp only at hw hB hle hg
  have hW := Wd.back hB ht hF
  rw [← hg o fo.1] at hl
  have fo : o < NN ∧ kcC o = 5 := ⟨Nat.lt_of_lt_of_le fo.1 hle, fo.2⟩
  have fq1 : q1 < NN ∧ kcC q1 = 1 := ⟨Nat.lt_of_lt_of_le fq1.1 hle, fq1.2⟩
  have fq2 : q2 < NN ∧ kcC q2 = 21 := ⟨Nat.lt_of_lt_of_le fq2.1 hle, fq2.2⟩
  have hag : NN0 ≤ NN ∧ ∀ o : Nat, o < NN0 → ad o = ad0 o := ⟨Nat.le_trans hag.1 hle, fun o h => (hg o (Nat.lt_of_lt_of_le h hag.1)).trans (hag.2 o h)⟩
  have hNN : 152 ≤ NN := Nat.le_trans hNN hle
  clear hg hle
  obtain ⟨cells, ec⟩ : ∃ z, z = cells + k3 := ⟨_, rfl⟩
  obtain ⟨slots, es⟩ : ∃ z, z = slots + n4 := ⟨_, rfl⟩
  rw [← ec, ← es]
  have hRc : cells + k5 ≤ R.cells := by omega
  have hRs : slots + n6 ≤ R.slots := by omega
  clear ec es hB ht hF hz1 hk1 hvm ek3 en4
  refine lv_aload_n hx hb d_Wrt_finish_22 rfl (lv_at hl 0 rfl) ?_
  obtain ⟨q8, hq8, hw⟩ := hw
  refine w_getr (q := q8) (k := 0) (t := 5) (C := R_Wrt) (T := F_Wrt) (N := 20) hx hb hT hown hK hW fo.1 fo.2 (by decide) in_Wrt rfl rfl (by decide) rfl fr_Wrt_0 w_2_51 d_Wrt_finish_23 hq8 (fun aq8 bq8 => ?_)
  have fq8 : q8 < NN ∧ kcC q8 = 1 := ⟨aq8, bq8⟩
  refine lv_aload_n hx hb d_Wrt_finish_26 rfl (lv_at hl 0 rfl) ?_
  refine w_getf (q := (stC o 1)) (k := 1) (t := 5) (C := R_Wrt) (T := F_Wrt) (N := 20) hx hb hT hown hK hW fo.1 fo.2 (by decide) in_Wrt rfl rfl (by decide) rfl fr_Wrt_1 w_2_52 d_Wrt_finish_27 rfl ?_
  refine w_geti (k := 1) (t := 1) (C := R_Snk) (T := F_Snk) (N := 7) hx hb hT hown hK hW (st_ty hNN fo.1 fo.2 rfl).1 (st_ty hNN fo.1 fo.2 rfl).2 (by decide) in_Snk rfl rfl (by decide) rfl fr_Snk_1 w_1_46 d_Wrt_finish_30 ?_
  refine lv_i2l hx hb d_Wrt_finish_33 rfl ?_
  refine lv_iconst (v := 4) hx hb d_Wrt_finish_34 (by decide) ?_
  obtain ⟨k9, n10, k11, n12, ek9, en10, hw⟩ := hw
  have hF := hW.free hS hA
  refine va_callv (va_runV (C := R_Snk) (As := [.long ((fI x7 (stC o 1) 1) : Int32).toInt64, .int 4]) (rest := []) ⟨hx, hb, hml, hown, hT⟩ (k_Snk_putFixed l dC dI cI cB cJ cZ ad NN E tM tC kK kV hNN H.size q8 ((fI x7 (stC o 1) 1) : Int32).toInt64 4 k9 n10 x7 fq8 hw) ⟨callB_of 2 hT (gw_in w_5_188) rfl rfl rfl (hT _ w_1_2) (hT _ w_5_185) (by decide +kernel) ⟨Nat.le_trans (by decide) hRf, Nat.le_trans (by decide) hRl⟩, hT _ w_5_186, hT _ w_5_187⟩ ⟨PV.blind, va_recv hK hW.1 (ci := 1) (q0 := q8) rfl (pic_obj fq8.1 fq8.2 (by decide)), PV.at _ hW hK hN hE hS hF⟩ rfl rfl hl.1 rfl (lv_room (Nat.le_of_ble_eq_true rfl)) d_Wrt_finish_35 ⟨show cells + k9 ≤ R.cells by omega, show slots + n10 ≤ R.slots by omega⟩) hS (fun q _ h => hF q h) hF (fun  x13 t H locs ht hvm hw hB hz1 hk1 hS => ?_)
  obtain ⟨x13, ad, NN⟩ := x13
  obtain ⟨hB, hle, hg⟩ := hB
  try dsimp only at hw hB hle hg
  have hW := Wd.back hB ht hF
  rw [← hg o fo.1] at hl
  have fo : o < NN ∧ kcC o = 5 := ⟨Nat.lt_of_lt_of_le fo.1 hle, fo.2⟩
  have fq1 : q1 < NN ∧ kcC q1 = 1 := ⟨Nat.lt_of_lt_of_le fq1.1 hle, fq1.2⟩
  have fq2 : q2 < NN ∧ kcC q2 = 21 := ⟨Nat.lt_of_lt_of_le fq2.1 hle, fq2.2⟩
  have fq8 : q8 < NN ∧ kcC q8 = 1 := ⟨Nat.lt_of_lt_of_le fq8.1 hle, fq8.2⟩
  have hag : NN0 ≤ NN ∧ ∀ o : Nat, o < NN0 → ad o = ad0 o := ⟨Nat.le_trans hag.1 hle, fun o h => (hg o (Nat.lt_of_lt_of_le h hag.1)).trans (hag.2 o h)⟩
  have hNN : 152 ≤ NN := Nat.le_trans hNN hle
  clear hg hle
  obtain ⟨cells, ec⟩ : ∃ z, z = cells + k9 := ⟨_, rfl⟩
  obtain ⟨slots, es⟩ : ∃ z, z = slots + n10 := ⟨_, rfl⟩
  rw [← ec, ← es]
  have hRc : cells + k11 ≤ R.cells := by omega
  have hRs : slots + n12 ≤ R.slots := by omega
  clear ec es hB ht hF hz1 hk1 hvm ek9 en10
  refine lv_aload_n hx hb d_Wrt_finish_38 rfl (lv_at hl 0 rfl) ?_
  obtain ⟨q14, hq14, hw⟩ := hw
  refine w_getr (q := q14) (k := 0) (t := 5) (C := R_Wrt) (T := F_Wrt) (N := 20) hx hb hT hown hK hW fo.1 fo.2 (by decide) in_Wrt rfl rfl (by decide) rfl fr_Wrt_0 w_2_51 d_Wrt_finish_39 hq14 (fun aq14 bq14 => ?_)
  have fq14 : q14 < NN ∧ kcC q14 = 1 := ⟨aq14, bq14⟩
  refine lv_aload_n hx hb d_Wrt_finish_42 rfl (lv_at hl 0 rfl) ?_
  refine w_getf (q := (stC o 1)) (k := 1) (t := 5) (C := R_Wrt) (T := F_Wrt) (N := 20) hx hb hT hown hK hW fo.1 fo.2 (by decide) in_Wrt rfl rfl (by decide) rfl fr_Wrt_1 w_2_52 d_Wrt_finish_43 rfl ?_
  obtain ⟨q15, hq15, hw⟩ := hw
  refine w_getr (q := q15) (k := 0) (t := 1) (C := R_Snk) (T := F_Snk) (N := 7) hx hb hT hown hK hW (st_ty hNN fo.1 fo.2 rfl).1 (st_ty hNN fo.1 fo.2 rfl).2 (by decide) in_Snk rfl rfl (by decide) rfl fr_Snk_0 w_1_41 d_Wrt_finish_46 hq15 (fun aq15 bq15 => ?_)
  have fq15 : q15 < NN ∧ kcC q15 = 21 := ⟨aq15, bq15⟩
  refine lv_iconst (v := 0) hx hb d_Wrt_finish_49 (by decide) ?_
  refine lv_aload_n hx hb d_Wrt_finish_50 rfl (lv_at hl 0 rfl) ?_
  refine w_getf (q := (stC o 1)) (k := 1) (t := 5) (C := R_Wrt) (T := F_Wrt) (N := 20) hx hb hT hown hK hW fo.1 fo.2 (by decide) in_Wrt rfl rfl (by decide) rfl fr_Wrt_1 w_2_52 d_Wrt_finish_51 rfl ?_
  refine w_geti (k := 1) (t := 1) (C := R_Snk) (T := F_Snk) (N := 7) hx hb hT hown hK hW (st_ty hNN fo.1 fo.2 rfl).1 (st_ty hNN fo.1 fo.2 rfl).2 (by decide) in_Snk rfl rfl (by decide) rfl fr_Snk_1 w_1_46 d_Wrt_finish_54 ?_
  have hF := hW.free hS hA
  refine va_calli (va_runSN (As := [.ref (ad q15), .int 0, .int (fI x13 (stC o 1) 1)]) (rest := [.ref (ad q14)]) ⟨hx, hb, hml, hown, hT⟩ (k_V_checkOf l dC dI cI cB cJ cZ ad NN E tM tC kK kV hNN H.size q15 0 (fI x13 (stC o 1) 1) x13 fq15 hw) ⟨va_cnB 3 hT (gw_in w_6_43) rfl rfl rfl (hN _ wn_6_41 rfl) (hT _ w_1_1) (by decide +kernel) ⟨Nat.le_trans (by decide) hRf, Nat.le_trans (by decide) hRl⟩, hT _ w_6_42, trivial⟩ ⟨PV.blind, PV.at _ hW hK hN hE hS hF⟩ rfl rfl hl.1 rfl (lv_room (Nat.le_of_ble_eq_true rfl)) d_Wrt_finish_57 ⟨(Nat.le_trans (Nat.le_add_right _ _) hRc), (Nat.le_trans (Nat.le_add_right _ _) hRs)⟩) hS (fun q _ h => hF q h) hF (fun r17 x16 t H locs ht hvm hw hB hz1 hk1 hS => ?_)
  have hW := Wd.back hB ht hF
  clear hB ht hF hz1 hk1 hvm
  refine lv_i2l hx hb d_Wrt_finish_60 rfl ?_
  refine lv_iconst (v := 4) hx hb d_Wrt_finish_61 (by decide) ?_
  obtain ⟨k18, n19, k20, n21, ek18, en19, hw⟩ := hw
  have hF := hW.free hS hA
  refine va_callv (va_runV (C := R_Snk) (As := [.long (r17 : Int32).toInt64, .int 4]) (rest := []) ⟨hx, hb, hml, hown, hT⟩ (k_Snk_putFixed l dC dI cI cB cJ cZ ad NN E tM tC kK kV hNN H.size q14 (r17 : Int32).toInt64 4 k18 n19 x16 fq14 hw) ⟨callB_of 2 hT (gw_in w_5_188) rfl rfl rfl (hT _ w_1_2) (hT _ w_5_185) (by decide +kernel) ⟨Nat.le_trans (by decide) hRf, Nat.le_trans (by decide) hRl⟩, hT _ w_5_186, hT _ w_5_187⟩ ⟨PV.blind, va_recv hK hW.1 (ci := 1) (q0 := q14) rfl (pic_obj fq14.1 fq14.2 (by decide)), PV.at _ hW hK hN hE hS hF⟩ rfl rfl hl.1 rfl (lv_room (Nat.le_of_ble_eq_true rfl)) d_Wrt_finish_62 ⟨show cells + k18 ≤ R.cells by omega, show slots + n19 ≤ R.slots by omega⟩) hS (fun q _ h => hF q h) hF (fun  x22 t H locs ht hvm hw hB hz1 hk1 hS => ?_)
  obtain ⟨x22, ad, NN⟩ := x22
  obtain ⟨hB, hle, hg⟩ := hB
  try dsimp only at hw hB hle hg
  have hW := Wd.back hB ht hF
  rw [← hg o fo.1] at hl
  have fo : o < NN ∧ kcC o = 5 := ⟨Nat.lt_of_lt_of_le fo.1 hle, fo.2⟩
  have fq1 : q1 < NN ∧ kcC q1 = 1 := ⟨Nat.lt_of_lt_of_le fq1.1 hle, fq1.2⟩
  have fq14 : q14 < NN ∧ kcC q14 = 1 := ⟨Nat.lt_of_lt_of_le fq14.1 hle, fq14.2⟩
  have fq15 : q15 < NN ∧ kcC q15 = 21 := ⟨Nat.lt_of_lt_of_le fq15.1 hle, fq15.2⟩
  have fq2 : q2 < NN ∧ kcC q2 = 21 := ⟨Nat.lt_of_lt_of_le fq2.1 hle, fq2.2⟩
  have fq8 : q8 < NN ∧ kcC q8 = 1 := ⟨Nat.lt_of_lt_of_le fq8.1 hle, fq8.2⟩
  have hag : NN0 ≤ NN ∧ ∀ o : Nat, o < NN0 → ad o = ad0 o := ⟨Nat.le_trans hag.1 hle, fun o h => (hg o (Nat.lt_of_lt_of_le h hag.1)).trans (hag.2 o h)⟩
  have hNN : 152 ≤ NN := Nat.le_trans hNN hle
  clear hg hle
  obtain ⟨cells, ec⟩ : ∃ z, z = cells + k18 := ⟨_, rfl⟩
  obtain ⟨slots, es⟩ : ∃ z, z = slots + n19 := ⟨_, rfl⟩
  rw [← ec, ← es]
  have hRc : cells + k20 ≤ R.cells := by omega
  have hRs : slots + n21 ≤ R.slots := by omega
  clear ec es hB ht hF hz1 hk1 hvm ek18 en19
  refine lv_aload_n hx hb d_Wrt_finish_65 rfl (lv_at hl 0 rfl) ?_
  obtain ⟨q23, hq23, hw⟩ := hw
  refine w_getr (q := q23) (k := 0) (t := 5) (C := R_Wrt) (T := F_Wrt) (N := 20) hx hb hT hown hK hW fo.1 fo.2 (by decide) in_Wrt rfl rfl (by decide) rfl fr_Wrt_0 w_2_51 d_Wrt_finish_66 hq23 (fun aq23 bq23 => ?_)
  have fq23 : q23 < NN ∧ kcC q23 = 1 := ⟨aq23, bq23⟩
  refine va_getsN hx hb hE.zM hS hown (va_Nw.use rfl (hN _ wn_5_133 rfl)) (fun _ h => h) d_Wrt_finish_69 ?_
  refine lv_iconst (v := 0) hx hb d_Wrt_finish_72 (by decide) ?_
  refine lv_iconst (v := 4) hx hb d_Wrt_finish_73 (by decide) ?_
  obtain ⟨k24, n25, k26, n27, ek24, en25, hw⟩ := hw
  have hF := hW.free hS hA
  refine va_callv (va_runV (C := R_Snk) (As := [.ref tM, .int 0, .int 4]) (rest := []) ⟨hx, hb, hml, hown, hT⟩ (k_Snk_putAll l dC dI cI cB cJ cZ ad NN E tM tC kK kV hNN H.size q23 tM 0 4 k24 n25 x22 fq23 hw) ⟨callB_of 3 hT (gw_in w_5_138) rfl rfl rfl (hT _ w_1_2) (hT _ w_5_135) (by decide +kernel) ⟨Nat.le_trans (by decide) hRf, Nat.le_trans (by decide) hRl⟩, hT _ w_5_136, hT _ w_5_137⟩ ⟨PV.blind, va_recv hK hW.1 (ci := 1) (q0 := q23) rfl (pic_obj fq23.1 fq23.2 (by decide)), PV.at _ hW hK hN hE hS hF⟩ rfl rfl hl.1 rfl (lv_room (Nat.le_of_ble_eq_true rfl)) d_Wrt_finish_74 ⟨show cells + k24 ≤ R.cells by omega, show slots + n25 ≤ R.slots by omega⟩) hS (fun q _ h => hF q h) hF (fun  x28 t H locs ht hvm hw hB hz1 hk1 hS => ?_)
  obtain ⟨x28, ad, NN⟩ := x28
  obtain ⟨hB, hle, hg⟩ := hB
  try dsimp only at hw hB hle hg
  have hW := Wd.back hB ht hF
  rw [← hg o fo.1] at hl
  have fo : o < NN ∧ kcC o = 5 := ⟨Nat.lt_of_lt_of_le fo.1 hle, fo.2⟩
  have fq1 : q1 < NN ∧ kcC q1 = 1 := ⟨Nat.lt_of_lt_of_le fq1.1 hle, fq1.2⟩
  have fq14 : q14 < NN ∧ kcC q14 = 1 := ⟨Nat.lt_of_lt_of_le fq14.1 hle, fq14.2⟩
  have fq15 : q15 < NN ∧ kcC q15 = 21 := ⟨Nat.lt_of_lt_of_le fq15.1 hle, fq15.2⟩
  have fq2 : q2 < NN ∧ kcC q2 = 21 := ⟨Nat.lt_of_lt_of_le fq2.1 hle, fq2.2⟩
  have fq23 : q23 < NN ∧ kcC q23 = 1 := ⟨Nat.lt_of_lt_of_le fq23.1 hle, fq23.2⟩
  have fq8 : q8 < NN ∧ kcC q8 = 1 := ⟨Nat.lt_of_lt_of_le fq8.1 hle, fq8.2⟩
  have hag : NN0 ≤ NN ∧ ∀ o : Nat, o < NN0 → ad o = ad0 o := ⟨Nat.le_trans hag.1 hle, fun o h => (hg o (Nat.lt_of_lt_of_le h hag.1)).trans (hag.2 o h)⟩
  have hNN : 152 ≤ NN := Nat.le_trans hNN hle
  clear hg hle
  obtain ⟨cells, ec⟩ : ∃ z, z = cells + k24 := ⟨_, rfl⟩
  obtain ⟨slots, es⟩ : ∃ z, z = slots + n25 := ⟨_, rfl⟩
  rw [← ec, ← es]
  have hRc : cells + k26 ≤ R.cells := by omega
  have hRs : slots + n27 ≤ R.slots := by omega
  clear ec es hB ht hF hz1 hk1 hvm ek24 en25
  refine lv_aload_n hx hb d_Wrt_finish_77 rfl (lv_at hl 0 rfl) ?_
  obtain ⟨q29, hq29, hw⟩ := hw
  refine w_getr (q := q29) (k := 0) (t := 5) (C := R_Wrt) (T := F_Wrt) (N := 20) hx hb hT hown hK hW fo.1 fo.2 (by decide) in_Wrt rfl rfl (by decide) rfl fr_Wrt_0 w_2_51 d_Wrt_finish_78 hq29 (fun aq29 bq29 => ?_)
  have fq29 : q29 < NN ∧ kcC q29 = 1 := ⟨aq29, bq29⟩
  refine w_geti (k := 2) (t := 1) (C := R_Snk) (T := F_Snk) (N := 7) hx hb hT hown hK hW fq29.1 fq29.2 (by decide) in_Snk rfl rfl (by decide) rfl fr_Snk_2 w_1_49 d_Wrt_finish_81 ?_
  refine lv_if_ne (tgt := 101) hx hb d_Wrt_finish_84 (by decide) (fun c30 => ?_) (fun c30 => ?_)
  · have hw := hw.1 c30
    exact t_Wrt_finish_101 hx hb hml hown hT hK hN hA hRf hRl hE hret  ad NN cells slots o k26 n27 x28 H locs ls hNN hag hRc hRs fo hw hW hS (lv_sub hl [0] rfl)
  · have hw := hw.2 c30
    refine lv_aload_n hx hb d_Wrt_finish_87 rfl (lv_at hl 0 rfl) ?_
    refine w_getf (q := (stC o 1)) (k := 1) (t := 5) (C := R_Wrt) (T := F_Wrt) (N := 20) hx hb hT hown hK hW fo.1 fo.2 (by decide) in_Wrt rfl rfl (by decide) rfl fr_Wrt_1 w_2_52 d_Wrt_finish_88 rfl ?_
    refine w_geti (k := 2) (t := 1) (C := R_Snk) (T := F_Snk) (N := 7) hx hb hT hown hK hW (st_ty hNN fo.1 fo.2 rfl).1 (st_ty hNN fo.1 fo.2 rfl).2 (by decide) in_Snk rfl rfl (by decide) rfl fr_Snk_2 w_1_49 d_Wrt_finish_91 ?_
    refine lv_if_ne (tgt := 101) hx hb d_Wrt_finish_94 (by decide) (fun c31 => ?_) (fun c31 => ?_)
    · have hw := hw.1 c31
      exact t_Wrt_finish_101 hx hb hml hown hT hK hN hA hRf hRl hE hret  ad NN cells slots o k26 n27 x28 H locs ls hNN hag hRc hRs fo hw hW hS (lv_sub hl [0] rfl)
    · have hw := hw.2 c31
      refine lv_iconst (v := 1) hx hb d_Wrt_finish_97 (by decide) ?_
      refine lv_goto (tgt := 102) hx hb d_Wrt_finish_98 (by decide) ?_
      exact hret 1 ad NN cells slots x28 H locs 102 ls d_Wrt_finish_102 rfl hag (Nat.le_trans (Nat.le_add_right _ _) hRc) (Nat.le_trans (Nat.le_add_right _ _) hRs) hw hW hS
set_option maxHeartbeats 4000000 in
set_option maxRecDepth 100000 in
theorem k_Wrt_finish (l : Launch) (dC : Nat → ClassId) (dI : Nat → Nat → Nat) (cI cB cJ cZ : ClassId) (ad : Nat → Nat) (NN : Nat) (E : Heap) (tM tC : Nat) (kK kV : Nat → Nat) (hNN : 152 ≤ NN) (sz : Nat) (o : Nat) (kb : Nat) (nb : Nat) (x : St) (fo : o < NN ∧ kcC o = 5) {post : Int32 → St → Prop} (hw : wp_Wrt_finish post o kb nb x) : Met l y_Wrt_finish (wsOf y_Wrt_finish b_Wrt_finish 1 (some (.boolean))) ({ frames := 5, cells := kb, slots := nb, locals := 266 }) (va_Pc [.ref (ad o)] (PV dC dI cI cB cJ cZ ad stC kcC NN E tM tC kK kV sz x)) (va_Qi (fun (r : Int32) (u : St × (Nat → Nat) × Nat) => post r u.1) (fun u t => Wd dC dI cI cB cJ cZ u.2.1 stC kcC u.2.2 (va_A (pic ad stC kcC NN cI cB cJ cZ x) sz) u.1 t.heap ∧ NN ≤ u.2.2 ∧ ∀ o : Nat, o < NN → u.2.1 o = ad o) (va_A (pic ad stC kcC NN cI cB cJ cZ x) sz)) kb nb (va_A (pic ad stC kcC NN cI cB cJ cZ x) sz) := by
  refine Met.ofW (cc := b_Wrt_finish) (maxL := 1) (ret := some (.boolean)) (by decide) rfl ?_
  intro p e s m args below meth c s₁ B hml hv
  obtain ⟨rfl, ⟨hsz, hW0, hK, hN⟩, hE⟩ := hv
  have hx := B.exec
  have hb := B.bytes
  have hr := B.returns
  have hts := atoms_spec B.pre
  have hT : ∀ w ∈ TG, w.before _ s = true := fun w h => hts w (List.mem_cons_of_mem _ h)
  have hown : s.vm.findClass R_Wrt = some m.cls := findClass_of_methodNamed B.named
  have hlocks := B.notSynchronized
  subst hsz
  have hW : Wd dC dI cI cB cJ cZ ad stC kcC NN (va_A (pic ad stC kcC NN cI cB cJ cZ x) s.heap.size) x s.heap := ⟨hW0.1, hW0.2.1.self (sz := s.heap.size), hW0.2.2⟩
  generalize hAe : va_A (pic ad stC kcC NN cI cB cJ cZ x) s.heap.size = A at hW hE ⊢
  have hA : ∀ q : Nat, s.heap.size ≤ q → A q := fun q h => by rw [← hAe]; exact Or.inr h
  have hS : va_S A s.heap s.heap [] := va_S.rf
  have hl := lv_entry ([.ref (ad o)]) (n := 1) (Nat.le_of_ble_eq_true rfl)
  rw [lg_entry_eq]
  generalize (lg_sl ([.ref (ad o)]) ++ List.replicate (1 - (lg_sl ([.ref (ad o)])).length) Slot.unset).toArray = ls at hl ⊢
  have hl : lv_has ls 1 [(0, .ref (ad o))] := hl
  exact t_Wrt_finish_e hx hb hml hown hT hK hN hA (Nat.le_refl 5) (Nat.le_refl 266) hE (fun r ad1 NN1 cells slots x1 H locs pc ls hd hz hag hc hs hp hW hS => W.widen (k := kb) (n := nb) hc hs (W.zret (v := r) (ty := .boolean) hx hb hr hz (fun t ht hM => ⟨⟨r, (x1, ad1, NN1), rfl, hp, Wd.back hW ht.symm (fun _ z => z), hag.1, hag.2⟩, hS.F ht⟩) hS.2.2 hd hlocks))  ad NN 0 0 o kb nb x _ _ ls hNN ⟨Nat.le_refl _, fun _ _ => rfl⟩ (Nat.le_of_eq (Nat.zero_add kb)) (Nat.le_of_eq (Nat.zero_add nb)) fo hw hW hS hl
set_option maxRecDepth 100000 in
def j_Asm_writeWord_2 (post : St → Prop) (rec2 : Nat → Nat → Int32 → Nat → Nat → St → Prop) (o : Nat) (l1 : Nat) (l2 : Int32) (kb : Nat) (nb : Nat) (x : St) : Prop := (((nI (sLen.getD l1 0)) ≤ l2 → post x) ∧ (¬ (nI (sLen.getD l1 0)) ≤ l2 → ((¬ l2 < 0) ∧ (l2 < nI (sLen.getD l1 0)) ∧ (∃ k4 n5 k6 n7 : Nat, k4 + k6 = kb ∧ n5 + n7 = nb ∧ wp_Snk_put (fun (x8 : St) => rec2 o l1 (l2 + 1) k6 n7 x8) (stC o 0) (sChr l1 l2) k4 n5 x))))
set_option maxHeartbeats 4000000 in
set_option maxRecDepth 100000 in
theorem t_Asm_writeWord_2 {p : Program} {l : Launch} {e : Env} {R : Room} {s : State} {m : MethodId} {args : Array Value} {below : List Frame} {meth : Method} {c : Code} {Q : State → Prop} {dC : Nat → ClassId} {dI : Nat → Nat → Nat} {cI cB cJ cZ : ClassId} {A : Nat → Prop} {E : Heap} {tM tC : Nat} {kK kV : Nat → Nat} {ad0 : Nat → Nat} {NN0 : Nat} {post : St → Prop} {rec2 : Nat → Nat → Int32 → Nat → Nat → St → Prop} (hx : p.tables.exec = Jvm.exec) (hb : c.code = b_Asm_writeWord) (hml : c.maxLocals = 3) (hown : s.vm.findClass R_Asm = some m.cls) (hT : ∀ w ∈ TG, w.before args s = true) (hK : va_K (dC, dI) CL (TY cI cB cJ cZ) s) (hN : NW s) (hA : ∀ q : Nat, s.heap.size ≤ q → A q) (hRf : 4 ≤ R.frames) (hRl : 242 ≤ R.locals) (hE : CE E tM tC kK kV A s) (hret : ∀ (ad : Nat → Nat) (NN cells slots : Nat) (x : St) (H : Heap) (locs : List Loc) (pc : Nat) (ls : Array Slot), decode b_Asm_writeWord pc = .ok (.return_, 1) → (NN0 ≤ NN ∧ ∀ o : Nat, o < NN0 → ad o = ad0 o) → cells ≤ R.cells → slots ≤ R.slots → post x → Wd dC dI cI cB cJ cZ ad stC kcC NN A x H → va_S A s.heap H locs → W p l e R s m args below meth c H locs cells slots Q (F0 m pc ls [])) (hrec2 : ∀ (ad : Nat → Nat) (NN cells slots : Nat) (o : Nat) (l1 : Nat) (l2 : Int32) (kb : Nat) (nb : Nat) (x : St) (H : Heap) (locs : List Loc) (ls : Array Slot), (152 ≤ NN) → (NN0 ≤ NN ∧ ∀ o : Nat, o < NN0 → ad o = ad0 o) → (cells + kb ≤ R.cells) → (slots + nb ≤ R.slots) → (o < NN ∧ kcC o = 11) → (l1 < NSTR) → rec2 o l1 l2 kb nb x → Wd dC dI cI cB cJ cZ ad stC kcC NN A x H → va_S A s.heap H locs → lv_has ls 3 [(0, .ref (ad o)), (1, .ref (kK l1)), (2, .int l2)] → W p l e R s m args below meth c H locs cells slots Q (F0 m 2 ls [])) : ∀ (ad : Nat → Nat) (NN cells slots : Nat) (o : Nat) (l1 : Nat) (l2 : Int32) (kb : Nat) (nb : Nat) (x : St) (H : Heap) (locs : List Loc) (ls : Array Slot), (152 ≤ NN) → (NN0 ≤ NN ∧ ∀ o : Nat, o < NN0 → ad o = ad0 o) → (cells + kb ≤ R.cells) → (slots + nb ≤ R.slots) → (o < NN ∧ kcC o = 11) → (l1 < NSTR) → j_Asm_writeWord_2 post rec2 o l1 l2 kb nb x → Wd dC dI cI cB cJ cZ ad stC kcC NN A x H → va_S A s.heap H locs → lv_has ls 3 [(0, .ref (ad o)), (1, .ref (kK l1)), (2, .int l2)] → W p l e R s m args below meth c H locs cells slots Q (F0 m 2 ls []) := by
  intro ad NN cells slots o l1 l2 kb nb x H locs ls hNN hag hRc hRs fo fl1 hw hW hS hl
  unfold j_Asm_writeWord_2 at hw
  refine lv_iload_n hx hb d_Asm_writeWord_2 rfl (lv_at hl 2 rfl) ?_
  refine lv_aload_n hx hb d_Asm_writeWord_3 rfl (lv_at hl 1 rfl) ?_
  refine va_calli (va_runV (C := R_JStr) (As := []) (rest := [.int l2]) ⟨hx, hb, hml, hown, hT⟩ (c_JStr_length l dC dI cI cB cJ cZ E tM tC kK kV H.size l1 fl1) ⟨callB_of 0 hT (gw_in w_4_159) rfl rfl rfl (hT _ w_1_17) (hT _ w_7_118) (by decide +kernel) ⟨Nat.le_trans (by decide) hRf, Nat.le_trans (by decide) hRl⟩, hT _ w_4_157, hT _ w_4_158⟩ ⟨PJ.blind, vk_recv hE.sS fl1 hS, PJ.at _ hK hN hE hS hA⟩ rfl rfl hl.1 rfl (lv_room (Nat.le_of_ble_eq_true rfl)) d_Asm_writeWord_4 ⟨(Nat.le_trans (Nat.le_add_right _ _) hRc), (Nat.le_trans (Nat.le_add_right _ _) hRs)⟩) hS (fun q _ h => hA q (Nat.le_trans hS.1 (nilA h))) (fun q h => hA q (Nat.le_trans hS.1 (nilA h))) (fun r1 u t H locs ht hvm hq9 hB hz1 hk1 hS => ?_)
  have hW := Wd.pure hW hk1
  clear hB ht hz1 hk1 hvm
  have hq9 : (nI (sLen.getD l1 0)) = r1 := Eq.symm hq9
  subst hq9
  refine lv_icmp_ge (tgt := 28) hx hb d_Asm_writeWord_7 (by decide) (fun c2 => ?_) (fun c2 => ?_)
  · have hw := hw.1 c2
    exact hret ad NN cells slots x H locs 28 ls d_Asm_writeWord_28 hag (Nat.le_trans (Nat.le_add_right _ _) hRc) (Nat.le_trans (Nat.le_add_right _ _) hRs) hw hW hS
  · have hw := hw.2 c2
    refine lv_aload_n hx hb d_Asm_writeWord_10 rfl (lv_at hl 0 rfl) ?_
    refine w_getf (q := (stC o 0)) (k := 0) (t := 11) (C := R_Asm) (T := F_Asm) (N := 4) hx hb hT hown hK hW fo.1 fo.2 (by decide) in_Asm rfl rfl (by decide) rfl fr_Asm_0 w_3_221 d_Asm_writeWord_11 rfl ?_
    refine lv_aload_n hx hb d_Asm_writeWord_14 rfl (lv_at hl 1 rfl) ?_
    refine lv_iload_n hx hb d_Asm_writeWord_15 rfl (lv_at hl 2 rfl) ?_
    obtain ⟨h0, h1, hw⟩ := hw
    refine va_calli (va_runV (C := R_JStr) (As := [.int l2]) (rest := [.ref (ad (stC o 0))]) ⟨hx, hb, hml, hown, hT⟩ (c_JStr_charAt l dC dI cI cB cJ cZ E tM tC kK kV H.size l1 fl1 l2 h0 h1) ⟨callB_of 1 hT (gw_in w_4_169) rfl rfl rfl (hT _ w_1_17) (hT _ w_7_119) (by decide +kernel) ⟨Nat.le_trans (by decide) hRf, Nat.le_trans (by decide) hRl⟩, hT _ w_4_167, hT _ w_4_168⟩ ⟨PJ.blind, vk_recv hE.sS fl1 hS, PJ.at _ hK hN hE hS hA⟩ rfl rfl hl.1 rfl (lv_room (Nat.le_of_ble_eq_true rfl)) d_Asm_writeWord_16 ⟨(Nat.le_trans (Nat.le_add_right _ _) hRc), (Nat.le_trans (Nat.le_add_right _ _) hRs)⟩) hS (fun q _ h => hA q (Nat.le_trans hS.1 (nilA h))) (fun q h => hA q (Nat.le_trans hS.1 (nilA h))) (fun r3 u t H locs ht hvm hq9 hB hz1 hk1 hS => ?_)
    have hW := Wd.pure hW hk1
    clear hB ht hz1 hk1 hvm
    have hq9 : (sChr l1 l2) = r3 := Eq.symm hq9
    subst hq9
    obtain ⟨k4, n5, k6, n7, ek4, en5, hw⟩ := hw
    have hF := hW.free hS hA
    refine va_callv (va_runV (C := R_Snk) (As := [.int (sChr l1 l2)]) (rest := []) ⟨hx, hb, hml, hown, hT⟩ (k_Snk_put l dC dI cI cB cJ cZ ad NN E tM tC kK kV hNN H.size (stC o 0) (sChr l1 l2) k4 n5 x (st_ty hNN fo.1 fo.2 rfl) hw) ⟨callB_of 1 hT (gw_in w_4_52) rfl rfl rfl (hT _ w_1_2) (hT _ w_7_91) (by decide +kernel) ⟨Nat.le_trans (by decide) hRf, Nat.le_trans (by decide) hRl⟩, hT _ w_4_50, hT _ w_4_51⟩ ⟨PV.blind, va_recv hK hW.1 (ci := 1) (q0 := (stC o 0)) rfl (pic_obj (st_ty hNN fo.1 fo.2 rfl).1 (st_ty hNN fo.1 fo.2 rfl).2 (by decide)), PV.at _ hW hK hN hE hS hF⟩ rfl rfl hl.1 rfl (lv_room (Nat.le_of_ble_eq_true rfl)) d_Asm_writeWord_19 ⟨show cells + k4 ≤ R.cells by omega, show slots + n5 ≤ R.slots by omega⟩) hS (fun q _ h => hF q h) hF (fun  x8 t H locs ht hvm hw hB hz1 hk1 hS => ?_)
    obtain ⟨x8, ad, NN⟩ := x8
    obtain ⟨hB, hle, hg⟩ := hB
    try dsimp only at hw hB hle hg
    have hW := Wd.back hB ht hF
    rw [← hg o fo.1] at hl
    have fo : o < NN ∧ kcC o = 11 := ⟨Nat.lt_of_lt_of_le fo.1 hle, fo.2⟩
    have hag : NN0 ≤ NN ∧ ∀ o : Nat, o < NN0 → ad o = ad0 o := ⟨Nat.le_trans hag.1 hle, fun o h => (hg o (Nat.lt_of_lt_of_le h hag.1)).trans (hag.2 o h)⟩
    have hNN : 152 ≤ NN := Nat.le_trans hNN hle
    clear hg hle
    obtain ⟨cells, ec⟩ : ∃ z, z = cells + k4 := ⟨_, rfl⟩
    obtain ⟨slots, es⟩ : ∃ z, z = slots + n5 := ⟨_, rfl⟩
    rw [← ec, ← es]
    have hRc : cells + k6 ≤ R.cells := by omega
    have hRs : slots + n7 ≤ R.slots := by omega
    clear ec es hB ht hF hz1 hk1 hvm ek4 en5
    refine lv_iinc (v := (l2 + 1)) (lv' := [(2, .int (l2 + 1)), (0, .ref (ad o)), (1, .ref (kK l1))]) hx hb d_Asm_writeWord_22 hl (k := 2) rfl rfl (by decide) rfl (fun ls hl => ?_)
    refine lv_goto (tgt := 2) hx hb d_Asm_writeWord_25 (by decide) ?_
    exact hrec2 ad NN cells slots o l1 (l2 + 1) k6 n7 x8 H locs ls hNN hag hRc hRs fo fl1 hw hW hS (lv_sub hl [1, 2, 0] rfl)
def wl_Asm_writeWord_2 (post : St → Prop) : Nat → Nat → Nat → Int32 → Nat → Nat → St → Prop
  | 0 => fun _ _ _ _ _ _ => False
  | n + 1 => j_Asm_writeWord_2 post (wl_Asm_writeWord_2 post n)
set_option maxHeartbeats 4000000 in
set_option maxRecDepth 100000 in
theorem tl_Asm_writeWord_2 {p : Program} {l : Launch} {e : Env} {R : Room} {s : State} {m : MethodId} {args : Array Value} {below : List Frame} {meth : Method} {c : Code} {Q : State → Prop} {dC : Nat → ClassId} {dI : Nat → Nat → Nat} {cI cB cJ cZ : ClassId} {A : Nat → Prop} {E : Heap} {tM tC : Nat} {kK kV : Nat → Nat} {ad0 : Nat → Nat} {NN0 : Nat} {post : St → Prop} (hx : p.tables.exec = Jvm.exec) (hb : c.code = b_Asm_writeWord) (hml : c.maxLocals = 3) (hown : s.vm.findClass R_Asm = some m.cls) (hT : ∀ w ∈ TG, w.before args s = true) (hK : va_K (dC, dI) CL (TY cI cB cJ cZ) s) (hN : NW s) (hA : ∀ q : Nat, s.heap.size ≤ q → A q) (hRf : 4 ≤ R.frames) (hRl : 242 ≤ R.locals) (hE : CE E tM tC kK kV A s) (hret : ∀ (ad : Nat → Nat) (NN cells slots : Nat) (x : St) (H : Heap) (locs : List Loc) (pc : Nat) (ls : Array Slot), decode b_Asm_writeWord pc = .ok (.return_, 1) → (NN0 ≤ NN ∧ ∀ o : Nat, o < NN0 → ad o = ad0 o) → cells ≤ R.cells → slots ≤ R.slots → post x → Wd dC dI cI cB cJ cZ ad stC kcC NN A x H → va_S A s.heap H locs → W p l e R s m args below meth c H locs cells slots Q (F0 m pc ls []))  : ∀ n : Nat, ∀ (ad : Nat → Nat) (NN cells slots : Nat) (o : Nat) (l1 : Nat) (l2 : Int32) (kb : Nat) (nb : Nat) (x : St) (H : Heap) (locs : List Loc) (ls : Array Slot), (152 ≤ NN) → (NN0 ≤ NN ∧ ∀ o : Nat, o < NN0 → ad o = ad0 o) → (cells + kb ≤ R.cells) → (slots + nb ≤ R.slots) → (o < NN ∧ kcC o = 11) → (l1 < NSTR) → wl_Asm_writeWord_2 post n o l1 l2 kb nb x → Wd dC dI cI cB cJ cZ ad stC kcC NN A x H → va_S A s.heap H locs → lv_has ls 3 [(0, .ref (ad o)), (1, .ref (kK l1)), (2, .int l2)] → W p l e R s m args below meth c H locs cells slots Q (F0 m 2 ls []) := by
  intro n
  induction n with
  | zero => intro ad NN cells slots o l1 l2 kb nb x H locs ls hNN hag hRc hRs fo fl1 hw; exact hw.elim
  | succ n ih => intro ad NN cells slots o l1 l2 kb nb x H locs ls hNN hag hRc hRs fo fl1 hw hW hS hl; exact t_Asm_writeWord_2 hx hb hml hown hT hK hN hA hRf hRl hE hret  ih ad NN cells slots o l1 l2 kb nb x H locs ls hNN hag hRc hRs fo fl1 hw hW hS hl
set_option maxRecDepth 100000 in
def wp_Asm_writeWord (post : St → Prop) (o : Nat) (l1 : Nat) (kb : Nat) (nb : Nat) (x : St) : Prop := ∃ n : Nat, wl_Asm_writeWord_2 post n o l1 0 kb nb x
set_option maxHeartbeats 4000000 in
set_option maxRecDepth 100000 in
theorem t_Asm_writeWord_e {p : Program} {l : Launch} {e : Env} {R : Room} {s : State} {m : MethodId} {args : Array Value} {below : List Frame} {meth : Method} {c : Code} {Q : State → Prop} {dC : Nat → ClassId} {dI : Nat → Nat → Nat} {cI cB cJ cZ : ClassId} {A : Nat → Prop} {E : Heap} {tM tC : Nat} {kK kV : Nat → Nat} {ad0 : Nat → Nat} {NN0 : Nat} {post : St → Prop} (hx : p.tables.exec = Jvm.exec) (hb : c.code = b_Asm_writeWord) (hml : c.maxLocals = 3) (hown : s.vm.findClass R_Asm = some m.cls) (hT : ∀ w ∈ TG, w.before args s = true) (hK : va_K (dC, dI) CL (TY cI cB cJ cZ) s) (hN : NW s) (hA : ∀ q : Nat, s.heap.size ≤ q → A q) (hRf : 4 ≤ R.frames) (hRl : 242 ≤ R.locals) (hE : CE E tM tC kK kV A s) (hret : ∀ (ad : Nat → Nat) (NN cells slots : Nat) (x : St) (H : Heap) (locs : List Loc) (pc : Nat) (ls : Array Slot), decode b_Asm_writeWord pc = .ok (.return_, 1) → (NN0 ≤ NN ∧ ∀ o : Nat, o < NN0 → ad o = ad0 o) → cells ≤ R.cells → slots ≤ R.slots → post x → Wd dC dI cI cB cJ cZ ad stC kcC NN A x H → va_S A s.heap H locs → W p l e R s m args below meth c H locs cells slots Q (F0 m pc ls [])) : ∀ (ad : Nat → Nat) (NN cells slots : Nat) (o : Nat) (l1 : Nat) (kb : Nat) (nb : Nat) (x : St) (H : Heap) (locs : List Loc) (ls : Array Slot), (152 ≤ NN) → (NN0 ≤ NN ∧ ∀ o : Nat, o < NN0 → ad o = ad0 o) → (cells + kb ≤ R.cells) → (slots + nb ≤ R.slots) → (o < NN ∧ kcC o = 11) → (l1 < NSTR) → wp_Asm_writeWord post o l1 kb nb x → Wd dC dI cI cB cJ cZ ad stC kcC NN A x H → va_S A s.heap H locs → lv_has ls 3 [(0, .ref (ad o)), (1, .ref (kK l1))] → W p l e R s m args below meth c H locs cells slots Q (F0 m 0 ls []) := by
  intro ad NN cells slots o l1 kb nb x H locs ls hNN hag hRc hRs fo fl1 hw hW hS hl
  unfold wp_Asm_writeWord at hw
  refine lv_iconst (v := 0) hx hb d_Asm_writeWord_0 (by decide) ?_
  refine lv_istore_n (lv' := [(2, .int 0), (0, .ref (ad o)), (1, .ref (kK l1))]) hx hb d_Asm_writeWord_1 rfl hl (by decide) rfl (fun ls hl => ?_)
  obtain ⟨n, hw⟩ := hw
  exact tl_Asm_writeWord_2 hx hb hml hown hT hK hN hA hRf hRl hE hret  n ad NN cells slots o l1 0 kb nb x H locs ls hNN hag hRc hRs fo fl1 hw hW hS (lv_sub hl [1, 2, 0] rfl)
set_option maxHeartbeats 4000000 in
set_option maxRecDepth 100000 in
theorem k_Asm_writeWord (l : Launch) (dC : Nat → ClassId) (dI : Nat → Nat → Nat) (cI cB cJ cZ : ClassId) (ad : Nat → Nat) (NN : Nat) (E : Heap) (tM tC : Nat) (kK kV : Nat → Nat) (hNN : 152 ≤ NN) (sz : Nat) (o : Nat) (l1 : Nat) (kb : Nat) (nb : Nat) (x : St) (fo : o < NN ∧ kcC o = 11) (fl1 : l1 < NSTR) {post : St → Prop} (hw : wp_Asm_writeWord post o l1 kb nb x) : Met l y_Asm_writeWord (wsOf y_Asm_writeWord b_Asm_writeWord 3 (none)) ({ frames := 4, cells := kb, slots := nb, locals := 242 }) (va_Pc [.ref (ad o), .ref (kK l1)] (PV dC dI cI cB cJ cZ ad stC kcC NN E tM tC kK kV sz x)) (va_Qv (fun (u : St × (Nat → Nat) × Nat) => post u.1) (fun u t => Wd dC dI cI cB cJ cZ u.2.1 stC kcC u.2.2 (va_A (pic ad stC kcC NN cI cB cJ cZ x) sz) u.1 t.heap ∧ NN ≤ u.2.2 ∧ ∀ o : Nat, o < NN → u.2.1 o = ad o) (va_A (pic ad stC kcC NN cI cB cJ cZ x) sz)) kb nb (va_A (pic ad stC kcC NN cI cB cJ cZ x) sz) := by
  refine Met.ofW (cc := b_Asm_writeWord) (maxL := 3) (ret := none) (by decide) rfl ?_
  intro p e s m args below meth c s₁ B hml hv
  obtain ⟨rfl, ⟨hsz, hW0, hK, hN⟩, hE⟩ := hv
  have hx := B.exec
  have hb := B.bytes
  have hr := B.returns
  have hts := atoms_spec B.pre
  have hT : ∀ w ∈ TG, w.before _ s = true := fun w h => hts w (List.mem_cons_of_mem _ h)
  have hown : s.vm.findClass R_Asm = some m.cls := findClass_of_methodNamed B.named
  have hlocks := B.notSynchronized
  subst hsz
  have hW : Wd dC dI cI cB cJ cZ ad stC kcC NN (va_A (pic ad stC kcC NN cI cB cJ cZ x) s.heap.size) x s.heap := ⟨hW0.1, hW0.2.1.self (sz := s.heap.size), hW0.2.2⟩
  generalize hAe : va_A (pic ad stC kcC NN cI cB cJ cZ x) s.heap.size = A at hW hE ⊢
  have hA : ∀ q : Nat, s.heap.size ≤ q → A q := fun q h => by rw [← hAe]; exact Or.inr h
  have hS : va_S A s.heap s.heap [] := va_S.rf
  have hl := lv_entry ([.ref (ad o), .ref (kK l1)]) (n := 3) (Nat.le_of_ble_eq_true rfl)
  rw [lg_entry_eq]
  generalize (lg_sl ([.ref (ad o), .ref (kK l1)]) ++ List.replicate (3 - (lg_sl ([.ref (ad o), .ref (kK l1)])).length) Slot.unset).toArray = ls at hl ⊢
  have hl : lv_has ls 3 [(0, .ref (ad o)), (1, .ref (kK l1))] := hl
  exact t_Asm_writeWord_e hx hb hml hown hT hK hN hA (Nat.le_refl 4) (Nat.le_refl 242) hE (fun ad1 NN1 cells slots x1 H locs pc ls hd hag hc hs hp hW hS => W.widen (k := kb) (n := nb) hc hs (W.vret hx hb hr (fun t ht hM => ⟨⟨(x1, ad1, NN1), rfl, hp, Wd.back hW ht.symm (fun _ z => z), hag.1, hag.2⟩, hS.F ht⟩) hS.2.2 hd hlocks))  ad NN 0 0 o l1 kb nb x _ _ ls hNN ⟨Nat.le_refl _, fun _ _ => rfl⟩ (Nat.le_of_eq (Nat.zero_add kb)) (Nat.le_of_eq (Nat.zero_add nb)) fo fl1 hw hW hS hl
set_option maxRecDepth 100000 in
def j_Asm_writeText_132 (post : St → Prop) (rec25 : Nat → Int64 → Int32 → Int32 → Int32 → Nat → Nat → St → Prop) (o : Nat) (l1 : Int64) (l3 : Int32) (l4 : Int32) (l5 : Int32) (l6 : Int32) (kb : Nat) (nb : Nat) (x : St) : Prop := rec25 o l1 l3 l4 (l5 + 1) kb nb x
set_option maxHeartbeats 4000000 in
set_option maxRecDepth 100000 in
theorem t_Asm_writeText_132 {p : Program} {l : Launch} {e : Env} {R : Room} {s : State} {m : MethodId} {args : Array Value} {below : List Frame} {meth : Method} {c : Code} {Q : State → Prop} {dC : Nat → ClassId} {dI : Nat → Nat → Nat} {cI cB cJ cZ : ClassId} {A : Nat → Prop} {E : Heap} {tM tC : Nat} {kK kV : Nat → Nat} {ad0 : Nat → Nat} {NN0 : Nat} {post : St → Prop} {rec25 : Nat → Int64 → Int32 → Int32 → Int32 → Nat → Nat → St → Prop} (hx : p.tables.exec = Jvm.exec) (hb : c.code = b_Asm_writeText) (hml : c.maxLocals = 7) (hown : s.vm.findClass R_Asm = some m.cls) (hT : ∀ w ∈ TG, w.before args s = true) (hK : va_K (dC, dI) CL (TY cI cB cJ cZ) s) (hN : NW s) (hA : ∀ q : Nat, s.heap.size ≤ q → A q) (hRf : 5 ≤ R.frames) (hRl : 264 ≤ R.locals) (hE : CE E tM tC kK kV A s) (hret : ∀ (ad : Nat → Nat) (NN cells slots : Nat) (x : St) (H : Heap) (locs : List Loc) (pc : Nat) (ls : Array Slot), decode b_Asm_writeText pc = .ok (.return_, 1) → (NN0 ≤ NN ∧ ∀ o : Nat, o < NN0 → ad o = ad0 o) → cells ≤ R.cells → slots ≤ R.slots → post x → Wd dC dI cI cB cJ cZ ad stC kcC NN A x H → va_S A s.heap H locs → W p l e R s m args below meth c H locs cells slots Q (F0 m pc ls [])) (hrec25 : ∀ (ad : Nat → Nat) (NN cells slots : Nat) (o : Nat) (l1 : Int64) (l3 : Int32) (l4 : Int32) (l5 : Int32) (kb : Nat) (nb : Nat) (x : St) (H : Heap) (locs : List Loc) (ls : Array Slot), (152 ≤ NN) → (NN0 ≤ NN ∧ ∀ o : Nat, o < NN0 → ad o = ad0 o) → (cells + kb ≤ R.cells) → (slots + nb ≤ R.slots) → (o < NN ∧ kcC o = 11) → rec25 o l1 l3 l4 l5 kb nb x → Wd dC dI cI cB cJ cZ ad stC kcC NN A x H → va_S A s.heap H locs → lv_has ls 7 [(0, .ref (ad o)), (1, .long l1), (3, .int l3), (4, .int l4), (5, .int l5)] → W p l e R s m args below meth c H locs cells slots Q (F0 m 25 ls [])) : ∀ (ad : Nat → Nat) (NN cells slots : Nat) (o : Nat) (l1 : Int64) (l3 : Int32) (l4 : Int32) (l5 : Int32) (l6 : Int32) (kb : Nat) (nb : Nat) (x : St) (H : Heap) (locs : List Loc) (ls : Array Slot), (152 ≤ NN) → (NN0 ≤ NN ∧ ∀ o : Nat, o < NN0 → ad o = ad0 o) → (cells + kb ≤ R.cells) → (slots + nb ≤ R.slots) → (o < NN ∧ kcC o = 11) → j_Asm_writeText_132 post rec25 o l1 l3 l4 l5 l6 kb nb x → Wd dC dI cI cB cJ cZ ad stC kcC NN A x H → va_S A s.heap H locs → lv_has ls 7 [(0, .ref (ad o)), (1, .long l1), (3, .int l3), (4, .int l4), (5, .int l5), (6, .int l6)] → W p l e R s m args below meth c H locs cells slots Q (F0 m 132 ls []) := by
  intro ad NN cells slots o l1 l3 l4 l5 l6 kb nb x H locs ls hNN hag hRc hRs fo hw hW hS hl
  unfold j_Asm_writeText_132 at hw
  refine lv_iinc (v := (l5 + 1)) (lv' := [(5, .int (l5 + 1)), (0, .ref (ad o)), (1, .long l1), (3, .int l3), (4, .int l4), (6, .int l6)]) hx hb d_Asm_writeText_132 hl (k := 4) rfl rfl (by decide) rfl (fun ls hl => ?_)
  refine lv_goto (tgt := 25) hx hb d_Asm_writeText_135 (by decide) ?_
  exact hrec25 ad NN cells slots o l1 l3 l4 (l5 + 1) kb nb x H locs ls hNN hag hRc hRs fo hw hW hS (lv_sub hl [1, 2, 3, 4, 0] rfl)
set_option maxRecDepth 100000 in
def j_Asm_writeText_123 (post : St → Prop) (rec25 : Nat → Int64 → Int32 → Int32 → Int32 → Nat → Nat → St → Prop) (o : Nat) (l1 : Int64) (l3 : Int32) (l4 : Int32) (l5 : Int32) (l6 : Int32) (kb : Nat) (nb : Nat) (x : St) : Prop := (∃ k1 n2 k3 n4 : Nat, k1 + k3 = kb ∧ n2 + n4 = nb ∧ wp_Snk_put (fun (x5 : St) => j_Asm_writeText_132 post rec25 o l1 l3 l4 l5 l6 k3 n4 x5) (stC o 0) l6 k1 n2 x)
set_option maxHeartbeats 4000000 in
set_option maxRecDepth 100000 in
theorem t_Asm_writeText_123 {p : Program} {l : Launch} {e : Env} {R : Room} {s : State} {m : MethodId} {args : Array Value} {below : List Frame} {meth : Method} {c : Code} {Q : State → Prop} {dC : Nat → ClassId} {dI : Nat → Nat → Nat} {cI cB cJ cZ : ClassId} {A : Nat → Prop} {E : Heap} {tM tC : Nat} {kK kV : Nat → Nat} {ad0 : Nat → Nat} {NN0 : Nat} {post : St → Prop} {rec25 : Nat → Int64 → Int32 → Int32 → Int32 → Nat → Nat → St → Prop} (hx : p.tables.exec = Jvm.exec) (hb : c.code = b_Asm_writeText) (hml : c.maxLocals = 7) (hown : s.vm.findClass R_Asm = some m.cls) (hT : ∀ w ∈ TG, w.before args s = true) (hK : va_K (dC, dI) CL (TY cI cB cJ cZ) s) (hN : NW s) (hA : ∀ q : Nat, s.heap.size ≤ q → A q) (hRf : 5 ≤ R.frames) (hRl : 264 ≤ R.locals) (hE : CE E tM tC kK kV A s) (hret : ∀ (ad : Nat → Nat) (NN cells slots : Nat) (x : St) (H : Heap) (locs : List Loc) (pc : Nat) (ls : Array Slot), decode b_Asm_writeText pc = .ok (.return_, 1) → (NN0 ≤ NN ∧ ∀ o : Nat, o < NN0 → ad o = ad0 o) → cells ≤ R.cells → slots ≤ R.slots → post x → Wd dC dI cI cB cJ cZ ad stC kcC NN A x H → va_S A s.heap H locs → W p l e R s m args below meth c H locs cells slots Q (F0 m pc ls [])) (hrec25 : ∀ (ad : Nat → Nat) (NN cells slots : Nat) (o : Nat) (l1 : Int64) (l3 : Int32) (l4 : Int32) (l5 : Int32) (kb : Nat) (nb : Nat) (x : St) (H : Heap) (locs : List Loc) (ls : Array Slot), (152 ≤ NN) → (NN0 ≤ NN ∧ ∀ o : Nat, o < NN0 → ad o = ad0 o) → (cells + kb ≤ R.cells) → (slots + nb ≤ R.slots) → (o < NN ∧ kcC o = 11) → rec25 o l1 l3 l4 l5 kb nb x → Wd dC dI cI cB cJ cZ ad stC kcC NN A x H → va_S A s.heap H locs → lv_has ls 7 [(0, .ref (ad o)), (1, .long l1), (3, .int l3), (4, .int l4), (5, .int l5)] → W p l e R s m args below meth c H locs cells slots Q (F0 m 25 ls [])) : ∀ (ad : Nat → Nat) (NN cells slots : Nat) (o : Nat) (l1 : Int64) (l3 : Int32) (l4 : Int32) (l5 : Int32) (l6 : Int32) (kb : Nat) (nb : Nat) (x : St) (H : Heap) (locs : List Loc) (ls : Array Slot), (152 ≤ NN) → (NN0 ≤ NN ∧ ∀ o : Nat, o < NN0 → ad o = ad0 o) → (cells + kb ≤ R.cells) → (slots + nb ≤ R.slots) → (o < NN ∧ kcC o = 11) → j_Asm_writeText_123 post rec25 o l1 l3 l4 l5 l6 kb nb x → Wd dC dI cI cB cJ cZ ad stC kcC NN A x H → va_S A s.heap H locs → lv_has ls 7 [(0, .ref (ad o)), (1, .long l1), (3, .int l3), (4, .int l4), (5, .int l5), (6, .int l6)] → W p l e R s m args below meth c H locs cells slots Q (F0 m 123 ls []) := by
  intro ad NN cells slots o l1 l3 l4 l5 l6 kb nb x H locs ls hNN hag hRc hRs fo hw hW hS hl
  unfold j_Asm_writeText_123 at hw
  refine lv_aload_n hx hb d_Asm_writeText_123 rfl (lv_at hl 0 rfl) ?_
  refine w_getf (q := (stC o 0)) (k := 0) (t := 11) (C := R_Asm) (T := F_Asm) (N := 4) hx hb hT hown hK hW fo.1 fo.2 (by decide) in_Asm rfl rfl (by decide) rfl fr_Asm_0 w_3_221 d_Asm_writeText_124 rfl ?_
  refine lv_iload hx hb d_Asm_writeText_127 (lv_at hl 5 rfl) ?_
  obtain ⟨k1, n2, k3, n4, ek1, en2, hw⟩ := hw
  have hF := hW.free hS hA
  refine va_callv (va_runV (C := R_Snk) (As := [.int l6]) (rest := []) ⟨hx, hb, hml, hown, hT⟩ (k_Snk_put l dC dI cI cB cJ cZ ad NN E tM tC kK kV hNN H.size (stC o 0) l6 k1 n2 x (st_ty hNN fo.1 fo.2 rfl) hw) ⟨callB_of 1 hT (gw_in w_4_52) rfl rfl rfl (hT _ w_1_2) (hT _ w_7_91) (by decide +kernel) ⟨Nat.le_trans (by decide) hRf, Nat.le_trans (by decide) hRl⟩, hT _ w_4_50, hT _ w_4_51⟩ ⟨PV.blind, va_recv hK hW.1 (ci := 1) (q0 := (stC o 0)) rfl (pic_obj (st_ty hNN fo.1 fo.2 rfl).1 (st_ty hNN fo.1 fo.2 rfl).2 (by decide)), PV.at _ hW hK hN hE hS hF⟩ rfl rfl hl.1 rfl (lv_room (Nat.le_of_ble_eq_true rfl)) d_Asm_writeText_129 ⟨show cells + k1 ≤ R.cells by omega, show slots + n2 ≤ R.slots by omega⟩) hS (fun q _ h => hF q h) hF (fun  x5 t H locs ht hvm hw hB hz1 hk1 hS => ?_)
  obtain ⟨x5, ad, NN⟩ := x5
  obtain ⟨hB, hle, hg⟩ := hB
  try dsimp only at hw hB hle hg
  have hW := Wd.back hB ht hF
  rw [← hg o fo.1] at hl
  have fo : o < NN ∧ kcC o = 11 := ⟨Nat.lt_of_lt_of_le fo.1 hle, fo.2⟩
  have hag : NN0 ≤ NN ∧ ∀ o : Nat, o < NN0 → ad o = ad0 o := ⟨Nat.le_trans hag.1 hle, fun o h => (hg o (Nat.lt_of_lt_of_le h hag.1)).trans (hag.2 o h)⟩
  have hNN : 152 ≤ NN := Nat.le_trans hNN hle
  clear hg hle
  obtain ⟨cells, ec⟩ : ∃ z, z = cells + k1 := ⟨_, rfl⟩
  obtain ⟨slots, es⟩ : ∃ z, z = slots + n2 := ⟨_, rfl⟩
  rw [← ec, ← es]
  have hRc : cells + k3 ≤ R.cells := by omega
  have hRs : slots + n4 ≤ R.slots := by omega
  clear ec es hB ht hF hz1 hk1 hvm ek1 en2
  exact t_Asm_writeText_132 hx hb hml hown hT hK hN hA hRf hRl hE hret hrec25 ad NN cells slots o l1 l3 l4 l5 l6 k3 n4 x5 H locs ls hNN hag hRc hRs fo hw hW hS (lv_sub hl [0, 1, 2, 3, 4, 5] rfl)
set_option maxRecDepth 100000 in
def j_Asm_writeText_114 (post : St → Prop) (rec25 : Nat → Int64 → Int32 → Int32 → Int32 → Nat → Nat → St → Prop) (o : Nat) (l1 : Int64) (l3 : Int32) (l4 : Int32) (l5 : Int32) (l6 : Int32) (kb : Nat) (nb : Nat) (x : St) : Prop := (∃ k6 n7 k8 n9 : Nat, k6 + k8 = kb ∧ n7 + n9 = nb ∧ wp_Snk_put (fun (x10 : St) => j_Asm_writeText_123 post rec25 o l1 l3 l4 l5 l6 k8 n9 x10) (stC o 0) 92 k6 n7 x)
set_option maxHeartbeats 4000000 in
set_option maxRecDepth 100000 in
theorem t_Asm_writeText_114 {p : Program} {l : Launch} {e : Env} {R : Room} {s : State} {m : MethodId} {args : Array Value} {below : List Frame} {meth : Method} {c : Code} {Q : State → Prop} {dC : Nat → ClassId} {dI : Nat → Nat → Nat} {cI cB cJ cZ : ClassId} {A : Nat → Prop} {E : Heap} {tM tC : Nat} {kK kV : Nat → Nat} {ad0 : Nat → Nat} {NN0 : Nat} {post : St → Prop} {rec25 : Nat → Int64 → Int32 → Int32 → Int32 → Nat → Nat → St → Prop} (hx : p.tables.exec = Jvm.exec) (hb : c.code = b_Asm_writeText) (hml : c.maxLocals = 7) (hown : s.vm.findClass R_Asm = some m.cls) (hT : ∀ w ∈ TG, w.before args s = true) (hK : va_K (dC, dI) CL (TY cI cB cJ cZ) s) (hN : NW s) (hA : ∀ q : Nat, s.heap.size ≤ q → A q) (hRf : 5 ≤ R.frames) (hRl : 264 ≤ R.locals) (hE : CE E tM tC kK kV A s) (hret : ∀ (ad : Nat → Nat) (NN cells slots : Nat) (x : St) (H : Heap) (locs : List Loc) (pc : Nat) (ls : Array Slot), decode b_Asm_writeText pc = .ok (.return_, 1) → (NN0 ≤ NN ∧ ∀ o : Nat, o < NN0 → ad o = ad0 o) → cells ≤ R.cells → slots ≤ R.slots → post x → Wd dC dI cI cB cJ cZ ad stC kcC NN A x H → va_S A s.heap H locs → W p l e R s m args below meth c H locs cells slots Q (F0 m pc ls [])) (hrec25 : ∀ (ad : Nat → Nat) (NN cells slots : Nat) (o : Nat) (l1 : Int64) (l3 : Int32) (l4 : Int32) (l5 : Int32) (kb : Nat) (nb : Nat) (x : St) (H : Heap) (locs : List Loc) (ls : Array Slot), (152 ≤ NN) → (NN0 ≤ NN ∧ ∀ o : Nat, o < NN0 → ad o = ad0 o) → (cells + kb ≤ R.cells) → (slots + nb ≤ R.slots) → (o < NN ∧ kcC o = 11) → rec25 o l1 l3 l4 l5 kb nb x → Wd dC dI cI cB cJ cZ ad stC kcC NN A x H → va_S A s.heap H locs → lv_has ls 7 [(0, .ref (ad o)), (1, .long l1), (3, .int l3), (4, .int l4), (5, .int l5)] → W p l e R s m args below meth c H locs cells slots Q (F0 m 25 ls [])) : ∀ (ad : Nat → Nat) (NN cells slots : Nat) (o : Nat) (l1 : Int64) (l3 : Int32) (l4 : Int32) (l5 : Int32) (l6 : Int32) (kb : Nat) (nb : Nat) (x : St) (H : Heap) (locs : List Loc) (ls : Array Slot), (152 ≤ NN) → (NN0 ≤ NN ∧ ∀ o : Nat, o < NN0 → ad o = ad0 o) → (cells + kb ≤ R.cells) → (slots + nb ≤ R.slots) → (o < NN ∧ kcC o = 11) → j_Asm_writeText_114 post rec25 o l1 l3 l4 l5 l6 kb nb x → Wd dC dI cI cB cJ cZ ad stC kcC NN A x H → va_S A s.heap H locs → lv_has ls 7 [(0, .ref (ad o)), (1, .long l1), (3, .int l3), (4, .int l4), (5, .int l5), (6, .int l6)] → W p l e R s m args below meth c H locs cells slots Q (F0 m 114 ls []) := by
  intro ad NN cells slots o l1 l3 l4 l5 l6 kb nb x H locs ls hNN hag hRc hRs fo hw hW hS hl
  unfold j_Asm_writeText_114 at hw
  refine lv_aload_n hx hb d_Asm_writeText_114 rfl (lv_at hl 0 rfl) ?_
  refine w_getf (q := (stC o 0)) (k := 0) (t := 11) (C := R_Asm) (T := F_Asm) (N := 4) hx hb hT hown hK hW fo.1 fo.2 (by decide) in_Asm rfl rfl (by decide) rfl fr_Asm_0 w_3_221 d_Asm_writeText_115 rfl ?_
  refine lv_bipush (v := 92) hx hb d_Asm_writeText_118 (by decide) ?_
  obtain ⟨k6, n7, k8, n9, ek6, en7, hw⟩ := hw
  have hF := hW.free hS hA
  refine va_callv (va_runV (C := R_Snk) (As := [.int 92]) (rest := []) ⟨hx, hb, hml, hown, hT⟩ (k_Snk_put l dC dI cI cB cJ cZ ad NN E tM tC kK kV hNN H.size (stC o 0) 92 k6 n7 x (st_ty hNN fo.1 fo.2 rfl) hw) ⟨callB_of 1 hT (gw_in w_4_52) rfl rfl rfl (hT _ w_1_2) (hT _ w_7_91) (by decide +kernel) ⟨Nat.le_trans (by decide) hRf, Nat.le_trans (by decide) hRl⟩, hT _ w_4_50, hT _ w_4_51⟩ ⟨PV.blind, va_recv hK hW.1 (ci := 1) (q0 := (stC o 0)) rfl (pic_obj (st_ty hNN fo.1 fo.2 rfl).1 (st_ty hNN fo.1 fo.2 rfl).2 (by decide)), PV.at _ hW hK hN hE hS hF⟩ rfl rfl hl.1 rfl (lv_room (Nat.le_of_ble_eq_true rfl)) d_Asm_writeText_120 ⟨show cells + k6 ≤ R.cells by omega, show slots + n7 ≤ R.slots by omega⟩) hS (fun q _ h => hF q h) hF (fun  x10 t H locs ht hvm hw hB hz1 hk1 hS => ?_)
  obtain ⟨x10, ad, NN⟩ := x10
  obtain ⟨hB, hle, hg⟩ := hB
  try dsimp only at hw hB hle hg
  have hW := Wd.back hB ht hF
  rw [← hg o fo.1] at hl
  have fo : o < NN ∧ kcC o = 11 := ⟨Nat.lt_of_lt_of_le fo.1 hle, fo.2⟩
  have hag : NN0 ≤ NN ∧ ∀ o : Nat, o < NN0 → ad o = ad0 o := ⟨Nat.le_trans hag.1 hle, fun o h => (hg o (Nat.lt_of_lt_of_le h hag.1)).trans (hag.2 o h)⟩
  have hNN : 152 ≤ NN := Nat.le_trans hNN hle
  clear hg hle
  obtain ⟨cells, ec⟩ : ∃ z, z = cells + k6 := ⟨_, rfl⟩
  obtain ⟨slots, es⟩ : ∃ z, z = slots + n7 := ⟨_, rfl⟩
  rw [← ec, ← es]
  have hRc : cells + k8 ≤ R.cells := by omega
  have hRs : slots + n9 ≤ R.slots := by omega
  clear ec es hB ht hF hz1 hk1 hvm ek6 en7
  exact t_Asm_writeText_123 hx hb hml hown hT hK hN hA hRf hRl hE hret hrec25 ad NN cells slots o l1 l3 l4 l5 l6 k8 n9 x10 H locs ls hNN hag hRc hRs fo hw hW hS (lv_sub hl [0, 1, 2, 3, 4, 5] rfl)
set_option maxRecDepth 100000 in
def j_Asm_writeText_62 (post : St → Prop) (rec25 : Nat → Int64 → Int32 → Int32 → Int32 → Nat → Nat → St → Prop) (o : Nat) (l1 : Int64) (l3 : Int32) (l4 : Int32) (l5 : Int32) (l6 : Int32) (kb : Nat) (nb : Nat) (x : St) : Prop := (∃ k11 n12 k13 n14 : Nat, k11 + k13 = kb ∧ n12 + n14 = nb ∧ wp_Asm_writeWord (fun (x15 : St) => wp_Asm_hexDigit (fun (r17 : Int32) (x16 : St) => (∃ k18 n19 k20 n21 : Nat, k18 + k20 = k13 ∧ n19 + n21 = n14 ∧ wp_Snk_put (fun (x22 : St) => wp_Asm_hexDigit (fun (r24 : Int32) (x23 : St) => (∃ k25 n26 k27 n28 : Nat, k25 + k27 = k20 ∧ n26 + n28 = n21 ∧ wp_Snk_put (fun (x29 : St) => j_Asm_writeText_132 post rec25 o l1 l3 l4 l5 l6 k27 n28 x29) (stC o 0) r24 k25 n26 x23)) (l6 &&& 15) x22) (stC o 0) r17 k18 n19 x16)) (l6 >>> (4 &&& 31)) x15) o 10 k11 n12 x)
set_option maxHeartbeats 4000000 in
set_option maxRecDepth 100000 in
theorem t_Asm_writeText_62 {p : Program} {l : Launch} {e : Env} {R : Room} {s : State} {m : MethodId} {args : Array Value} {below : List Frame} {meth : Method} {c : Code} {Q : State → Prop} {dC : Nat → ClassId} {dI : Nat → Nat → Nat} {cI cB cJ cZ : ClassId} {A : Nat → Prop} {E : Heap} {tM tC : Nat} {kK kV : Nat → Nat} {ad0 : Nat → Nat} {NN0 : Nat} {post : St → Prop} {rec25 : Nat → Int64 → Int32 → Int32 → Int32 → Nat → Nat → St → Prop} (hx : p.tables.exec = Jvm.exec) (hb : c.code = b_Asm_writeText) (hml : c.maxLocals = 7) (hown : s.vm.findClass R_Asm = some m.cls) (hT : ∀ w ∈ TG, w.before args s = true) (hK : va_K (dC, dI) CL (TY cI cB cJ cZ) s) (hN : NW s) (hA : ∀ q : Nat, s.heap.size ≤ q → A q) (hRf : 5 ≤ R.frames) (hRl : 264 ≤ R.locals) (hE : CE E tM tC kK kV A s) (hret : ∀ (ad : Nat → Nat) (NN cells slots : Nat) (x : St) (H : Heap) (locs : List Loc) (pc : Nat) (ls : Array Slot), decode b_Asm_writeText pc = .ok (.return_, 1) → (NN0 ≤ NN ∧ ∀ o : Nat, o < NN0 → ad o = ad0 o) → cells ≤ R.cells → slots ≤ R.slots → post x → Wd dC dI cI cB cJ cZ ad stC kcC NN A x H → va_S A s.heap H locs → W p l e R s m args below meth c H locs cells slots Q (F0 m pc ls [])) (hrec25 : ∀ (ad : Nat → Nat) (NN cells slots : Nat) (o : Nat) (l1 : Int64) (l3 : Int32) (l4 : Int32) (l5 : Int32) (kb : Nat) (nb : Nat) (x : St) (H : Heap) (locs : List Loc) (ls : Array Slot), (152 ≤ NN) → (NN0 ≤ NN ∧ ∀ o : Nat, o < NN0 → ad o = ad0 o) → (cells + kb ≤ R.cells) → (slots + nb ≤ R.slots) → (o < NN ∧ kcC o = 11) → rec25 o l1 l3 l4 l5 kb nb x → Wd dC dI cI cB cJ cZ ad stC kcC NN A x H → va_S A s.heap H locs → lv_has ls 7 [(0, .ref (ad o)), (1, .long l1), (3, .int l3), (4, .int l4), (5, .int l5)] → W p l e R s m args below meth c H locs cells slots Q (F0 m 25 ls [])) : ∀ (ad : Nat → Nat) (NN cells slots : Nat) (o : Nat) (l1 : Int64) (l3 : Int32) (l4 : Int32) (l5 : Int32) (l6 : Int32) (kb : Nat) (nb : Nat) (x : St) (H : Heap) (locs : List Loc) (ls : Array Slot), (152 ≤ NN) → (NN0 ≤ NN ∧ ∀ o : Nat, o < NN0 → ad o = ad0 o) → (cells + kb ≤ R.cells) → (slots + nb ≤ R.slots) → (o < NN ∧ kcC o = 11) → j_Asm_writeText_62 post rec25 o l1 l3 l4 l5 l6 kb nb x → Wd dC dI cI cB cJ cZ ad stC kcC NN A x H → va_S A s.heap H locs → lv_has ls 7 [(0, .ref (ad o)), (1, .long l1), (3, .int l3), (4, .int l4), (5, .int l5), (6, .int l6)] → W p l e R s m args below meth c H locs cells slots Q (F0 m 62 ls []) := by
  intro ad NN cells slots o l1 l3 l4 l5 l6 kb nb x H locs ls hNN hag hRc hRs fo hw hW hS hl
  unfold j_Asm_writeText_62 at hw
  refine lv_aload_n hx hb d_Asm_writeText_62 rfl (lv_at hl 0 rfl) ?_
  refine va_ldcS hx hb hown (hE.str 10 (by decide)) d_Asm_writeText_63 ?_
  obtain ⟨k11, n12, k13, n14, ek11, en12, hw⟩ := hw
  have hF := hW.free hS hA
  refine va_callv (va_runV (C := R_Asm) (As := [.ref (kK 10)]) (rest := []) ⟨hx, hb, hml, hown, hT⟩ (k_Asm_writeWord l dC dI cI cB cJ cZ ad NN E tM tC kK kV hNN H.size o 10 k11 n12 x fo (by decide) hw) ⟨callB_of 1 hT (gw_in w_7_117) rfl rfl rfl (hT _ w_1_14) (hT _ w_7_114) (by decide +kernel) ⟨Nat.le_trans (by decide) hRf, Nat.le_trans (by decide) hRl⟩, hT _ w_7_116, hT _ ws_67⟩ ⟨PV.blind, va_recv hK hW.1 (ci := 11) (q0 := o) rfl (pic_obj fo.1 fo.2 (by decide)), PV.at _ hW hK hN hE hS hF⟩ rfl rfl hl.1 rfl (lv_room (Nat.le_of_ble_eq_true rfl)) d_Asm_writeText_65 ⟨show cells + k11 ≤ R.cells by omega, show slots + n12 ≤ R.slots by omega⟩) hS (fun q _ h => hF q h) hF (fun  x15 t H locs ht hvm hw hB hz1 hk1 hS => ?_)
  obtain ⟨x15, ad, NN⟩ := x15
  obtain ⟨hB, hle, hg⟩ := hB
  try dsimp only at hw hB hle hg
  have hW := Wd.back hB ht hF
  rw [← hg o fo.1] at hl
  have fo : o < NN ∧ kcC o = 11 := ⟨Nat.lt_of_lt_of_le fo.1 hle, fo.2⟩
  have hag : NN0 ≤ NN ∧ ∀ o : Nat, o < NN0 → ad o = ad0 o := ⟨Nat.le_trans hag.1 hle, fun o h => (hg o (Nat.lt_of_lt_of_le h hag.1)).trans (hag.2 o h)⟩
  have hNN : 152 ≤ NN := Nat.le_trans hNN hle
  clear hg hle
  obtain ⟨cells, ec⟩ : ∃ z, z = cells + k11 := ⟨_, rfl⟩
  obtain ⟨slots, es⟩ : ∃ z, z = slots + n12 := ⟨_, rfl⟩
  rw [← ec, ← es]
  have hRc : cells + k13 ≤ R.cells := by omega
  have hRs : slots + n14 ≤ R.slots := by omega
  clear ec es hB ht hF hz1 hk1 hvm ek11 en12
  refine lv_aload_n hx hb d_Asm_writeText_68 rfl (lv_at hl 0 rfl) ?_
  refine w_getf (q := (stC o 0)) (k := 0) (t := 11) (C := R_Asm) (T := F_Asm) (N := 4) hx hb hT hown hK hW fo.1 fo.2 (by decide) in_Asm rfl rfl (by decide) rfl fr_Asm_0 w_3_221 d_Asm_writeText_69 rfl ?_
  refine lv_iload hx hb d_Asm_writeText_72 (lv_at hl 5 rfl) ?_
  refine lv_iconst (v := 4) hx hb d_Asm_writeText_74 (by decide) ?_
  refine lv_ishr hx hb d_Asm_writeText_75 ?_
  have hF := hW.free hS hA
  refine va_calli (va_runS (As := [.int (l6 >>> (4 &&& 31))]) (rest := [.ref (ad (stC o 0))]) ⟨hx, hb, hml, hown, hT⟩ (k_Asm_hexDigit l dC dI cI cB cJ cZ ad NN E tM tC kK kV hNN H.size (l6 >>> (4 &&& 31)) x15  hw) ⟨callB_of 1 hT (gw_in w_7_122) rfl rfl rfl (hT _ w_1_14) (hT _ w_7_120) (by decide +kernel) ⟨Nat.le_trans (by decide) hRf, Nat.le_trans (by decide) hRl⟩, hT _ w_7_121⟩ ⟨PV.blind, PV.at _ hW hK hN hE hS hF⟩ rfl rfl hl.1 rfl (lv_room (Nat.le_of_ble_eq_true rfl)) d_Asm_writeText_76 ⟨(Nat.le_trans (Nat.le_add_right _ _) hRc), (Nat.le_trans (Nat.le_add_right _ _) hRs)⟩) hS (fun q _ h => hF q h) hF (fun r17 x16 t H locs ht hvm hw hB hz1 hk1 hS => ?_)
  have hW := Wd.back hB ht hF
  clear hB ht hF hz1 hk1 hvm
  obtain ⟨k18, n19, k20, n21, ek18, en19, hw⟩ := hw
  have hF := hW.free hS hA
  refine va_callv (va_runV (C := R_Snk) (As := [.int r17]) (rest := []) ⟨hx, hb, hml, hown, hT⟩ (k_Snk_put l dC dI cI cB cJ cZ ad NN E tM tC kK kV hNN H.size (stC o 0) r17 k18 n19 x16 (st_ty hNN fo.1 fo.2 rfl) hw) ⟨callB_of 1 hT (gw_in w_4_52) rfl rfl rfl (hT _ w_1_2) (hT _ w_7_91) (by decide +kernel) ⟨Nat.le_trans (by decide) hRf, Nat.le_trans (by decide) hRl⟩, hT _ w_4_50, hT _ w_4_51⟩ ⟨PV.blind, va_recv hK hW.1 (ci := 1) (q0 := (stC o 0)) rfl (pic_obj (st_ty hNN fo.1 fo.2 rfl).1 (st_ty hNN fo.1 fo.2 rfl).2 (by decide)), PV.at _ hW hK hN hE hS hF⟩ rfl rfl hl.1 rfl (lv_room (Nat.le_of_ble_eq_true rfl)) d_Asm_writeText_79 ⟨show cells + k18 ≤ R.cells by omega, show slots + n19 ≤ R.slots by omega⟩) hS (fun q _ h => hF q h) hF (fun  x22 t H locs ht hvm hw hB hz1 hk1 hS => ?_)
  obtain ⟨x22, ad, NN⟩ := x22
  obtain ⟨hB, hle, hg⟩ := hB
  try dsimp only at hw hB hle hg
  have hW := Wd.back hB ht hF
  rw [← hg o fo.1] at hl
  have fo : o < NN ∧ kcC o = 11 := ⟨Nat.lt_of_lt_of_le fo.1 hle, fo.2⟩
  have hag : NN0 ≤ NN ∧ ∀ o : Nat, o < NN0 → ad o = ad0 o := ⟨Nat.le_trans hag.1 hle, fun o h => (hg o (Nat.lt_of_lt_of_le h hag.1)).trans (hag.2 o h)⟩
  have hNN : 152 ≤ NN := Nat.le_trans hNN hle
  clear hg hle
  obtain ⟨cells, ec⟩ : ∃ z, z = cells + k18 := ⟨_, rfl⟩
  obtain ⟨slots, es⟩ : ∃ z, z = slots + n19 := ⟨_, rfl⟩
  rw [← ec, ← es]
  have hRc : cells + k20 ≤ R.cells := by omega
  have hRs : slots + n21 ≤ R.slots := by omega
  clear ec es hB ht hF hz1 hk1 hvm ek18 en19
  refine lv_aload_n hx hb d_Asm_writeText_82 rfl (lv_at hl 0 rfl) ?_
  refine w_getf (q := (stC o 0)) (k := 0) (t := 11) (C := R_Asm) (T := F_Asm) (N := 4) hx hb hT hown hK hW fo.1 fo.2 (by decide) in_Asm rfl rfl (by decide) rfl fr_Asm_0 w_3_221 d_Asm_writeText_83 rfl ?_
  refine lv_iload hx hb d_Asm_writeText_86 (lv_at hl 5 rfl) ?_
  refine lv_bipush (v := 15) hx hb d_Asm_writeText_88 (by decide) ?_
  refine lv_iand hx hb d_Asm_writeText_90 ?_
  have hF := hW.free hS hA
  refine va_calli (va_runS (As := [.int (l6 &&& 15)]) (rest := [.ref (ad (stC o 0))]) ⟨hx, hb, hml, hown, hT⟩ (k_Asm_hexDigit l dC dI cI cB cJ cZ ad NN E tM tC kK kV hNN H.size (l6 &&& 15) x22  hw) ⟨callB_of 1 hT (gw_in w_7_122) rfl rfl rfl (hT _ w_1_14) (hT _ w_7_120) (by decide +kernel) ⟨Nat.le_trans (by decide) hRf, Nat.le_trans (by decide) hRl⟩, hT _ w_7_121⟩ ⟨PV.blind, PV.at _ hW hK hN hE hS hF⟩ rfl rfl hl.1 rfl (lv_room (Nat.le_of_ble_eq_true rfl)) d_Asm_writeText_91 ⟨(Nat.le_trans (Nat.le_add_right _ _) hRc), (Nat.le_trans (Nat.le_add_right _ _) hRs)⟩) hS (fun q _ h => hF q h) hF (fun r24 x23 t H locs ht hvm hw hB hz1 hk1 hS => ?_)
  have hW := Wd.back hB ht hF
  clear hB ht hF hz1 hk1 hvm
  obtain ⟨k25, n26, k27, n28, ek25, en26, hw⟩ := hw
  have hF := hW.free hS hA
  refine va_callv (va_runV (C := R_Snk) (As := [.int r24]) (rest := []) ⟨hx, hb, hml, hown, hT⟩ (k_Snk_put l dC dI cI cB cJ cZ ad NN E tM tC kK kV hNN H.size (stC o 0) r24 k25 n26 x23 (st_ty hNN fo.1 fo.2 rfl) hw) ⟨callB_of 1 hT (gw_in w_4_52) rfl rfl rfl (hT _ w_1_2) (hT _ w_7_91) (by decide +kernel) ⟨Nat.le_trans (by decide) hRf, Nat.le_trans (by decide) hRl⟩, hT _ w_4_50, hT _ w_4_51⟩ ⟨PV.blind, va_recv hK hW.1 (ci := 1) (q0 := (stC o 0)) rfl (pic_obj (st_ty hNN fo.1 fo.2 rfl).1 (st_ty hNN fo.1 fo.2 rfl).2 (by decide)), PV.at _ hW hK hN hE hS hF⟩ rfl rfl hl.1 rfl (lv_room (Nat.le_of_ble_eq_true rfl)) d_Asm_writeText_94 ⟨show cells + k25 ≤ R.cells by omega, show slots + n26 ≤ R.slots by omega⟩) hS (fun q _ h => hF q h) hF (fun  x29 t H locs ht hvm hw hB hz1 hk1 hS => ?_)
  obtain ⟨x29, ad, NN⟩ := x29
  obtain ⟨hB, hle, hg⟩ := hB
  try dsimp only at hw hB hle hg
  have hW := Wd.back hB ht hF
  rw [← hg o fo.1] at hl
  have fo : o < NN ∧ kcC o = 11 := ⟨Nat.lt_of_lt_of_le fo.1 hle, fo.2⟩
  have hag : NN0 ≤ NN ∧ ∀ o : Nat, o < NN0 → ad o = ad0 o := ⟨Nat.le_trans hag.1 hle, fun o h => (hg o (Nat.lt_of_lt_of_le h hag.1)).trans (hag.2 o h)⟩
  have hNN : 152 ≤ NN := Nat.le_trans hNN hle
  clear hg hle
  obtain ⟨cells, ec⟩ : ∃ z, z = cells + k25 := ⟨_, rfl⟩
  obtain ⟨slots, es⟩ : ∃ z, z = slots + n26 := ⟨_, rfl⟩
  rw [← ec, ← es]
  have hRc : cells + k27 ≤ R.cells := by omega
  have hRs : slots + n28 ≤ R.slots := by omega
  clear ec es hB ht hF hz1 hk1 hvm ek25 en26
  refine lv_goto (tgt := 132) hx hb d_Asm_writeText_97 (by decide) ?_
  exact t_Asm_writeText_132 hx hb hml hown hT hK hN hA hRf hRl hE hret hrec25 ad NN cells slots o l1 l3 l4 l5 l6 k27 n28 x29 H locs ls hNN hag hRc hRs fo hw hW hS (lv_sub hl [0, 1, 2, 3, 4, 5] rfl)
set_option maxRecDepth 100000 in
def j_Asm_writeText_25 (post : St → Prop) (rec25 : Nat → Int64 → Int32 → Int32 → Int32 → Nat → Nat → St → Prop) (o : Nat) (l1 : Int64) (l3 : Int32) (l4 : Int32) (l5 : Int32) (kb : Nat) (nb : Nat) (x : St) : Prop := ((l4 ≤ l5 → (∃ k31 n32 k33 n34 : Nat, k31 + k33 = kb ∧ n32 + n34 = nb ∧ wp_Snk_put (fun (x35 : St) => post x35) (stC o 0) 39 k31 n32 x)) ∧ (¬ l4 ≤ l5 → (vp_in l5 (fN x (stC (stC o 1) 6)) ∧ (∀ v36 : Int32, v36 = ((rA x (stC (stC o 1) 6) l5) &&& 255) → ((v36 < 32 → j_Asm_writeText_62 post rec25 o l1 l3 l4 l5 v36 kb nb x) ∧ (¬ v36 < 32 → ((v36 ≤ 126 → ((v36 = 39 → j_Asm_writeText_114 post rec25 o l1 l3 l4 l5 v36 kb nb x) ∧ (¬ v36 = 39 → ((¬ v36 = 92 → j_Asm_writeText_123 post rec25 o l1 l3 l4 l5 v36 kb nb x) ∧ (v36 = 92 → j_Asm_writeText_114 post rec25 o l1 l3 l4 l5 v36 kb nb x))))) ∧ (¬ v36 ≤ 126 → j_Asm_writeText_62 post rec25 o l1 l3 l4 l5 v36 kb nb x))))))))
set_option maxHeartbeats 4000000 in
set_option maxRecDepth 100000 in
theorem t_Asm_writeText_25 {p : Program} {l : Launch} {e : Env} {R : Room} {s : State} {m : MethodId} {args : Array Value} {below : List Frame} {meth : Method} {c : Code} {Q : State → Prop} {dC : Nat → ClassId} {dI : Nat → Nat → Nat} {cI cB cJ cZ : ClassId} {A : Nat → Prop} {E : Heap} {tM tC : Nat} {kK kV : Nat → Nat} {ad0 : Nat → Nat} {NN0 : Nat} {post : St → Prop} {rec25 : Nat → Int64 → Int32 → Int32 → Int32 → Nat → Nat → St → Prop} (hx : p.tables.exec = Jvm.exec) (hb : c.code = b_Asm_writeText) (hml : c.maxLocals = 7) (hown : s.vm.findClass R_Asm = some m.cls) (hT : ∀ w ∈ TG, w.before args s = true) (hK : va_K (dC, dI) CL (TY cI cB cJ cZ) s) (hN : NW s) (hA : ∀ q : Nat, s.heap.size ≤ q → A q) (hRf : 5 ≤ R.frames) (hRl : 264 ≤ R.locals) (hE : CE E tM tC kK kV A s) (hret : ∀ (ad : Nat → Nat) (NN cells slots : Nat) (x : St) (H : Heap) (locs : List Loc) (pc : Nat) (ls : Array Slot), decode b_Asm_writeText pc = .ok (.return_, 1) → (NN0 ≤ NN ∧ ∀ o : Nat, o < NN0 → ad o = ad0 o) → cells ≤ R.cells → slots ≤ R.slots → post x → Wd dC dI cI cB cJ cZ ad stC kcC NN A x H → va_S A s.heap H locs → W p l e R s m args below meth c H locs cells slots Q (F0 m pc ls [])) (hrec25 : ∀ (ad : Nat → Nat) (NN cells slots : Nat) (o : Nat) (l1 : Int64) (l3 : Int32) (l4 : Int32) (l5 : Int32) (kb : Nat) (nb : Nat) (x : St) (H : Heap) (locs : List Loc) (ls : Array Slot), (152 ≤ NN) → (NN0 ≤ NN ∧ ∀ o : Nat, o < NN0 → ad o = ad0 o) → (cells + kb ≤ R.cells) → (slots + nb ≤ R.slots) → (o < NN ∧ kcC o = 11) → rec25 o l1 l3 l4 l5 kb nb x → Wd dC dI cI cB cJ cZ ad stC kcC NN A x H → va_S A s.heap H locs → lv_has ls 7 [(0, .ref (ad o)), (1, .long l1), (3, .int l3), (4, .int l4), (5, .int l5)] → W p l e R s m args below meth c H locs cells slots Q (F0 m 25 ls [])) : ∀ (ad : Nat → Nat) (NN cells slots : Nat) (o : Nat) (l1 : Int64) (l3 : Int32) (l4 : Int32) (l5 : Int32) (kb : Nat) (nb : Nat) (x : St) (H : Heap) (locs : List Loc) (ls : Array Slot), (152 ≤ NN) → (NN0 ≤ NN ∧ ∀ o : Nat, o < NN0 → ad o = ad0 o) → (cells + kb ≤ R.cells) → (slots + nb ≤ R.slots) → (o < NN ∧ kcC o = 11) → j_Asm_writeText_25 post rec25 o l1 l3 l4 l5 kb nb x → Wd dC dI cI cB cJ cZ ad stC kcC NN A x H → va_S A s.heap H locs → lv_has ls 7 [(0, .ref (ad o)), (1, .long l1), (3, .int l3), (4, .int l4), (5, .int l5)] → W p l e R s m args below meth c H locs cells slots Q (F0 m 25 ls []) := by
  intro ad NN cells slots o l1 l3 l4 l5 kb nb x H locs ls hNN hag hRc hRs fo hw hW hS hl
  unfold j_Asm_writeText_25 at hw
  refine lv_iload hx hb d_Asm_writeText_25 (lv_at hl 4 rfl) ?_
  refine lv_iload hx hb d_Asm_writeText_27 (lv_at hl 3 rfl) ?_
  refine lv_icmp_ge (tgt := 138) hx hb d_Asm_writeText_29 (by decide) (fun c30 => ?_) (fun c30 => ?_)
  · have hw := hw.1 c30
    refine lv_aload_n hx hb d_Asm_writeText_138 rfl (lv_at hl 0 rfl) ?_
    refine w_getf (q := (stC o 0)) (k := 0) (t := 11) (C := R_Asm) (T := F_Asm) (N := 4) hx hb hT hown hK hW fo.1 fo.2 (by decide) in_Asm rfl rfl (by decide) rfl fr_Asm_0 w_3_221 d_Asm_writeText_139 rfl ?_
    refine lv_bipush (v := 39) hx hb d_Asm_writeText_142 (by decide) ?_
    obtain ⟨k31, n32, k33, n34, ek31, en32, hw⟩ := hw
    have hF := hW.free hS hA
    refine va_callv (va_runV (C := R_Snk) (As := [.int 39]) (rest := []) ⟨hx, hb, hml, hown, hT⟩ (k_Snk_put l dC dI cI cB cJ cZ ad NN E tM tC kK kV hNN H.size (stC o 0) 39 k31 n32 x (st_ty hNN fo.1 fo.2 rfl) hw) ⟨callB_of 1 hT (gw_in w_4_52) rfl rfl rfl (hT _ w_1_2) (hT _ w_7_91) (by decide +kernel) ⟨Nat.le_trans (by decide) hRf, Nat.le_trans (by decide) hRl⟩, hT _ w_4_50, hT _ w_4_51⟩ ⟨PV.blind, va_recv hK hW.1 (ci := 1) (q0 := (stC o 0)) rfl (pic_obj (st_ty hNN fo.1 fo.2 rfl).1 (st_ty hNN fo.1 fo.2 rfl).2 (by decide)), PV.at _ hW hK hN hE hS hF⟩ rfl rfl hl.1 rfl (lv_room (Nat.le_of_ble_eq_true rfl)) d_Asm_writeText_144 ⟨show cells + k31 ≤ R.cells by omega, show slots + n32 ≤ R.slots by omega⟩) hS (fun q _ h => hF q h) hF (fun  x35 t H locs ht hvm hw hB hz1 hk1 hS => ?_)
    obtain ⟨x35, ad, NN⟩ := x35
    obtain ⟨hB, hle, hg⟩ := hB
    try dsimp only at hw hB hle hg
    have hW := Wd.back hB ht hF
    rw [← hg o fo.1] at hl
    have fo : o < NN ∧ kcC o = 11 := ⟨Nat.lt_of_lt_of_le fo.1 hle, fo.2⟩
    have hag : NN0 ≤ NN ∧ ∀ o : Nat, o < NN0 → ad o = ad0 o := ⟨Nat.le_trans hag.1 hle, fun o h => (hg o (Nat.lt_of_lt_of_le h hag.1)).trans (hag.2 o h)⟩
    have hNN : 152 ≤ NN := Nat.le_trans hNN hle
    clear hg hle
    obtain ⟨cells, ec⟩ : ∃ z, z = cells + k31 := ⟨_, rfl⟩
    obtain ⟨slots, es⟩ : ∃ z, z = slots + n32 := ⟨_, rfl⟩
    rw [← ec, ← es]
    have hRc : cells + k33 ≤ R.cells := by omega
    have hRs : slots + n34 ≤ R.slots := by omega
    clear ec es hB ht hF hz1 hk1 hvm ek31 en32
    exact hret ad NN cells slots x35 H locs 147 ls d_Asm_writeText_147 hag (Nat.le_trans (Nat.le_add_right _ _) hRc) (Nat.le_trans (Nat.le_add_right _ _) hRs) hw hW hS
  · have hw := hw.2 c30
    refine lv_aload_n hx hb d_Asm_writeText_32 rfl (lv_at hl 0 rfl) ?_
    refine w_getf (q := (stC o 1)) (k := 1) (t := 11) (C := R_Asm) (T := F_Asm) (N := 4) hx hb hT hown hK hW fo.1 fo.2 (by decide) in_Asm rfl rfl (by decide) rfl fr_Asm_1 w_3_223 d_Asm_writeText_33 rfl ?_
    refine w_getf (q := (stC (stC o 1) 6)) (k := 6) (t := 6) (C := R_Vlt) (T := F_Vlt) (N := 20) hx hb hT hown hK hW (st_ty hNN fo.1 fo.2 rfl).1 (st_ty hNN fo.1 fo.2 rfl).2 (by decide) in_Vlt rfl rfl (by decide) rfl fr_Vlt_6 w_2_141 d_Asm_writeText_36 rfl ?_
    refine lv_iload hx hb d_Asm_writeText_39 (lv_at hl 4 rfl) ?_
    obtain ⟨hi, hw⟩ := hw
    refine w_bald (o := (stC (stC o 1) 6)) hx hb hK hW (st_ty hNN (st_ty hNN fo.1 fo.2 rfl).1 (st_ty hNN fo.1 fo.2 rfl).2 rfl).1 (st_ty hNN (st_ty hNN fo.1 fo.2 rfl).1 (st_ty hNN fo.1 fo.2 rfl).2 rfl).2 hi d_Asm_writeText_41 ?_
    refine lv_sipush (v := 255) hx hb d_Asm_writeText_42 (by decide) ?_
    refine lv_iand hx hb d_Asm_writeText_45 ?_
    refine lv_topi (fun v36 ev36 => ?_)
    have hw := hw v36 ev36
    refine lv_istore (lv' := [(6, .int v36), (0, .ref (ad o)), (1, .long l1), (3, .int l3), (4, .int l4), (5, .int l5)]) hx hb d_Asm_writeText_46 hl (by decide) rfl (fun ls hl => ?_)
    refine lv_iload hx hb d_Asm_writeText_48 (lv_at hl 0 rfl) ?_
    refine lv_bipush (v := 32) hx hb d_Asm_writeText_50 (by decide) ?_
    refine lv_icmp_lt (tgt := 62) hx hb d_Asm_writeText_52 (by decide) (fun c37 => ?_) (fun c37 => ?_)
    · have hw := hw.1 c37
      exact t_Asm_writeText_62 hx hb hml hown hT hK hN hA hRf hRl hE hret hrec25 ad NN cells slots o l1 l3 l4 l5 v36 kb nb x H locs ls hNN hag hRc hRs fo hw hW hS (lv_sub hl [1, 2, 3, 4, 5, 0] rfl)
    · have hw := hw.2 c37
      refine lv_iload hx hb d_Asm_writeText_55 (lv_at hl 0 rfl) ?_
      refine lv_bipush (v := 126) hx hb d_Asm_writeText_57 (by decide) ?_
      refine lv_icmp_le (tgt := 100) hx hb d_Asm_writeText_59 (by decide) (fun c38 => ?_) (fun c38 => ?_)
      · have hw := hw.1 c38
        refine lv_iload hx hb d_Asm_writeText_100 (lv_at hl 0 rfl) ?_
        refine lv_bipush (v := 39) hx hb d_Asm_writeText_102 (by decide) ?_
        refine lv_icmp_eq (tgt := 114) hx hb d_Asm_writeText_104 (by decide) (fun c39 => ?_) (fun c39 => ?_)
        · have hw := hw.1 c39
          exact t_Asm_writeText_114 hx hb hml hown hT hK hN hA hRf hRl hE hret hrec25 ad NN cells slots o l1 l3 l4 l5 v36 kb nb x H locs ls hNN hag hRc hRs fo hw hW hS (lv_sub hl [1, 2, 3, 4, 5, 0] rfl)
        · have hw := hw.2 c39
          refine lv_iload hx hb d_Asm_writeText_107 (lv_at hl 0 rfl) ?_
          refine lv_bipush (v := 92) hx hb d_Asm_writeText_109 (by decide) ?_
          refine lv_icmp_ne (tgt := 123) hx hb d_Asm_writeText_111 (by decide) (fun c40 => ?_) (fun c40 => ?_)
          · have hw := hw.1 c40
            exact t_Asm_writeText_123 hx hb hml hown hT hK hN hA hRf hRl hE hret hrec25 ad NN cells slots o l1 l3 l4 l5 v36 kb nb x H locs ls hNN hag hRc hRs fo hw hW hS (lv_sub hl [1, 2, 3, 4, 5, 0] rfl)
          · have hw := hw.2 c40
            exact t_Asm_writeText_114 hx hb hml hown hT hK hN hA hRf hRl hE hret hrec25 ad NN cells slots o l1 l3 l4 l5 v36 kb nb x H locs ls hNN hag hRc hRs fo hw hW hS (lv_sub hl [1, 2, 3, 4, 5, 0] rfl)
      · have hw := hw.2 c38
        exact t_Asm_writeText_62 hx hb hml hown hT hK hN hA hRf hRl hE hret hrec25 ad NN cells slots o l1 l3 l4 l5 v36 kb nb x H locs ls hNN hag hRc hRs fo hw hW hS (lv_sub hl [1, 2, 3, 4, 5, 0] rfl)
def wl_Asm_writeText_25 (post : St → Prop) : Nat → Nat → Int64 → Int32 → Int32 → Int32 → Nat → Nat → St → Prop
  | 0 => fun _ _ _ _ _ _ _ _ => False
  | n + 1 => j_Asm_writeText_25 post (wl_Asm_writeText_25 post n)
set_option maxHeartbeats 4000000 in
set_option maxRecDepth 100000 in
theorem tl_Asm_writeText_25 {p : Program} {l : Launch} {e : Env} {R : Room} {s : State} {m : MethodId} {args : Array Value} {below : List Frame} {meth : Method} {c : Code} {Q : State → Prop} {dC : Nat → ClassId} {dI : Nat → Nat → Nat} {cI cB cJ cZ : ClassId} {A : Nat → Prop} {E : Heap} {tM tC : Nat} {kK kV : Nat → Nat} {ad0 : Nat → Nat} {NN0 : Nat} {post : St → Prop} (hx : p.tables.exec = Jvm.exec) (hb : c.code = b_Asm_writeText) (hml : c.maxLocals = 7) (hown : s.vm.findClass R_Asm = some m.cls) (hT : ∀ w ∈ TG, w.before args s = true) (hK : va_K (dC, dI) CL (TY cI cB cJ cZ) s) (hN : NW s) (hA : ∀ q : Nat, s.heap.size ≤ q → A q) (hRf : 5 ≤ R.frames) (hRl : 264 ≤ R.locals) (hE : CE E tM tC kK kV A s) (hret : ∀ (ad : Nat → Nat) (NN cells slots : Nat) (x : St) (H : Heap) (locs : List Loc) (pc : Nat) (ls : Array Slot), decode b_Asm_writeText pc = .ok (.return_, 1) → (NN0 ≤ NN ∧ ∀ o : Nat, o < NN0 → ad o = ad0 o) → cells ≤ R.cells → slots ≤ R.slots → post x → Wd dC dI cI cB cJ cZ ad stC kcC NN A x H → va_S A s.heap H locs → W p l e R s m args below meth c H locs cells slots Q (F0 m pc ls []))  : ∀ n : Nat, ∀ (ad : Nat → Nat) (NN cells slots : Nat) (o : Nat) (l1 : Int64) (l3 : Int32) (l4 : Int32) (l5 : Int32) (kb : Nat) (nb : Nat) (x : St) (H : Heap) (locs : List Loc) (ls : Array Slot), (152 ≤ NN) → (NN0 ≤ NN ∧ ∀ o : Nat, o < NN0 → ad o = ad0 o) → (cells + kb ≤ R.cells) → (slots + nb ≤ R.slots) → (o < NN ∧ kcC o = 11) → wl_Asm_writeText_25 post n o l1 l3 l4 l5 kb nb x → Wd dC dI cI cB cJ cZ ad stC kcC NN A x H → va_S A s.heap H locs → lv_has ls 7 [(0, .ref (ad o)), (1, .long l1), (3, .int l3), (4, .int l4), (5, .int l5)] → W p l e R s m args below meth c H locs cells slots Q (F0 m 25 ls []) := by
  intro n
  induction n with
  | zero => intro ad NN cells slots o l1 l3 l4 l5 kb nb x H locs ls hNN hag hRc hRs fo hw; exact hw.elim
  | succ n ih => intro ad NN cells slots o l1 l3 l4 l5 kb nb x H locs ls hNN hag hRc hRs fo hw hW hS hl; exact t_Asm_writeText_25 hx hb hml hown hT hK hN hA hRf hRl hE hret  ih ad NN cells slots o l1 l3 l4 l5 kb nb x H locs ls hNN hag hRc hRs fo hw hW hS hl
set_option maxRecDepth 100000 in
def wp_Asm_writeText (post : St → Prop) (o : Nat) (l1 : Int64) (kb : Nat) (nb : Nat) (x : St) : Prop := wp_V_placeOf (fun (r42 : Int32) (x41 : St) => wp_V_sizeOf (fun (r44 : Int32) (x43 : St) => (∀ v45 : Int32, v45 = (r42 + r44) → (∃ k46 n47 k48 n49 : Nat, k46 + k48 = kb ∧ n47 + n49 = nb ∧ wp_Snk_put (fun (x50 : St) => ∃ n : Nat, wl_Asm_writeText_25 post n o l1 r42 v45 r42 k48 n49 x50) (stC o 0) 39 k46 n47 x43))) l1 x41) l1 x
set_option maxHeartbeats 4000000 in
set_option maxRecDepth 100000 in
theorem t_Asm_writeText_e {p : Program} {l : Launch} {e : Env} {R : Room} {s : State} {m : MethodId} {args : Array Value} {below : List Frame} {meth : Method} {c : Code} {Q : State → Prop} {dC : Nat → ClassId} {dI : Nat → Nat → Nat} {cI cB cJ cZ : ClassId} {A : Nat → Prop} {E : Heap} {tM tC : Nat} {kK kV : Nat → Nat} {ad0 : Nat → Nat} {NN0 : Nat} {post : St → Prop} (hx : p.tables.exec = Jvm.exec) (hb : c.code = b_Asm_writeText) (hml : c.maxLocals = 7) (hown : s.vm.findClass R_Asm = some m.cls) (hT : ∀ w ∈ TG, w.before args s = true) (hK : va_K (dC, dI) CL (TY cI cB cJ cZ) s) (hN : NW s) (hA : ∀ q : Nat, s.heap.size ≤ q → A q) (hRf : 5 ≤ R.frames) (hRl : 264 ≤ R.locals) (hE : CE E tM tC kK kV A s) (hret : ∀ (ad : Nat → Nat) (NN cells slots : Nat) (x : St) (H : Heap) (locs : List Loc) (pc : Nat) (ls : Array Slot), decode b_Asm_writeText pc = .ok (.return_, 1) → (NN0 ≤ NN ∧ ∀ o : Nat, o < NN0 → ad o = ad0 o) → cells ≤ R.cells → slots ≤ R.slots → post x → Wd dC dI cI cB cJ cZ ad stC kcC NN A x H → va_S A s.heap H locs → W p l e R s m args below meth c H locs cells slots Q (F0 m pc ls [])) : ∀ (ad : Nat → Nat) (NN cells slots : Nat) (o : Nat) (l1 : Int64) (kb : Nat) (nb : Nat) (x : St) (H : Heap) (locs : List Loc) (ls : Array Slot), (152 ≤ NN) → (NN0 ≤ NN ∧ ∀ o : Nat, o < NN0 → ad o = ad0 o) → (cells + kb ≤ R.cells) → (slots + nb ≤ R.slots) → (o < NN ∧ kcC o = 11) → wp_Asm_writeText post o l1 kb nb x → Wd dC dI cI cB cJ cZ ad stC kcC NN A x H → va_S A s.heap H locs → lv_has ls 7 [(0, .ref (ad o)), (1, .long l1)] → W p l e R s m args below meth c H locs cells slots Q (F0 m 0 ls []) := by
  intro ad NN cells slots o l1 kb nb x H locs ls hNN hag hRc hRs fo hw hW hS hl
  unfold wp_Asm_writeText at hw
  refine lv_lload_n hx hb d_Asm_writeText_0 rfl (lv_at hl 1 rfl) ?_
  have hF := hW.free hS hA
  refine va_calli (va_runSN (As := [.long l1]) (rest := []) ⟨hx, hb, hml, hown, hT⟩ (k_V_placeOf l dC dI cI cB cJ cZ ad NN E tM tC kK kV hNN H.size l1 x  hw) ⟨va_cnB 1 hT (gw_in w_5_183) rfl rfl rfl (hN _ wn_7_111 rfl) (hT _ w_1_1) (by decide +kernel) ⟨Nat.le_trans (by decide) hRf, Nat.le_trans (by decide) hRl⟩, hT _ w_5_182, trivial⟩ ⟨PV.blind, PV.at _ hW hK hN hE hS hF⟩ rfl rfl hl.1 rfl (lv_room (Nat.le_of_ble_eq_true rfl)) d_Asm_writeText_1 ⟨(Nat.le_trans (Nat.le_add_right _ _) hRc), (Nat.le_trans (Nat.le_add_right _ _) hRs)⟩) hS (fun q _ h => hF q h) hF (fun r42 x41 t H locs ht hvm hw hB hz1 hk1 hS => ?_)
  have hW := Wd.back hB ht hF
  clear hB ht hF hz1 hk1 hvm
  refine lv_istore_n (lv' := [(3, .int r42), (0, .ref (ad o)), (1, .long l1)]) hx hb d_Asm_writeText_4 rfl hl (by decide) rfl (fun ls hl => ?_)
  refine lv_iload_n hx hb d_Asm_writeText_5 rfl (lv_at hl 0 rfl) ?_
  refine lv_lload_n hx hb d_Asm_writeText_6 rfl (lv_at hl 2 rfl) ?_
  have hF := hW.free hS hA
  refine va_calli (va_runSN (As := [.long l1]) (rest := [.int r42]) ⟨hx, hb, hml, hown, hT⟩ (k_V_sizeOf l dC dI cI cB cJ cZ ad NN E tM tC kK kV hNN H.size l1 x41  hw) ⟨va_cnB 1 hT (gw_in w_5_161) rfl rfl rfl (hN _ wn_7_112 rfl) (hT _ w_1_1) (by decide +kernel) ⟨Nat.le_trans (by decide) hRf, Nat.le_trans (by decide) hRl⟩, hT _ w_5_160, trivial⟩ ⟨PV.blind, PV.at _ hW hK hN hE hS hF⟩ rfl rfl hl.1 rfl (lv_room (Nat.le_of_ble_eq_true rfl)) d_Asm_writeText_7 ⟨(Nat.le_trans (Nat.le_add_right _ _) hRc), (Nat.le_trans (Nat.le_add_right _ _) hRs)⟩) hS (fun q _ h => hF q h) hF (fun r44 x43 t H locs ht hvm hw hB hz1 hk1 hS => ?_)
  have hW := Wd.back hB ht hF
  clear hB ht hF hz1 hk1 hvm
  refine lv_iadd hx hb d_Asm_writeText_10 ?_
  refine lv_topi (fun v45 ev45 => ?_)
  have hw := hw v45 ev45
  refine lv_istore (lv' := [(4, .int v45), (3, .int r42), (0, .ref (ad o)), (1, .long l1)]) hx hb d_Asm_writeText_11 hl (by decide) rfl (fun ls hl => ?_)
  refine lv_aload_n hx hb d_Asm_writeText_13 rfl (lv_at hl 2 rfl) ?_
  refine w_getf (q := (stC o 0)) (k := 0) (t := 11) (C := R_Asm) (T := F_Asm) (N := 4) hx hb hT hown hK hW fo.1 fo.2 (by decide) in_Asm rfl rfl (by decide) rfl fr_Asm_0 w_3_221 d_Asm_writeText_14 rfl ?_
  refine lv_bipush (v := 39) hx hb d_Asm_writeText_17 (by decide) ?_
  obtain ⟨k46, n47, k48, n49, ek46, en47, hw⟩ := hw
  have hF := hW.free hS hA
  refine va_callv (va_runV (C := R_Snk) (As := [.int 39]) (rest := []) ⟨hx, hb, hml, hown, hT⟩ (k_Snk_put l dC dI cI cB cJ cZ ad NN E tM tC kK kV hNN H.size (stC o 0) 39 k46 n47 x43 (st_ty hNN fo.1 fo.2 rfl) hw) ⟨callB_of 1 hT (gw_in w_4_52) rfl rfl rfl (hT _ w_1_2) (hT _ w_7_91) (by decide +kernel) ⟨Nat.le_trans (by decide) hRf, Nat.le_trans (by decide) hRl⟩, hT _ w_4_50, hT _ w_4_51⟩ ⟨PV.blind, va_recv hK hW.1 (ci := 1) (q0 := (stC o 0)) rfl (pic_obj (st_ty hNN fo.1 fo.2 rfl).1 (st_ty hNN fo.1 fo.2 rfl).2 (by decide)), PV.at _ hW hK hN hE hS hF⟩ rfl rfl hl.1 rfl (lv_room (Nat.le_of_ble_eq_true rfl)) d_Asm_writeText_19 ⟨show cells + k46 ≤ R.cells by omega, show slots + n47 ≤ R.slots by omega⟩) hS (fun q _ h => hF q h) hF (fun  x50 t H locs ht hvm hw hB hz1 hk1 hS => ?_)
  obtain ⟨x50, ad, NN⟩ := x50
  obtain ⟨hB, hle, hg⟩ := hB
  try dsimp only at hw hB hle hg
  have hW := Wd.back hB ht hF
  rw [← hg o fo.1] at hl
  have fo : o < NN ∧ kcC o = 11 := ⟨Nat.lt_of_lt_of_le fo.1 hle, fo.2⟩
  have hag : NN0 ≤ NN ∧ ∀ o : Nat, o < NN0 → ad o = ad0 o := ⟨Nat.le_trans hag.1 hle, fun o h => (hg o (Nat.lt_of_lt_of_le h hag.1)).trans (hag.2 o h)⟩
  have hNN : 152 ≤ NN := Nat.le_trans hNN hle
  clear hg hle
  obtain ⟨cells, ec⟩ : ∃ z, z = cells + k46 := ⟨_, rfl⟩
  obtain ⟨slots, es⟩ : ∃ z, z = slots + n47 := ⟨_, rfl⟩
  rw [← ec, ← es]
  have hRc : cells + k48 ≤ R.cells := by omega
  have hRs : slots + n49 ≤ R.slots := by omega
  clear ec es hB ht hF hz1 hk1 hvm ek46 en47
  refine lv_iload_n hx hb d_Asm_writeText_22 rfl (lv_at hl 1 rfl) ?_
  refine lv_istore (lv' := [(5, .int r42), (4, .int v45), (3, .int r42), (0, .ref (ad o)), (1, .long l1)]) hx hb d_Asm_writeText_23 hl (by decide) rfl (fun ls hl => ?_)
  obtain ⟨n, hw⟩ := hw
  exact tl_Asm_writeText_25 hx hb hml hown hT hK hN hA hRf hRl hE hret  n ad NN cells slots o l1 r42 v45 r42 k48 n49 x50 H locs ls hNN hag hRc hRs fo hw hW hS (lv_sub hl [3, 4, 2, 1, 0] rfl)
set_option maxHeartbeats 4000000 in
set_option maxRecDepth 100000 in
theorem k_Asm_writeText (l : Launch) (dC : Nat → ClassId) (dI : Nat → Nat → Nat) (cI cB cJ cZ : ClassId) (ad : Nat → Nat) (NN : Nat) (E : Heap) (tM tC : Nat) (kK kV : Nat → Nat) (hNN : 152 ≤ NN) (sz : Nat) (o : Nat) (l1 : Int64) (kb : Nat) (nb : Nat) (x : St) (fo : o < NN ∧ kcC o = 11) {post : St → Prop} (hw : wp_Asm_writeText post o l1 kb nb x) : Met l y_Asm_writeText (wsOf y_Asm_writeText b_Asm_writeText 7 (none)) ({ frames := 5, cells := kb, slots := nb, locals := 264 }) (va_Pc [.ref (ad o), .long l1] (PV dC dI cI cB cJ cZ ad stC kcC NN E tM tC kK kV sz x)) (va_Qv (fun (u : St × (Nat → Nat) × Nat) => post u.1) (fun u t => Wd dC dI cI cB cJ cZ u.2.1 stC kcC u.2.2 (va_A (pic ad stC kcC NN cI cB cJ cZ x) sz) u.1 t.heap ∧ NN ≤ u.2.2 ∧ ∀ o : Nat, o < NN → u.2.1 o = ad o) (va_A (pic ad stC kcC NN cI cB cJ cZ x) sz)) kb nb (va_A (pic ad stC kcC NN cI cB cJ cZ x) sz) := by
  refine Met.ofW (cc := b_Asm_writeText) (maxL := 7) (ret := none) (by decide) rfl ?_
  intro p e s m args below meth c s₁ B hml hv
  obtain ⟨rfl, ⟨hsz, hW0, hK, hN⟩, hE⟩ := hv
  have hx := B.exec
  have hb := B.bytes
  have hr := B.returns
  have hts := atoms_spec B.pre
  have hT : ∀ w ∈ TG, w.before _ s = true := fun w h => hts w (List.mem_cons_of_mem _ h)
  have hown : s.vm.findClass R_Asm = some m.cls := findClass_of_methodNamed B.named
  have hlocks := B.notSynchronized
  subst hsz
  have hW : Wd dC dI cI cB cJ cZ ad stC kcC NN (va_A (pic ad stC kcC NN cI cB cJ cZ x) s.heap.size) x s.heap := ⟨hW0.1, hW0.2.1.self (sz := s.heap.size), hW0.2.2⟩
  generalize hAe : va_A (pic ad stC kcC NN cI cB cJ cZ x) s.heap.size = A at hW hE ⊢
  have hA : ∀ q : Nat, s.heap.size ≤ q → A q := fun q h => by rw [← hAe]; exact Or.inr h
  have hS : va_S A s.heap s.heap [] := va_S.rf
  have hl := lv_entry ([.ref (ad o), .long l1]) (n := 7) (Nat.le_of_ble_eq_true rfl)
  rw [lg_entry_eq]
  generalize (lg_sl ([.ref (ad o), .long l1]) ++ List.replicate (7 - (lg_sl ([.ref (ad o), .long l1])).length) Slot.unset).toArray = ls at hl ⊢
  have hl : lv_has ls 7 [(0, .ref (ad o)), (1, .long l1)] := hl
  exact t_Asm_writeText_e hx hb hml hown hT hK hN hA (Nat.le_refl 5) (Nat.le_refl 264) hE (fun ad1 NN1 cells slots x1 H locs pc ls hd hag hc hs hp hW hS => W.widen (k := kb) (n := nb) hc hs (W.vret hx hb hr (fun t ht hM => ⟨⟨(x1, ad1, NN1), rfl, hp, Wd.back hW ht.symm (fun _ z => z), hag.1, hag.2⟩, hS.F ht⟩) hS.2.2 hd hlocks))  ad NN 0 0 o l1 kb nb x _ _ ls hNN ⟨Nat.le_refl _, fun _ _ => rfl⟩ (Nat.le_of_eq (Nat.zero_add kb)) (Nat.le_of_eq (Nat.zero_add nb)) fo hw hW hS hl
set_option maxRecDepth 100000 in
def j_Snk_putDecimal_84 (post : St → Prop) (rec84 : Nat → Int64 → Int32 → Int64 → Int32 → Int32 → Nat → Nat → St → Prop) (o : Nat) (l1 : Int64) (l3 : Int32) (l4 : Int64) (l6 : Int32) (l7 : Int32) (kb : Nat) (nb : Nat) (x : St) : Prop := ((l7 ≤ l6 → post x) ∧ (¬ l7 ≤ l6 → (∃ q2 : Nat, fR x o 0 = some q2 ∧ (vp_in l6 (fN x q2) ∧ (∀ v3 : Int32, v3 = (rA x q2 l6) → (∃ q4 : Nat, fR x o 0 = some q4 ∧ (∃ q5 : Nat, fR x o 0 = some q5 ∧ (vp_in l7 (fN x q5) ∧ (vp_in l6 (fN x q4) ∧ ∀ x6 : St, x6 = setA x q4 l6 (vp_nar .byte (rA x q5 l7)) → (∃ q7 : Nat, fR x6 o 0 = some q7 ∧ (vp_in l7 (fN x6 q7) ∧ ∀ x8 : St, x8 = setA x6 q7 l7 (vp_nar .byte v3) → rec84 o l1 l3 l4 (l6 + 1) (l7 + (-1)) kb nb x8)))))))))))
set_option maxHeartbeats 4000000 in
set_option maxRecDepth 100000 in
theorem t_Snk_putDecimal_84 {p : Program} {l : Launch} {e : Env} {R : Room} {s : State} {m : MethodId} {args : Array Value} {below : List Frame} {meth : Method} {c : Code} {Q : State → Prop} {dC : Nat → ClassId} {dI : Nat → Nat → Nat} {cI cB cJ cZ : ClassId} {A : Nat → Prop} {E : Heap} {tM tC : Nat} {kK kV : Nat → Nat} {ad0 : Nat → Nat} {NN0 : Nat} {post : St → Prop} {rec84 : Nat → Int64 → Int32 → Int64 → Int32 → Int32 → Nat → Nat → St → Prop} (hx : p.tables.exec = Jvm.exec) (hb : c.code = b_Snk_putDecimal) (hml : c.maxLocals = 9) (hown : s.vm.findClass R_Snk = some m.cls) (hT : ∀ w ∈ TG, w.before args s = true) (hK : va_K (dC, dI) CL (TY cI cB cJ cZ) s) (hN : NW s) (hA : ∀ q : Nat, s.heap.size ≤ q → A q) (hRf : 4 ≤ R.frames) (hRl : 242 ≤ R.locals) (hE : CE E tM tC kK kV A s) (hret : ∀ (ad : Nat → Nat) (NN cells slots : Nat) (x : St) (H : Heap) (locs : List Loc) (pc : Nat) (ls : Array Slot), decode b_Snk_putDecimal pc = .ok (.return_, 1) → (NN0 ≤ NN ∧ ∀ o : Nat, o < NN0 → ad o = ad0 o) → cells ≤ R.cells → slots ≤ R.slots → post x → Wd dC dI cI cB cJ cZ ad stC kcC NN A x H → va_S A s.heap H locs → W p l e R s m args below meth c H locs cells slots Q (F0 m pc ls [])) (hrec84 : ∀ (ad : Nat → Nat) (NN cells slots : Nat) (o : Nat) (l1 : Int64) (l3 : Int32) (l4 : Int64) (l6 : Int32) (l7 : Int32) (kb : Nat) (nb : Nat) (x : St) (H : Heap) (locs : List Loc) (ls : Array Slot), (152 ≤ NN) → (NN0 ≤ NN ∧ ∀ o : Nat, o < NN0 → ad o = ad0 o) → (cells + kb ≤ R.cells) → (slots + nb ≤ R.slots) → (o < NN ∧ kcC o = 1) → rec84 o l1 l3 l4 l6 l7 kb nb x → Wd dC dI cI cB cJ cZ ad stC kcC NN A x H → va_S A s.heap H locs → lv_has ls 9 [(0, .ref (ad o)), (1, .long l1), (3, .int l3), (4, .long l4), (6, .int l6), (7, .int l7)] → W p l e R s m args below meth c H locs cells slots Q (F0 m 84 ls [])) : ∀ (ad : Nat → Nat) (NN cells slots : Nat) (o : Nat) (l1 : Int64) (l3 : Int32) (l4 : Int64) (l6 : Int32) (l7 : Int32) (kb : Nat) (nb : Nat) (x : St) (H : Heap) (locs : List Loc) (ls : Array Slot), (152 ≤ NN) → (NN0 ≤ NN ∧ ∀ o : Nat, o < NN0 → ad o = ad0 o) → (cells + kb ≤ R.cells) → (slots + nb ≤ R.slots) → (o < NN ∧ kcC o = 1) → j_Snk_putDecimal_84 post rec84 o l1 l3 l4 l6 l7 kb nb x → Wd dC dI cI cB cJ cZ ad stC kcC NN A x H → va_S A s.heap H locs → lv_has ls 9 [(0, .ref (ad o)), (1, .long l1), (3, .int l3), (4, .long l4), (6, .int l6), (7, .int l7)] → W p l e R s m args below meth c H locs cells slots Q (F0 m 84 ls []) := by
  intro ad NN cells slots o l1 l3 l4 l6 l7 kb nb x H locs ls hNN hag hRc hRs fo hw hW hS hl
  unfold j_Snk_putDecimal_84 at hw
  refine lv_iload hx hb d_Snk_putDecimal_84 (lv_at hl 4 rfl) ?_
  refine lv_iload hx hb d_Snk_putDecimal_86 (lv_at hl 5 rfl) ?_
  refine lv_icmp_ge (tgt := 132) hx hb d_Snk_putDecimal_88 (by decide) (fun c1 => ?_) (fun c1 => ?_)
  · have hw := hw.1 c1
    exact hret ad NN cells slots x H locs 132 ls d_Snk_putDecimal_132 hag (Nat.le_trans (Nat.le_add_right _ _) hRc) (Nat.le_trans (Nat.le_add_right _ _) hRs) hw hW hS
  · have hw := hw.2 c1
    refine lv_aload_n hx hb d_Snk_putDecimal_91 rfl (lv_at hl 0 rfl) ?_
    obtain ⟨q2, hq2, hw⟩ := hw
    refine w_getr (q := q2) (k := 0) (t := 1) (C := R_Snk) (T := F_Snk) (N := 7) hx hb hT hown hK hW fo.1 fo.2 (by decide) in_Snk rfl rfl (by decide) rfl fr_Snk_0 w_1_40 d_Snk_putDecimal_92 hq2 (fun aq2 bq2 => ?_)
    have fq2 : q2 < NN ∧ kcC q2 = 21 := ⟨aq2, bq2⟩
    refine lv_iload hx hb d_Snk_putDecimal_95 (lv_at hl 4 rfl) ?_
    obtain ⟨hi, hw⟩ := hw
    refine w_bald (o := q2) hx hb hK hW fq2.1 fq2.2 hi d_Snk_putDecimal_97 ?_
    refine lv_topi (fun v3 ev3 => ?_)
    have hw := hw v3 ev3
    refine lv_istore (lv' := [(8, .int v3), (0, .ref (ad o)), (1, .long l1), (3, .int l3), (4, .long l4), (6, .int l6), (7, .int l7)]) hx hb d_Snk_putDecimal_98 hl (by decide) rfl (fun ls hl => ?_)
    refine lv_aload_n hx hb d_Snk_putDecimal_100 rfl (lv_at hl 1 rfl) ?_
    obtain ⟨q4, hq4, hw⟩ := hw
    refine w_getr (q := q4) (k := 0) (t := 1) (C := R_Snk) (T := F_Snk) (N := 7) hx hb hT hown hK hW fo.1 fo.2 (by decide) in_Snk rfl rfl (by decide) rfl fr_Snk_0 w_1_40 d_Snk_putDecimal_101 hq4 (fun aq4 bq4 => ?_)
    have fq4 : q4 < NN ∧ kcC q4 = 21 := ⟨aq4, bq4⟩
    refine lv_iload hx hb d_Snk_putDecimal_104 (lv_at hl 5 rfl) ?_
    refine lv_aload_n hx hb d_Snk_putDecimal_106 rfl (lv_at hl 1 rfl) ?_
    obtain ⟨q5, hq5, hw⟩ := hw
    refine w_getr (q := q5) (k := 0) (t := 1) (C := R_Snk) (T := F_Snk) (N := 7) hx hb hT hown hK hW fo.1 fo.2 (by decide) in_Snk rfl rfl (by decide) rfl fr_Snk_0 w_1_40 d_Snk_putDecimal_107 hq5 (fun aq5 bq5 => ?_)
    have fq5 : q5 < NN ∧ kcC q5 = 21 := ⟨aq5, bq5⟩
    refine lv_iload hx hb d_Snk_putDecimal_110 (lv_at hl 6 rfl) ?_
    obtain ⟨hi, hw⟩ := hw
    refine w_bald (o := q5) hx hb hK hW fq5.1 fq5.2 hi d_Snk_putDecimal_112 ?_
    obtain ⟨hi, hw⟩ := hw
    refine w_bast (o := q4) hx hb hK hW hS fq4.1 fq4.2 hi d_Snk_putDecimal_113 (fun H locs hW hS => ?_)
    obtain ⟨x6, ex6⟩ : ∃ y : St, y = setA x q4 l6 (vp_nar .byte (rA x q5 l7)) := ⟨_, rfl⟩
    rw [← ex6] at hW
    have hw := hw x6 ex6
    refine lv_aload_n hx hb d_Snk_putDecimal_114 rfl (lv_at hl 1 rfl) ?_
    obtain ⟨q7, hq7, hw⟩ := hw
    refine w_getr (q := q7) (k := 0) (t := 1) (C := R_Snk) (T := F_Snk) (N := 7) hx hb hT hown hK hW fo.1 fo.2 (by decide) in_Snk rfl rfl (by decide) rfl fr_Snk_0 w_1_40 d_Snk_putDecimal_115 hq7 (fun aq7 bq7 => ?_)
    have fq7 : q7 < NN ∧ kcC q7 = 21 := ⟨aq7, bq7⟩
    refine lv_iload hx hb d_Snk_putDecimal_118 (lv_at hl 6 rfl) ?_
    refine lv_iload hx hb d_Snk_putDecimal_120 (lv_at hl 0 rfl) ?_
    obtain ⟨hi, hw⟩ := hw
    refine w_bast (o := q7) hx hb hK hW hS fq7.1 fq7.2 hi d_Snk_putDecimal_122 (fun H locs hW hS => ?_)
    obtain ⟨x8, ex8⟩ : ∃ y : St, y = setA x6 q7 l7 (vp_nar .byte v3) := ⟨_, rfl⟩
    rw [← ex8] at hW
    have hw := hw x8 ex8
    refine lv_iinc (v := (l6 + 1)) (lv' := [(6, .int (l6 + 1)), (8, .int v3), (0, .ref (ad o)), (1, .long l1), (3, .int l3), (4, .long l4), (7, .int l7)]) hx hb d_Snk_putDecimal_123 hl (k := 5) rfl rfl (by decide) rfl (fun ls hl => ?_)
    refine lv_iinc (v := (l7 + (-1))) (lv' := [(7, .int (l7 + (-1))), (6, .int (l6 + 1)), (8, .int v3), (0, .ref (ad o)), (1, .long l1), (3, .int l3), (4, .long l4)]) hx hb d_Snk_putDecimal_126 hl (k := 6) rfl rfl (by decide) rfl (fun ls hl => ?_)
    refine lv_goto (tgt := 84) hx hb d_Snk_putDecimal_129 (by decide) ?_
    exact hrec84 ad NN cells slots o l1 l3 l4 (l6 + 1) (l7 + (-1)) kb nb x8 H locs ls hNN hag hRc hRs fo hw hW hS (lv_sub hl [3, 4, 5, 6, 1, 0] rfl)
def wl_Snk_putDecimal_84 (post : St → Prop) : Nat → Nat → Int64 → Int32 → Int64 → Int32 → Int32 → Nat → Nat → St → Prop
  | 0 => fun _ _ _ _ _ _ _ _ _ => False
  | n + 1 => j_Snk_putDecimal_84 post (wl_Snk_putDecimal_84 post n)
set_option maxHeartbeats 4000000 in
set_option maxRecDepth 100000 in
theorem tl_Snk_putDecimal_84 {p : Program} {l : Launch} {e : Env} {R : Room} {s : State} {m : MethodId} {args : Array Value} {below : List Frame} {meth : Method} {c : Code} {Q : State → Prop} {dC : Nat → ClassId} {dI : Nat → Nat → Nat} {cI cB cJ cZ : ClassId} {A : Nat → Prop} {E : Heap} {tM tC : Nat} {kK kV : Nat → Nat} {ad0 : Nat → Nat} {NN0 : Nat} {post : St → Prop} (hx : p.tables.exec = Jvm.exec) (hb : c.code = b_Snk_putDecimal) (hml : c.maxLocals = 9) (hown : s.vm.findClass R_Snk = some m.cls) (hT : ∀ w ∈ TG, w.before args s = true) (hK : va_K (dC, dI) CL (TY cI cB cJ cZ) s) (hN : NW s) (hA : ∀ q : Nat, s.heap.size ≤ q → A q) (hRf : 4 ≤ R.frames) (hRl : 242 ≤ R.locals) (hE : CE E tM tC kK kV A s) (hret : ∀ (ad : Nat → Nat) (NN cells slots : Nat) (x : St) (H : Heap) (locs : List Loc) (pc : Nat) (ls : Array Slot), decode b_Snk_putDecimal pc = .ok (.return_, 1) → (NN0 ≤ NN ∧ ∀ o : Nat, o < NN0 → ad o = ad0 o) → cells ≤ R.cells → slots ≤ R.slots → post x → Wd dC dI cI cB cJ cZ ad stC kcC NN A x H → va_S A s.heap H locs → W p l e R s m args below meth c H locs cells slots Q (F0 m pc ls []))  : ∀ n : Nat, ∀ (ad : Nat → Nat) (NN cells slots : Nat) (o : Nat) (l1 : Int64) (l3 : Int32) (l4 : Int64) (l6 : Int32) (l7 : Int32) (kb : Nat) (nb : Nat) (x : St) (H : Heap) (locs : List Loc) (ls : Array Slot), (152 ≤ NN) → (NN0 ≤ NN ∧ ∀ o : Nat, o < NN0 → ad o = ad0 o) → (cells + kb ≤ R.cells) → (slots + nb ≤ R.slots) → (o < NN ∧ kcC o = 1) → wl_Snk_putDecimal_84 post n o l1 l3 l4 l6 l7 kb nb x → Wd dC dI cI cB cJ cZ ad stC kcC NN A x H → va_S A s.heap H locs → lv_has ls 9 [(0, .ref (ad o)), (1, .long l1), (3, .int l3), (4, .long l4), (6, .int l6), (7, .int l7)] → W p l e R s m args below meth c H locs cells slots Q (F0 m 84 ls []) := by
  intro n
  induction n with
  | zero => intro ad NN cells slots o l1 l3 l4 l6 l7 kb nb x H locs ls hNN hag hRc hRs fo hw; exact hw.elim
  | succ n ih => intro ad NN cells slots o l1 l3 l4 l6 l7 kb nb x H locs ls hNN hag hRc hRs fo hw hW hS hl; exact t_Snk_putDecimal_84 hx hb hml hown hT hK hN hA hRf hRl hE hret  ih ad NN cells slots o l1 l3 l4 l6 l7 kb nb x H locs ls hNN hag hRc hRs fo hw hW hS hl
set_option maxRecDepth 100000 in
def j_Snk_putDecimal_73 (post : St → Prop) (o : Nat) (l1 : Int64) (l3 : Int32) (l4 : Int64) (l6 : Int32) (kb : Nat) (nb : Nat) (x : St) : Prop := (∀ v9 : Int32, v9 = ((fI x o 1) - 1) → ∃ n : Nat, wl_Snk_putDecimal_84 post n o l1 l3 l4 l3 v9 kb nb x)
set_option maxHeartbeats 4000000 in
set_option maxRecDepth 100000 in
theorem t_Snk_putDecimal_73 {p : Program} {l : Launch} {e : Env} {R : Room} {s : State} {m : MethodId} {args : Array Value} {below : List Frame} {meth : Method} {c : Code} {Q : State → Prop} {dC : Nat → ClassId} {dI : Nat → Nat → Nat} {cI cB cJ cZ : ClassId} {A : Nat → Prop} {E : Heap} {tM tC : Nat} {kK kV : Nat → Nat} {ad0 : Nat → Nat} {NN0 : Nat} {post : St → Prop} (hx : p.tables.exec = Jvm.exec) (hb : c.code = b_Snk_putDecimal) (hml : c.maxLocals = 9) (hown : s.vm.findClass R_Snk = some m.cls) (hT : ∀ w ∈ TG, w.before args s = true) (hK : va_K (dC, dI) CL (TY cI cB cJ cZ) s) (hN : NW s) (hA : ∀ q : Nat, s.heap.size ≤ q → A q) (hRf : 4 ≤ R.frames) (hRl : 242 ≤ R.locals) (hE : CE E tM tC kK kV A s) (hret : ∀ (ad : Nat → Nat) (NN cells slots : Nat) (x : St) (H : Heap) (locs : List Loc) (pc : Nat) (ls : Array Slot), decode b_Snk_putDecimal pc = .ok (.return_, 1) → (NN0 ≤ NN ∧ ∀ o : Nat, o < NN0 → ad o = ad0 o) → cells ≤ R.cells → slots ≤ R.slots → post x → Wd dC dI cI cB cJ cZ ad stC kcC NN A x H → va_S A s.heap H locs → W p l e R s m args below meth c H locs cells slots Q (F0 m pc ls []))  : ∀ (ad : Nat → Nat) (NN cells slots : Nat) (o : Nat) (l1 : Int64) (l3 : Int32) (l4 : Int64) (l6 : Int32) (kb : Nat) (nb : Nat) (x : St) (H : Heap) (locs : List Loc) (ls : Array Slot), (152 ≤ NN) → (NN0 ≤ NN ∧ ∀ o : Nat, o < NN0 → ad o = ad0 o) → (cells + kb ≤ R.cells) → (slots + nb ≤ R.slots) → (o < NN ∧ kcC o = 1) → j_Snk_putDecimal_73 post o l1 l3 l4 l6 kb nb x → Wd dC dI cI cB cJ cZ ad stC kcC NN A x H → va_S A s.heap H locs → lv_has ls 9 [(0, .ref (ad o)), (1, .long l1), (3, .int l3), (4, .long l4), (6, .int l6)] → W p l e R s m args below meth c H locs cells slots Q (F0 m 73 ls []) := by
  intro ad NN cells slots o l1 l3 l4 l6 kb nb x H locs ls hNN hag hRc hRs fo hw hW hS hl
  unfold j_Snk_putDecimal_73 at hw
  refine lv_iload_n hx hb d_Snk_putDecimal_73 rfl (lv_at hl 2 rfl) ?_
  refine lv_istore (lv' := [(6, .int l3), (0, .ref (ad o)), (1, .long l1), (3, .int l3), (4, .long l4)]) hx hb d_Snk_putDecimal_74 hl (by decide) rfl (fun ls hl => ?_)
  refine lv_aload_n hx hb d_Snk_putDecimal_76 rfl (lv_at hl 1 rfl) ?_
  refine w_geti (k := 1) (t := 1) (C := R_Snk) (T := F_Snk) (N := 7) hx hb hT hown hK hW fo.1 fo.2 (by decide) in_Snk rfl rfl (by decide) rfl fr_Snk_1 w_1_43 d_Snk_putDecimal_77 ?_
  refine lv_iconst (v := 1) hx hb d_Snk_putDecimal_80 (by decide) ?_
  refine lv_isub hx hb d_Snk_putDecimal_81 ?_
  refine lv_topi (fun v9 ev9 => ?_)
  have hw := hw v9 ev9
  refine lv_istore (lv' := [(7, .int v9), (6, .int l3), (0, .ref (ad o)), (1, .long l1), (3, .int l3), (4, .long l4)]) hx hb d_Snk_putDecimal_82 hl (by decide) rfl (fun ls hl => ?_)
  obtain ⟨n, hw⟩ := hw
  exact tl_Snk_putDecimal_84 hx hb hml hown hT hK hN hA hRf hRl hE hret  n ad NN cells slots o l1 l3 l4 l3 v9 kb nb x H locs ls hNN hag hRc hRs fo hw hW hS (lv_sub hl [2, 3, 4, 5, 1, 0] rfl)
set_option maxRecDepth 100000 in
def j_Snk_putDecimal_61 (post : St → Prop) (o : Nat) (l1 : Int64) (l3 : Int32) (l4 : Int64) (l6 : Int32) (kb : Nat) (nb : Nat) (x : St) : Prop := ((0 ≤ (lg_cmp l1 0) → j_Snk_putDecimal_73 post o l1 l3 l4 l6 kb nb x) ∧ (¬ 0 ≤ (lg_cmp l1 0) → (∃ k11 n12 k13 n14 : Nat, k11 + k13 = kb ∧ n12 + n14 = nb ∧ wp_Snk_put (fun (x15 : St) => j_Snk_putDecimal_73 post o l1 l3 l4 l6 k13 n14 x15) o 45 k11 n12 x)))
set_option maxHeartbeats 4000000 in
set_option maxRecDepth 100000 in
theorem t_Snk_putDecimal_61 {p : Program} {l : Launch} {e : Env} {R : Room} {s : State} {m : MethodId} {args : Array Value} {below : List Frame} {meth : Method} {c : Code} {Q : State → Prop} {dC : Nat → ClassId} {dI : Nat → Nat → Nat} {cI cB cJ cZ : ClassId} {A : Nat → Prop} {E : Heap} {tM tC : Nat} {kK kV : Nat → Nat} {ad0 : Nat → Nat} {NN0 : Nat} {post : St → Prop} (hx : p.tables.exec = Jvm.exec) (hb : c.code = b_Snk_putDecimal) (hml : c.maxLocals = 9) (hown : s.vm.findClass R_Snk = some m.cls) (hT : ∀ w ∈ TG, w.before args s = true) (hK : va_K (dC, dI) CL (TY cI cB cJ cZ) s) (hN : NW s) (hA : ∀ q : Nat, s.heap.size ≤ q → A q) (hRf : 4 ≤ R.frames) (hRl : 242 ≤ R.locals) (hE : CE E tM tC kK kV A s) (hret : ∀ (ad : Nat → Nat) (NN cells slots : Nat) (x : St) (H : Heap) (locs : List Loc) (pc : Nat) (ls : Array Slot), decode b_Snk_putDecimal pc = .ok (.return_, 1) → (NN0 ≤ NN ∧ ∀ o : Nat, o < NN0 → ad o = ad0 o) → cells ≤ R.cells → slots ≤ R.slots → post x → Wd dC dI cI cB cJ cZ ad stC kcC NN A x H → va_S A s.heap H locs → W p l e R s m args below meth c H locs cells slots Q (F0 m pc ls []))  : ∀ (ad : Nat → Nat) (NN cells slots : Nat) (o : Nat) (l1 : Int64) (l3 : Int32) (l4 : Int64) (l6 : Int32) (kb : Nat) (nb : Nat) (x : St) (H : Heap) (locs : List Loc) (ls : Array Slot), (152 ≤ NN) → (NN0 ≤ NN ∧ ∀ o : Nat, o < NN0 → ad o = ad0 o) → (cells + kb ≤ R.cells) → (slots + nb ≤ R.slots) → (o < NN ∧ kcC o = 1) → j_Snk_putDecimal_61 post o l1 l3 l4 l6 kb nb x → Wd dC dI cI cB cJ cZ ad stC kcC NN A x H → va_S A s.heap H locs → lv_has ls 9 [(0, .ref (ad o)), (1, .long l1), (3, .int l3), (4, .long l4), (6, .int l6)] → W p l e R s m args below meth c H locs cells slots Q (F0 m 61 ls []) := by
  intro ad NN cells slots o l1 l3 l4 l6 kb nb x H locs ls hNN hag hRc hRs fo hw hW hS hl
  unfold j_Snk_putDecimal_61 at hw
  refine lv_lload_n hx hb d_Snk_putDecimal_61 rfl (lv_at hl 1 rfl) ?_
  refine lv_lconst (v := 0) hx hb d_Snk_putDecimal_62 (by decide) ?_
  refine W.lcmp hx hb d_Snk_putDecimal_63 ?_
  refine lv_if_ge (tgt := 73) hx hb d_Snk_putDecimal_64 (by decide) (fun c10 => ?_) (fun c10 => ?_)
  · have hw := hw.1 c10
    exact t_Snk_putDecimal_73 hx hb hml hown hT hK hN hA hRf hRl hE hret  ad NN cells slots o l1 l3 l4 l6 kb nb x H locs ls hNN hag hRc hRs fo hw hW hS (lv_sub hl [0, 1, 2, 3, 4] rfl)
  · have hw := hw.2 c10
    refine lv_aload_n hx hb d_Snk_putDecimal_67 rfl (lv_at hl 0 rfl) ?_
    refine lv_bipush (v := 45) hx hb d_Snk_putDecimal_68 (by decide) ?_
    obtain ⟨k11, n12, k13, n14, ek11, en12, hw⟩ := hw
    have hF := hW.free hS hA
    refine va_callv (va_runV (C := R_Snk) (As := [.int 45]) (rest := []) ⟨hx, hb, hml, hown, hT⟩ (k_Snk_put l dC dI cI cB cJ cZ ad NN E tM tC kK kV hNN H.size o 45 k11 n12 x fo hw) ⟨callB_of 1 hT (gw_in w_4_52) rfl rfl rfl (hT _ w_1_2) (hT _ w_5_189) (by decide +kernel) ⟨Nat.le_trans (by decide) hRf, Nat.le_trans (by decide) hRl⟩, hT _ w_4_50, hT _ w_4_51⟩ ⟨PV.blind, va_recv hK hW.1 (ci := 1) (q0 := o) rfl (pic_obj fo.1 fo.2 (by decide)), PV.at _ hW hK hN hE hS hF⟩ rfl rfl hl.1 rfl (lv_room (Nat.le_of_ble_eq_true rfl)) d_Snk_putDecimal_70 ⟨show cells + k11 ≤ R.cells by omega, show slots + n12 ≤ R.slots by omega⟩) hS (fun q _ h => hF q h) hF (fun  x15 t H locs ht hvm hw hB hz1 hk1 hS => ?_)
    obtain ⟨x15, ad, NN⟩ := x15
    obtain ⟨hB, hle, hg⟩ := hB
    try dsimp only at hw hB hle hg
    have hW := Wd.back hB ht hF
    rw [← hg o fo.1] at hl
    have fo : o < NN ∧ kcC o = 1 := ⟨Nat.lt_of_lt_of_le fo.1 hle, fo.2⟩
    have hag : NN0 ≤ NN ∧ ∀ o : Nat, o < NN0 → ad o = ad0 o := ⟨Nat.le_trans hag.1 hle, fun o h => (hg o (Nat.lt_of_lt_of_le h hag.1)).trans (hag.2 o h)⟩
    have hNN : 152 ≤ NN := Nat.le_trans hNN hle
    clear hg hle
    obtain ⟨cells, ec⟩ : ∃ z, z = cells + k11 := ⟨_, rfl⟩
    obtain ⟨slots, es⟩ : ∃ z, z = slots + n12 := ⟨_, rfl⟩
    rw [← ec, ← es]
    have hRc : cells + k13 ≤ R.cells := by omega
    have hRs : slots + n14 ≤ R.slots := by omega
    clear ec es hB ht hF hz1 hk1 hvm ek11 en12
    exact t_Snk_putDecimal_73 hx hb hml hown hT hK hN hA hRf hRl hE hret  ad NN cells slots o l1 l3 l4 l6 k13 n14 x15 H locs ls hNN hag hRc hRs fo hw hW hS (lv_sub hl [0, 1, 2, 3, 4] rfl)
set_option maxRecDepth 100000 in
def j_Snk_putDecimal_30 (post : St → Prop) (rec11 : Nat → Int64 → Int32 → Int64 → Int32 → Nat → Nat → St → Prop) (o : Nat) (l1 : Int64) (l3 : Int32) (l4 : Int64) (l6 : Int32) (kb : Nat) (nb : Nat) (x : St) : Prop := (∃ k16 n17 k18 n19 : Nat, k16 + k18 = kb ∧ n17 + n19 = nb ∧ wp_Snk_put (fun (x20 : St) => (∀ v21 : Int64, v21 = (l4 / 10) → rec11 o l1 l3 v21 (l6 + 1) k18 n19 x20)) o (48 + ((if 0 < (l4 - l4 / 10 * 10) then (l4 - l4 / 10 * 10) else -(l4 - l4 / 10 * 10)) : Int64).toInt32) k16 n17 x)
set_option maxHeartbeats 4000000 in
set_option maxRecDepth 100000 in
theorem t_Snk_putDecimal_30 {p : Program} {l : Launch} {e : Env} {R : Room} {s : State} {m : MethodId} {args : Array Value} {below : List Frame} {meth : Method} {c : Code} {Q : State → Prop} {dC : Nat → ClassId} {dI : Nat → Nat → Nat} {cI cB cJ cZ : ClassId} {A : Nat → Prop} {E : Heap} {tM tC : Nat} {kK kV : Nat → Nat} {ad0 : Nat → Nat} {NN0 : Nat} {post : St → Prop} {rec11 : Nat → Int64 → Int32 → Int64 → Int32 → Nat → Nat → St → Prop} (hx : p.tables.exec = Jvm.exec) (hb : c.code = b_Snk_putDecimal) (hml : c.maxLocals = 9) (hown : s.vm.findClass R_Snk = some m.cls) (hT : ∀ w ∈ TG, w.before args s = true) (hK : va_K (dC, dI) CL (TY cI cB cJ cZ) s) (hN : NW s) (hA : ∀ q : Nat, s.heap.size ≤ q → A q) (hRf : 4 ≤ R.frames) (hRl : 242 ≤ R.locals) (hE : CE E tM tC kK kV A s) (hret : ∀ (ad : Nat → Nat) (NN cells slots : Nat) (x : St) (H : Heap) (locs : List Loc) (pc : Nat) (ls : Array Slot), decode b_Snk_putDecimal pc = .ok (.return_, 1) → (NN0 ≤ NN ∧ ∀ o : Nat, o < NN0 → ad o = ad0 o) → cells ≤ R.cells → slots ≤ R.slots → post x → Wd dC dI cI cB cJ cZ ad stC kcC NN A x H → va_S A s.heap H locs → W p l e R s m args below meth c H locs cells slots Q (F0 m pc ls [])) (hrec11 : ∀ (ad : Nat → Nat) (NN cells slots : Nat) (o : Nat) (l1 : Int64) (l3 : Int32) (l4 : Int64) (l6 : Int32) (kb : Nat) (nb : Nat) (x : St) (H : Heap) (locs : List Loc) (ls : Array Slot), (152 ≤ NN) → (NN0 ≤ NN ∧ ∀ o : Nat, o < NN0 → ad o = ad0 o) → (cells + kb ≤ R.cells) → (slots + nb ≤ R.slots) → (o < NN ∧ kcC o = 1) → rec11 o l1 l3 l4 l6 kb nb x → Wd dC dI cI cB cJ cZ ad stC kcC NN A x H → va_S A s.heap H locs → lv_has ls 9 [(0, .ref (ad o)), (1, .long l1), (3, .int l3), (4, .long l4), (6, .int l6)] → W p l e R s m args below meth c H locs cells slots Q (F0 m 11 ls [])) : ∀ (ad : Nat → Nat) (NN cells slots : Nat) (o : Nat) (l1 : Int64) (l3 : Int32) (l4 : Int64) (l6 : Int32) (kb : Nat) (nb : Nat) (x : St) (H : Heap) (locs : List Loc) (ls : Array Slot), (152 ≤ NN) → (NN0 ≤ NN ∧ ∀ o : Nat, o < NN0 → ad o = ad0 o) → (cells + kb ≤ R.cells) → (slots + nb ≤ R.slots) → (o < NN ∧ kcC o = 1) → j_Snk_putDecimal_30 post rec11 o l1 l3 l4 l6 kb nb x → Wd dC dI cI cB cJ cZ ad stC kcC NN A x H → va_S A s.heap H locs → lv_has ls 9 [(0, .ref (ad o)), (1, .long l1), (3, .int l3), (4, .long l4), (6, .int l6)] → W p l e R s m args below meth c H locs cells slots Q (F0 m 30 ls []) := by
  intro ad NN cells slots o l1 l3 l4 l6 kb nb x H locs ls hNN hag hRc hRs fo hw hW hS hl
  unfold j_Snk_putDecimal_30 at hw
  refine lv_aload_n hx hb d_Snk_putDecimal_30 rfl (lv_at hl 0 rfl) ?_
  refine lv_bipush (v := 48) hx hb d_Snk_putDecimal_31 (by decide) ?_
  refine lv_lload hx hb d_Snk_putDecimal_33 (lv_at hl 3 rfl) ?_
  refine lv_ldc2 hx hb hown (hT _ w_7_129) d_Snk_putDecimal_35 ?_
  refine lv_lrem hx hb d_Snk_putDecimal_38 (by decide) ?_
  refine va_mabs_long hx hb (hml.trans hl.1.symm) hown (hT _ w_7_130) (hT _ w_7_131) (hT _ w_1_3) (hT _ w_7_132) (Nat.le_trans (by decide) hRf) (Nat.le_trans (Nat.le_of_ble_eq_true rfl) hRl) (Nat.le_trans (Nat.le_add_right _ _) hRc) (Nat.le_trans (Nat.le_add_right _ _) hRs) d_Snk_putDecimal_39 ?_
  refine lv_l2i hx hb d_Snk_putDecimal_42 rfl ?_
  refine lv_iadd hx hb d_Snk_putDecimal_43 ?_
  obtain ⟨k16, n17, k18, n19, ek16, en17, hw⟩ := hw
  have hF := hW.free hS hA
  refine va_callv (va_runV (C := R_Snk) (As := [.int (48 + ((if 0 < (l4 - l4 / 10 * 10) then (l4 - l4 / 10 * 10) else -(l4 - l4 / 10 * 10)) : Int64).toInt32)]) (rest := []) ⟨hx, hb, hml, hown, hT⟩ (k_Snk_put l dC dI cI cB cJ cZ ad NN E tM tC kK kV hNN H.size o (48 + ((if 0 < (l4 - l4 / 10 * 10) then (l4 - l4 / 10 * 10) else -(l4 - l4 / 10 * 10)) : Int64).toInt32) k16 n17 x fo hw) ⟨callB_of 1 hT (gw_in w_4_52) rfl rfl rfl (hT _ w_1_2) (hT _ w_5_189) (by decide +kernel) ⟨Nat.le_trans (by decide) hRf, Nat.le_trans (by decide) hRl⟩, hT _ w_4_50, hT _ w_4_51⟩ ⟨PV.blind, va_recv hK hW.1 (ci := 1) (q0 := o) rfl (pic_obj fo.1 fo.2 (by decide)), PV.at _ hW hK hN hE hS hF⟩ rfl rfl hl.1 rfl (lv_room (Nat.le_of_ble_eq_true rfl)) d_Snk_putDecimal_44 ⟨show cells + k16 ≤ R.cells by omega, show slots + n17 ≤ R.slots by omega⟩) hS (fun q _ h => hF q h) hF (fun  x20 t H locs ht hvm hw hB hz1 hk1 hS => ?_)
  obtain ⟨x20, ad, NN⟩ := x20
  obtain ⟨hB, hle, hg⟩ := hB
  try dsimp only at hw hB hle hg
  have hW := Wd.back hB ht hF
  rw [← hg o fo.1] at hl
  have fo : o < NN ∧ kcC o = 1 := ⟨Nat.lt_of_lt_of_le fo.1 hle, fo.2⟩
  have hag : NN0 ≤ NN ∧ ∀ o : Nat, o < NN0 → ad o = ad0 o := ⟨Nat.le_trans hag.1 hle, fun o h => (hg o (Nat.lt_of_lt_of_le h hag.1)).trans (hag.2 o h)⟩
  have hNN : 152 ≤ NN := Nat.le_trans hNN hle
  clear hg hle
  obtain ⟨cells, ec⟩ : ∃ z, z = cells + k16 := ⟨_, rfl⟩
  obtain ⟨slots, es⟩ : ∃ z, z = slots + n17 := ⟨_, rfl⟩
  rw [← ec, ← es]
  have hRc : cells + k18 ≤ R.cells := by omega
  have hRs : slots + n19 ≤ R.slots := by omega
  clear ec es hB ht hF hz1 hk1 hvm ek16 en17
  refine lv_lload hx hb d_Snk_putDecimal_47 (lv_at hl 3 rfl) ?_
  refine lv_ldc2 hx hb hown (hT _ w_7_129) d_Snk_putDecimal_49 ?_
  refine lv_ldiv hx hb d_Snk_putDecimal_52 (by decide) ?_
  refine lv_topl (fun v21 ev21 => ?_)
  have hw := hw v21 ev21
  refine lv_lstore (lv' := [(4, .long v21), (0, .ref (ad o)), (1, .long l1), (3, .int l3), (6, .int l6)]) hx hb d_Snk_putDecimal_53 hl (by decide) rfl (fun ls hl => ?_)
  refine lv_iinc (v := (l6 + 1)) (lv' := [(6, .int (l6 + 1)), (4, .long v21), (0, .ref (ad o)), (1, .long l1), (3, .int l3)]) hx hb d_Snk_putDecimal_55 hl (k := 4) rfl rfl (by decide) rfl (fun ls hl => ?_)
  refine lv_goto (tgt := 11) hx hb d_Snk_putDecimal_58 (by decide) ?_
  exact hrec11 ad NN cells slots o l1 l3 v21 (l6 + 1) k18 n19 x20 H locs ls hNN hag hRc hRs fo hw hW hS (lv_sub hl [2, 3, 4, 1, 0] rfl)
set_option maxRecDepth 100000 in
def j_Snk_putDecimal_11 (post : St → Prop) (rec11 : Nat → Int64 → Int32 → Int64 → Int32 → Nat → Nat → St → Prop) (o : Nat) (l1 : Int64) (l3 : Int32) (l4 : Int64) (l6 : Int32) (kb : Nat) (nb : Nat) (x : St) : Prop := ((20 ≤ l6 → j_Snk_putDecimal_61 post o l1 l3 l4 l6 kb nb x) ∧ (¬ 20 ≤ l6 → ((l6 = 0 → j_Snk_putDecimal_30 post rec11 o l1 l3 l4 l6 kb nb x) ∧ (¬ l6 = 0 → (((lg_cmp l4 0) = 0 → j_Snk_putDecimal_61 post o l1 l3 l4 l6 kb nb x) ∧ (¬ (lg_cmp l4 0) = 0 → j_Snk_putDecimal_30 post rec11 o l1 l3 l4 l6 kb nb x))))))
set_option maxHeartbeats 4000000 in
set_option maxRecDepth 100000 in
theorem t_Snk_putDecimal_11 {p : Program} {l : Launch} {e : Env} {R : Room} {s : State} {m : MethodId} {args : Array Value} {below : List Frame} {meth : Method} {c : Code} {Q : State → Prop} {dC : Nat → ClassId} {dI : Nat → Nat → Nat} {cI cB cJ cZ : ClassId} {A : Nat → Prop} {E : Heap} {tM tC : Nat} {kK kV : Nat → Nat} {ad0 : Nat → Nat} {NN0 : Nat} {post : St → Prop} {rec11 : Nat → Int64 → Int32 → Int64 → Int32 → Nat → Nat → St → Prop} (hx : p.tables.exec = Jvm.exec) (hb : c.code = b_Snk_putDecimal) (hml : c.maxLocals = 9) (hown : s.vm.findClass R_Snk = some m.cls) (hT : ∀ w ∈ TG, w.before args s = true) (hK : va_K (dC, dI) CL (TY cI cB cJ cZ) s) (hN : NW s) (hA : ∀ q : Nat, s.heap.size ≤ q → A q) (hRf : 4 ≤ R.frames) (hRl : 242 ≤ R.locals) (hE : CE E tM tC kK kV A s) (hret : ∀ (ad : Nat → Nat) (NN cells slots : Nat) (x : St) (H : Heap) (locs : List Loc) (pc : Nat) (ls : Array Slot), decode b_Snk_putDecimal pc = .ok (.return_, 1) → (NN0 ≤ NN ∧ ∀ o : Nat, o < NN0 → ad o = ad0 o) → cells ≤ R.cells → slots ≤ R.slots → post x → Wd dC dI cI cB cJ cZ ad stC kcC NN A x H → va_S A s.heap H locs → W p l e R s m args below meth c H locs cells slots Q (F0 m pc ls [])) (hrec11 : ∀ (ad : Nat → Nat) (NN cells slots : Nat) (o : Nat) (l1 : Int64) (l3 : Int32) (l4 : Int64) (l6 : Int32) (kb : Nat) (nb : Nat) (x : St) (H : Heap) (locs : List Loc) (ls : Array Slot), (152 ≤ NN) → (NN0 ≤ NN ∧ ∀ o : Nat, o < NN0 → ad o = ad0 o) → (cells + kb ≤ R.cells) → (slots + nb ≤ R.slots) → (o < NN ∧ kcC o = 1) → rec11 o l1 l3 l4 l6 kb nb x → Wd dC dI cI cB cJ cZ ad stC kcC NN A x H → va_S A s.heap H locs → lv_has ls 9 [(0, .ref (ad o)), (1, .long l1), (3, .int l3), (4, .long l4), (6, .int l6)] → W p l e R s m args below meth c H locs cells slots Q (F0 m 11 ls [])) : ∀ (ad : Nat → Nat) (NN cells slots : Nat) (o : Nat) (l1 : Int64) (l3 : Int32) (l4 : Int64) (l6 : Int32) (kb : Nat) (nb : Nat) (x : St) (H : Heap) (locs : List Loc) (ls : Array Slot), (152 ≤ NN) → (NN0 ≤ NN ∧ ∀ o : Nat, o < NN0 → ad o = ad0 o) → (cells + kb ≤ R.cells) → (slots + nb ≤ R.slots) → (o < NN ∧ kcC o = 1) → j_Snk_putDecimal_11 post rec11 o l1 l3 l4 l6 kb nb x → Wd dC dI cI cB cJ cZ ad stC kcC NN A x H → va_S A s.heap H locs → lv_has ls 9 [(0, .ref (ad o)), (1, .long l1), (3, .int l3), (4, .long l4), (6, .int l6)] → W p l e R s m args below meth c H locs cells slots Q (F0 m 11 ls []) := by
  intro ad NN cells slots o l1 l3 l4 l6 kb nb x H locs ls hNN hag hRc hRs fo hw hW hS hl
  unfold j_Snk_putDecimal_11 at hw
  refine lv_iload hx hb d_Snk_putDecimal_11 (lv_at hl 4 rfl) ?_
  refine lv_bipush (v := 20) hx hb d_Snk_putDecimal_13 (by decide) ?_
  refine lv_icmp_ge (tgt := 61) hx hb d_Snk_putDecimal_15 (by decide) (fun c22 => ?_) (fun c22 => ?_)
  · have hw := hw.1 c22
    exact t_Snk_putDecimal_61 hx hb hml hown hT hK hN hA hRf hRl hE hret  ad NN cells slots o l1 l3 l4 l6 kb nb x H locs ls hNN hag hRc hRs fo hw hW hS (lv_sub hl [0, 1, 2, 3, 4] rfl)
  · have hw := hw.2 c22
    refine lv_iload hx hb d_Snk_putDecimal_18 (lv_at hl 4 rfl) ?_
    refine lv_if_eq (tgt := 30) hx hb d_Snk_putDecimal_20 (by decide) (fun c23 => ?_) (fun c23 => ?_)
    · have hw := hw.1 c23
      exact t_Snk_putDecimal_30 hx hb hml hown hT hK hN hA hRf hRl hE hret hrec11 ad NN cells slots o l1 l3 l4 l6 kb nb x H locs ls hNN hag hRc hRs fo hw hW hS (lv_sub hl [0, 1, 2, 3, 4] rfl)
    · have hw := hw.2 c23
      refine lv_lload hx hb d_Snk_putDecimal_23 (lv_at hl 3 rfl) ?_
      refine lv_lconst (v := 0) hx hb d_Snk_putDecimal_25 (by decide) ?_
      refine W.lcmp hx hb d_Snk_putDecimal_26 ?_
      refine lv_if_eq (tgt := 61) hx hb d_Snk_putDecimal_27 (by decide) (fun c24 => ?_) (fun c24 => ?_)
      · have hw := hw.1 c24
        exact t_Snk_putDecimal_61 hx hb hml hown hT hK hN hA hRf hRl hE hret  ad NN cells slots o l1 l3 l4 l6 kb nb x H locs ls hNN hag hRc hRs fo hw hW hS (lv_sub hl [0, 1, 2, 3, 4] rfl)
      · have hw := hw.2 c24
        exact t_Snk_putDecimal_30 hx hb hml hown hT hK hN hA hRf hRl hE hret hrec11 ad NN cells slots o l1 l3 l4 l6 kb nb x H locs ls hNN hag hRc hRs fo hw hW hS (lv_sub hl [0, 1, 2, 3, 4] rfl)
def wl_Snk_putDecimal_11 (post : St → Prop) : Nat → Nat → Int64 → Int32 → Int64 → Int32 → Nat → Nat → St → Prop
  | 0 => fun _ _ _ _ _ _ _ _ => False
  | n + 1 => j_Snk_putDecimal_11 post (wl_Snk_putDecimal_11 post n)
set_option maxHeartbeats 4000000 in
set_option maxRecDepth 100000 in
theorem tl_Snk_putDecimal_11 {p : Program} {l : Launch} {e : Env} {R : Room} {s : State} {m : MethodId} {args : Array Value} {below : List Frame} {meth : Method} {c : Code} {Q : State → Prop} {dC : Nat → ClassId} {dI : Nat → Nat → Nat} {cI cB cJ cZ : ClassId} {A : Nat → Prop} {E : Heap} {tM tC : Nat} {kK kV : Nat → Nat} {ad0 : Nat → Nat} {NN0 : Nat} {post : St → Prop} (hx : p.tables.exec = Jvm.exec) (hb : c.code = b_Snk_putDecimal) (hml : c.maxLocals = 9) (hown : s.vm.findClass R_Snk = some m.cls) (hT : ∀ w ∈ TG, w.before args s = true) (hK : va_K (dC, dI) CL (TY cI cB cJ cZ) s) (hN : NW s) (hA : ∀ q : Nat, s.heap.size ≤ q → A q) (hRf : 4 ≤ R.frames) (hRl : 242 ≤ R.locals) (hE : CE E tM tC kK kV A s) (hret : ∀ (ad : Nat → Nat) (NN cells slots : Nat) (x : St) (H : Heap) (locs : List Loc) (pc : Nat) (ls : Array Slot), decode b_Snk_putDecimal pc = .ok (.return_, 1) → (NN0 ≤ NN ∧ ∀ o : Nat, o < NN0 → ad o = ad0 o) → cells ≤ R.cells → slots ≤ R.slots → post x → Wd dC dI cI cB cJ cZ ad stC kcC NN A x H → va_S A s.heap H locs → W p l e R s m args below meth c H locs cells slots Q (F0 m pc ls []))  : ∀ n : Nat, ∀ (ad : Nat → Nat) (NN cells slots : Nat) (o : Nat) (l1 : Int64) (l3 : Int32) (l4 : Int64) (l6 : Int32) (kb : Nat) (nb : Nat) (x : St) (H : Heap) (locs : List Loc) (ls : Array Slot), (152 ≤ NN) → (NN0 ≤ NN ∧ ∀ o : Nat, o < NN0 → ad o = ad0 o) → (cells + kb ≤ R.cells) → (slots + nb ≤ R.slots) → (o < NN ∧ kcC o = 1) → wl_Snk_putDecimal_11 post n o l1 l3 l4 l6 kb nb x → Wd dC dI cI cB cJ cZ ad stC kcC NN A x H → va_S A s.heap H locs → lv_has ls 9 [(0, .ref (ad o)), (1, .long l1), (3, .int l3), (4, .long l4), (6, .int l6)] → W p l e R s m args below meth c H locs cells slots Q (F0 m 11 ls []) := by
  intro n
  induction n with
  | zero => intro ad NN cells slots o l1 l3 l4 l6 kb nb x H locs ls hNN hag hRc hRs fo hw; exact hw.elim
  | succ n ih => intro ad NN cells slots o l1 l3 l4 l6 kb nb x H locs ls hNN hag hRc hRs fo hw hW hS hl; exact t_Snk_putDecimal_11 hx hb hml hown hT hK hN hA hRf hRl hE hret  ih ad NN cells slots o l1 l3 l4 l6 kb nb x H locs ls hNN hag hRc hRs fo hw hW hS hl
set_option maxRecDepth 100000 in
def wp_Snk_putDecimal (post : St → Prop) (o : Nat) (l1 : Int64) (kb : Nat) (nb : Nat) (x : St) : Prop := (∀ v25 : Int32, v25 = (fI x o 1) → ∃ n : Nat, wl_Snk_putDecimal_11 post n o l1 v25 l1 0 kb nb x)
set_option maxHeartbeats 4000000 in
set_option maxRecDepth 100000 in
theorem t_Snk_putDecimal_e {p : Program} {l : Launch} {e : Env} {R : Room} {s : State} {m : MethodId} {args : Array Value} {below : List Frame} {meth : Method} {c : Code} {Q : State → Prop} {dC : Nat → ClassId} {dI : Nat → Nat → Nat} {cI cB cJ cZ : ClassId} {A : Nat → Prop} {E : Heap} {tM tC : Nat} {kK kV : Nat → Nat} {ad0 : Nat → Nat} {NN0 : Nat} {post : St → Prop} (hx : p.tables.exec = Jvm.exec) (hb : c.code = b_Snk_putDecimal) (hml : c.maxLocals = 9) (hown : s.vm.findClass R_Snk = some m.cls) (hT : ∀ w ∈ TG, w.before args s = true) (hK : va_K (dC, dI) CL (TY cI cB cJ cZ) s) (hN : NW s) (hA : ∀ q : Nat, s.heap.size ≤ q → A q) (hRf : 4 ≤ R.frames) (hRl : 242 ≤ R.locals) (hE : CE E tM tC kK kV A s) (hret : ∀ (ad : Nat → Nat) (NN cells slots : Nat) (x : St) (H : Heap) (locs : List Loc) (pc : Nat) (ls : Array Slot), decode b_Snk_putDecimal pc = .ok (.return_, 1) → (NN0 ≤ NN ∧ ∀ o : Nat, o < NN0 → ad o = ad0 o) → cells ≤ R.cells → slots ≤ R.slots → post x → Wd dC dI cI cB cJ cZ ad stC kcC NN A x H → va_S A s.heap H locs → W p l e R s m args below meth c H locs cells slots Q (F0 m pc ls [])) : ∀ (ad : Nat → Nat) (NN cells slots : Nat) (o : Nat) (l1 : Int64) (kb : Nat) (nb : Nat) (x : St) (H : Heap) (locs : List Loc) (ls : Array Slot), (152 ≤ NN) → (NN0 ≤ NN ∧ ∀ o : Nat, o < NN0 → ad o = ad0 o) → (cells + kb ≤ R.cells) → (slots + nb ≤ R.slots) → (o < NN ∧ kcC o = 1) → wp_Snk_putDecimal post o l1 kb nb x → Wd dC dI cI cB cJ cZ ad stC kcC NN A x H → va_S A s.heap H locs → lv_has ls 9 [(0, .ref (ad o)), (1, .long l1)] → W p l e R s m args below meth c H locs cells slots Q (F0 m 0 ls []) := by
  intro ad NN cells slots o l1 kb nb x H locs ls hNN hag hRc hRs fo hw hW hS hl
  unfold wp_Snk_putDecimal at hw
  refine lv_aload_n hx hb d_Snk_putDecimal_0 rfl (lv_at hl 0 rfl) ?_
  refine w_geti (k := 1) (t := 1) (C := R_Snk) (T := F_Snk) (N := 7) hx hb hT hown hK hW fo.1 fo.2 (by decide) in_Snk rfl rfl (by decide) rfl fr_Snk_1 w_1_43 d_Snk_putDecimal_1 ?_
  refine lv_topi (fun v25 ev25 => ?_)
  have hw := hw v25 ev25
  refine lv_istore_n (lv' := [(3, .int v25), (0, .ref (ad o)), (1, .long l1)]) hx hb d_Snk_putDecimal_4 rfl hl (by decide) rfl (fun ls hl => ?_)
  refine lv_lload_n hx hb d_Snk_putDecimal_5 rfl (lv_at hl 2 rfl) ?_
  refine lv_lstore (lv' := [(4, .long l1), (3, .int v25), (0, .ref (ad o)), (1, .long l1)]) hx hb d_Snk_putDecimal_6 hl (by decide) rfl (fun ls hl => ?_)
  refine lv_iconst (v := 0) hx hb d_Snk_putDecimal_8 (by decide) ?_
  refine lv_istore (lv' := [(6, .int 0), (4, .long l1), (3, .int v25), (0, .ref (ad o)), (1, .long l1)]) hx hb d_Snk_putDecimal_9 hl (by decide) rfl (fun ls hl => ?_)
  obtain ⟨n, hw⟩ := hw
  exact tl_Snk_putDecimal_11 hx hb hml hown hT hK hN hA hRf hRl hE hret  n ad NN cells slots o l1 v25 l1 0 kb nb x H locs ls hNN hag hRc hRs fo hw hW hS (lv_sub hl [3, 4, 2, 1, 0] rfl)
set_option maxHeartbeats 4000000 in
set_option maxRecDepth 100000 in
theorem k_Snk_putDecimal (l : Launch) (dC : Nat → ClassId) (dI : Nat → Nat → Nat) (cI cB cJ cZ : ClassId) (ad : Nat → Nat) (NN : Nat) (E : Heap) (tM tC : Nat) (kK kV : Nat → Nat) (hNN : 152 ≤ NN) (sz : Nat) (o : Nat) (l1 : Int64) (kb : Nat) (nb : Nat) (x : St) (fo : o < NN ∧ kcC o = 1) {post : St → Prop} (hw : wp_Snk_putDecimal post o l1 kb nb x) : Met l y_Snk_putDecimal (wsOf y_Snk_putDecimal b_Snk_putDecimal 9 (none)) ({ frames := 4, cells := kb, slots := nb, locals := 242 }) (va_Pc [.ref (ad o), .long l1] (PV dC dI cI cB cJ cZ ad stC kcC NN E tM tC kK kV sz x)) (va_Qv (fun (u : St × (Nat → Nat) × Nat) => post u.1) (fun u t => Wd dC dI cI cB cJ cZ u.2.1 stC kcC u.2.2 (va_A (pic ad stC kcC NN cI cB cJ cZ x) sz) u.1 t.heap ∧ NN ≤ u.2.2 ∧ ∀ o : Nat, o < NN → u.2.1 o = ad o) (va_A (pic ad stC kcC NN cI cB cJ cZ x) sz)) kb nb (va_A (pic ad stC kcC NN cI cB cJ cZ x) sz) := by
  refine Met.ofW (cc := b_Snk_putDecimal) (maxL := 9) (ret := none) (by decide) rfl ?_
  intro p e s m args below meth c s₁ B hml hv
  obtain ⟨rfl, ⟨hsz, hW0, hK, hN⟩, hE⟩ := hv
  have hx := B.exec
  have hb := B.bytes
  have hr := B.returns
  have hts := atoms_spec B.pre
  have hT : ∀ w ∈ TG, w.before _ s = true := fun w h => hts w (List.mem_cons_of_mem _ h)
  have hown : s.vm.findClass R_Snk = some m.cls := findClass_of_methodNamed B.named
  have hlocks := B.notSynchronized
  subst hsz
  have hW : Wd dC dI cI cB cJ cZ ad stC kcC NN (va_A (pic ad stC kcC NN cI cB cJ cZ x) s.heap.size) x s.heap := ⟨hW0.1, hW0.2.1.self (sz := s.heap.size), hW0.2.2⟩
  generalize hAe : va_A (pic ad stC kcC NN cI cB cJ cZ x) s.heap.size = A at hW hE ⊢
  have hA : ∀ q : Nat, s.heap.size ≤ q → A q := fun q h => by rw [← hAe]; exact Or.inr h
  have hS : va_S A s.heap s.heap [] := va_S.rf
  have hl := lv_entry ([.ref (ad o), .long l1]) (n := 9) (Nat.le_of_ble_eq_true rfl)
  rw [lg_entry_eq]
  generalize (lg_sl ([.ref (ad o), .long l1]) ++ List.replicate (9 - (lg_sl ([.ref (ad o), .long l1])).length) Slot.unset).toArray = ls at hl ⊢
  have hl : lv_has ls 9 [(0, .ref (ad o)), (1, .long l1)] := hl
  exact t_Snk_putDecimal_e hx hb hml hown hT hK hN hA (Nat.le_refl 4) (Nat.le_refl 242) hE (fun ad1 NN1 cells slots x1 H locs pc ls hd hag hc hs hp hW hS => W.widen (k := kb) (n := nb) hc hs (W.vret hx hb hr (fun t ht hM => ⟨⟨(x1, ad1, NN1), rfl, hp, Wd.back hW ht.symm (fun _ z => z), hag.1, hag.2⟩, hS.F ht⟩) hS.2.2 hd hlocks))  ad NN 0 0 o l1 kb nb x _ _ ls hNN ⟨Nat.le_refl _, fun _ _ => rfl⟩ (Nat.le_of_eq (Nat.zero_add kb)) (Nat.le_of_eq (Nat.zero_add nb)) fo hw hW hS hl
end
