theorem w_1_142 : (Jvm.Cond.fieldLink "StripedVault$Assembler" (109 : Nat) "StripedVault$Schema" "mode" "[I") ∈ TG := tw_1 142 (by decide +kernel) (by decide +kernel)
theorem w_1_148 : (Jvm.Cond.fieldLink "StripedVault$Assembler" (132 : Nat) "StripedVault$Schema" "type" "[I") ∈ TG := tw_1 148 (by decide +kernel) (by decide +kernel)
theorem w_1_154 : (Jvm.Cond.fieldLink "StripedVault$Assembler" (67 : Nat) "StripedVault$Schema" "parent" "[I") ∈ TG := tw_1 154 (by decide +kernel) (by decide +kernel)
theorem w_1_158 : (Jvm.Cond.fieldLink "StripedVault$Assembler" (130 : Nat) "StripedVault$Schema" "rep" "[I") ∈ TG := tw_1 158 (by decide +kernel) (by decide +kernel)
theorem w_1_164 : (Jvm.Cond.fieldLink "StripedVault$Assembler" (94 : Nat) "StripedVault$Schema" "def" "[I") ∈ TG := tw_1 164 (by decide +kernel) (by decide +kernel)
theorem w_1_186 : (Jvm.Cond.fieldLink "StripedVault$Assembler" (102 : Nat) "StripedVault$Schema" "nameSize" "[I") ∈ TG := tw_1 186 (by decide +kernel) (by decide +kernel)
theorem w_1_189 : (Jvm.Cond.fieldLink "StripedVault$Assembler" (99 : Nat) "StripedVault$Schema" "names" "[B") ∈ TG := tw_1 189 (by decide +kernel) (by decide +kernel)
theorem w_2_141 : (Jvm.Cond.fieldLink "StripedVault$Assembler" (171 : Nat) "StripedVault$Vault" "pool" "[B") ∈ TG := tw_2 141 (by decide +kernel) (by decide +kernel)
theorem w_2_145 : (Jvm.Cond.fieldLink "StripedVault$Assembler" (127 : Nat) "StripedVault$Vault" "rep" "[B") ∈ TG := tw_2 145 (by decide +kernel) (by decide +kernel)
theorem w_2_148 : (Jvm.Cond.fieldLink "StripedVault$Assembler" (90 : Nat) "StripedVault$Vault" "def" "[B") ∈ TG := tw_2 148 (by decide +kernel) (by decide +kernel)
theorem w_2_151 : (Jvm.Cond.fieldLink "StripedVault$Assembler" (135 : Nat) "StripedVault$Vault" "val" "[J") ∈ TG := tw_2 151 (by decide +kernel) (by decide +kernel)
theorem w_7_101 : (Jvm.Cond.instanceMethod ({ cls := "StripedVault$Assembler", name := "writeAll", desc := "(II)V" } : Jvm.MethodName)) ∈ TG := tw_7 101 (by decide +kernel) (by decide +kernel)
theorem w_7_102 : (Jvm.Cond.code ({ cls := "StripedVault$Assembler", name := "writeAll", desc := "(II)V" } : Jvm.MethodName) prog_3_method_5_code (5 : Nat) (Option.none : Option Jvm.ClassFile.FieldType)) ∈ TG := tw_7 102 (by decide +kernel) (by decide +kernel)
theorem w_7_103 : (Jvm.Cond.methodLink "StripedVault$Assembler" (115 : Nat) ({ cls := "StripedVault$Assembler", name := "writeOne", desc := "(II)V" } : Jvm.MethodName)) ∈ TG := tw_7 103 (by decide +kernel) (by decide +kernel)
theorem w_7_105 : (Jvm.Cond.instanceMethod ({ cls := "StripedVault$Assembler", name := "writeOne", desc := "(II)V" } : Jvm.MethodName)) ∈ TG := tw_7 105 (by decide +kernel) (by decide +kernel)
theorem w_7_106 : (Jvm.Cond.code ({ cls := "StripedVault$Assembler", name := "writeOne", desc := "(II)V" } : Jvm.MethodName) prog_3_method_6_code (7 : Nat) (Option.none : Option Jvm.ClassFile.FieldType)) ∈ TG := tw_7 106 (by decide +kernel) (by decide +kernel)
theorem w_7_107 : (Jvm.Cond.methodLink "StripedVault$Assembler" (139 : Nat) ({ cls := "StripedVault$Assembler", name := "writeText", desc := "(J)V" } : Jvm.MethodName)) ∈ TG := tw_7 107 (by decide +kernel) (by decide +kernel)
theorem w_7_109 : (Jvm.Cond.instanceMethod ({ cls := "StripedVault$Assembler", name := "writeText", desc := "(J)V" } : Jvm.MethodName)) ∈ TG := tw_7 109 (by decide +kernel) (by decide +kernel)
theorem w_7_110 : (Jvm.Cond.code ({ cls := "StripedVault$Assembler", name := "writeText", desc := "(J)V" } : Jvm.MethodName) prog_3_method_8_code (7 : Nat) (Option.none : Option Jvm.ClassFile.FieldType)) ∈ TG := tw_7 110 (by decide +kernel) (by decide +kernel)
theorem w_7_114 : (Jvm.Cond.methodLink "StripedVault$Assembler" (147 : Nat) ({ cls := "StripedVault$Assembler", name := "writeWord", desc := "(Ljava/lang/String;)V" } : Jvm.MethodName)) ∈ TG := tw_7 114 (by decide +kernel) (by decide +kernel)
theorem w_7_116 : (Jvm.Cond.instanceMethod ({ cls := "StripedVault$Assembler", name := "writeWord", desc := "(Ljava/lang/String;)V" } : Jvm.MethodName)) ∈ TG := tw_7 116 (by decide +kernel) (by decide +kernel)
theorem w_7_117 : (Jvm.Cond.code ({ cls := "StripedVault$Assembler", name := "writeWord", desc := "(Ljava/lang/String;)V" } : Jvm.MethodName) prog_3_method_7_code (3 : Nat) (Option.none : Option Jvm.ClassFile.FieldType)) ∈ TG := tw_7 117 (by decide +kernel) (by decide +kernel)
theorem w_7_118 : (Jvm.Cond.methodLink "StripedVault$Assembler" (154 : Nat) ({ cls := "java/lang/String", name := "length", desc := "()I" } : Jvm.MethodName)) ∈ TG := tw_7 118 (by decide +kernel) (by decide +kernel)
theorem w_7_119 : (Jvm.Cond.methodLink "StripedVault$Assembler" (160 : Nat) ({ cls := "java/lang/String", name := "charAt", desc := "(I)C" } : Jvm.MethodName)) ∈ TG := tw_7 119 (by decide +kernel) (by decide +kernel)
theorem w_7_120 : (Jvm.Cond.methodLink "StripedVault$Assembler" (176 : Nat) ({ cls := "StripedVault$Assembler", name := "hexDigit", desc := "(I)I" } : Jvm.MethodName)) ∈ TG := tw_7 120 (by decide +kernel) (by decide +kernel)
theorem w_7_121 : (Jvm.Cond.static ({ cls := "StripedVault$Assembler", name := "hexDigit", desc := "(I)I" } : Jvm.MethodName)) ∈ TG := tw_7 121 (by decide +kernel) (by decide +kernel)
theorem w_7_122 : (Jvm.Cond.code ({ cls := "StripedVault$Assembler", name := "hexDigit", desc := "(I)I" } : Jvm.MethodName) prog_3_method_9_code (1 : Nat) (Option.some Jvm.ClassFile.FieldType.int)) ∈ TG := tw_7 122 (by decide +kernel) (by decide +kernel)
theorem w_7_125 : (Jvm.Cond.methodLink "StripedVault$Assembler" (151 : Nat) ({ cls := "StripedVault$Sink", name := "putDecimal", desc := "(J)V" } : Jvm.MethodName)) ∈ TG := tw_7 125 (by decide +kernel) (by decide +kernel)
theorem w_7_126 : (Jvm.Cond.instanceMethod ({ cls := "StripedVault$Sink", name := "putDecimal", desc := "(J)V" } : Jvm.MethodName)) ∈ TG := tw_7 126 (by decide +kernel) (by decide +kernel)
theorem w_7_127 : (Jvm.Cond.selects "StripedVault$Sink" ({ cls := "StripedVault$Sink", name := "putDecimal", desc := "(J)V" } : Jvm.MethodName) ({ cls := "StripedVault$Sink", name := "putDecimal", desc := "(J)V" } : Jvm.MethodName)) ∈ TG := tw_7 127 (by decide +kernel) (by decide +kernel)
theorem w_7_128 : (Jvm.Cond.code ({ cls := "StripedVault$Sink", name := "putDecimal", desc := "(J)V" } : Jvm.MethodName) prog_9_method_10_code (9 : Nat) (Option.none : Option Jvm.ClassFile.FieldType)) ∈ TG := tw_7 128 (by decide +kernel) (by decide +kernel)
theorem w_7_129 : (Jvm.Cond.constantLong "StripedVault$Sink" (84 : Nat) (10 : Int64)) ∈ TG := tw_7 129 (by decide +kernel) (by decide +kernel)
theorem w_7_130 : (Jvm.Cond.methodLink "StripedVault$Sink" (86 : Nat) ({ cls := "java/lang/Math", name := "abs", desc := "(J)J" } : Jvm.MethodName)) ∈ TG := tw_7 130 (by decide +kernel) (by decide +kernel)
theorem w_7_131 : (Jvm.Cond.static ({ cls := "java/lang/Math", name := "abs", desc := "(J)J" } : Jvm.MethodName)) ∈ TG := tw_7 131 (by decide +kernel) (by decide +kernel)
theorem w_7_132 : (Jvm.Cond.code ({ cls := "java/lang/Math", name := "abs", desc := "(J)J" } : Jvm.MethodName) prog_17_method_61_code (2 : Nat) (Option.some Jvm.ClassFile.FieldType.long)) ∈ TG := tw_7 132 (by decide +kernel) (by decide +kernel)
theorem w_7_86 : (Jvm.Cond.methodLink "StripedVault$Assembler" (70 : Nat) ({ cls := "StripedVault$Assembler", name := "writeGroup", desc := "(II)V" } : Jvm.MethodName)) ∈ TG := tw_7 86 (by decide +kernel) (by decide +kernel)
theorem w_7_88 : (Jvm.Cond.instanceMethod ({ cls := "StripedVault$Assembler", name := "writeGroup", desc := "(II)V" } : Jvm.MethodName)) ∈ TG := tw_7 88 (by decide +kernel) (by decide +kernel)
theorem w_7_89 : (Jvm.Cond.code ({ cls := "StripedVault$Assembler", name := "writeGroup", desc := "(II)V" } : Jvm.MethodName) prog_3_method_3_code (7 : Nat) (Option.none : Option Jvm.ClassFile.FieldType)) ∈ TG := tw_7 89 (by decide +kernel) (by decide +kernel)
theorem w_7_90 : (Jvm.Cond.methodLink "StripedVault$Assembler" (80 : Nat) ({ cls := "StripedVault$Schema", name := "pastOf", desc := "(I)I" } : Jvm.MethodName)) ∈ TG := tw_7 90 (by decide +kernel) (by decide +kernel)
theorem w_7_91 : (Jvm.Cond.methodLink "StripedVault$Assembler" (84 : Nat) ({ cls := "StripedVault$Sink", name := "put", desc := "(I)V" } : Jvm.MethodName)) ∈ TG := tw_7 91 (by decide +kernel) (by decide +kernel)
theorem w_7_92 : (Jvm.Cond.methodLink "StripedVault$Assembler" (87 : Nat) ({ cls := "StripedVault$Schema", name := "firstIn", desc := "(I)I" } : Jvm.MethodName)) ∈ TG := tw_7 92 (by decide +kernel) (by decide +kernel)
theorem w_7_93 : (Jvm.Cond.methodLink "StripedVault$Assembler" (96 : Nat) ({ cls := "StripedVault$Assembler", name := "passBy", desc := "(I)V" } : Jvm.MethodName)) ∈ TG := tw_7 93 (by decide +kernel) (by decide +kernel)
theorem w_7_95 : (Jvm.Cond.instanceMethod ({ cls := "StripedVault$Assembler", name := "passBy", desc := "(I)V" } : Jvm.MethodName)) ∈ TG := tw_7 95 (by decide +kernel) (by decide +kernel)
theorem w_7_96 : (Jvm.Cond.code ({ cls := "StripedVault$Assembler", name := "passBy", desc := "(I)V" } : Jvm.MethodName) prog_3_method_4_code (4 : Nat) (Option.none : Option Jvm.ClassFile.FieldType)) ∈ TG := tw_7 96 (by decide +kernel) (by decide +kernel)
theorem w_7_98 : (Jvm.Cond.methodLink "StripedVault$Assembler" (105 : Nat) ({ cls := "StripedVault$Sink", name := "putAll", desc := "([BII)V" } : Jvm.MethodName)) ∈ TG := tw_7 98 (by decide +kernel) (by decide +kernel)
theorem w_7_99 : (Jvm.Cond.methodLink "StripedVault$Assembler" (112 : Nat) ({ cls := "StripedVault$Assembler", name := "writeAll", desc := "(II)V" } : Jvm.MethodName)) ∈ TG := tw_7 99 (by decide +kernel) (by decide +kernel)
theorem wn_7_111 : (Jvm.Cond.methodLinkNest "StripedVault$Assembler" (164 : Nat) ({ cls := "StripedVault", name := "placeOf", desc := "(J)I" } : Jvm.MethodName) "StripedVault") ∈ lw_tbl := tb_7 _ (List.mem_of_getElem? (i := 111) (by decide +kernel))
theorem wn_7_112 : (Jvm.Cond.methodLinkNest "StripedVault$Assembler" (168 : Nat) ({ cls := "StripedVault", name := "sizeOf", desc := "(J)I" } : Jvm.MethodName) "StripedVault") ∈ lw_tbl := tb_7 _ (List.mem_of_getElem? (i := 112) (by decide +kernel))
theorem ws_62 : Cond.selects R_Asm y_Asm_writeGroup y_Asm_writeGroup ∈ TG := tw_s 62 (by decide +kernel) (by decide +kernel)
theorem ws_63 : Cond.selects R_Asm y_Asm_passBy y_Asm_passBy ∈ TG := tw_s 63 (by decide +kernel) (by decide +kernel)
theorem ws_64 : Cond.selects R_Asm y_Asm_writeAll y_Asm_writeAll ∈ TG := tw_s 64 (by decide +kernel) (by decide +kernel)
theorem ws_65 : Cond.selects R_Asm y_Asm_writeOne y_Asm_writeOne ∈ TG := tw_s 65 (by decide +kernel) (by decide +kernel)
theorem ws_66 : Cond.selects R_Asm y_Asm_writeText y_Asm_writeText ∈ TG := tw_s 66 (by decide +kernel) (by decide +kernel)
theorem ws_67 : Cond.selects R_Asm y_Asm_writeWord y_Asm_writeWord ∈ TG := tw_s 67 (by decide +kernel) (by decide +kernel)
theorem d_Asm_writeWord_2 : decode b_Asm_writeWord 2 = .ok (.iload_n 2, 1) := by decide +kernel
theorem d_Asm_writeWord_3 : decode b_Asm_writeWord 3 = .ok (.aload_n 1, 1) := by decide +kernel
theorem d_Asm_writeWord_4 : decode b_Asm_writeWord 4 = .ok (.invokevirtual 154, 3) := by decide +kernel
theorem d_Asm_writeWord_7 : decode b_Asm_writeWord 7 = .ok (.if_icmp .ge 21, 3) := by decide +kernel
theorem d_Asm_writeWord_28 : decode b_Asm_writeWord 28 = .ok (.return_, 1) := by decide +kernel
theorem d_Asm_writeWord_10 : decode b_Asm_writeWord 10 = .ok (.aload_n 0, 1) := by decide +kernel
theorem d_Asm_writeWord_11 : decode b_Asm_writeWord 11 = .ok (.getfield 15, 3) := by decide +kernel
theorem d_Asm_writeWord_14 : decode b_Asm_writeWord 14 = .ok (.aload_n 1, 1) := by decide +kernel
theorem d_Asm_writeWord_15 : decode b_Asm_writeWord 15 = .ok (.iload_n 2, 1) := by decide +kernel
theorem d_Asm_writeWord_16 : decode b_Asm_writeWord 16 = .ok (.invokevirtual 160, 3) := by decide +kernel
theorem d_Asm_writeWord_19 : decode b_Asm_writeWord 19 = .ok (.invokevirtual 84, 3) := by decide +kernel
theorem d_Asm_writeWord_22 : decode b_Asm_writeWord 22 = .ok (.iinc 2 1, 3) := by decide +kernel
theorem d_Asm_writeWord_25 : decode b_Asm_writeWord 25 = .ok (.goto (-23), 3) := by decide +kernel
theorem d_Asm_writeWord_0 : decode b_Asm_writeWord 0 = .ok (.iconst 0, 1) := by decide +kernel
theorem d_Asm_writeWord_1 : decode b_Asm_writeWord 1 = .ok (.istore_n 2, 1) := by decide +kernel
theorem d_Asm_writeText_132 : decode b_Asm_writeText 132 = .ok (.iinc 5 1, 3) := by decide +kernel
theorem d_Asm_writeText_135 : decode b_Asm_writeText 135 = .ok (.goto (-110), 3) := by decide +kernel
theorem d_Asm_writeText_123 : decode b_Asm_writeText 123 = .ok (.aload_n 0, 1) := by decide +kernel
theorem d_Asm_writeText_124 : decode b_Asm_writeText 124 = .ok (.getfield 15, 3) := by decide +kernel
theorem d_Asm_writeText_127 : decode b_Asm_writeText 127 = .ok (.iload 6, 2) := by decide +kernel
theorem d_Asm_writeText_129 : decode b_Asm_writeText 129 = .ok (.invokevirtual 84, 3) := by decide +kernel
theorem d_Asm_writeText_114 : decode b_Asm_writeText 114 = .ok (.aload_n 0, 1) := by decide +kernel
theorem d_Asm_writeText_115 : decode b_Asm_writeText 115 = .ok (.getfield 15, 3) := by decide +kernel
theorem d_Asm_writeText_118 : decode b_Asm_writeText 118 = .ok (.bipush 92, 2) := by decide +kernel
theorem d_Asm_writeText_120 : decode b_Asm_writeText 120 = .ok (.invokevirtual 84, 3) := by decide +kernel
theorem d_Asm_writeText_62 : decode b_Asm_writeText 62 = .ok (.aload_n 0, 1) := by decide +kernel
theorem d_Asm_writeText_63 : decode b_Asm_writeText 63 = .ok (.ldc 174, 2) := by decide +kernel
theorem d_Asm_writeText_65 : decode b_Asm_writeText 65 = .ok (.invokevirtual 147, 3) := by decide +kernel
theorem d_Asm_writeText_68 : decode b_Asm_writeText 68 = .ok (.aload_n 0, 1) := by decide +kernel
theorem d_Asm_writeText_69 : decode b_Asm_writeText 69 = .ok (.getfield 15, 3) := by decide +kernel
theorem d_Asm_writeText_72 : decode b_Asm_writeText 72 = .ok (.iload 6, 2) := by decide +kernel
theorem d_Asm_writeText_74 : decode b_Asm_writeText 74 = .ok (.iconst 4, 1) := by decide +kernel
theorem d_Asm_writeText_75 : decode b_Asm_writeText 75 = .ok (.ishr, 1) := by decide +kernel
theorem d_Asm_writeText_76 : decode b_Asm_writeText 76 = .ok (.invokestatic 176, 3) := by decide +kernel
theorem d_Asm_writeText_79 : decode b_Asm_writeText 79 = .ok (.invokevirtual 84, 3) := by decide +kernel
theorem d_Asm_writeText_82 : decode b_Asm_writeText 82 = .ok (.aload_n 0, 1) := by decide +kernel
theorem d_Asm_writeText_83 : decode b_Asm_writeText 83 = .ok (.getfield 15, 3) := by decide +kernel
theorem d_Asm_writeText_86 : decode b_Asm_writeText 86 = .ok (.iload 6, 2) := by decide +kernel
theorem d_Asm_writeText_88 : decode b_Asm_writeText 88 = .ok (.bipush 15, 2) := by decide +kernel
theorem d_Asm_writeText_90 : decode b_Asm_writeText 90 = .ok (.iand, 1) := by decide +kernel
theorem d_Asm_writeText_91 : decode b_Asm_writeText 91 = .ok (.invokestatic 176, 3) := by decide +kernel
theorem d_Asm_writeText_94 : decode b_Asm_writeText 94 = .ok (.invokevirtual 84, 3) := by decide +kernel
theorem d_Asm_writeText_97 : decode b_Asm_writeText 97 = .ok (.goto 35, 3) := by decide +kernel
theorem d_Asm_writeText_25 : decode b_Asm_writeText 25 = .ok (.iload 5, 2) := by decide +kernel
theorem d_Asm_writeText_27 : decode b_Asm_writeText 27 = .ok (.iload 4, 2) := by decide +kernel
theorem d_Asm_writeText_29 : decode b_Asm_writeText 29 = .ok (.if_icmp .ge 109, 3) := by decide +kernel
theorem d_Asm_writeText_138 : decode b_Asm_writeText 138 = .ok (.aload_n 0, 1) := by decide +kernel
theorem d_Asm_writeText_139 : decode b_Asm_writeText 139 = .ok (.getfield 15, 3) := by decide +kernel
theorem d_Asm_writeText_142 : decode b_Asm_writeText 142 = .ok (.bipush 39, 2) := by decide +kernel
theorem d_Asm_writeText_144 : decode b_Asm_writeText 144 = .ok (.invokevirtual 84, 3) := by decide +kernel
theorem d_Asm_writeText_147 : decode b_Asm_writeText 147 = .ok (.return_, 1) := by decide +kernel
theorem d_Asm_writeText_32 : decode b_Asm_writeText 32 = .ok (.aload_n 0, 1) := by decide +kernel
theorem d_Asm_writeText_33 : decode b_Asm_writeText 33 = .ok (.getfield 28, 3) := by decide +kernel
theorem d_Asm_writeText_36 : decode b_Asm_writeText 36 = .ok (.getfield 171, 3) := by decide +kernel
theorem d_Asm_writeText_39 : decode b_Asm_writeText 39 = .ok (.iload 5, 2) := by decide +kernel
theorem d_Asm_writeText_41 : decode b_Asm_writeText 41 = .ok (.baload, 1) := by decide +kernel
theorem d_Asm_writeText_42 : decode b_Asm_writeText 42 = .ok (.sipush 255, 3) := by decide +kernel
theorem d_Asm_writeText_45 : decode b_Asm_writeText 45 = .ok (.iand, 1) := by decide +kernel
theorem d_Asm_writeText_46 : decode b_Asm_writeText 46 = .ok (.istore 6, 2) := by decide +kernel
theorem d_Asm_writeText_48 : decode b_Asm_writeText 48 = .ok (.iload 6, 2) := by decide +kernel
theorem d_Asm_writeText_50 : decode b_Asm_writeText 50 = .ok (.bipush 32, 2) := by decide +kernel
theorem d_Asm_writeText_52 : decode b_Asm_writeText 52 = .ok (.if_icmp .lt 10, 3) := by decide +kernel
theorem d_Asm_writeText_55 : decode b_Asm_writeText 55 = .ok (.iload 6, 2) := by decide +kernel
theorem d_Asm_writeText_57 : decode b_Asm_writeText 57 = .ok (.bipush 126, 2) := by decide +kernel
theorem d_Asm_writeText_59 : decode b_Asm_writeText 59 = .ok (.if_icmp .le 41, 3) := by decide +kernel
theorem d_Asm_writeText_100 : decode b_Asm_writeText 100 = .ok (.iload 6, 2) := by decide +kernel
theorem d_Asm_writeText_102 : decode b_Asm_writeText 102 = .ok (.bipush 39, 2) := by decide +kernel
theorem d_Asm_writeText_104 : decode b_Asm_writeText 104 = .ok (.if_icmp .eq 10, 3) := by decide +kernel
theorem d_Asm_writeText_107 : decode b_Asm_writeText 107 = .ok (.iload 6, 2) := by decide +kernel
theorem d_Asm_writeText_109 : decode b_Asm_writeText 109 = .ok (.bipush 92, 2) := by decide +kernel
theorem d_Asm_writeText_111 : decode b_Asm_writeText 111 = .ok (.if_icmp .ne 12, 3) := by decide +kernel
theorem d_Asm_writeText_0 : decode b_Asm_writeText 0 = .ok (.lload_n 1, 1) := by decide +kernel
theorem d_Asm_writeText_1 : decode b_Asm_writeText 1 = .ok (.invokestatic 164, 3) := by decide +kernel
theorem d_Asm_writeText_4 : decode b_Asm_writeText 4 = .ok (.istore_n 3, 1) := by decide +kernel
theorem d_Asm_writeText_5 : decode b_Asm_writeText 5 = .ok (.iload_n 3, 1) := by decide +kernel
theorem d_Asm_writeText_6 : decode b_Asm_writeText 6 = .ok (.lload_n 1, 1) := by decide +kernel
theorem d_Asm_writeText_7 : decode b_Asm_writeText 7 = .ok (.invokestatic 168, 3) := by decide +kernel
theorem d_Asm_writeText_10 : decode b_Asm_writeText 10 = .ok (.iadd, 1) := by decide +kernel
theorem d_Asm_writeText_11 : decode b_Asm_writeText 11 = .ok (.istore 4, 2) := by decide +kernel
theorem d_Asm_writeText_13 : decode b_Asm_writeText 13 = .ok (.aload_n 0, 1) := by decide +kernel
theorem d_Asm_writeText_14 : decode b_Asm_writeText 14 = .ok (.getfield 15, 3) := by decide +kernel
theorem d_Asm_writeText_17 : decode b_Asm_writeText 17 = .ok (.bipush 39, 2) := by decide +kernel
theorem d_Asm_writeText_19 : decode b_Asm_writeText 19 = .ok (.invokevirtual 84, 3) := by decide +kernel
theorem d_Asm_writeText_22 : decode b_Asm_writeText 22 = .ok (.iload_n 3, 1) := by decide +kernel
theorem d_Asm_writeText_23 : decode b_Asm_writeText 23 = .ok (.istore 5, 2) := by decide +kernel
theorem d_Snk_putDecimal_84 : decode b_Snk_putDecimal 84 = .ok (.iload 6, 2) := by decide +kernel
theorem d_Snk_putDecimal_86 : decode b_Snk_putDecimal 86 = .ok (.iload 7, 2) := by decide +kernel
theorem d_Snk_putDecimal_88 : decode b_Snk_putDecimal 88 = .ok (.if_icmp .ge 44, 3) := by decide +kernel
theorem d_Snk_putDecimal_132 : decode b_Snk_putDecimal 132 = .ok (.return_, 1) := by decide +kernel
theorem d_Snk_putDecimal_91 : decode b_Snk_putDecimal 91 = .ok (.aload_n 0, 1) := by decide +kernel
theorem d_Snk_putDecimal_92 : decode b_Snk_putDecimal 92 = .ok (.getfield 25, 3) := by decide +kernel
theorem d_Snk_putDecimal_95 : decode b_Snk_putDecimal 95 = .ok (.iload 6, 2) := by decide +kernel
theorem d_Snk_putDecimal_97 : decode b_Snk_putDecimal 97 = .ok (.baload, 1) := by decide +kernel
theorem d_Snk_putDecimal_98 : decode b_Snk_putDecimal 98 = .ok (.istore 8, 2) := by decide +kernel
theorem d_Snk_putDecimal_100 : decode b_Snk_putDecimal 100 = .ok (.aload_n 0, 1) := by decide +kernel
theorem d_Snk_putDecimal_101 : decode b_Snk_putDecimal 101 = .ok (.getfield 25, 3) := by decide +kernel
theorem d_Snk_putDecimal_104 : decode b_Snk_putDecimal 104 = .ok (.iload 6, 2) := by decide +kernel
theorem d_Snk_putDecimal_106 : decode b_Snk_putDecimal 106 = .ok (.aload_n 0, 1) := by decide +kernel
theorem d_Snk_putDecimal_107 : decode b_Snk_putDecimal 107 = .ok (.getfield 25, 3) := by decide +kernel
theorem d_Snk_putDecimal_110 : decode b_Snk_putDecimal 110 = .ok (.iload 7, 2) := by decide +kernel
theorem d_Snk_putDecimal_112 : decode b_Snk_putDecimal 112 = .ok (.baload, 1) := by decide +kernel
theorem d_Snk_putDecimal_113 : decode b_Snk_putDecimal 113 = .ok (.bastore, 1) := by decide +kernel
theorem d_Snk_putDecimal_114 : decode b_Snk_putDecimal 114 = .ok (.aload_n 0, 1) := by decide +kernel
theorem d_Snk_putDecimal_115 : decode b_Snk_putDecimal 115 = .ok (.getfield 25, 3) := by decide +kernel
theorem d_Snk_putDecimal_118 : decode b_Snk_putDecimal 118 = .ok (.iload 7, 2) := by decide +kernel
theorem d_Snk_putDecimal_120 : decode b_Snk_putDecimal 120 = .ok (.iload 8, 2) := by decide +kernel
theorem d_Snk_putDecimal_122 : decode b_Snk_putDecimal 122 = .ok (.bastore, 1) := by decide +kernel
theorem d_Snk_putDecimal_123 : decode b_Snk_putDecimal 123 = .ok (.iinc 6 1, 3) := by decide +kernel
theorem d_Snk_putDecimal_126 : decode b_Snk_putDecimal 126 = .ok (.iinc 7 (-1), 3) := by decide +kernel
theorem d_Snk_putDecimal_129 : decode b_Snk_putDecimal 129 = .ok (.goto (-45), 3) := by decide +kernel
theorem d_Snk_putDecimal_73 : decode b_Snk_putDecimal 73 = .ok (.iload_n 3, 1) := by decide +kernel
theorem d_Snk_putDecimal_74 : decode b_Snk_putDecimal 74 = .ok (.istore 6, 2) := by decide +kernel
theorem d_Snk_putDecimal_76 : decode b_Snk_putDecimal 76 = .ok (.aload_n 0, 1) := by decide +kernel
theorem d_Snk_putDecimal_77 : decode b_Snk_putDecimal 77 = .ok (.getfield 29, 3) := by decide +kernel
theorem d_Snk_putDecimal_80 : decode b_Snk_putDecimal 80 = .ok (.iconst 1, 1) := by decide +kernel
theorem d_Snk_putDecimal_81 : decode b_Snk_putDecimal 81 = .ok (.isub, 1) := by decide +kernel
theorem d_Snk_putDecimal_82 : decode b_Snk_putDecimal 82 = .ok (.istore 7, 2) := by decide +kernel
theorem d_Snk_putDecimal_61 : decode b_Snk_putDecimal 61 = .ok (.lload_n 1, 1) := by decide +kernel
theorem d_Snk_putDecimal_62 : decode b_Snk_putDecimal 62 = .ok (.lconst 0, 1) := by decide +kernel
theorem d_Snk_putDecimal_63 : decode b_Snk_putDecimal 63 = .ok (.lcmp, 1) := by decide +kernel
theorem d_Snk_putDecimal_64 : decode b_Snk_putDecimal 64 = .ok (.ifCond .ge 9, 3) := by decide +kernel
theorem d_Snk_putDecimal_67 : decode b_Snk_putDecimal 67 = .ok (.aload_n 0, 1) := by decide +kernel
theorem d_Snk_putDecimal_68 : decode b_Snk_putDecimal 68 = .ok (.bipush 45, 2) := by decide +kernel
theorem d_Snk_putDecimal_70 : decode b_Snk_putDecimal 70 = .ok (.invokevirtual 57, 3) := by decide +kernel
theorem d_Snk_putDecimal_30 : decode b_Snk_putDecimal 30 = .ok (.aload_n 0, 1) := by decide +kernel
theorem d_Snk_putDecimal_31 : decode b_Snk_putDecimal 31 = .ok (.bipush 48, 2) := by decide +kernel
theorem d_Snk_putDecimal_33 : decode b_Snk_putDecimal 33 = .ok (.lload 4, 2) := by decide +kernel
theorem d_Snk_putDecimal_35 : decode b_Snk_putDecimal 35 = .ok (.ldc2_w 84, 3) := by decide +kernel
theorem d_Snk_putDecimal_38 : decode b_Snk_putDecimal 38 = .ok (.lrem, 1) := by decide +kernel
theorem d_Snk_putDecimal_39 : decode b_Snk_putDecimal 39 = .ok (.invokestatic 86, 3) := by decide +kernel
theorem d_Snk_putDecimal_42 : decode b_Snk_putDecimal 42 = .ok (.l2i, 1) := by decide +kernel
theorem d_Snk_putDecimal_43 : decode b_Snk_putDecimal 43 = .ok (.iadd, 1) := by decide +kernel
theorem d_Snk_putDecimal_44 : decode b_Snk_putDecimal 44 = .ok (.invokevirtual 57, 3) := by decide +kernel
theorem d_Snk_putDecimal_47 : decode b_Snk_putDecimal 47 = .ok (.lload 4, 2) := by decide +kernel
theorem d_Snk_putDecimal_49 : decode b_Snk_putDecimal 49 = .ok (.ldc2_w 84, 3) := by decide +kernel
theorem d_Snk_putDecimal_52 : decode b_Snk_putDecimal 52 = .ok (.ldiv, 1) := by decide +kernel
theorem d_Snk_putDecimal_53 : decode b_Snk_putDecimal 53 = .ok (.lstore 4, 2) := by decide +kernel
theorem d_Snk_putDecimal_55 : decode b_Snk_putDecimal 55 = .ok (.iinc 6 1, 3) := by decide +kernel
theorem d_Snk_putDecimal_58 : decode b_Snk_putDecimal 58 = .ok (.goto (-47), 3) := by decide +kernel
theorem d_Snk_putDecimal_11 : decode b_Snk_putDecimal 11 = .ok (.iload 6, 2) := by decide +kernel
theorem d_Snk_putDecimal_13 : decode b_Snk_putDecimal 13 = .ok (.bipush 20, 2) := by decide +kernel
theorem d_Snk_putDecimal_15 : decode b_Snk_putDecimal 15 = .ok (.if_icmp .ge 46, 3) := by decide +kernel
theorem d_Snk_putDecimal_18 : decode b_Snk_putDecimal 18 = .ok (.iload 6, 2) := by decide +kernel
theorem d_Snk_putDecimal_20 : decode b_Snk_putDecimal 20 = .ok (.ifCond .eq 10, 3) := by decide +kernel
theorem d_Snk_putDecimal_23 : decode b_Snk_putDecimal 23 = .ok (.lload 4, 2) := by decide +kernel
theorem d_Snk_putDecimal_25 : decode b_Snk_putDecimal 25 = .ok (.lconst 0, 1) := by decide +kernel
theorem d_Snk_putDecimal_26 : decode b_Snk_putDecimal 26 = .ok (.lcmp, 1) := by decide +kernel
theorem d_Snk_putDecimal_27 : decode b_Snk_putDecimal 27 = .ok (.ifCond .eq 34, 3) := by decide +kernel
theorem d_Snk_putDecimal_0 : decode b_Snk_putDecimal 0 = .ok (.aload_n 0, 1) := by decide +kernel
theorem d_Snk_putDecimal_1 : decode b_Snk_putDecimal 1 = .ok (.getfield 29, 3) := by decide +kernel
theorem d_Snk_putDecimal_4 : decode b_Snk_putDecimal 4 = .ok (.istore_n 3, 1) := by decide +kernel
theorem d_Snk_putDecimal_5 : decode b_Snk_putDecimal 5 = .ok (.lload_n 1, 1) := by decide +kernel
theorem d_Snk_putDecimal_6 : decode b_Snk_putDecimal 6 = .ok (.lstore 4, 2) := by decide +kernel
theorem d_Snk_putDecimal_8 : decode b_Snk_putDecimal 8 = .ok (.iconst 0, 1) := by decide +kernel
theorem d_Snk_putDecimal_9 : decode b_Snk_putDecimal 9 = .ok (.istore 6, 2) := by decide +kernel
theorem d_Asm_writeAll_91 : decode b_Asm_writeAll 91 = .ok (.aload_n 0, 1) := by decide +kernel
theorem d_Asm_writeAll_92 : decode b_Asm_writeAll 92 = .ok (.getfield 15, 3) := by decide +kernel
theorem d_Asm_writeAll_95 : decode b_Asm_writeAll 95 = .ok (.bipush 93, 2) := by decide +kernel
theorem d_Asm_writeAll_97 : decode b_Asm_writeAll 97 = .ok (.invokevirtual 84, 3) := by decide +kernel
theorem d_Asm_writeAll_100 : decode b_Asm_writeAll 100 = .ok (.return_, 1) := by decide +kernel
theorem d_Asm_writeAll_85 : decode b_Asm_writeAll 85 = .ok (.iinc 4 1, 3) := by decide +kernel
theorem d_Asm_writeAll_88 : decode b_Asm_writeAll 88 = .ok (.goto (-74), 3) := by decide +kernel
theorem d_Asm_writeAll_71 : decode b_Asm_writeAll 71 = .ok (.istore_n 3, 1) := by decide +kernel
theorem d_Asm_writeAll_72 : decode b_Asm_writeAll 72 = .ok (.iload_n 3, 1) := by decide +kernel
theorem d_Asm_writeAll_73 : decode b_Asm_writeAll 73 = .ok (.ifCond .eq 12, 3) := by decide +kernel
theorem d_Asm_writeAll_76 : decode b_Asm_writeAll 76 = .ok (.aload_n 0, 1) := by decide +kernel
theorem d_Asm_writeAll_77 : decode b_Asm_writeAll 77 = .ok (.getfield 15, 3) := by decide +kernel
theorem d_Asm_writeAll_80 : decode b_Asm_writeAll 80 = .ok (.bipush 44, 2) := by decide +kernel
theorem d_Asm_writeAll_82 : decode b_Asm_writeAll 82 = .ok (.invokevirtual 84, 3) := by decide +kernel
theorem d_Asm_writeAll_14 : decode b_Asm_writeAll 14 = .ok (.iload 4, 2) := by decide +kernel
theorem d_Asm_writeAll_16 : decode b_Asm_writeAll 16 = .ok (.sipush 10000, 3) := by decide +kernel
theorem d_Asm_writeAll_19 : decode b_Asm_writeAll 19 = .ok (.if_icmp .ge 72, 3) := by decide +kernel
theorem d_Asm_writeAll_22 : decode b_Asm_writeAll 22 = .ok (.iload_n 3, 1) := by decide +kernel
theorem d_Asm_writeAll_23 : decode b_Asm_writeAll 23 = .ok (.ifCond .eq 68, 3) := by decide +kernel
theorem d_Asm_writeAll_26 : decode b_Asm_writeAll 26 = .ok (.aload_n 0, 1) := by decide +kernel
theorem d_Asm_writeAll_27 : decode b_Asm_writeAll 27 = .ok (.iload_n 1, 1) := by decide +kernel
theorem d_Asm_writeAll_28 : decode b_Asm_writeAll 28 = .ok (.iload_n 2, 1) := by decide +kernel
theorem d_Asm_writeAll_29 : decode b_Asm_writeAll 29 = .ok (.invokevirtual 115, 3) := by decide +kernel
theorem d_Asm_writeAll_32 : decode b_Asm_writeAll 32 = .ok (.aload_n 0, 1) := by decide +kernel
theorem d_Asm_writeAll_33 : decode b_Asm_writeAll 33 = .ok (.getfield 28, 3) := by decide +kernel
theorem d_Asm_writeAll_36 : decode b_Asm_writeAll 36 = .ok (.getfield 127, 3) := by decide +kernel
theorem d_Asm_writeAll_39 : decode b_Asm_writeAll 39 = .ok (.aload_n 0, 1) := by decide +kernel
theorem d_Asm_writeAll_40 : decode b_Asm_writeAll 40 = .ok (.getfield 21, 3) := by decide +kernel
theorem d_Asm_writeAll_43 : decode b_Asm_writeAll 43 = .ok (.aload_n 0, 1) := by decide +kernel
theorem d_Asm_writeAll_44 : decode b_Asm_writeAll 44 = .ok (.getfield 25, 3) := by decide +kernel
theorem d_Asm_writeAll_47 : decode b_Asm_writeAll 47 = .ok (.iload_n 1, 1) := by decide +kernel
theorem d_Asm_writeAll_48 : decode b_Asm_writeAll 48 = .ok (.iaload, 1) := by decide +kernel
theorem d_Asm_writeAll_49 : decode b_Asm_writeAll 49 = .ok (.iaload, 1) := by decide +kernel
theorem d_Asm_writeAll_50 : decode b_Asm_writeAll 50 = .ok (.baload, 1) := by decide +kernel
theorem d_Asm_writeAll_51 : decode b_Asm_writeAll 51 = .ok (.aload_n 0, 1) := by decide +kernel
theorem d_Asm_writeAll_52 : decode b_Asm_writeAll 52 = .ok (.getfield 28, 3) := by decide +kernel
theorem d_Asm_writeAll_55 : decode b_Asm_writeAll 55 = .ok (.getfield 45, 3) := by decide +kernel
theorem d_Asm_writeAll_58 : decode b_Asm_writeAll 58 = .ok (.getfield 130, 3) := by decide +kernel
theorem d_Asm_writeAll_61 : decode b_Asm_writeAll 61 = .ok (.iload_n 1, 1) := by decide +kernel
theorem d_Asm_writeAll_62 : decode b_Asm_writeAll 62 = .ok (.iaload, 1) := by decide +kernel
theorem d_Asm_writeAll_63 : decode b_Asm_writeAll 63 = .ok (.if_icmp .ne 7, 3) := by decide +kernel
theorem d_Asm_writeAll_70 : decode b_Asm_writeAll 70 = .ok (.iconst 0, 1) := by decide +kernel
theorem d_Asm_writeAll_66 : decode b_Asm_writeAll 66 = .ok (.iconst 1, 1) := by decide +kernel
theorem d_Asm_writeAll_67 : decode b_Asm_writeAll 67 = .ok (.goto 4, 3) := by decide +kernel
theorem d_Asm_writeAll_0 : decode b_Asm_writeAll 0 = .ok (.aload_n 0, 1) := by decide +kernel
theorem d_Asm_writeAll_1 : decode b_Asm_writeAll 1 = .ok (.getfield 15, 3) := by decide +kernel
theorem d_Asm_writeAll_4 : decode b_Asm_writeAll 4 = .ok (.bipush 91, 2) := by decide +kernel
theorem d_Asm_writeAll_6 : decode b_Asm_writeAll 6 = .ok (.invokevirtual 84, 3) := by decide +kernel
theorem d_Asm_writeAll_9 : decode b_Asm_writeAll 9 = .ok (.iconst 1, 1) := by decide +kernel
theorem d_Asm_writeAll_10 : decode b_Asm_writeAll 10 = .ok (.istore_n 3, 1) := by decide +kernel
theorem d_Asm_writeAll_11 : decode b_Asm_writeAll 11 = .ok (.iconst 0, 1) := by decide +kernel
theorem d_Asm_writeAll_12 : decode b_Asm_writeAll 12 = .ok (.istore 4, 2) := by decide +kernel
theorem d_Asm_writeGroup_189 : decode b_Asm_writeGroup 189 = .ok (.iinc 6 1, 3) := by decide +kernel
theorem d_Asm_writeGroup_192 : decode b_Asm_writeGroup 192 = .ok (.goto (-151), 3) := by decide +kernel
theorem d_Asm_writeGroup_126 : decode b_Asm_writeGroup 126 = .ok (.iconst 1, 1) := by decide +kernel
theorem d_Asm_writeGroup_127 : decode b_Asm_writeGroup 127 = .ok (.istore 5, 2) := by decide +kernel
theorem d_Asm_writeGroup_129 : decode b_Asm_writeGroup 129 = .ok (.aload_n 0, 1) := by decide +kernel
theorem d_Asm_writeGroup_130 : decode b_Asm_writeGroup 130 = .ok (.getfield 15, 3) := by decide +kernel
theorem d_Asm_writeGroup_133 : decode b_Asm_writeGroup 133 = .ok (.aload_n 3, 1) := by decide +kernel
theorem d_Asm_writeGroup_134 : decode b_Asm_writeGroup 134 = .ok (.getfield 99, 3) := by decide +kernel
theorem d_Asm_writeGroup_137 : decode b_Asm_writeGroup 137 = .ok (.iload 6, 2) := by decide +kernel
theorem d_Asm_writeGroup_139 : decode b_Asm_writeGroup 139 = .ok (.bipush 16, 2) := by decide +kernel
theorem d_Asm_writeGroup_141 : decode b_Asm_writeGroup 141 = .ok (.imul, 1) := by decide +kernel
theorem d_Asm_writeGroup_142 : decode b_Asm_writeGroup 142 = .ok (.aload_n 3, 1) := by decide +kernel
theorem d_Asm_writeGroup_143 : decode b_Asm_writeGroup 143 = .ok (.getfield 102, 3) := by decide +kernel
theorem d_Asm_writeGroup_146 : decode b_Asm_writeGroup 146 = .ok (.iload 6, 2) := by decide +kernel
theorem d_Asm_writeGroup_148 : decode b_Asm_writeGroup 148 = .ok (.iaload, 1) := by decide +kernel
theorem d_Asm_writeGroup_149 : decode b_Asm_writeGroup 149 = .ok (.invokevirtual 105, 3) := by decide +kernel
theorem d_Asm_writeGroup_152 : decode b_Asm_writeGroup 152 = .ok (.aload_n 0, 1) := by decide +kernel
theorem d_Asm_writeGroup_153 : decode b_Asm_writeGroup 153 = .ok (.getfield 15, 3) := by decide +kernel
theorem d_Asm_writeGroup_156 : decode b_Asm_writeGroup 156 = .ok (.bipush 58, 2) := by decide +kernel
theorem d_Asm_writeGroup_158 : decode b_Asm_writeGroup 158 = .ok (.invokevirtual 84, 3) := by decide +kernel
theorem d_Asm_writeGroup_161 : decode b_Asm_writeGroup 161 = .ok (.aload_n 3, 1) := by decide +kernel
theorem d_Asm_writeGroup_162 : decode b_Asm_writeGroup 162 = .ok (.getfield 109, 3) := by decide +kernel
theorem d_Asm_writeGroup_165 : decode b_Asm_writeGroup 165 = .ok (.iload 6, 2) := by decide +kernel
theorem d_Asm_writeGroup_167 : decode b_Asm_writeGroup 167 = .ok (.iaload, 1) := by decide +kernel
theorem d_Asm_writeGroup_168 : decode b_Asm_writeGroup 168 = .ok (.iconst 2, 1) := by decide +kernel
theorem d_Asm_writeGroup_169 : decode b_Asm_writeGroup 169 = .ok (.if_icmp .ne 13, 3) := by decide +kernel
theorem d_Asm_writeGroup_182 : decode b_Asm_writeGroup 182 = .ok (.aload_n 0, 1) := by decide +kernel
theorem d_Asm_writeGroup_183 : decode b_Asm_writeGroup 183 = .ok (.iload 6, 2) := by decide +kernel
theorem d_Asm_writeGroup_185 : decode b_Asm_writeGroup 185 = .ok (.iload_n 2, 1) := by decide +kernel
theorem d_Asm_writeGroup_186 : decode b_Asm_writeGroup 186 = .ok (.invokevirtual 115, 3) := by decide +kernel
theorem d_Asm_writeGroup_172 : decode b_Asm_writeGroup 172 = .ok (.aload_n 0, 1) := by decide +kernel
theorem d_Asm_writeGroup_173 : decode b_Asm_writeGroup 173 = .ok (.iload 6, 2) := by decide +kernel
theorem d_Asm_writeGroup_175 : decode b_Asm_writeGroup 175 = .ok (.iload_n 2, 1) := by decide +kernel
theorem d_Asm_writeGroup_176 : decode b_Asm_writeGroup 176 = .ok (.invokevirtual 112, 3) := by decide +kernel
theorem d_Asm_writeGroup_179 : decode b_Asm_writeGroup 179 = .ok (.goto 10, 3) := by decide +kernel
theorem d_Asm_writeGroup_41 : decode b_Asm_writeGroup 41 = .ok (.iload 6, 2) := by decide +kernel
theorem d_Asm_writeGroup_43 : decode b_Asm_writeGroup 43 = .ok (.iload 4, 2) := by decide +kernel
theorem d_Asm_writeGroup_45 : decode b_Asm_writeGroup 45 = .ok (.if_icmp .ge 150, 3) := by decide +kernel
theorem d_Asm_writeGroup_195 : decode b_Asm_writeGroup 195 = .ok (.aload_n 0, 1) := by decide +kernel
theorem d_Asm_writeGroup_196 : decode b_Asm_writeGroup 196 = .ok (.getfield 15, 3) := by decide +kernel
theorem d_Asm_writeGroup_199 : decode b_Asm_writeGroup 199 = .ok (.bipush 125, 2) := by decide +kernel
theorem d_Asm_writeGroup_201 : decode b_Asm_writeGroup 201 = .ok (.invokevirtual 84, 3) := by decide +kernel
theorem d_Asm_writeGroup_204 : decode b_Asm_writeGroup 204 = .ok (.return_, 1) := by decide +kernel
theorem d_Asm_writeGroup_48 : decode b_Asm_writeGroup 48 = .ok (.aload_n 3, 1) := by decide +kernel
theorem d_Asm_writeGroup_49 : decode b_Asm_writeGroup 49 = .ok (.getfield 67, 3) := by decide +kernel
theorem d_Asm_writeGroup_52 : decode b_Asm_writeGroup 52 = .ok (.iload 6, 2) := by decide +kernel
theorem d_Asm_writeGroup_54 : decode b_Asm_writeGroup 54 = .ok (.iaload, 1) := by decide +kernel
theorem d_Asm_writeGroup_55 : decode b_Asm_writeGroup 55 = .ok (.iload_n 1, 1) := by decide +kernel
theorem d_Asm_writeGroup_56 : decode b_Asm_writeGroup 56 = .ok (.if_icmp .ne 133, 3) := by decide +kernel
theorem d_Asm_writeGroup_59 : decode b_Asm_writeGroup 59 = .ok (.aload_n 0, 1) := by decide +kernel
theorem d_Asm_writeGroup_60 : decode b_Asm_writeGroup 60 = .ok (.getfield 25, 3) := by decide +kernel
theorem d_Asm_writeGroup_63 : decode b_Asm_writeGroup 63 = .ok (.iload 6, 2) := by decide +kernel
theorem d_Asm_writeGroup_65 : decode b_Asm_writeGroup 65 = .ok (.iaload, 1) := by decide +kernel
theorem d_Asm_writeGroup_66 : decode b_Asm_writeGroup 66 = .ok (.iconst (-1), 1) := by decide +kernel
theorem d_Asm_writeGroup_67 : decode b_Asm_writeGroup 67 = .ok (.if_icmp .ne 6, 3) := by decide +kernel
theorem d_Asm_writeGroup_73 : decode b_Asm_writeGroup 73 = .ok (.aload_n 0, 1) := by decide +kernel
theorem d_Asm_writeGroup_74 : decode b_Asm_writeGroup 74 = .ok (.getfield 28, 3) := by decide +kernel
theorem d_Asm_writeGroup_77 : decode b_Asm_writeGroup 77 = .ok (.getfield 90, 3) := by decide +kernel
theorem d_Asm_writeGroup_80 : decode b_Asm_writeGroup 80 = .ok (.aload_n 0, 1) := by decide +kernel
theorem d_Asm_writeGroup_81 : decode b_Asm_writeGroup 81 = .ok (.getfield 21, 3) := by decide +kernel
theorem d_Asm_writeGroup_84 : decode b_Asm_writeGroup 84 = .ok (.aload_n 0, 1) := by decide +kernel
theorem d_Asm_writeGroup_85 : decode b_Asm_writeGroup 85 = .ok (.getfield 25, 3) := by decide +kernel
theorem d_Asm_writeGroup_88 : decode b_Asm_writeGroup 88 = .ok (.iload 6, 2) := by decide +kernel
theorem d_Asm_writeGroup_90 : decode b_Asm_writeGroup 90 = .ok (.iaload, 1) := by decide +kernel
theorem d_Asm_writeGroup_91 : decode b_Asm_writeGroup 91 = .ok (.iaload, 1) := by decide +kernel
theorem d_Asm_writeGroup_92 : decode b_Asm_writeGroup 92 = .ok (.baload, 1) := by decide +kernel
theorem d_Asm_writeGroup_93 : decode b_Asm_writeGroup 93 = .ok (.aload_n 3, 1) := by decide +kernel
theorem d_Asm_writeGroup_94 : decode b_Asm_writeGroup 94 = .ok (.getfield 94, 3) := by decide +kernel
theorem d_Asm_writeGroup_97 : decode b_Asm_writeGroup 97 = .ok (.iload 6, 2) := by decide +kernel
theorem d_Asm_writeGroup_99 : decode b_Asm_writeGroup 99 = .ok (.iaload, 1) := by decide +kernel
theorem d_Asm_writeGroup_100 : decode b_Asm_writeGroup 100 = .ok (.if_icmp .ge 12, 3) := by decide +kernel
theorem d_Asm_writeGroup_112 : decode b_Asm_writeGroup 112 = .ok (.iload 5, 2) := by decide +kernel
theorem d_Asm_writeGroup_114 : decode b_Asm_writeGroup 114 = .ok (.ifCond .eq 12, 3) := by decide +kernel
theorem d_Asm_writeGroup_117 : decode b_Asm_writeGroup 117 = .ok (.aload_n 0, 1) := by decide +kernel
theorem d_Asm_writeGroup_118 : decode b_Asm_writeGroup 118 = .ok (.getfield 15, 3) := by decide +kernel
theorem d_Asm_writeGroup_121 : decode b_Asm_writeGroup 121 = .ok (.bipush 44, 2) := by decide +kernel
theorem d_Asm_writeGroup_123 : decode b_Asm_writeGroup 123 = .ok (.invokevirtual 84, 3) := by decide +kernel
theorem d_Asm_writeGroup_103 : decode b_Asm_writeGroup 103 = .ok (.aload_n 0, 1) := by decide +kernel
theorem d_Asm_writeGroup_104 : decode b_Asm_writeGroup 104 = .ok (.iload 6, 2) := by decide +kernel
theorem d_Asm_writeGroup_106 : decode b_Asm_writeGroup 106 = .ok (.invokevirtual 96, 3) := by decide +kernel
theorem d_Asm_writeGroup_109 : decode b_Asm_writeGroup 109 = .ok (.goto 80, 3) := by decide +kernel
theorem d_Asm_writeGroup_70 : decode b_Asm_writeGroup 70 = .ok (.goto 119, 3) := by decide +kernel
theorem d_Asm_writeGroup_0 : decode b_Asm_writeGroup 0 = .ok (.iload_n 2, 1) := by decide +kernel
theorem d_Asm_writeGroup_1 : decode b_Asm_writeGroup 1 = .ok (.bipush 16, 2) := by decide +kernel
theorem d_Asm_writeGroup_3 : decode b_Asm_writeGroup 3 = .ok (.if_icmp .le 4, 3) := by decide +kernel
theorem d_Asm_writeGroup_7 : decode b_Asm_writeGroup 7 = .ok (.aload_n 0, 1) := by decide +kernel
theorem d_Asm_writeGroup_8 : decode b_Asm_writeGroup 8 = .ok (.getfield 28, 3) := by decide +kernel
theorem d_Asm_writeGroup_11 : decode b_Asm_writeGroup 11 = .ok (.getfield 45, 3) := by decide +kernel
theorem d_Asm_writeGroup_14 : decode b_Asm_writeGroup 14 = .ok (.astore_n 3, 1) := by decide +kernel
theorem d_Asm_writeGroup_15 : decode b_Asm_writeGroup 15 = .ok (.aload_n 3, 1) := by decide +kernel
theorem d_Asm_writeGroup_16 : decode b_Asm_writeGroup 16 = .ok (.iload_n 1, 1) := by decide +kernel
theorem d_Asm_writeGroup_17 : decode b_Asm_writeGroup 17 = .ok (.invokevirtual 80, 3) := by decide +kernel
theorem d_Asm_writeGroup_20 : decode b_Asm_writeGroup 20 = .ok (.istore 4, 2) := by decide +kernel
theorem d_Asm_writeGroup_22 : decode b_Asm_writeGroup 22 = .ok (.iconst 0, 1) := by decide +kernel
theorem d_Asm_writeGroup_23 : decode b_Asm_writeGroup 23 = .ok (.istore 5, 2) := by decide +kernel
theorem d_Asm_writeGroup_25 : decode b_Asm_writeGroup 25 = .ok (.aload_n 0, 1) := by decide +kernel
theorem d_Asm_writeGroup_26 : decode b_Asm_writeGroup 26 = .ok (.getfield 15, 3) := by decide +kernel
theorem d_Asm_writeGroup_29 : decode b_Asm_writeGroup 29 = .ok (.bipush 123, 2) := by decide +kernel
theorem d_Asm_writeGroup_31 : decode b_Asm_writeGroup 31 = .ok (.invokevirtual 84, 3) := by decide +kernel
theorem d_Asm_writeGroup_34 : decode b_Asm_writeGroup 34 = .ok (.aload_n 3, 1) := by decide +kernel
theorem d_Asm_writeGroup_35 : decode b_Asm_writeGroup 35 = .ok (.iload_n 1, 1) := by decide +kernel
theorem d_Asm_writeGroup_36 : decode b_Asm_writeGroup 36 = .ok (.invokevirtual 87, 3) := by decide +kernel
theorem d_Asm_writeGroup_39 : decode b_Asm_writeGroup 39 = .ok (.istore 6, 2) := by decide +kernel
theorem d_Asm_writeGroup_6 : decode b_Asm_writeGroup 6 = .ok (.return_, 1) := by decide +kernel
theorem d_Asm_writeOne_102 : decode b_Asm_writeOne 102 = .ok (.invokevirtual 147, 3) := by decide +kernel
theorem d_Asm_writeOne_105 : decode b_Asm_writeOne 105 = .ok (.goto 12, 3) := by decide +kernel
theorem d_Asm_writeOne_117 : decode b_Asm_writeOne 117 = .ok (.return_, 1) := by decide +kernel
theorem d_Asm_writeOne_0 : decode b_Asm_writeOne 0 = .ok (.aload_n 0, 1) := by decide +kernel
theorem d_Asm_writeOne_1 : decode b_Asm_writeOne 1 = .ok (.getfield 28, 3) := by decide +kernel
theorem d_Asm_writeOne_4 : decode b_Asm_writeOne 4 = .ok (.getfield 45, 3) := by decide +kernel
theorem d_Asm_writeOne_7 : decode b_Asm_writeOne 7 = .ok (.getfield 132, 3) := by decide +kernel
theorem d_Asm_writeOne_10 : decode b_Asm_writeOne 10 = .ok (.iload_n 1, 1) := by decide +kernel
theorem d_Asm_writeOne_11 : decode b_Asm_writeOne 11 = .ok (.iaload, 1) := by decide +kernel
theorem d_Asm_writeOne_12 : decode b_Asm_writeOne 12 = .ok (.istore_n 3, 1) := by decide +kernel
theorem d_Asm_writeOne_13 : decode b_Asm_writeOne 13 = .ok (.iload_n 3, 1) := by decide +kernel
theorem d_Asm_writeOne_14 : decode b_Asm_writeOne 14 = .ok (.iconst 4, 1) := by decide +kernel
theorem d_Asm_writeOne_15 : decode b_Asm_writeOne 15 = .ok (.if_icmp .ne 12, 3) := by decide +kernel
theorem d_Asm_writeOne_27 : decode b_Asm_writeOne 27 = .ok (.aload_n 0, 1) := by decide +kernel
theorem d_Asm_writeOne_28 : decode b_Asm_writeOne 28 = .ok (.getfield 28, 3) := by decide +kernel
theorem d_Asm_writeOne_31 : decode b_Asm_writeOne 31 = .ok (.getfield 45, 3) := by decide +kernel
theorem d_Asm_writeOne_34 : decode b_Asm_writeOne 34 = .ok (.getfield 124, 3) := by decide +kernel
theorem d_Asm_writeOne_37 : decode b_Asm_writeOne 37 = .ok (.iload_n 1, 1) := by decide +kernel
theorem d_Asm_writeOne_38 : decode b_Asm_writeOne 38 = .ok (.iaload, 1) := by decide +kernel
theorem d_Asm_writeOne_39 : decode b_Asm_writeOne 39 = .ok (.istore 4, 2) := by decide +kernel
theorem d_Asm_writeOne_41 : decode b_Asm_writeOne 41 = .ok (.aload_n 0, 1) := by decide +kernel
theorem d_Asm_writeOne_42 : decode b_Asm_writeOne 42 = .ok (.getfield 28, 3) := by decide +kernel
theorem d_Asm_writeOne_45 : decode b_Asm_writeOne 45 = .ok (.getfield 135, 3) := by decide +kernel
theorem d_Asm_writeOne_48 : decode b_Asm_writeOne 48 = .ok (.aload_n 0, 1) := by decide +kernel
theorem d_Asm_writeOne_49 : decode b_Asm_writeOne 49 = .ok (.getfield 21, 3) := by decide +kernel
theorem d_Asm_writeOne_52 : decode b_Asm_writeOne 52 = .ok (.iload 4, 2) := by decide +kernel
theorem d_Asm_writeOne_54 : decode b_Asm_writeOne 54 = .ok (.iaload, 1) := by decide +kernel
theorem d_Asm_writeOne_55 : decode b_Asm_writeOne 55 = .ok (.laload, 1) := by decide +kernel
theorem d_Asm_writeOne_56 : decode b_Asm_writeOne 56 = .ok (.lstore 5, 2) := by decide +kernel
theorem d_Asm_writeOne_58 : decode b_Asm_writeOne 58 = .ok (.aload_n 0, 1) := by decide +kernel
theorem d_Asm_writeOne_59 : decode b_Asm_writeOne 59 = .ok (.getfield 21, 3) := by decide +kernel
theorem d_Asm_writeOne_62 : decode b_Asm_writeOne 62 = .ok (.iload 4, 2) := by decide +kernel
theorem d_Asm_writeOne_64 : decode b_Asm_writeOne 64 = .ok (.dup2, 1) := by decide +kernel
theorem d_Asm_writeOne_65 : decode b_Asm_writeOne 65 = .ok (.iaload, 1) := by decide +kernel
theorem d_Asm_writeOne_66 : decode b_Asm_writeOne 66 = .ok (.iconst 1, 1) := by decide +kernel
theorem d_Asm_writeOne_67 : decode b_Asm_writeOne 67 = .ok (.iadd, 1) := by decide +kernel
theorem d_Asm_writeOne_68 : decode b_Asm_writeOne 68 = .ok (.iastore, 1) := by decide +kernel
theorem d_Asm_writeOne_69 : decode b_Asm_writeOne 69 = .ok (.iload_n 3, 1) := by decide +kernel
theorem d_Asm_writeOne_70 : decode b_Asm_writeOne 70 = .ok (.iconst 3, 1) := by decide +kernel
theorem d_Asm_writeOne_71 : decode b_Asm_writeOne 71 = .ok (.if_icmp .ne 12, 3) := by decide +kernel
theorem d_Asm_writeOne_83 : decode b_Asm_writeOne 83 = .ok (.iload_n 3, 1) := by decide +kernel
theorem d_Asm_writeOne_84 : decode b_Asm_writeOne 84 = .ok (.ifCond .ne 24, 3) := by decide +kernel
theorem d_Asm_writeOne_108 : decode b_Asm_writeOne 108 = .ok (.aload_n 0, 1) := by decide +kernel
theorem d_Asm_writeOne_109 : decode b_Asm_writeOne 109 = .ok (.getfield 15, 3) := by decide +kernel
theorem d_Asm_writeOne_112 : decode b_Asm_writeOne 112 = .ok (.lload 5, 2) := by decide +kernel
theorem d_Asm_writeOne_114 : decode b_Asm_writeOne 114 = .ok (.invokevirtual 151, 3) := by decide +kernel
theorem d_Asm_writeOne_87 : decode b_Asm_writeOne 87 = .ok (.aload_n 0, 1) := by decide +kernel
theorem d_Asm_writeOne_88 : decode b_Asm_writeOne 88 = .ok (.lload 5, 2) := by decide +kernel
theorem d_Asm_writeOne_90 : decode b_Asm_writeOne 90 = .ok (.lconst 1, 1) := by decide +kernel
theorem d_Asm_writeOne_91 : decode b_Asm_writeOne 91 = .ok (.lcmp, 1) := by decide +kernel
theorem d_Asm_writeOne_92 : decode b_Asm_writeOne 92 = .ok (.ifCond .ne 8, 3) := by decide +kernel
theorem d_Asm_writeOne_100 : decode b_Asm_writeOne 100 = .ok (.ldc 145, 2) := by decide +kernel
theorem d_Asm_writeOne_95 : decode b_Asm_writeOne 95 = .ok (.ldc 143, 2) := by decide +kernel
theorem d_Asm_writeOne_97 : decode b_Asm_writeOne 97 = .ok (.goto 5, 3) := by decide +kernel
theorem d_Asm_writeOne_74 : decode b_Asm_writeOne 74 = .ok (.aload_n 0, 1) := by decide +kernel
theorem d_Asm_writeOne_75 : decode b_Asm_writeOne 75 = .ok (.lload 5, 2) := by decide +kernel
theorem d_Asm_writeOne_77 : decode b_Asm_writeOne 77 = .ok (.invokevirtual 139, 3) := by decide +kernel
theorem d_Asm_writeOne_80 : decode b_Asm_writeOne 80 = .ok (.goto 37, 3) := by decide +kernel
theorem d_Asm_writeOne_18 : decode b_Asm_writeOne 18 = .ok (.aload_n 0, 1) := by decide +kernel
theorem d_Asm_writeOne_19 : decode b_Asm_writeOne 19 = .ok (.iload_n 1, 1) := by decide +kernel
theorem d_Asm_writeOne_20 : decode b_Asm_writeOne 20 = .ok (.iload_n 2, 1) := by decide +kernel
theorem d_Asm_writeOne_21 : decode b_Asm_writeOne 21 = .ok (.iconst 1, 1) := by decide +kernel
theorem d_Asm_writeOne_22 : decode b_Asm_writeOne 22 = .ok (.iadd, 1) := by decide +kernel
theorem d_Asm_writeOne_23 : decode b_Asm_writeOne 23 = .ok (.invokevirtual 70, 3) := by decide +kernel
theorem d_Asm_writeOne_26 : decode b_Asm_writeOne 26 = .ok (.return_, 1) := by decide +kernel
section
variable (l : Launch) (dC : Nat → ClassId) (dI : Nat → Nat → Nat) (cI cB cJ cZ : ClassId)
set_option maxRecDepth 100000 in
set_option maxHeartbeats 4000000 in
set_option maxRecDepth 100000 in
theorem t_Asm_writeWord_2 {p : Program} {l : Launch} {e : Env} {R : Room} {s : State} {m : MethodId} {args : Array Value} {below : List Frame} {meth : Method} {c : Code} {Q : State → Prop} {dC : Nat → ClassId} {dI : Nat → Nat → Nat} {cI cB cJ cZ : ClassId} {A : Nat → Prop} {E : Heap} {tM tC : Nat} {kK kV : Nat → Nat} {ad0 : Nat → Nat} {NN0 : Nat} {post : St → Prop} {rec2 : Nat → Nat → Int32 → Nat → Nat → St → Prop} (hx : p.tables.exec = Jvm.exec) (hb : c.code = b_Asm_writeWord) (hml : c.maxLocals = 3) (hown : s.vm.findClass R_Asm = some m.cls) (hT : ∀ w ∈ TG, w.before args s = true) (hK : va_K (dC, dI) CL (TY cI cB cJ cZ) s) (hN : NW s) (hA : ∀ q : Nat, s.heap.size ≤ q → A q) (hRf : 4 ≤ R.frames) (hRl : 242 ≤ R.locals) (hE : CE E tM tC kK kV A s) (hret : ∀ (ad : Nat → Nat) (NN cells slots : Nat) (x : St) (H : Heap) (locs : List Loc) (pc : Nat) (ls : Array Slot), decode b_Asm_writeWord pc = .ok (.return_, 1) → (NN0 ≤ NN ∧ ∀ o : Nat, o < NN0 → ad o = ad0 o) → cells ≤ R.cells → slots ≤ R.slots → post x → Wd dC dI cI cB cJ cZ ad stC kcC NN A x H → va_S A s.heap H locs → W p l e R s m args below meth c H locs cells slots Q (F0 m pc ls [])) (hrec2 : ∀ (ad : Nat → Nat) (NN cells slots : Nat) (o : Nat) (l1 : Nat) (l2 : Int32) (kb : Nat) (nb : Nat) (x : St) (H : Heap) (locs : List Loc) (ls : Array Slot), (152 ≤ NN) → (NN0 ≤ NN ∧ ∀ o : Nat, o < NN0 → ad o = ad0 o) → (cells + kb ≤ R.cells) → (slots + nb ≤ R.slots) → (o < NN ∧ kcC o = 11) → (l1 < NSTR) → rec2 o l1 l2 kb nb x → Wd dC dI cI cB cJ cZ ad stC kcC NN A x H → va_S A s.heap H locs → lv_has ls 3 [(0, .ref (ad o)), (1, .ref (kK l1)), (2, .int l2)] → W p l e R s m args below meth c H locs cells slots Q (F0 m 2 ls [])) : ∀ (ad : Nat → Nat) (NN cells slots : Nat) (o : Nat) (l1 : Nat) (l2 : Int32) (kb : Nat) (nb : Nat) (x : St) (H : Heap) (locs : List Loc) (ls : Array Slot), (152 ≤ NN) → (NN0 ≤ NN ∧ ∀ o : Nat, o < NN0 → ad o = ad0 o) → (cells + kb ≤ R.cells) → (slots + nb ≤ R.slots) → (o < NN ∧ kcC o = 11) → (l1 < NSTR) → j_Asm_writeWord_2 post rec2 o l1 l2 kb nb x → Wd dC dI cI cB cJ cZ ad stC kcC NN A x H → va_S A s.heap H locs → lv_has ls 3 [(0, .ref (ad o)), (1, .ref (kK l1)), (2, .int l2)] → W p l e R s m args below meth c H locs cells slots Q (F0 m 2 ls []) := by
  intro ad NN cells slots o l1 l2 kb nb x H locs ls hNN hag hRc hRs fo fl1 hw hW hS hl
  unfold j_Asm_writeWord_2 at hw
  refine lv_iload_n hx hb d_Asm_writeWord_2 rfl (lv_at hl 2 rfl) ?_
  refine lv_aload_n hx hb d_Asm_writeWord_3 rfl (lv_at hl 1 rfl) ?_
  refine va_calli (va_runV (C := R_JStr) (As := []) (rest := [.int l2]) ⟨hx, hb, hml, hown, hT⟩ (c_JStr_length l dC dI cI cB cJ cZ E tM tC kK kV H.size l1 fl1) ⟨callB_of 0 hT (gwt_in w_4_159) rfl rfl rfl (hT _ w_1_17) (hT _ w_7_118) (by decide +kernel) ⟨Nat.le_trans (Nat.le_of_ble_eq_true rfl) hRf, Nat.le_trans (Nat.le_of_ble_eq_true rfl) hRl⟩, hT _ w_4_157, hT _ w_4_158⟩ ⟨PJ.blind, vk_recv hE.sS fl1 hS, PJ.at _ hK hN hE hS hA⟩ rfl rfl hl.1 rfl (lv_room (Nat.le_of_ble_eq_true rfl)) d_Asm_writeWord_4 ⟨(Nat.le_trans (Nat.le_add_right _ _) hRc), (Nat.le_trans (Nat.le_add_right _ _) hRs)⟩) hS (fun q _ h => hA q (Nat.le_trans hS.1 (nilA h))) (fun q h => hA q (Nat.le_trans hS.1 (nilA h))) (fun r1 u t H locs ht hvm hq9 hB hz1 hk1 hS => ?_)
  have hW := Wd.pure hW hk1
  clear hB ht hz1 hk1 hvm
  have hq9 : (nI (sLen.getD l1 0)) = r1 := Eq.symm hq9
  subst hq9
  refine lv_icmp_ge (tgt := 28) hx hb d_Asm_writeWord_7 (by decide) (fun c2 => ?_) (fun c2 => ?_)
  · have hw := hw.1 c2
    exact hret ad NN cells slots x H locs 28 ls d_Asm_writeWord_28 hag (Nat.le_trans (Nat.le_add_right _ _) hRc) (Nat.le_trans (Nat.le_add_right _ _) hRs) hw hW hS
  · have hw := hw.2 c2
    refine lv_aload_n hx hb d_Asm_writeWord_10 rfl (lv_at hl 0 rfl) ?_
    refine w_getf (q := (stC o 0)) (k := 0) (t := 11) (C := R_Asm) (T := F_Asm) (N := 4) hx hb hT hown hK hW fo.1 fo.2 (by decide) in_Asm rfl rfl (by decide) rfl fr_Asm_0 w_3_221 d_Asm_writeWord_11 rfl ?_
    refine lv_aload_n hx hb d_Asm_writeWord_14 rfl (lv_at hl 1 rfl) ?_
    refine lv_iload_n hx hb d_Asm_writeWord_15 rfl (lv_at hl 2 rfl) ?_
    obtain ⟨h0, h1, hw⟩ := hw
    refine va_calli (va_runV (C := R_JStr) (As := [.int l2]) (rest := [.ref (ad (stC o 0))]) ⟨hx, hb, hml, hown, hT⟩ (c_JStr_charAt l dC dI cI cB cJ cZ E tM tC kK kV H.size l1 fl1 l2 h0 h1) ⟨callB_of 1 hT (gwt_in w_4_169) rfl rfl rfl (hT _ w_1_17) (hT _ w_7_119) (by decide +kernel) ⟨Nat.le_trans (Nat.le_of_ble_eq_true rfl) hRf, Nat.le_trans (Nat.le_of_ble_eq_true rfl) hRl⟩, hT _ w_4_167, hT _ w_4_168⟩ ⟨PJ.blind, vk_recv hE.sS fl1 hS, PJ.at _ hK hN hE hS hA⟩ rfl rfl hl.1 rfl (lv_room (Nat.le_of_ble_eq_true rfl)) d_Asm_writeWord_16 ⟨(Nat.le_trans (Nat.le_add_right _ _) hRc), (Nat.le_trans (Nat.le_add_right _ _) hRs)⟩) hS (fun q _ h => hA q (Nat.le_trans hS.1 (nilA h))) (fun q h => hA q (Nat.le_trans hS.1 (nilA h))) (fun r3 u t H locs ht hvm hq9 hB hz1 hk1 hS => ?_)
    have hW := Wd.pure hW hk1
    clear hB ht hz1 hk1 hvm
    have hq9 : (sChr l1 l2) = r3 := Eq.symm hq9
    subst hq9
    obtain ⟨k4, n5, k6, n7, ek4, en5, hw⟩ := hw
    have hF := hW.free hS hA
    refine va_callv (va_runV (C := R_Snk) (As := [.int (sChr l1 l2)]) (rest := []) ⟨hx, hb, hml, hown, hT⟩ (k_Snk_put l dC dI cI cB cJ cZ ad NN E tM tC kK kV hNN H.size (stC o 0) (sChr l1 l2) k4 n5 x (st_ty hNN fo.1 fo.2 rfl) hw) ⟨callB_of 1 hT (gwt_in w_4_52) rfl rfl rfl (hT _ w_1_2) (hT _ w_7_91) (by decide +kernel) ⟨Nat.le_trans (Nat.le_of_ble_eq_true rfl) hRf, Nat.le_trans (Nat.le_of_ble_eq_true rfl) hRl⟩, hT _ w_4_50, hT _ w_4_51⟩ ⟨PVc.blind, va_recv hK hW.1 (ci := 1) (q0 := (stC o 0)) rfl (pic_obj (st_ty hNN fo.1 fo.2 rfl).1 (st_ty hNN fo.1 fo.2 rfl).2 (by decide)), PVc.at _ hW hK hN hE hS hF⟩ rfl rfl hl.1 rfl (lv_room (Nat.le_of_ble_eq_true rfl)) d_Asm_writeWord_19 ⟨show cells + k4 ≤ R.cells by omega, show slots + n5 ≤ R.slots by omega⟩) hS (fun q _ h => hF q h) hF (fun  x8 t H locs ht hvm hw hB hz1 hk1 hS => ?_)
    obtain ⟨x8, ad, NN⟩ := x8
    obtain ⟨hB, hle, hg⟩ := hB
    try dsimp only at hw hB hle hg
    have hW := Wd.back hB ht hF
    rw [← hg o fo.1] at hl
    have fo : o < NN ∧ kcC o = 11 := ⟨Nat.lt_of_lt_of_le fo.1 hle, fo.2⟩
    have hag : NN0 ≤ NN ∧ ∀ o : Nat, o < NN0 → ad o = ad0 o := ⟨Nat.le_trans hag.1 hle, fun o h => (hg o (Nat.lt_of_lt_of_le h hag.1)).trans (hag.2 o h)⟩
    have hNN : 152 ≤ NN := Nat.le_trans hNN hle
    clear hg hle
    obtain ⟨cells, ec⟩ : ∃ z, z = cells + k4 := ⟨_, rfl⟩
    obtain ⟨slots, es⟩ : ∃ z, z = slots + n5 := ⟨_, rfl⟩
    first | rw [← ec, ← es] | rw [Nat.add_zero, Nat.add_zero, ← ec, ← es]
    have hRc : cells + k6 ≤ R.cells := by omega
    have hRs : slots + n7 ≤ R.slots := by omega
    clear ec es hB ht hF hz1 hk1 hvm ek4 en5
    refine lv_iinc (v := (l2 + 1)) (lv' := [(2, .int (l2 + 1)), (0, .ref (ad o)), (1, .ref (kK l1))]) hx hb d_Asm_writeWord_22 hl (k := 2) rfl rfl (by decide) rfl (fun ls hl => ?_)
    refine lv_goto (tgt := 2) hx hb d_Asm_writeWord_25 (by decide) ?_
    exact hrec2 ad NN cells slots o l1 (l2 + 1) k6 n7 x8 H locs ls hNN hag hRc hRs fo fl1 hw hW hS (lv_sub hl [1, 2, 0] rfl)
set_option maxHeartbeats 4000000 in
set_option maxRecDepth 100000 in
theorem tl_Asm_writeWord_2 {p : Program} {l : Launch} {e : Env} {R : Room} {s : State} {m : MethodId} {args : Array Value} {below : List Frame} {meth : Method} {c : Code} {Q : State → Prop} {dC : Nat → ClassId} {dI : Nat → Nat → Nat} {cI cB cJ cZ : ClassId} {A : Nat → Prop} {E : Heap} {tM tC : Nat} {kK kV : Nat → Nat} {ad0 : Nat → Nat} {NN0 : Nat} {post : St → Prop} (hx : p.tables.exec = Jvm.exec) (hb : c.code = b_Asm_writeWord) (hml : c.maxLocals = 3) (hown : s.vm.findClass R_Asm = some m.cls) (hT : ∀ w ∈ TG, w.before args s = true) (hK : va_K (dC, dI) CL (TY cI cB cJ cZ) s) (hN : NW s) (hA : ∀ q : Nat, s.heap.size ≤ q → A q) (hRf : 4 ≤ R.frames) (hRl : 242 ≤ R.locals) (hE : CE E tM tC kK kV A s) (hret : ∀ (ad : Nat → Nat) (NN cells slots : Nat) (x : St) (H : Heap) (locs : List Loc) (pc : Nat) (ls : Array Slot), decode b_Asm_writeWord pc = .ok (.return_, 1) → (NN0 ≤ NN ∧ ∀ o : Nat, o < NN0 → ad o = ad0 o) → cells ≤ R.cells → slots ≤ R.slots → post x → Wd dC dI cI cB cJ cZ ad stC kcC NN A x H → va_S A s.heap H locs → W p l e R s m args below meth c H locs cells slots Q (F0 m pc ls []))  : ∀ n : Nat, ∀ (ad : Nat → Nat) (NN cells slots : Nat) (o : Nat) (l1 : Nat) (l2 : Int32) (kb : Nat) (nb : Nat) (x : St) (H : Heap) (locs : List Loc) (ls : Array Slot), (152 ≤ NN) → (NN0 ≤ NN ∧ ∀ o : Nat, o < NN0 → ad o = ad0 o) → (cells + kb ≤ R.cells) → (slots + nb ≤ R.slots) → (o < NN ∧ kcC o = 11) → (l1 < NSTR) → wl_Asm_writeWord_2 post n o l1 l2 kb nb x → Wd dC dI cI cB cJ cZ ad stC kcC NN A x H → va_S A s.heap H locs → lv_has ls 3 [(0, .ref (ad o)), (1, .ref (kK l1)), (2, .int l2)] → W p l e R s m args below meth c H locs cells slots Q (F0 m 2 ls []) := by
  intro n
  induction n with
  | zero => intro ad NN cells slots o l1 l2 kb nb x H locs ls hNN hag hRc hRs fo fl1 hw; exact hw.elim
  | succ n ih => intro ad NN cells slots o l1 l2 kb nb x H locs ls hNN hag hRc hRs fo fl1 hw hW hS hl; exact t_Asm_writeWord_2 hx hb hml hown hT hK hN hA hRf hRl hE hret  ih ad NN cells slots o l1 l2 kb nb x H locs ls hNN hag hRc hRs fo fl1 hw hW hS hl
set_option maxRecDepth 100000 in
set_option maxHeartbeats 4000000 in
set_option maxRecDepth 100000 in
theorem t_Asm_writeWord_e {p : Program} {l : Launch} {e : Env} {R : Room} {s : State} {m : MethodId} {args : Array Value} {below : List Frame} {meth : Method} {c : Code} {Q : State → Prop} {dC : Nat → ClassId} {dI : Nat → Nat → Nat} {cI cB cJ cZ : ClassId} {A : Nat → Prop} {E : Heap} {tM tC : Nat} {kK kV : Nat → Nat} {ad0 : Nat → Nat} {NN0 : Nat} {post : St → Prop} (hx : p.tables.exec = Jvm.exec) (hb : c.code = b_Asm_writeWord) (hml : c.maxLocals = 3) (hown : s.vm.findClass R_Asm = some m.cls) (hT : ∀ w ∈ TG, w.before args s = true) (hK : va_K (dC, dI) CL (TY cI cB cJ cZ) s) (hN : NW s) (hA : ∀ q : Nat, s.heap.size ≤ q → A q) (hRf : 4 ≤ R.frames) (hRl : 242 ≤ R.locals) (hE : CE E tM tC kK kV A s) (hret : ∀ (ad : Nat → Nat) (NN cells slots : Nat) (x : St) (H : Heap) (locs : List Loc) (pc : Nat) (ls : Array Slot), decode b_Asm_writeWord pc = .ok (.return_, 1) → (NN0 ≤ NN ∧ ∀ o : Nat, o < NN0 → ad o = ad0 o) → cells ≤ R.cells → slots ≤ R.slots → post x → Wd dC dI cI cB cJ cZ ad stC kcC NN A x H → va_S A s.heap H locs → W p l e R s m args below meth c H locs cells slots Q (F0 m pc ls [])) : ∀ (ad : Nat → Nat) (NN cells slots : Nat) (o : Nat) (l1 : Nat) (kb : Nat) (nb : Nat) (x : St) (H : Heap) (locs : List Loc) (ls : Array Slot), (152 ≤ NN) → (NN0 ≤ NN ∧ ∀ o : Nat, o < NN0 → ad o = ad0 o) → (cells + kb ≤ R.cells) → (slots + nb ≤ R.slots) → (o < NN ∧ kcC o = 11) → (l1 < NSTR) → wp_Asm_writeWord post o l1 kb nb x → Wd dC dI cI cB cJ cZ ad stC kcC NN A x H → va_S A s.heap H locs → lv_has ls 3 [(0, .ref (ad o)), (1, .ref (kK l1))] → W p l e R s m args below meth c H locs cells slots Q (F0 m 0 ls []) := by
  intro ad NN cells slots o l1 kb nb x H locs ls hNN hag hRc hRs fo fl1 hw hW hS hl
  unfold wp_Asm_writeWord at hw
  refine lv_iconst (v := 0) hx hb d_Asm_writeWord_0 (by decide) ?_
  refine lv_istore_n (lv' := [(2, .int 0), (0, .ref (ad o)), (1, .ref (kK l1))]) hx hb d_Asm_writeWord_1 rfl hl (by decide) rfl (fun ls hl => ?_)
  obtain ⟨n, hw⟩ := hw
  exact tl_Asm_writeWord_2 hx hb hml hown hT hK hN hA hRf hRl hE hret  n ad NN cells slots o l1 0 kb nb x H locs ls hNN hag hRc hRs fo fl1 hw hW hS (lv_sub hl [1, 2, 0] rfl)
set_option maxHeartbeats 4000000 in
set_option maxRecDepth 100000 in
theorem k_Asm_writeWord (l : Launch) (dC : Nat → ClassId) (dI : Nat → Nat → Nat) (cI cB cJ cZ : ClassId) (ad : Nat → Nat) (NN : Nat) (E : Heap) (tM tC : Nat) (kK kV : Nat → Nat) (hNN : 152 ≤ NN) (sz : Nat) (o : Nat) (l1 : Nat) (kb : Nat) (nb : Nat) (x : St) (fo : o < NN ∧ kcC o = 11) (fl1 : l1 < NSTR) {post : St → Prop} (hw : wp_Asm_writeWord post o l1 kb nb x) : Met l y_Asm_writeWord (wsOf y_Asm_writeWord b_Asm_writeWord 3 (none)) ({ frames := 4, cells := kb, slots := nb, locals := 242 }) (va_Pc [.ref (ad o), .ref (kK l1)] (PVc dC dI cI cB cJ cZ ad stC kcC NN E tM tC kK kV sz x)) (va_Qv (fun (u : St × (Nat → Nat) × Nat) => post u.1) (fun u t => Wd dC dI cI cB cJ cZ u.2.1 stC kcC u.2.2 (va_A (pic ad stC kcC NN cI cB cJ cZ x) sz) u.1 t.heap ∧ NN ≤ u.2.2 ∧ ∀ o : Nat, o < NN → u.2.1 o = ad o) (va_A (pic ad stC kcC NN cI cB cJ cZ x) sz)) kb nb (va_A (pic ad stC kcC NN cI cB cJ cZ x) sz) := by
  refine Met.ofW (cc := b_Asm_writeWord) (maxL := 3) (ret := none) (by decide) rfl ?_
  intro p e s m args below meth c s₁ B hml hv
  obtain ⟨rfl, ⟨hsz, hW0, hK, hN⟩, hE⟩ := hv
  have hx := B.exec
  have hb := B.bytes
  have hr := B.returns
  have hts := atoms_spec B.pre
  have hT : ∀ w ∈ TG, w.before _ s = true := fun w h => hts w (List.mem_cons_of_mem _ h)
  have hown : s.vm.findClass R_Asm = some m.cls := findClass_of_methodNamed B.named
  have hlocks := B.notSynchronized
  subst hsz
  have hW : Wd dC dI cI cB cJ cZ ad stC kcC NN (va_A (pic ad stC kcC NN cI cB cJ cZ x) s.heap.size) x s.heap := ⟨hW0.1, hW0.2.1.self (sz := s.heap.size), hW0.2.2⟩
  generalize hAe : va_A (pic ad stC kcC NN cI cB cJ cZ x) s.heap.size = A at hW hE ⊢
  have hA : ∀ q : Nat, s.heap.size ≤ q → A q := fun q h => by rw [← hAe]; exact Or.inr h
  have hS : va_S A s.heap s.heap [] := va_S.rf
  have hl := lv_entry ([.ref (ad o), .ref (kK l1)]) (n := 3) (Nat.le_of_ble_eq_true rfl)
  rw [lg_entry_eq]
  generalize (lg_sl ([.ref (ad o), .ref (kK l1)]) ++ List.replicate (3 - (lg_sl ([.ref (ad o), .ref (kK l1)])).length) Slot.unset).toArray = ls at hl ⊢
  have hl : lv_has ls 3 [(0, .ref (ad o)), (1, .ref (kK l1))] := hl
  exact t_Asm_writeWord_e hx hb hml hown hT hK hN hA (Nat.le_refl 4) (Nat.le_refl 242) hE (fun ad1 NN1 cells slots x1 H locs pc ls hd hag hc hs hp hW hS => W.widen (k := kb) (n := nb) hc hs (W.vret hx hb hr (fun t ht hM => ⟨⟨(x1, ad1, NN1), rfl, hp, Wd.back hW ht.symm (fun _ z => z), hag.1, hag.2⟩, hS.F ht⟩) hS.2.2 hd hlocks))  ad NN 0 0 o l1 kb nb x _ _ ls hNN ⟨Nat.le_refl _, fun _ _ => rfl⟩ (Nat.le_of_eq (Nat.zero_add kb)) (Nat.le_of_eq (Nat.zero_add nb)) fo fl1 hw hW hS hl
set_option maxRecDepth 100000 in
set_option maxHeartbeats 4000000 in
set_option maxRecDepth 100000 in
theorem t_Asm_writeText_132 {p : Program} {l : Launch} {e : Env} {R : Room} {s : State} {m : MethodId} {args : Array Value} {below : List Frame} {meth : Method} {c : Code} {Q : State → Prop} {dC : Nat → ClassId} {dI : Nat → Nat → Nat} {cI cB cJ cZ : ClassId} {A : Nat → Prop} {E : Heap} {tM tC : Nat} {kK kV : Nat → Nat} {ad0 : Nat → Nat} {NN0 : Nat} {post : St → Prop} {rec25 : Nat → Int64 → Int32 → Int32 → Int32 → Nat → Nat → St → Prop} (hx : p.tables.exec = Jvm.exec) (hb : c.code = b_Asm_writeText) (hml : c.maxLocals = 7) (hown : s.vm.findClass R_Asm = some m.cls) (hT : ∀ w ∈ TG, w.before args s = true) (hK : va_K (dC, dI) CL (TY cI cB cJ cZ) s) (hN : NW s) (hA : ∀ q : Nat, s.heap.size ≤ q → A q) (hRf : 5 ≤ R.frames) (hRl : 264 ≤ R.locals) (hE : CE E tM tC kK kV A s) (hret : ∀ (ad : Nat → Nat) (NN cells slots : Nat) (x : St) (H : Heap) (locs : List Loc) (pc : Nat) (ls : Array Slot), decode b_Asm_writeText pc = .ok (.return_, 1) → (NN0 ≤ NN ∧ ∀ o : Nat, o < NN0 → ad o = ad0 o) → cells ≤ R.cells → slots ≤ R.slots → post x → Wd dC dI cI cB cJ cZ ad stC kcC NN A x H → va_S A s.heap H locs → W p l e R s m args below meth c H locs cells slots Q (F0 m pc ls [])) (hrec25 : ∀ (ad : Nat → Nat) (NN cells slots : Nat) (o : Nat) (l1 : Int64) (l3 : Int32) (l4 : Int32) (l5 : Int32) (kb : Nat) (nb : Nat) (x : St) (H : Heap) (locs : List Loc) (ls : Array Slot), (152 ≤ NN) → (NN0 ≤ NN ∧ ∀ o : Nat, o < NN0 → ad o = ad0 o) → (cells + kb ≤ R.cells) → (slots + nb ≤ R.slots) → (o < NN ∧ kcC o = 11) → rec25 o l1 l3 l4 l5 kb nb x → Wd dC dI cI cB cJ cZ ad stC kcC NN A x H → va_S A s.heap H locs → lv_has ls 7 [(0, .ref (ad o)), (1, .long l1), (3, .int l3), (4, .int l4), (5, .int l5)] → W p l e R s m args below meth c H locs cells slots Q (F0 m 25 ls [])) : ∀ (ad : Nat → Nat) (NN cells slots : Nat) (o : Nat) (l1 : Int64) (l3 : Int32) (l4 : Int32) (l5 : Int32) (l6 : Int32) (kb : Nat) (nb : Nat) (x : St) (H : Heap) (locs : List Loc) (ls : Array Slot), (152 ≤ NN) → (NN0 ≤ NN ∧ ∀ o : Nat, o < NN0 → ad o = ad0 o) → (cells + kb ≤ R.cells) → (slots + nb ≤ R.slots) → (o < NN ∧ kcC o = 11) → j_Asm_writeText_132 post rec25 o l1 l3 l4 l5 l6 kb nb x → Wd dC dI cI cB cJ cZ ad stC kcC NN A x H → va_S A s.heap H locs → lv_has ls 7 [(0, .ref (ad o)), (1, .long l1), (3, .int l3), (4, .int l4), (5, .int l5), (6, .int l6)] → W p l e R s m args below meth c H locs cells slots Q (F0 m 132 ls []) := by
  intro ad NN cells slots o l1 l3 l4 l5 l6 kb nb x H locs ls hNN hag hRc hRs fo hw hW hS hl
  unfold j_Asm_writeText_132 at hw
  refine lv_iinc (v := (l5 + 1)) (lv' := [(5, .int (l5 + 1)), (0, .ref (ad o)), (1, .long l1), (3, .int l3), (4, .int l4), (6, .int l6)]) hx hb d_Asm_writeText_132 hl (k := 4) rfl rfl (by decide) rfl (fun ls hl => ?_)
  refine lv_goto (tgt := 25) hx hb d_Asm_writeText_135 (by decide) ?_
  exact hrec25 ad NN cells slots o l1 l3 l4 (l5 + 1) kb nb x H locs ls hNN hag hRc hRs fo hw hW hS (lv_sub hl [1, 2, 3, 4, 0] rfl)
set_option maxRecDepth 100000 in
set_option maxHeartbeats 4000000 in
set_option maxRecDepth 100000 in
theorem t_Asm_writeText_123 {p : Program} {l : Launch} {e : Env} {R : Room} {s : State} {m : MethodId} {args : Array Value} {below : List Frame} {meth : Method} {c : Code} {Q : State → Prop} {dC : Nat → ClassId} {dI : Nat → Nat → Nat} {cI cB cJ cZ : ClassId} {A : Nat → Prop} {E : Heap} {tM tC : Nat} {kK kV : Nat → Nat} {ad0 : Nat → Nat} {NN0 : Nat} {post : St → Prop} {rec25 : Nat → Int64 → Int32 → Int32 → Int32 → Nat → Nat → St → Prop} (hx : p.tables.exec = Jvm.exec) (hb : c.code = b_Asm_writeText) (hml : c.maxLocals = 7) (hown : s.vm.findClass R_Asm = some m.cls) (hT : ∀ w ∈ TG, w.before args s = true) (hK : va_K (dC, dI) CL (TY cI cB cJ cZ) s) (hN : NW s) (hA : ∀ q : Nat, s.heap.size ≤ q → A q) (hRf : 5 ≤ R.frames) (hRl : 264 ≤ R.locals) (hE : CE E tM tC kK kV A s) (hret : ∀ (ad : Nat → Nat) (NN cells slots : Nat) (x : St) (H : Heap) (locs : List Loc) (pc : Nat) (ls : Array Slot), decode b_Asm_writeText pc = .ok (.return_, 1) → (NN0 ≤ NN ∧ ∀ o : Nat, o < NN0 → ad o = ad0 o) → cells ≤ R.cells → slots ≤ R.slots → post x → Wd dC dI cI cB cJ cZ ad stC kcC NN A x H → va_S A s.heap H locs → W p l e R s m args below meth c H locs cells slots Q (F0 m pc ls [])) (hrec25 : ∀ (ad : Nat → Nat) (NN cells slots : Nat) (o : Nat) (l1 : Int64) (l3 : Int32) (l4 : Int32) (l5 : Int32) (kb : Nat) (nb : Nat) (x : St) (H : Heap) (locs : List Loc) (ls : Array Slot), (152 ≤ NN) → (NN0 ≤ NN ∧ ∀ o : Nat, o < NN0 → ad o = ad0 o) → (cells + kb ≤ R.cells) → (slots + nb ≤ R.slots) → (o < NN ∧ kcC o = 11) → rec25 o l1 l3 l4 l5 kb nb x → Wd dC dI cI cB cJ cZ ad stC kcC NN A x H → va_S A s.heap H locs → lv_has ls 7 [(0, .ref (ad o)), (1, .long l1), (3, .int l3), (4, .int l4), (5, .int l5)] → W p l e R s m args below meth c H locs cells slots Q (F0 m 25 ls [])) : ∀ (ad : Nat → Nat) (NN cells slots : Nat) (o : Nat) (l1 : Int64) (l3 : Int32) (l4 : Int32) (l5 : Int32) (l6 : Int32) (kb : Nat) (nb : Nat) (x : St) (H : Heap) (locs : List Loc) (ls : Array Slot), (152 ≤ NN) → (NN0 ≤ NN ∧ ∀ o : Nat, o < NN0 → ad o = ad0 o) → (cells + kb ≤ R.cells) → (slots + nb ≤ R.slots) → (o < NN ∧ kcC o = 11) → j_Asm_writeText_123 post rec25 o l1 l3 l4 l5 l6 kb nb x → Wd dC dI cI cB cJ cZ ad stC kcC NN A x H → va_S A s.heap H locs → lv_has ls 7 [(0, .ref (ad o)), (1, .long l1), (3, .int l3), (4, .int l4), (5, .int l5), (6, .int l6)] → W p l e R s m args below meth c H locs cells slots Q (F0 m 123 ls []) := by
  intro ad NN cells slots o l1 l3 l4 l5 l6 kb nb x H locs ls hNN hag hRc hRs fo hw hW hS hl
  unfold j_Asm_writeText_123 at hw
  refine lv_aload_n hx hb d_Asm_writeText_123 rfl (lv_at hl 0 rfl) ?_
  refine w_getf (q := (stC o 0)) (k := 0) (t := 11) (C := R_Asm) (T := F_Asm) (N := 4) hx hb hT hown hK hW fo.1 fo.2 (by decide) in_Asm rfl rfl (by decide) rfl fr_Asm_0 w_3_221 d_Asm_writeText_124 rfl ?_
  refine lv_iload hx hb d_Asm_writeText_127 (lv_at hl 5 rfl) ?_
  obtain ⟨k1, n2, k3, n4, ek1, en2, hw⟩ := hw
  have hF := hW.free hS hA
  refine va_callv (va_runV (C := R_Snk) (As := [.int l6]) (rest := []) ⟨hx, hb, hml, hown, hT⟩ (k_Snk_put l dC dI cI cB cJ cZ ad NN E tM tC kK kV hNN H.size (stC o 0) l6 k1 n2 x (st_ty hNN fo.1 fo.2 rfl) hw) ⟨callB_of 1 hT (gwt_in w_4_52) rfl rfl rfl (hT _ w_1_2) (hT _ w_7_91) (by decide +kernel) ⟨Nat.le_trans (Nat.le_of_ble_eq_true rfl) hRf, Nat.le_trans (Nat.le_of_ble_eq_true rfl) hRl⟩, hT _ w_4_50, hT _ w_4_51⟩ ⟨PVc.blind, va_recv hK hW.1 (ci := 1) (q0 := (stC o 0)) rfl (pic_obj (st_ty hNN fo.1 fo.2 rfl).1 (st_ty hNN fo.1 fo.2 rfl).2 (by decide)), PVc.at _ hW hK hN hE hS hF⟩ rfl rfl hl.1 rfl (lv_room (Nat.le_of_ble_eq_true rfl)) d_Asm_writeText_129 ⟨show cells + k1 ≤ R.cells by omega, show slots + n2 ≤ R.slots by omega⟩) hS (fun q _ h => hF q h) hF (fun  x5 t H locs ht hvm hw hB hz1 hk1 hS => ?_)
  obtain ⟨x5, ad, NN⟩ := x5
  obtain ⟨hB, hle, hg⟩ := hB
  try dsimp only at hw hB hle hg
  have hW := Wd.back hB ht hF
  rw [← hg o fo.1] at hl
  have fo : o < NN ∧ kcC o = 11 := ⟨Nat.lt_of_lt_of_le fo.1 hle, fo.2⟩
  have hag : NN0 ≤ NN ∧ ∀ o : Nat, o < NN0 → ad o = ad0 o := ⟨Nat.le_trans hag.1 hle, fun o h => (hg o (Nat.lt_of_lt_of_le h hag.1)).trans (hag.2 o h)⟩
  have hNN : 152 ≤ NN := Nat.le_trans hNN hle
  clear hg hle
  obtain ⟨cells, ec⟩ : ∃ z, z = cells + k1 := ⟨_, rfl⟩
  obtain ⟨slots, es⟩ : ∃ z, z = slots + n2 := ⟨_, rfl⟩
  first | rw [← ec, ← es] | rw [Nat.add_zero, Nat.add_zero, ← ec, ← es]
  have hRc : cells + k3 ≤ R.cells := by omega
  have hRs : slots + n4 ≤ R.slots := by omega
  clear ec es hB ht hF hz1 hk1 hvm ek1 en2
  exact t_Asm_writeText_132 hx hb hml hown hT hK hN hA hRf hRl hE hret hrec25 ad NN cells slots o l1 l3 l4 l5 l6 k3 n4 x5 H locs ls hNN hag hRc hRs fo hw hW hS (lv_sub hl [0, 1, 2, 3, 4, 5] rfl)
set_option maxRecDepth 100000 in
set_option maxHeartbeats 4000000 in
set_option maxRecDepth 100000 in
theorem t_Asm_writeText_114 {p : Program} {l : Launch} {e : Env} {R : Room} {s : State} {m : MethodId} {args : Array Value} {below : List Frame} {meth : Method} {c : Code} {Q : State → Prop} {dC : Nat → ClassId} {dI : Nat → Nat → Nat} {cI cB cJ cZ : ClassId} {A : Nat → Prop} {E : Heap} {tM tC : Nat} {kK kV : Nat → Nat} {ad0 : Nat → Nat} {NN0 : Nat} {post : St → Prop} {rec25 : Nat → Int64 → Int32 → Int32 → Int32 → Nat → Nat → St → Prop} (hx : p.tables.exec = Jvm.exec) (hb : c.code = b_Asm_writeText) (hml : c.maxLocals = 7) (hown : s.vm.findClass R_Asm = some m.cls) (hT : ∀ w ∈ TG, w.before args s = true) (hK : va_K (dC, dI) CL (TY cI cB cJ cZ) s) (hN : NW s) (hA : ∀ q : Nat, s.heap.size ≤ q → A q) (hRf : 5 ≤ R.frames) (hRl : 264 ≤ R.locals) (hE : CE E tM tC kK kV A s) (hret : ∀ (ad : Nat → Nat) (NN cells slots : Nat) (x : St) (H : Heap) (locs : List Loc) (pc : Nat) (ls : Array Slot), decode b_Asm_writeText pc = .ok (.return_, 1) → (NN0 ≤ NN ∧ ∀ o : Nat, o < NN0 → ad o = ad0 o) → cells ≤ R.cells → slots ≤ R.slots → post x → Wd dC dI cI cB cJ cZ ad stC kcC NN A x H → va_S A s.heap H locs → W p l e R s m args below meth c H locs cells slots Q (F0 m pc ls [])) (hrec25 : ∀ (ad : Nat → Nat) (NN cells slots : Nat) (o : Nat) (l1 : Int64) (l3 : Int32) (l4 : Int32) (l5 : Int32) (kb : Nat) (nb : Nat) (x : St) (H : Heap) (locs : List Loc) (ls : Array Slot), (152 ≤ NN) → (NN0 ≤ NN ∧ ∀ o : Nat, o < NN0 → ad o = ad0 o) → (cells + kb ≤ R.cells) → (slots + nb ≤ R.slots) → (o < NN ∧ kcC o = 11) → rec25 o l1 l3 l4 l5 kb nb x → Wd dC dI cI cB cJ cZ ad stC kcC NN A x H → va_S A s.heap H locs → lv_has ls 7 [(0, .ref (ad o)), (1, .long l1), (3, .int l3), (4, .int l4), (5, .int l5)] → W p l e R s m args below meth c H locs cells slots Q (F0 m 25 ls [])) : ∀ (ad : Nat → Nat) (NN cells slots : Nat) (o : Nat) (l1 : Int64) (l3 : Int32) (l4 : Int32) (l5 : Int32) (l6 : Int32) (kb : Nat) (nb : Nat) (x : St) (H : Heap) (locs : List Loc) (ls : Array Slot), (152 ≤ NN) → (NN0 ≤ NN ∧ ∀ o : Nat, o < NN0 → ad o = ad0 o) → (cells + kb ≤ R.cells) → (slots + nb ≤ R.slots) → (o < NN ∧ kcC o = 11) → j_Asm_writeText_114 post rec25 o l1 l3 l4 l5 l6 kb nb x → Wd dC dI cI cB cJ cZ ad stC kcC NN A x H → va_S A s.heap H locs → lv_has ls 7 [(0, .ref (ad o)), (1, .long l1), (3, .int l3), (4, .int l4), (5, .int l5), (6, .int l6)] → W p l e R s m args below meth c H locs cells slots Q (F0 m 114 ls []) := by
  intro ad NN cells slots o l1 l3 l4 l5 l6 kb nb x H locs ls hNN hag hRc hRs fo hw hW hS hl
  unfold j_Asm_writeText_114 at hw
  refine lv_aload_n hx hb d_Asm_writeText_114 rfl (lv_at hl 0 rfl) ?_
  refine w_getf (q := (stC o 0)) (k := 0) (t := 11) (C := R_Asm) (T := F_Asm) (N := 4) hx hb hT hown hK hW fo.1 fo.2 (by decide) in_Asm rfl rfl (by decide) rfl fr_Asm_0 w_3_221 d_Asm_writeText_115 rfl ?_
  refine lv_bipush (v := 92) hx hb d_Asm_writeText_118 (by decide) ?_
  obtain ⟨k6, n7, k8, n9, ek6, en7, hw⟩ := hw
  have hF := hW.free hS hA
  refine va_callv (va_runV (C := R_Snk) (As := [.int 92]) (rest := []) ⟨hx, hb, hml, hown, hT⟩ (k_Snk_put l dC dI cI cB cJ cZ ad NN E tM tC kK kV hNN H.size (stC o 0) 92 k6 n7 x (st_ty hNN fo.1 fo.2 rfl) hw) ⟨callB_of 1 hT (gwt_in w_4_52) rfl rfl rfl (hT _ w_1_2) (hT _ w_7_91) (by decide +kernel) ⟨Nat.le_trans (Nat.le_of_ble_eq_true rfl) hRf, Nat.le_trans (Nat.le_of_ble_eq_true rfl) hRl⟩, hT _ w_4_50, hT _ w_4_51⟩ ⟨PVc.blind, va_recv hK hW.1 (ci := 1) (q0 := (stC o 0)) rfl (pic_obj (st_ty hNN fo.1 fo.2 rfl).1 (st_ty hNN fo.1 fo.2 rfl).2 (by decide)), PVc.at _ hW hK hN hE hS hF⟩ rfl rfl hl.1 rfl (lv_room (Nat.le_of_ble_eq_true rfl)) d_Asm_writeText_120 ⟨show cells + k6 ≤ R.cells by omega, show slots + n7 ≤ R.slots by omega⟩) hS (fun q _ h => hF q h) hF (fun  x10 t H locs ht hvm hw hB hz1 hk1 hS => ?_)
  obtain ⟨x10, ad, NN⟩ := x10
  obtain ⟨hB, hle, hg⟩ := hB
  try dsimp only at hw hB hle hg
  have hW := Wd.back hB ht hF
  rw [← hg o fo.1] at hl
  have fo : o < NN ∧ kcC o = 11 := ⟨Nat.lt_of_lt_of_le fo.1 hle, fo.2⟩
  have hag : NN0 ≤ NN ∧ ∀ o : Nat, o < NN0 → ad o = ad0 o := ⟨Nat.le_trans hag.1 hle, fun o h => (hg o (Nat.lt_of_lt_of_le h hag.1)).trans (hag.2 o h)⟩
  have hNN : 152 ≤ NN := Nat.le_trans hNN hle
  clear hg hle
  obtain ⟨cells, ec⟩ : ∃ z, z = cells + k6 := ⟨_, rfl⟩
  obtain ⟨slots, es⟩ : ∃ z, z = slots + n7 := ⟨_, rfl⟩
  first | rw [← ec, ← es] | rw [Nat.add_zero, Nat.add_zero, ← ec, ← es]
  have hRc : cells + k8 ≤ R.cells := by omega
  have hRs : slots + n9 ≤ R.slots := by omega
  clear ec es hB ht hF hz1 hk1 hvm ek6 en7
  exact t_Asm_writeText_123 hx hb hml hown hT hK hN hA hRf hRl hE hret hrec25 ad NN cells slots o l1 l3 l4 l5 l6 k8 n9 x10 H locs ls hNN hag hRc hRs fo hw hW hS (lv_sub hl [0, 1, 2, 3, 4, 5] rfl)
set_option maxRecDepth 100000 in
set_option maxHeartbeats 4000000 in
set_option maxRecDepth 100000 in
theorem t_Asm_writeText_62 {p : Program} {l : Launch} {e : Env} {R : Room} {s : State} {m : MethodId} {args : Array Value} {below : List Frame} {meth : Method} {c : Code} {Q : State → Prop} {dC : Nat → ClassId} {dI : Nat → Nat → Nat} {cI cB cJ cZ : ClassId} {A : Nat → Prop} {E : Heap} {tM tC : Nat} {kK kV : Nat → Nat} {ad0 : Nat → Nat} {NN0 : Nat} {post : St → Prop} {rec25 : Nat → Int64 → Int32 → Int32 → Int32 → Nat → Nat → St → Prop} (hx : p.tables.exec = Jvm.exec) (hb : c.code = b_Asm_writeText) (hml : c.maxLocals = 7) (hown : s.vm.findClass R_Asm = some m.cls) (hT : ∀ w ∈ TG, w.before args s = true) (hK : va_K (dC, dI) CL (TY cI cB cJ cZ) s) (hN : NW s) (hA : ∀ q : Nat, s.heap.size ≤ q → A q) (hRf : 5 ≤ R.frames) (hRl : 264 ≤ R.locals) (hE : CE E tM tC kK kV A s) (hret : ∀ (ad : Nat → Nat) (NN cells slots : Nat) (x : St) (H : Heap) (locs : List Loc) (pc : Nat) (ls : Array Slot), decode b_Asm_writeText pc = .ok (.return_, 1) → (NN0 ≤ NN ∧ ∀ o : Nat, o < NN0 → ad o = ad0 o) → cells ≤ R.cells → slots ≤ R.slots → post x → Wd dC dI cI cB cJ cZ ad stC kcC NN A x H → va_S A s.heap H locs → W p l e R s m args below meth c H locs cells slots Q (F0 m pc ls [])) (hrec25 : ∀ (ad : Nat → Nat) (NN cells slots : Nat) (o : Nat) (l1 : Int64) (l3 : Int32) (l4 : Int32) (l5 : Int32) (kb : Nat) (nb : Nat) (x : St) (H : Heap) (locs : List Loc) (ls : Array Slot), (152 ≤ NN) → (NN0 ≤ NN ∧ ∀ o : Nat, o < NN0 → ad o = ad0 o) → (cells + kb ≤ R.cells) → (slots + nb ≤ R.slots) → (o < NN ∧ kcC o = 11) → rec25 o l1 l3 l4 l5 kb nb x → Wd dC dI cI cB cJ cZ ad stC kcC NN A x H → va_S A s.heap H locs → lv_has ls 7 [(0, .ref (ad o)), (1, .long l1), (3, .int l3), (4, .int l4), (5, .int l5)] → W p l e R s m args below meth c H locs cells slots Q (F0 m 25 ls [])) : ∀ (ad : Nat → Nat) (NN cells slots : Nat) (o : Nat) (l1 : Int64) (l3 : Int32) (l4 : Int32) (l5 : Int32) (l6 : Int32) (kb : Nat) (nb : Nat) (x : St) (H : Heap) (locs : List Loc) (ls : Array Slot), (152 ≤ NN) → (NN0 ≤ NN ∧ ∀ o : Nat, o < NN0 → ad o = ad0 o) → (cells + kb ≤ R.cells) → (slots + nb ≤ R.slots) → (o < NN ∧ kcC o = 11) → j_Asm_writeText_62 post rec25 o l1 l3 l4 l5 l6 kb nb x → Wd dC dI cI cB cJ cZ ad stC kcC NN A x H → va_S A s.heap H locs → lv_has ls 7 [(0, .ref (ad o)), (1, .long l1), (3, .int l3), (4, .int l4), (5, .int l5), (6, .int l6)] → W p l e R s m args below meth c H locs cells slots Q (F0 m 62 ls []) := by
  intro ad NN cells slots o l1 l3 l4 l5 l6 kb nb x H locs ls hNN hag hRc hRs fo hw hW hS hl
  unfold j_Asm_writeText_62 at hw
  refine lv_aload_n hx hb d_Asm_writeText_62 rfl (lv_at hl 0 rfl) ?_
  refine va_ldcS hx hb hown (hE.str 10 (by decide)) d_Asm_writeText_63 ?_
  obtain ⟨k11, n12, k13, n14, ek11, en12, hw⟩ := hw
  have hF := hW.free hS hA
  refine va_callv (va_runV (C := R_Asm) (As := [.ref (kK 10)]) (rest := []) ⟨hx, hb, hml, hown, hT⟩ (k_Asm_writeWord l dC dI cI cB cJ cZ ad NN E tM tC kK kV hNN H.size o 10 k11 n12 x fo (by decide) hw) ⟨callB_of 1 hT (gwt_in w_7_117) rfl rfl rfl (hT _ w_1_14) (hT _ w_7_114) (by decide +kernel) ⟨Nat.le_trans (Nat.le_of_ble_eq_true rfl) hRf, Nat.le_trans (Nat.le_of_ble_eq_true rfl) hRl⟩, hT _ w_7_116, hT _ ws_67⟩ ⟨PVc.blind, va_recv hK hW.1 (ci := 11) (q0 := o) rfl (pic_obj fo.1 fo.2 (by decide)), PVc.at _ hW hK hN hE hS hF⟩ rfl rfl hl.1 rfl (lv_room (Nat.le_of_ble_eq_true rfl)) d_Asm_writeText_65 ⟨show cells + k11 ≤ R.cells by omega, show slots + n12 ≤ R.slots by omega⟩) hS (fun q _ h => hF q h) hF (fun  x15 t H locs ht hvm hw hB hz1 hk1 hS => ?_)
  obtain ⟨x15, ad, NN⟩ := x15
  obtain ⟨hB, hle, hg⟩ := hB
  try dsimp only at hw hB hle hg
  have hW := Wd.back hB ht hF
  rw [← hg o fo.1] at hl
  have fo : o < NN ∧ kcC o = 11 := ⟨Nat.lt_of_lt_of_le fo.1 hle, fo.2⟩
  have hag : NN0 ≤ NN ∧ ∀ o : Nat, o < NN0 → ad o = ad0 o := ⟨Nat.le_trans hag.1 hle, fun o h => (hg o (Nat.lt_of_lt_of_le h hag.1)).trans (hag.2 o h)⟩
  have hNN : 152 ≤ NN := Nat.le_trans hNN hle
  clear hg hle
  obtain ⟨cells, ec⟩ : ∃ z, z = cells + k11 := ⟨_, rfl⟩
  obtain ⟨slots, es⟩ : ∃ z, z = slots + n12 := ⟨_, rfl⟩
  first | rw [← ec, ← es] | rw [Nat.add_zero, Nat.add_zero, ← ec, ← es]
  have hRc : cells + k13 ≤ R.cells := by omega
  have hRs : slots + n14 ≤ R.slots := by omega
  clear ec es hB ht hF hz1 hk1 hvm ek11 en12
  refine lv_aload_n hx hb d_Asm_writeText_68 rfl (lv_at hl 0 rfl) ?_
  refine w_getf (q := (stC o 0)) (k := 0) (t := 11) (C := R_Asm) (T := F_Asm) (N := 4) hx hb hT hown hK hW fo.1 fo.2 (by decide) in_Asm rfl rfl (by decide) rfl fr_Asm_0 w_3_221 d_Asm_writeText_69 rfl ?_
  refine lv_iload hx hb d_Asm_writeText_72 (lv_at hl 5 rfl) ?_
  refine lv_iconst (v := 4) hx hb d_Asm_writeText_74 (by decide) ?_
  refine lv_ishr hx hb d_Asm_writeText_75 ?_
  have hF := hW.free hS hA
  refine va_calli (va_runS (As := [.int (l6 >>> ((4 : Int32) &&& 31))]) (rest := [.ref (ad (stC o 0))]) ⟨hx, hb, hml, hown, hT⟩ (k_Asm_hexDigit l dC dI cI cB cJ cZ ad NN E tM tC kK kV hNN H.size (l6 >>> ((4 : Int32) &&& 31)) x15  hw) ⟨callB_of 1 hT (gwt_in w_7_122) rfl rfl rfl (hT _ w_1_14) (hT _ w_7_120) (by decide +kernel) ⟨Nat.le_trans (Nat.le_of_ble_eq_true rfl) hRf, Nat.le_trans (Nat.le_of_ble_eq_true rfl) hRl⟩, hT _ w_7_121⟩ ⟨PVc.blind, PVc.at _ hW hK hN hE hS hF⟩ rfl rfl hl.1 rfl (lv_room (Nat.le_of_ble_eq_true rfl)) d_Asm_writeText_76 ⟨(Nat.le_trans (Nat.le_add_right _ _) hRc), (Nat.le_trans (Nat.le_add_right _ _) hRs)⟩) hS (fun q _ h => hF q h) hF (fun r17 x16 t H locs ht hvm hw hB hz1 hk1 hS => ?_)
  have hW := Wd.back hB ht hF
  clear hB ht hF hz1 hk1 hvm
  obtain ⟨k18, n19, k20, n21, ek18, en19, hw⟩ := hw
  have hF := hW.free hS hA
  refine va_callv (va_runV (C := R_Snk) (As := [.int r17]) (rest := []) ⟨hx, hb, hml, hown, hT⟩ (k_Snk_put l dC dI cI cB cJ cZ ad NN E tM tC kK kV hNN H.size (stC o 0) r17 k18 n19 x16 (st_ty hNN fo.1 fo.2 rfl) hw) ⟨callB_of 1 hT (gwt_in w_4_52) rfl rfl rfl (hT _ w_1_2) (hT _ w_7_91) (by decide +kernel) ⟨Nat.le_trans (Nat.le_of_ble_eq_true rfl) hRf, Nat.le_trans (Nat.le_of_ble_eq_true rfl) hRl⟩, hT _ w_4_50, hT _ w_4_51⟩ ⟨PVc.blind, va_recv hK hW.1 (ci := 1) (q0 := (stC o 0)) rfl (pic_obj (st_ty hNN fo.1 fo.2 rfl).1 (st_ty hNN fo.1 fo.2 rfl).2 (by decide)), PVc.at _ hW hK hN hE hS hF⟩ rfl rfl hl.1 rfl (lv_room (Nat.le_of_ble_eq_true rfl)) d_Asm_writeText_79 ⟨show cells + k18 ≤ R.cells by omega, show slots + n19 ≤ R.slots by omega⟩) hS (fun q _ h => hF q h) hF (fun  x22 t H locs ht hvm hw hB hz1 hk1 hS => ?_)
  obtain ⟨x22, ad, NN⟩ := x22
  obtain ⟨hB, hle, hg⟩ := hB
  try dsimp only at hw hB hle hg
  have hW := Wd.back hB ht hF
  rw [← hg o fo.1] at hl
  have fo : o < NN ∧ kcC o = 11 := ⟨Nat.lt_of_lt_of_le fo.1 hle, fo.2⟩
  have hag : NN0 ≤ NN ∧ ∀ o : Nat, o < NN0 → ad o = ad0 o := ⟨Nat.le_trans hag.1 hle, fun o h => (hg o (Nat.lt_of_lt_of_le h hag.1)).trans (hag.2 o h)⟩
  have hNN : 152 ≤ NN := Nat.le_trans hNN hle
  clear hg hle
  obtain ⟨cells, ec⟩ : ∃ z, z = cells + k18 := ⟨_, rfl⟩
  obtain ⟨slots, es⟩ : ∃ z, z = slots + n19 := ⟨_, rfl⟩
  first | rw [← ec, ← es] | rw [Nat.add_zero, Nat.add_zero, ← ec, ← es]
  have hRc : cells + k20 ≤ R.cells := by omega
  have hRs : slots + n21 ≤ R.slots := by omega
  clear ec es hB ht hF hz1 hk1 hvm ek18 en19
  refine lv_aload_n hx hb d_Asm_writeText_82 rfl (lv_at hl 0 rfl) ?_
  refine w_getf (q := (stC o 0)) (k := 0) (t := 11) (C := R_Asm) (T := F_Asm) (N := 4) hx hb hT hown hK hW fo.1 fo.2 (by decide) in_Asm rfl rfl (by decide) rfl fr_Asm_0 w_3_221 d_Asm_writeText_83 rfl ?_
  refine lv_iload hx hb d_Asm_writeText_86 (lv_at hl 5 rfl) ?_
  refine lv_bipush (v := 15) hx hb d_Asm_writeText_88 (by decide) ?_
  refine lv_iand hx hb d_Asm_writeText_90 ?_
  have hF := hW.free hS hA
  refine va_calli (va_runS (As := [.int (l6 &&& 15)]) (rest := [.ref (ad (stC o 0))]) ⟨hx, hb, hml, hown, hT⟩ (k_Asm_hexDigit l dC dI cI cB cJ cZ ad NN E tM tC kK kV hNN H.size (l6 &&& 15) x22  hw) ⟨callB_of 1 hT (gwt_in w_7_122) rfl rfl rfl (hT _ w_1_14) (hT _ w_7_120) (by decide +kernel) ⟨Nat.le_trans (Nat.le_of_ble_eq_true rfl) hRf, Nat.le_trans (Nat.le_of_ble_eq_true rfl) hRl⟩, hT _ w_7_121⟩ ⟨PVc.blind, PVc.at _ hW hK hN hE hS hF⟩ rfl rfl hl.1 rfl (lv_room (Nat.le_of_ble_eq_true rfl)) d_Asm_writeText_91 ⟨(Nat.le_trans (Nat.le_add_right _ _) hRc), (Nat.le_trans (Nat.le_add_right _ _) hRs)⟩) hS (fun q _ h => hF q h) hF (fun r24 x23 t H locs ht hvm hw hB hz1 hk1 hS => ?_)
  have hW := Wd.back hB ht hF
  clear hB ht hF hz1 hk1 hvm
  obtain ⟨k25, n26, k27, n28, ek25, en26, hw⟩ := hw
  have hF := hW.free hS hA
  refine va_callv (va_runV (C := R_Snk) (As := [.int r24]) (rest := []) ⟨hx, hb, hml, hown, hT⟩ (k_Snk_put l dC dI cI cB cJ cZ ad NN E tM tC kK kV hNN H.size (stC o 0) r24 k25 n26 x23 (st_ty hNN fo.1 fo.2 rfl) hw) ⟨callB_of 1 hT (gwt_in w_4_52) rfl rfl rfl (hT _ w_1_2) (hT _ w_7_91) (by decide +kernel) ⟨Nat.le_trans (Nat.le_of_ble_eq_true rfl) hRf, Nat.le_trans (Nat.le_of_ble_eq_true rfl) hRl⟩, hT _ w_4_50, hT _ w_4_51⟩ ⟨PVc.blind, va_recv hK hW.1 (ci := 1) (q0 := (stC o 0)) rfl (pic_obj (st_ty hNN fo.1 fo.2 rfl).1 (st_ty hNN fo.1 fo.2 rfl).2 (by decide)), PVc.at _ hW hK hN hE hS hF⟩ rfl rfl hl.1 rfl (lv_room (Nat.le_of_ble_eq_true rfl)) d_Asm_writeText_94 ⟨show cells + k25 ≤ R.cells by omega, show slots + n26 ≤ R.slots by omega⟩) hS (fun q _ h => hF q h) hF (fun  x29 t H locs ht hvm hw hB hz1 hk1 hS => ?_)
  obtain ⟨x29, ad, NN⟩ := x29
  obtain ⟨hB, hle, hg⟩ := hB
  try dsimp only at hw hB hle hg
  have hW := Wd.back hB ht hF
  rw [← hg o fo.1] at hl
  have fo : o < NN ∧ kcC o = 11 := ⟨Nat.lt_of_lt_of_le fo.1 hle, fo.2⟩
  have hag : NN0 ≤ NN ∧ ∀ o : Nat, o < NN0 → ad o = ad0 o := ⟨Nat.le_trans hag.1 hle, fun o h => (hg o (Nat.lt_of_lt_of_le h hag.1)).trans (hag.2 o h)⟩
  have hNN : 152 ≤ NN := Nat.le_trans hNN hle
  clear hg hle
  obtain ⟨cells, ec⟩ : ∃ z, z = cells + k25 := ⟨_, rfl⟩
  obtain ⟨slots, es⟩ : ∃ z, z = slots + n26 := ⟨_, rfl⟩
  first | rw [← ec, ← es] | rw [Nat.add_zero, Nat.add_zero, ← ec, ← es]
  have hRc : cells + k27 ≤ R.cells := by omega
  have hRs : slots + n28 ≤ R.slots := by omega
  clear ec es hB ht hF hz1 hk1 hvm ek25 en26
  refine lv_goto (tgt := 132) hx hb d_Asm_writeText_97 (by decide) ?_
  exact t_Asm_writeText_132 hx hb hml hown hT hK hN hA hRf hRl hE hret hrec25 ad NN cells slots o l1 l3 l4 l5 l6 k27 n28 x29 H locs ls hNN hag hRc hRs fo hw hW hS (lv_sub hl [0, 1, 2, 3, 4, 5] rfl)
set_option maxRecDepth 100000 in
set_option maxHeartbeats 4000000 in
set_option maxRecDepth 100000 in
theorem t_Asm_writeText_25 {p : Program} {l : Launch} {e : Env} {R : Room} {s : State} {m : MethodId} {args : Array Value} {below : List Frame} {meth : Method} {c : Code} {Q : State → Prop} {dC : Nat → ClassId} {dI : Nat → Nat → Nat} {cI cB cJ cZ : ClassId} {A : Nat → Prop} {E : Heap} {tM tC : Nat} {kK kV : Nat → Nat} {ad0 : Nat → Nat} {NN0 : Nat} {post : St → Prop} {rec25 : Nat → Int64 → Int32 → Int32 → Int32 → Nat → Nat → St → Prop} (hx : p.tables.exec = Jvm.exec) (hb : c.code = b_Asm_writeText) (hml : c.maxLocals = 7) (hown : s.vm.findClass R_Asm = some m.cls) (hT : ∀ w ∈ TG, w.before args s = true) (hK : va_K (dC, dI) CL (TY cI cB cJ cZ) s) (hN : NW s) (hA : ∀ q : Nat, s.heap.size ≤ q → A q) (hRf : 5 ≤ R.frames) (hRl : 264 ≤ R.locals) (hE : CE E tM tC kK kV A s) (hret : ∀ (ad : Nat → Nat) (NN cells slots : Nat) (x : St) (H : Heap) (locs : List Loc) (pc : Nat) (ls : Array Slot), decode b_Asm_writeText pc = .ok (.return_, 1) → (NN0 ≤ NN ∧ ∀ o : Nat, o < NN0 → ad o = ad0 o) → cells ≤ R.cells → slots ≤ R.slots → post x → Wd dC dI cI cB cJ cZ ad stC kcC NN A x H → va_S A s.heap H locs → W p l e R s m args below meth c H locs cells slots Q (F0 m pc ls [])) (hrec25 : ∀ (ad : Nat → Nat) (NN cells slots : Nat) (o : Nat) (l1 : Int64) (l3 : Int32) (l4 : Int32) (l5 : Int32) (kb : Nat) (nb : Nat) (x : St) (H : Heap) (locs : List Loc) (ls : Array Slot), (152 ≤ NN) → (NN0 ≤ NN ∧ ∀ o : Nat, o < NN0 → ad o = ad0 o) → (cells + kb ≤ R.cells) → (slots + nb ≤ R.slots) → (o < NN ∧ kcC o = 11) → rec25 o l1 l3 l4 l5 kb nb x → Wd dC dI cI cB cJ cZ ad stC kcC NN A x H → va_S A s.heap H locs → lv_has ls 7 [(0, .ref (ad o)), (1, .long l1), (3, .int l3), (4, .int l4), (5, .int l5)] → W p l e R s m args below meth c H locs cells slots Q (F0 m 25 ls [])) : ∀ (ad : Nat → Nat) (NN cells slots : Nat) (o : Nat) (l1 : Int64) (l3 : Int32) (l4 : Int32) (l5 : Int32) (kb : Nat) (nb : Nat) (x : St) (H : Heap) (locs : List Loc) (ls : Array Slot), (152 ≤ NN) → (NN0 ≤ NN ∧ ∀ o : Nat, o < NN0 → ad o = ad0 o) → (cells + kb ≤ R.cells) → (slots + nb ≤ R.slots) → (o < NN ∧ kcC o = 11) → j_Asm_writeText_25 post rec25 o l1 l3 l4 l5 kb nb x → Wd dC dI cI cB cJ cZ ad stC kcC NN A x H → va_S A s.heap H locs → lv_has ls 7 [(0, .ref (ad o)), (1, .long l1), (3, .int l3), (4, .int l4), (5, .int l5)] → W p l e R s m args below meth c H locs cells slots Q (F0 m 25 ls []) := by
  intro ad NN cells slots o l1 l3 l4 l5 kb nb x H locs ls hNN hag hRc hRs fo hw hW hS hl
  unfold j_Asm_writeText_25 at hw
  refine lv_iload hx hb d_Asm_writeText_25 (lv_at hl 4 rfl) ?_
  refine lv_iload hx hb d_Asm_writeText_27 (lv_at hl 3 rfl) ?_
  refine lv_icmp_ge (tgt := 138) hx hb d_Asm_writeText_29 (by decide) (fun c30 => ?_) (fun c30 => ?_)
  · have hw := hw.1 c30
    refine lv_aload_n hx hb d_Asm_writeText_138 rfl (lv_at hl 0 rfl) ?_
    refine w_getf (q := (stC o 0)) (k := 0) (t := 11) (C := R_Asm) (T := F_Asm) (N := 4) hx hb hT hown hK hW fo.1 fo.2 (by decide) in_Asm rfl rfl (by decide) rfl fr_Asm_0 w_3_221 d_Asm_writeText_139 rfl ?_
    refine lv_bipush (v := 39) hx hb d_Asm_writeText_142 (by decide) ?_
    obtain ⟨k31, n32, k33, n34, ek31, en32, hw⟩ := hw
    have hF := hW.free hS hA
    refine va_callv (va_runV (C := R_Snk) (As := [.int 39]) (rest := []) ⟨hx, hb, hml, hown, hT⟩ (k_Snk_put l dC dI cI cB cJ cZ ad NN E tM tC kK kV hNN H.size (stC o 0) 39 k31 n32 x (st_ty hNN fo.1 fo.2 rfl) hw) ⟨callB_of 1 hT (gwt_in w_4_52) rfl rfl rfl (hT _ w_1_2) (hT _ w_7_91) (by decide +kernel) ⟨Nat.le_trans (Nat.le_of_ble_eq_true rfl) hRf, Nat.le_trans (Nat.le_of_ble_eq_true rfl) hRl⟩, hT _ w_4_50, hT _ w_4_51⟩ ⟨PVc.blind, va_recv hK hW.1 (ci := 1) (q0 := (stC o 0)) rfl (pic_obj (st_ty hNN fo.1 fo.2 rfl).1 (st_ty hNN fo.1 fo.2 rfl).2 (by decide)), PVc.at _ hW hK hN hE hS hF⟩ rfl rfl hl.1 rfl (lv_room (Nat.le_of_ble_eq_true rfl)) d_Asm_writeText_144 ⟨show cells + k31 ≤ R.cells by omega, show slots + n32 ≤ R.slots by omega⟩) hS (fun q _ h => hF q h) hF (fun  x35 t H locs ht hvm hw hB hz1 hk1 hS => ?_)
    obtain ⟨x35, ad, NN⟩ := x35
    obtain ⟨hB, hle, hg⟩ := hB
    try dsimp only at hw hB hle hg
    have hW := Wd.back hB ht hF
    rw [← hg o fo.1] at hl
    have fo : o < NN ∧ kcC o = 11 := ⟨Nat.lt_of_lt_of_le fo.1 hle, fo.2⟩
    have hag : NN0 ≤ NN ∧ ∀ o : Nat, o < NN0 → ad o = ad0 o := ⟨Nat.le_trans hag.1 hle, fun o h => (hg o (Nat.lt_of_lt_of_le h hag.1)).trans (hag.2 o h)⟩
    have hNN : 152 ≤ NN := Nat.le_trans hNN hle
    clear hg hle
    obtain ⟨cells, ec⟩ : ∃ z, z = cells + k31 := ⟨_, rfl⟩
    obtain ⟨slots, es⟩ : ∃ z, z = slots + n32 := ⟨_, rfl⟩
    first | rw [← ec, ← es] | rw [Nat.add_zero, Nat.add_zero, ← ec, ← es]
    have hRc : cells + k33 ≤ R.cells := by omega
    have hRs : slots + n34 ≤ R.slots := by omega
    clear ec es hB ht hF hz1 hk1 hvm ek31 en32
    exact hret ad NN cells slots x35 H locs 147 ls d_Asm_writeText_147 hag (Nat.le_trans (Nat.le_add_right _ _) hRc) (Nat.le_trans (Nat.le_add_right _ _) hRs) hw hW hS
  · have hw := hw.2 c30
    refine lv_aload_n hx hb d_Asm_writeText_32 rfl (lv_at hl 0 rfl) ?_
    refine w_getf (q := (stC o 1)) (k := 1) (t := 11) (C := R_Asm) (T := F_Asm) (N := 4) hx hb hT hown hK hW fo.1 fo.2 (by decide) in_Asm rfl rfl (by decide) rfl fr_Asm_1 w_3_223 d_Asm_writeText_33 rfl ?_
    refine w_getf (q := (stC (stC o 1) 6)) (k := 6) (t := 6) (C := R_Vlt) (T := F_Vlt) (N := 20) hx hb hT hown hK hW (st_ty hNN fo.1 fo.2 rfl).1 (st_ty hNN fo.1 fo.2 rfl).2 (by decide) in_Vlt rfl rfl (by decide) rfl fr_Vlt_6 w_2_141 d_Asm_writeText_36 rfl ?_
    refine lv_iload hx hb d_Asm_writeText_39 (lv_at hl 4 rfl) ?_
    obtain ⟨hi, hw⟩ := hw
    refine w_bald (o := (stC (stC o 1) 6)) hx hb hK hW (st_ty hNN (st_ty hNN fo.1 fo.2 rfl).1 (st_ty hNN fo.1 fo.2 rfl).2 rfl).1 (st_ty hNN (st_ty hNN fo.1 fo.2 rfl).1 (st_ty hNN fo.1 fo.2 rfl).2 rfl).2 hi d_Asm_writeText_41 ?_
    refine lv_sipush (v := 255) hx hb d_Asm_writeText_42 (by decide) ?_
    refine lv_iand hx hb d_Asm_writeText_45 ?_
    refine lv_topi (fun v36 ev36 => ?_)
    have hw := hw v36 ev36
    refine lv_istore (lv' := [(6, .int v36), (0, .ref (ad o)), (1, .long l1), (3, .int l3), (4, .int l4), (5, .int l5)]) hx hb d_Asm_writeText_46 hl (by decide) rfl (fun ls hl => ?_)
    refine lv_iload hx hb d_Asm_writeText_48 (lv_at hl 0 rfl) ?_
    refine lv_bipush (v := 32) hx hb d_Asm_writeText_50 (by decide) ?_
    refine lv_icmp_lt (tgt := 62) hx hb d_Asm_writeText_52 (by decide) (fun c37 => ?_) (fun c37 => ?_)
    · have hw := hw.1 c37
      exact t_Asm_writeText_62 hx hb hml hown hT hK hN hA hRf hRl hE hret hrec25 ad NN cells slots o l1 l3 l4 l5 v36 kb nb x H locs ls hNN hag hRc hRs fo hw hW hS (lv_sub hl [1, 2, 3, 4, 5, 0] rfl)
    · have hw := hw.2 c37
      refine lv_iload hx hb d_Asm_writeText_55 (lv_at hl 0 rfl) ?_
      refine lv_bipush (v := 126) hx hb d_Asm_writeText_57 (by decide) ?_
      refine lv_icmp_le (tgt := 100) hx hb d_Asm_writeText_59 (by decide) (fun c38 => ?_) (fun c38 => ?_)
      · have hw := hw.1 c38
        refine lv_iload hx hb d_Asm_writeText_100 (lv_at hl 0 rfl) ?_
        refine lv_bipush (v := 39) hx hb d_Asm_writeText_102 (by decide) ?_
        refine lv_icmp_eq (tgt := 114) hx hb d_Asm_writeText_104 (by decide) (fun c39 => ?_) (fun c39 => ?_)
        · have hw := hw.1 c39
          exact t_Asm_writeText_114 hx hb hml hown hT hK hN hA hRf hRl hE hret hrec25 ad NN cells slots o l1 l3 l4 l5 v36 kb nb x H locs ls hNN hag hRc hRs fo hw hW hS (lv_sub hl [1, 2, 3, 4, 5, 0] rfl)
        · have hw := hw.2 c39
          refine lv_iload hx hb d_Asm_writeText_107 (lv_at hl 0 rfl) ?_
          refine lv_bipush (v := 92) hx hb d_Asm_writeText_109 (by decide) ?_
          refine lv_icmp_ne (tgt := 123) hx hb d_Asm_writeText_111 (by decide) (fun c40 => ?_) (fun c40 => ?_)
          · have hw := hw.1 c40
            exact t_Asm_writeText_123 hx hb hml hown hT hK hN hA hRf hRl hE hret hrec25 ad NN cells slots o l1 l3 l4 l5 v36 kb nb x H locs ls hNN hag hRc hRs fo hw hW hS (lv_sub hl [1, 2, 3, 4, 5, 0] rfl)
          · have hw := hw.2 c40
            exact t_Asm_writeText_114 hx hb hml hown hT hK hN hA hRf hRl hE hret hrec25 ad NN cells slots o l1 l3 l4 l5 v36 kb nb x H locs ls hNN hag hRc hRs fo hw hW hS (lv_sub hl [1, 2, 3, 4, 5, 0] rfl)
      · have hw := hw.2 c38
        exact t_Asm_writeText_62 hx hb hml hown hT hK hN hA hRf hRl hE hret hrec25 ad NN cells slots o l1 l3 l4 l5 v36 kb nb x H locs ls hNN hag hRc hRs fo hw hW hS (lv_sub hl [1, 2, 3, 4, 5, 0] rfl)
set_option maxHeartbeats 4000000 in
set_option maxRecDepth 100000 in
theorem tl_Asm_writeText_25 {p : Program} {l : Launch} {e : Env} {R : Room} {s : State} {m : MethodId} {args : Array Value} {below : List Frame} {meth : Method} {c : Code} {Q : State → Prop} {dC : Nat → ClassId} {dI : Nat → Nat → Nat} {cI cB cJ cZ : ClassId} {A : Nat → Prop} {E : Heap} {tM tC : Nat} {kK kV : Nat → Nat} {ad0 : Nat → Nat} {NN0 : Nat} {post : St → Prop} (hx : p.tables.exec = Jvm.exec) (hb : c.code = b_Asm_writeText) (hml : c.maxLocals = 7) (hown : s.vm.findClass R_Asm = some m.cls) (hT : ∀ w ∈ TG, w.before args s = true) (hK : va_K (dC, dI) CL (TY cI cB cJ cZ) s) (hN : NW s) (hA : ∀ q : Nat, s.heap.size ≤ q → A q) (hRf : 5 ≤ R.frames) (hRl : 264 ≤ R.locals) (hE : CE E tM tC kK kV A s) (hret : ∀ (ad : Nat → Nat) (NN cells slots : Nat) (x : St) (H : Heap) (locs : List Loc) (pc : Nat) (ls : Array Slot), decode b_Asm_writeText pc = .ok (.return_, 1) → (NN0 ≤ NN ∧ ∀ o : Nat, o < NN0 → ad o = ad0 o) → cells ≤ R.cells → slots ≤ R.slots → post x → Wd dC dI cI cB cJ cZ ad stC kcC NN A x H → va_S A s.heap H locs → W p l e R s m args below meth c H locs cells slots Q (F0 m pc ls []))  : ∀ n : Nat, ∀ (ad : Nat → Nat) (NN cells slots : Nat) (o : Nat) (l1 : Int64) (l3 : Int32) (l4 : Int32) (l5 : Int32) (kb : Nat) (nb : Nat) (x : St) (H : Heap) (locs : List Loc) (ls : Array Slot), (152 ≤ NN) → (NN0 ≤ NN ∧ ∀ o : Nat, o < NN0 → ad o = ad0 o) → (cells + kb ≤ R.cells) → (slots + nb ≤ R.slots) → (o < NN ∧ kcC o = 11) → wl_Asm_writeText_25 post n o l1 l3 l4 l5 kb nb x → Wd dC dI cI cB cJ cZ ad stC kcC NN A x H → va_S A s.heap H locs → lv_has ls 7 [(0, .ref (ad o)), (1, .long l1), (3, .int l3), (4, .int l4), (5, .int l5)] → W p l e R s m args below meth c H locs cells slots Q (F0 m 25 ls []) := by
  intro n
  induction n with
  | zero => intro ad NN cells slots o l1 l3 l4 l5 kb nb x H locs ls hNN hag hRc hRs fo hw; exact hw.elim
  | succ n ih => intro ad NN cells slots o l1 l3 l4 l5 kb nb x H locs ls hNN hag hRc hRs fo hw hW hS hl; exact t_Asm_writeText_25 hx hb hml hown hT hK hN hA hRf hRl hE hret  ih ad NN cells slots o l1 l3 l4 l5 kb nb x H locs ls hNN hag hRc hRs fo hw hW hS hl
set_option maxRecDepth 100000 in
set_option maxHeartbeats 4000000 in
set_option maxRecDepth 100000 in
theorem t_Asm_writeText_e {p : Program} {l : Launch} {e : Env} {R : Room} {s : State} {m : MethodId} {args : Array Value} {below : List Frame} {meth : Method} {c : Code} {Q : State → Prop} {dC : Nat → ClassId} {dI : Nat → Nat → Nat} {cI cB cJ cZ : ClassId} {A : Nat → Prop} {E : Heap} {tM tC : Nat} {kK kV : Nat → Nat} {ad0 : Nat → Nat} {NN0 : Nat} {post : St → Prop} (hx : p.tables.exec = Jvm.exec) (hb : c.code = b_Asm_writeText) (hml : c.maxLocals = 7) (hown : s.vm.findClass R_Asm = some m.cls) (hT : ∀ w ∈ TG, w.before args s = true) (hK : va_K (dC, dI) CL (TY cI cB cJ cZ) s) (hN : NW s) (hA : ∀ q : Nat, s.heap.size ≤ q → A q) (hRf : 5 ≤ R.frames) (hRl : 264 ≤ R.locals) (hE : CE E tM tC kK kV A s) (hret : ∀ (ad : Nat → Nat) (NN cells slots : Nat) (x : St) (H : Heap) (locs : List Loc) (pc : Nat) (ls : Array Slot), decode b_Asm_writeText pc = .ok (.return_, 1) → (NN0 ≤ NN ∧ ∀ o : Nat, o < NN0 → ad o = ad0 o) → cells ≤ R.cells → slots ≤ R.slots → post x → Wd dC dI cI cB cJ cZ ad stC kcC NN A x H → va_S A s.heap H locs → W p l e R s m args below meth c H locs cells slots Q (F0 m pc ls [])) : ∀ (ad : Nat → Nat) (NN cells slots : Nat) (o : Nat) (l1 : Int64) (kb : Nat) (nb : Nat) (x : St) (H : Heap) (locs : List Loc) (ls : Array Slot), (152 ≤ NN) → (NN0 ≤ NN ∧ ∀ o : Nat, o < NN0 → ad o = ad0 o) → (cells + kb ≤ R.cells) → (slots + nb ≤ R.slots) → (o < NN ∧ kcC o = 11) → wp_Asm_writeText post o l1 kb nb x → Wd dC dI cI cB cJ cZ ad stC kcC NN A x H → va_S A s.heap H locs → lv_has ls 7 [(0, .ref (ad o)), (1, .long l1)] → W p l e R s m args below meth c H locs cells slots Q (F0 m 0 ls []) := by
  intro ad NN cells slots o l1 kb nb x H locs ls hNN hag hRc hRs fo hw hW hS hl
  unfold wp_Asm_writeText at hw
  refine lv_lload_n hx hb d_Asm_writeText_0 rfl (lv_at hl 1 rfl) ?_
  have hF := hW.free hS hA
  refine va_calli (va_runSN (As := [.long l1]) (rest := []) ⟨hx, hb, hml, hown, hT⟩ (k_V_placeOf l dC dI cI cB cJ cZ ad NN E tM tC kK kV hNN H.size l1 x  hw) ⟨va_cnB 1 hT (gwt_in w_5_183) rfl rfl rfl (hN _ wn_7_111 rfl) (hT _ w_1_1) (by decide +kernel) ⟨Nat.le_trans (Nat.le_of_ble_eq_true rfl) hRf, Nat.le_trans (Nat.le_of_ble_eq_true rfl) hRl⟩, hT _ w_5_182, trivial⟩ ⟨PVc.blind, PVc.at _ hW hK hN hE hS hF⟩ rfl rfl hl.1 rfl (lv_room (Nat.le_of_ble_eq_true rfl)) d_Asm_writeText_1 ⟨(Nat.le_trans (Nat.le_add_right _ _) hRc), (Nat.le_trans (Nat.le_add_right _ _) hRs)⟩) hS (fun q _ h => hF q h) hF (fun r42 x41 t H locs ht hvm hw hB hz1 hk1 hS => ?_)
  have hW := Wd.back hB ht hF
  clear hB ht hF hz1 hk1 hvm
  refine lv_istore_n (lv' := [(3, .int r42), (0, .ref (ad o)), (1, .long l1)]) hx hb d_Asm_writeText_4 rfl hl (by decide) rfl (fun ls hl => ?_)
  refine lv_iload_n hx hb d_Asm_writeText_5 rfl (lv_at hl 0 rfl) ?_
  refine lv_lload_n hx hb d_Asm_writeText_6 rfl (lv_at hl 2 rfl) ?_
  have hF := hW.free hS hA
  refine va_calli (va_runSN (As := [.long l1]) (rest := [.int r42]) ⟨hx, hb, hml, hown, hT⟩ (k_V_sizeOf l dC dI cI cB cJ cZ ad NN E tM tC kK kV hNN H.size l1 x41  hw) ⟨va_cnB 1 hT (gwt_in w_5_161) rfl rfl rfl (hN _ wn_7_112 rfl) (hT _ w_1_1) (by decide +kernel) ⟨Nat.le_trans (Nat.le_of_ble_eq_true rfl) hRf, Nat.le_trans (Nat.le_of_ble_eq_true rfl) hRl⟩, hT _ w_5_160, trivial⟩ ⟨PVc.blind, PVc.at _ hW hK hN hE hS hF⟩ rfl rfl hl.1 rfl (lv_room (Nat.le_of_ble_eq_true rfl)) d_Asm_writeText_7 ⟨(Nat.le_trans (Nat.le_add_right _ _) hRc), (Nat.le_trans (Nat.le_add_right _ _) hRs)⟩) hS (fun q _ h => hF q h) hF (fun r44 x43 t H locs ht hvm hw hB hz1 hk1 hS => ?_)
  have hW := Wd.back hB ht hF
  clear hB ht hF hz1 hk1 hvm
  refine lv_iadd hx hb d_Asm_writeText_10 ?_
  refine lv_topi (fun v45 ev45 => ?_)
  have hw := hw v45 ev45
  refine lv_istore (lv' := [(4, .int v45), (3, .int r42), (0, .ref (ad o)), (1, .long l1)]) hx hb d_Asm_writeText_11 hl (by decide) rfl (fun ls hl => ?_)
  refine lv_aload_n hx hb d_Asm_writeText_13 rfl (lv_at hl 2 rfl) ?_
  refine w_getf (q := (stC o 0)) (k := 0) (t := 11) (C := R_Asm) (T := F_Asm) (N := 4) hx hb hT hown hK hW fo.1 fo.2 (by decide) in_Asm rfl rfl (by decide) rfl fr_Asm_0 w_3_221 d_Asm_writeText_14 rfl ?_
  refine lv_bipush (v := 39) hx hb d_Asm_writeText_17 (by decide) ?_
  obtain ⟨k46, n47, k48, n49, ek46, en47, hw⟩ := hw
  have hF := hW.free hS hA
  refine va_callv (va_runV (C := R_Snk) (As := [.int 39]) (rest := []) ⟨hx, hb, hml, hown, hT⟩ (k_Snk_put l dC dI cI cB cJ cZ ad NN E tM tC kK kV hNN H.size (stC o 0) 39 k46 n47 x43 (st_ty hNN fo.1 fo.2 rfl) hw) ⟨callB_of 1 hT (gwt_in w_4_52) rfl rfl rfl (hT _ w_1_2) (hT _ w_7_91) (by decide +kernel) ⟨Nat.le_trans (Nat.le_of_ble_eq_true rfl) hRf, Nat.le_trans (Nat.le_of_ble_eq_true rfl) hRl⟩, hT _ w_4_50, hT _ w_4_51⟩ ⟨PVc.blind, va_recv hK hW.1 (ci := 1) (q0 := (stC o 0)) rfl (pic_obj (st_ty hNN fo.1 fo.2 rfl).1 (st_ty hNN fo.1 fo.2 rfl).2 (by decide)), PVc.at _ hW hK hN hE hS hF⟩ rfl rfl hl.1 rfl (lv_room (Nat.le_of_ble_eq_true rfl)) d_Asm_writeText_19 ⟨show cells + k46 ≤ R.cells by omega, show slots + n47 ≤ R.slots by omega⟩) hS (fun q _ h => hF q h) hF (fun  x50 t H locs ht hvm hw hB hz1 hk1 hS => ?_)
  obtain ⟨x50, ad, NN⟩ := x50
  obtain ⟨hB, hle, hg⟩ := hB
  try dsimp only at hw hB hle hg
  have hW := Wd.back hB ht hF
  rw [← hg o fo.1] at hl
  have fo : o < NN ∧ kcC o = 11 := ⟨Nat.lt_of_lt_of_le fo.1 hle, fo.2⟩
  have hag : NN0 ≤ NN ∧ ∀ o : Nat, o < NN0 → ad o = ad0 o := ⟨Nat.le_trans hag.1 hle, fun o h => (hg o (Nat.lt_of_lt_of_le h hag.1)).trans (hag.2 o h)⟩
  have hNN : 152 ≤ NN := Nat.le_trans hNN hle
  clear hg hle
  obtain ⟨cells, ec⟩ : ∃ z, z = cells + k46 := ⟨_, rfl⟩
  obtain ⟨slots, es⟩ : ∃ z, z = slots + n47 := ⟨_, rfl⟩
  first | rw [← ec, ← es] | rw [Nat.add_zero, Nat.add_zero, ← ec, ← es]
  have hRc : cells + k48 ≤ R.cells := by omega
  have hRs : slots + n49 ≤ R.slots := by omega
  clear ec es hB ht hF hz1 hk1 hvm ek46 en47
  refine lv_iload_n hx hb d_Asm_writeText_22 rfl (lv_at hl 1 rfl) ?_
  refine lv_istore (lv' := [(5, .int r42), (4, .int v45), (3, .int r42), (0, .ref (ad o)), (1, .long l1)]) hx hb d_Asm_writeText_23 hl (by decide) rfl (fun ls hl => ?_)
  obtain ⟨n, hw⟩ := hw
  exact tl_Asm_writeText_25 hx hb hml hown hT hK hN hA hRf hRl hE hret  n ad NN cells slots o l1 r42 v45 r42 k48 n49 x50 H locs ls hNN hag hRc hRs fo hw hW hS (lv_sub hl [3, 4, 2, 1, 0] rfl)
set_option maxHeartbeats 4000000 in
set_option maxRecDepth 100000 in
theorem k_Asm_writeText (l : Launch) (dC : Nat → ClassId) (dI : Nat → Nat → Nat) (cI cB cJ cZ : ClassId) (ad : Nat → Nat) (NN : Nat) (E : Heap) (tM tC : Nat) (kK kV : Nat → Nat) (hNN : 152 ≤ NN) (sz : Nat) (o : Nat) (l1 : Int64) (kb : Nat) (nb : Nat) (x : St) (fo : o < NN ∧ kcC o = 11) {post : St → Prop} (hw : wp_Asm_writeText post o l1 kb nb x) : Met l y_Asm_writeText (wsOf y_Asm_writeText b_Asm_writeText 7 (none)) ({ frames := 5, cells := kb, slots := nb, locals := 264 }) (va_Pc [.ref (ad o), .long l1] (PVc dC dI cI cB cJ cZ ad stC kcC NN E tM tC kK kV sz x)) (va_Qv (fun (u : St × (Nat → Nat) × Nat) => post u.1) (fun u t => Wd dC dI cI cB cJ cZ u.2.1 stC kcC u.2.2 (va_A (pic ad stC kcC NN cI cB cJ cZ x) sz) u.1 t.heap ∧ NN ≤ u.2.2 ∧ ∀ o : Nat, o < NN → u.2.1 o = ad o) (va_A (pic ad stC kcC NN cI cB cJ cZ x) sz)) kb nb (va_A (pic ad stC kcC NN cI cB cJ cZ x) sz) := by
  refine Met.ofW (cc := b_Asm_writeText) (maxL := 7) (ret := none) (by decide) rfl ?_
  intro p e s m args below meth c s₁ B hml hv
  obtain ⟨rfl, ⟨hsz, hW0, hK, hN⟩, hE⟩ := hv
  have hx := B.exec
  have hb := B.bytes
  have hr := B.returns
  have hts := atoms_spec B.pre
  have hT : ∀ w ∈ TG, w.before _ s = true := fun w h => hts w (List.mem_cons_of_mem _ h)
  have hown : s.vm.findClass R_Asm = some m.cls := findClass_of_methodNamed B.named
  have hlocks := B.notSynchronized
  subst hsz
  have hW : Wd dC dI cI cB cJ cZ ad stC kcC NN (va_A (pic ad stC kcC NN cI cB cJ cZ x) s.heap.size) x s.heap := ⟨hW0.1, hW0.2.1.self (sz := s.heap.size), hW0.2.2⟩
  generalize hAe : va_A (pic ad stC kcC NN cI cB cJ cZ x) s.heap.size = A at hW hE ⊢
  have hA : ∀ q : Nat, s.heap.size ≤ q → A q := fun q h => by rw [← hAe]; exact Or.inr h
  have hS : va_S A s.heap s.heap [] := va_S.rf
  have hl := lv_entry ([.ref (ad o), .long l1]) (n := 7) (Nat.le_of_ble_eq_true rfl)
  rw [lg_entry_eq]
  generalize (lg_sl ([.ref (ad o), .long l1]) ++ List.replicate (7 - (lg_sl ([.ref (ad o), .long l1])).length) Slot.unset).toArray = ls at hl ⊢
  have hl : lv_has ls 7 [(0, .ref (ad o)), (1, .long l1)] := hl
  exact t_Asm_writeText_e hx hb hml hown hT hK hN hA (Nat.le_refl 5) (Nat.le_refl 264) hE (fun ad1 NN1 cells slots x1 H locs pc ls hd hag hc hs hp hW hS => W.widen (k := kb) (n := nb) hc hs (W.vret hx hb hr (fun t ht hM => ⟨⟨(x1, ad1, NN1), rfl, hp, Wd.back hW ht.symm (fun _ z => z), hag.1, hag.2⟩, hS.F ht⟩) hS.2.2 hd hlocks))  ad NN 0 0 o l1 kb nb x _ _ ls hNN ⟨Nat.le_refl _, fun _ _ => rfl⟩ (Nat.le_of_eq (Nat.zero_add kb)) (Nat.le_of_eq (Nat.zero_add nb)) fo hw hW hS hl
set_option maxRecDepth 100000 in
set_option maxHeartbeats 4000000 in
set_option maxRecDepth 100000 in
theorem t_Snk_putDecimal_84 {p : Program} {l : Launch} {e : Env} {R : Room} {s : State} {m : MethodId} {args : Array Value} {below : List Frame} {meth : Method} {c : Code} {Q : State → Prop} {dC : Nat → ClassId} {dI : Nat → Nat → Nat} {cI cB cJ cZ : ClassId} {A : Nat → Prop} {E : Heap} {tM tC : Nat} {kK kV : Nat → Nat} {ad0 : Nat → Nat} {NN0 : Nat} {post : St → Prop} {rec84 : Nat → Int64 → Int32 → Int64 → Int32 → Int32 → Nat → Nat → St → Prop} (hx : p.tables.exec = Jvm.exec) (hb : c.code = b_Snk_putDecimal) (hml : c.maxLocals = 9) (hown : s.vm.findClass R_Snk = some m.cls) (hT : ∀ w ∈ TG, w.before args s = true) (hK : va_K (dC, dI) CL (TY cI cB cJ cZ) s) (hN : NW s) (hA : ∀ q : Nat, s.heap.size ≤ q → A q) (hRf : 4 ≤ R.frames) (hRl : 242 ≤ R.locals) (hE : CE E tM tC kK kV A s) (hret : ∀ (ad : Nat → Nat) (NN cells slots : Nat) (x : St) (H : Heap) (locs : List Loc) (pc : Nat) (ls : Array Slot), decode b_Snk_putDecimal pc = .ok (.return_, 1) → (NN0 ≤ NN ∧ ∀ o : Nat, o < NN0 → ad o = ad0 o) → cells ≤ R.cells → slots ≤ R.slots → post x → Wd dC dI cI cB cJ cZ ad stC kcC NN A x H → va_S A s.heap H locs → W p l e R s m args below meth c H locs cells slots Q (F0 m pc ls [])) (hrec84 : ∀ (ad : Nat → Nat) (NN cells slots : Nat) (o : Nat) (l1 : Int64) (l3 : Int32) (l4 : Int64) (l6 : Int32) (l7 : Int32) (kb : Nat) (nb : Nat) (x : St) (H : Heap) (locs : List Loc) (ls : Array Slot), (152 ≤ NN) → (NN0 ≤ NN ∧ ∀ o : Nat, o < NN0 → ad o = ad0 o) → (cells + kb ≤ R.cells) → (slots + nb ≤ R.slots) → (o < NN ∧ kcC o = 1) → rec84 o l1 l3 l4 l6 l7 kb nb x → Wd dC dI cI cB cJ cZ ad stC kcC NN A x H → va_S A s.heap H locs → lv_has ls 9 [(0, .ref (ad o)), (1, .long l1), (3, .int l3), (4, .long l4), (6, .int l6), (7, .int l7)] → W p l e R s m args below meth c H locs cells slots Q (F0 m 84 ls [])) : ∀ (ad : Nat → Nat) (NN cells slots : Nat) (o : Nat) (l1 : Int64) (l3 : Int32) (l4 : Int64) (l6 : Int32) (l7 : Int32) (kb : Nat) (nb : Nat) (x : St) (H : Heap) (locs : List Loc) (ls : Array Slot), (152 ≤ NN) → (NN0 ≤ NN ∧ ∀ o : Nat, o < NN0 → ad o = ad0 o) → (cells + kb ≤ R.cells) → (slots + nb ≤ R.slots) → (o < NN ∧ kcC o = 1) → j_Snk_putDecimal_84 post rec84 o l1 l3 l4 l6 l7 kb nb x → Wd dC dI cI cB cJ cZ ad stC kcC NN A x H → va_S A s.heap H locs → lv_has ls 9 [(0, .ref (ad o)), (1, .long l1), (3, .int l3), (4, .long l4), (6, .int l6), (7, .int l7)] → W p l e R s m args below meth c H locs cells slots Q (F0 m 84 ls []) := by
  intro ad NN cells slots o l1 l3 l4 l6 l7 kb nb x H locs ls hNN hag hRc hRs fo hw hW hS hl
  unfold j_Snk_putDecimal_84 at hw
  refine lv_iload hx hb d_Snk_putDecimal_84 (lv_at hl 4 rfl) ?_
  refine lv_iload hx hb d_Snk_putDecimal_86 (lv_at hl 5 rfl) ?_
  refine lv_icmp_ge (tgt := 132) hx hb d_Snk_putDecimal_88 (by decide) (fun c1 => ?_) (fun c1 => ?_)
  · have hw := hw.1 c1
    exact hret ad NN cells slots x H locs 132 ls d_Snk_putDecimal_132 hag (Nat.le_trans (Nat.le_add_right _ _) hRc) (Nat.le_trans (Nat.le_add_right _ _) hRs) hw hW hS
  · have hw := hw.2 c1
    refine lv_aload_n hx hb d_Snk_putDecimal_91 rfl (lv_at hl 0 rfl) ?_
    obtain ⟨q2, hq2, hw⟩ := hw
    refine w_getr (q := q2) (k := 0) (t := 1) (C := R_Snk) (T := F_Snk) (N := 7) hx hb hT hown hK hW fo.1 fo.2 (by decide) in_Snk rfl rfl (by decide) rfl fr_Snk_0 w_1_40 d_Snk_putDecimal_92 hq2 (fun aq2 bq2 => ?_)
    have fq2 : q2 < NN ∧ kcC q2 = 21 := ⟨aq2, bq2⟩
    refine lv_iload hx hb d_Snk_putDecimal_95 (lv_at hl 4 rfl) ?_
    obtain ⟨hi, hw⟩ := hw
    refine w_bald (o := q2) hx hb hK hW fq2.1 fq2.2 hi d_Snk_putDecimal_97 ?_
    refine lv_topi (fun v3 ev3 => ?_)
    have hw := hw v3 ev3
    refine lv_istore (lv' := [(8, .int v3), (0, .ref (ad o)), (1, .long l1), (3, .int l3), (4, .long l4), (6, .int l6), (7, .int l7)]) hx hb d_Snk_putDecimal_98 hl (by decide) rfl (fun ls hl => ?_)
    refine lv_aload_n hx hb d_Snk_putDecimal_100 rfl (lv_at hl 1 rfl) ?_
    obtain ⟨q4, hq4, hw⟩ := hw
    refine w_getr (q := q4) (k := 0) (t := 1) (C := R_Snk) (T := F_Snk) (N := 7) hx hb hT hown hK hW fo.1 fo.2 (by decide) in_Snk rfl rfl (by decide) rfl fr_Snk_0 w_1_40 d_Snk_putDecimal_101 hq4 (fun aq4 bq4 => ?_)
    have fq4 : q4 < NN ∧ kcC q4 = 21 := ⟨aq4, bq4⟩
    refine lv_iload hx hb d_Snk_putDecimal_104 (lv_at hl 5 rfl) ?_
    refine lv_aload_n hx hb d_Snk_putDecimal_106 rfl (lv_at hl 1 rfl) ?_
    obtain ⟨q5, hq5, hw⟩ := hw
    refine w_getr (q := q5) (k := 0) (t := 1) (C := R_Snk) (T := F_Snk) (N := 7) hx hb hT hown hK hW fo.1 fo.2 (by decide) in_Snk rfl rfl (by decide) rfl fr_Snk_0 w_1_40 d_Snk_putDecimal_107 hq5 (fun aq5 bq5 => ?_)
    have fq5 : q5 < NN ∧ kcC q5 = 21 := ⟨aq5, bq5⟩
    refine lv_iload hx hb d_Snk_putDecimal_110 (lv_at hl 6 rfl) ?_
    obtain ⟨hi, hw⟩ := hw
    refine w_bald (o := q5) hx hb hK hW fq5.1 fq5.2 hi d_Snk_putDecimal_112 ?_
    obtain ⟨hi, hw⟩ := hw
    refine w_bast (o := q4) hx hb hK hW hS fq4.1 fq4.2 hi d_Snk_putDecimal_113 (fun H locs hW hS => ?_)
    obtain ⟨x6, ex6⟩ : ∃ y : St, y = setA x q4 l6 (vp_nar .byte (rA x q5 l7)) := ⟨_, rfl⟩
    rw [← ex6] at hW
    have hw := hw x6 ex6
    refine lv_aload_n hx hb d_Snk_putDecimal_114 rfl (lv_at hl 1 rfl) ?_
    obtain ⟨q7, hq7, hw⟩ := hw
    refine w_getr (q := q7) (k := 0) (t := 1) (C := R_Snk) (T := F_Snk) (N := 7) hx hb hT hown hK hW fo.1 fo.2 (by decide) in_Snk rfl rfl (by decide) rfl fr_Snk_0 w_1_40 d_Snk_putDecimal_115 hq7 (fun aq7 bq7 => ?_)
    have fq7 : q7 < NN ∧ kcC q7 = 21 := ⟨aq7, bq7⟩
    refine lv_iload hx hb d_Snk_putDecimal_118 (lv_at hl 6 rfl) ?_
    refine lv_iload hx hb d_Snk_putDecimal_120 (lv_at hl 0 rfl) ?_
    obtain ⟨hi, hw⟩ := hw
    refine w_bast (o := q7) hx hb hK hW hS fq7.1 fq7.2 hi d_Snk_putDecimal_122 (fun H locs hW hS => ?_)
    obtain ⟨x8, ex8⟩ : ∃ y : St, y = setA x6 q7 l7 (vp_nar .byte v3) := ⟨_, rfl⟩
    rw [← ex8] at hW
    have hw := hw x8 ex8
    refine lv_iinc (v := (l6 + 1)) (lv' := [(6, .int (l6 + 1)), (8, .int v3), (0, .ref (ad o)), (1, .long l1), (3, .int l3), (4, .long l4), (7, .int l7)]) hx hb d_Snk_putDecimal_123 hl (k := 5) rfl rfl (by decide) rfl (fun ls hl => ?_)
    refine lv_iinc (v := (l7 + (-1))) (lv' := [(7, .int (l7 + (-1))), (6, .int (l6 + 1)), (8, .int v3), (0, .ref (ad o)), (1, .long l1), (3, .int l3), (4, .long l4)]) hx hb d_Snk_putDecimal_126 hl (k := 6) rfl rfl (by decide) rfl (fun ls hl => ?_)
    refine lv_goto (tgt := 84) hx hb d_Snk_putDecimal_129 (by decide) ?_
    exact hrec84 ad NN cells slots o l1 l3 l4 (l6 + 1) (l7 + (-1)) kb nb x8 H locs ls hNN hag hRc hRs fo hw hW hS (lv_sub hl [3, 4, 5, 6, 1, 0] rfl)
set_option maxHeartbeats 4000000 in
set_option maxRecDepth 100000 in
theorem tl_Snk_putDecimal_84 {p : Program} {l : Launch} {e : Env} {R : Room} {s : State} {m : MethodId} {args : Array Value} {below : List Frame} {meth : Method} {c : Code} {Q : State → Prop} {dC : Nat → ClassId} {dI : Nat → Nat → Nat} {cI cB cJ cZ : ClassId} {A : Nat → Prop} {E : Heap} {tM tC : Nat} {kK kV : Nat → Nat} {ad0 : Nat → Nat} {NN0 : Nat} {post : St → Prop} (hx : p.tables.exec = Jvm.exec) (hb : c.code = b_Snk_putDecimal) (hml : c.maxLocals = 9) (hown : s.vm.findClass R_Snk = some m.cls) (hT : ∀ w ∈ TG, w.before args s = true) (hK : va_K (dC, dI) CL (TY cI cB cJ cZ) s) (hN : NW s) (hA : ∀ q : Nat, s.heap.size ≤ q → A q) (hRf : 4 ≤ R.frames) (hRl : 242 ≤ R.locals) (hE : CE E tM tC kK kV A s) (hret : ∀ (ad : Nat → Nat) (NN cells slots : Nat) (x : St) (H : Heap) (locs : List Loc) (pc : Nat) (ls : Array Slot), decode b_Snk_putDecimal pc = .ok (.return_, 1) → (NN0 ≤ NN ∧ ∀ o : Nat, o < NN0 → ad o = ad0 o) → cells ≤ R.cells → slots ≤ R.slots → post x → Wd dC dI cI cB cJ cZ ad stC kcC NN A x H → va_S A s.heap H locs → W p l e R s m args below meth c H locs cells slots Q (F0 m pc ls []))  : ∀ n : Nat, ∀ (ad : Nat → Nat) (NN cells slots : Nat) (o : Nat) (l1 : Int64) (l3 : Int32) (l4 : Int64) (l6 : Int32) (l7 : Int32) (kb : Nat) (nb : Nat) (x : St) (H : Heap) (locs : List Loc) (ls : Array Slot), (152 ≤ NN) → (NN0 ≤ NN ∧ ∀ o : Nat, o < NN0 → ad o = ad0 o) → (cells + kb ≤ R.cells) → (slots + nb ≤ R.slots) → (o < NN ∧ kcC o = 1) → wl_Snk_putDecimal_84 post n o l1 l3 l4 l6 l7 kb nb x → Wd dC dI cI cB cJ cZ ad stC kcC NN A x H → va_S A s.heap H locs → lv_has ls 9 [(0, .ref (ad o)), (1, .long l1), (3, .int l3), (4, .long l4), (6, .int l6), (7, .int l7)] → W p l e R s m args below meth c H locs cells slots Q (F0 m 84 ls []) := by
  intro n
  induction n with
  | zero => intro ad NN cells slots o l1 l3 l4 l6 l7 kb nb x H locs ls hNN hag hRc hRs fo hw; exact hw.elim
  | succ n ih => intro ad NN cells slots o l1 l3 l4 l6 l7 kb nb x H locs ls hNN hag hRc hRs fo hw hW hS hl; exact t_Snk_putDecimal_84 hx hb hml hown hT hK hN hA hRf hRl hE hret  ih ad NN cells slots o l1 l3 l4 l6 l7 kb nb x H locs ls hNN hag hRc hRs fo hw hW hS hl
set_option maxRecDepth 100000 in
set_option maxHeartbeats 4000000 in
set_option maxRecDepth 100000 in
theorem t_Snk_putDecimal_73 {p : Program} {l : Launch} {e : Env} {R : Room} {s : State} {m : MethodId} {args : Array Value} {below : List Frame} {meth : Method} {c : Code} {Q : State → Prop} {dC : Nat → ClassId} {dI : Nat → Nat → Nat} {cI cB cJ cZ : ClassId} {A : Nat → Prop} {E : Heap} {tM tC : Nat} {kK kV : Nat → Nat} {ad0 : Nat → Nat} {NN0 : Nat} {post : St → Prop} (hx : p.tables.exec = Jvm.exec) (hb : c.code = b_Snk_putDecimal) (hml : c.maxLocals = 9) (hown : s.vm.findClass R_Snk = some m.cls) (hT : ∀ w ∈ TG, w.before args s = true) (hK : va_K (dC, dI) CL (TY cI cB cJ cZ) s) (hN : NW s) (hA : ∀ q : Nat, s.heap.size ≤ q → A q) (hRf : 4 ≤ R.frames) (hRl : 242 ≤ R.locals) (hE : CE E tM tC kK kV A s) (hret : ∀ (ad : Nat → Nat) (NN cells slots : Nat) (x : St) (H : Heap) (locs : List Loc) (pc : Nat) (ls : Array Slot), decode b_Snk_putDecimal pc = .ok (.return_, 1) → (NN0 ≤ NN ∧ ∀ o : Nat, o < NN0 → ad o = ad0 o) → cells ≤ R.cells → slots ≤ R.slots → post x → Wd dC dI cI cB cJ cZ ad stC kcC NN A x H → va_S A s.heap H locs → W p l e R s m args below meth c H locs cells slots Q (F0 m pc ls []))  : ∀ (ad : Nat → Nat) (NN cells slots : Nat) (o : Nat) (l1 : Int64) (l3 : Int32) (l4 : Int64) (l6 : Int32) (kb : Nat) (nb : Nat) (x : St) (H : Heap) (locs : List Loc) (ls : Array Slot), (152 ≤ NN) → (NN0 ≤ NN ∧ ∀ o : Nat, o < NN0 → ad o = ad0 o) → (cells + kb ≤ R.cells) → (slots + nb ≤ R.slots) → (o < NN ∧ kcC o = 1) → j_Snk_putDecimal_73 post o l1 l3 l4 l6 kb nb x → Wd dC dI cI cB cJ cZ ad stC kcC NN A x H → va_S A s.heap H locs → lv_has ls 9 [(0, .ref (ad o)), (1, .long l1), (3, .int l3), (4, .long l4), (6, .int l6)] → W p l e R s m args below meth c H locs cells slots Q (F0 m 73 ls []) := by
  intro ad NN cells slots o l1 l3 l4 l6 kb nb x H locs ls hNN hag hRc hRs fo hw hW hS hl
  unfold j_Snk_putDecimal_73 at hw
  refine lv_iload_n hx hb d_Snk_putDecimal_73 rfl (lv_at hl 2 rfl) ?_
  refine lv_istore (lv' := [(6, .int l3), (0, .ref (ad o)), (1, .long l1), (3, .int l3), (4, .long l4)]) hx hb d_Snk_putDecimal_74 hl (by decide) rfl (fun ls hl => ?_)
  refine lv_aload_n hx hb d_Snk_putDecimal_76 rfl (lv_at hl 1 rfl) ?_
  refine w_geti (k := 1) (t := 1) (C := R_Snk) (T := F_Snk) (N := 7) hx hb hT hown hK hW fo.1 fo.2 (by decide) in_Snk rfl rfl (by decide) rfl fr_Snk_1 w_1_43 d_Snk_putDecimal_77 ?_
  refine lv_iconst (v := 1) hx hb d_Snk_putDecimal_80 (by decide) ?_
  refine lv_isub hx hb d_Snk_putDecimal_81 ?_
  refine lv_topi (fun v9 ev9 => ?_)
  have hw := hw v9 ev9
  refine lv_istore (lv' := [(7, .int v9), (6, .int l3), (0, .ref (ad o)), (1, .long l1), (3, .int l3), (4, .long l4)]) hx hb d_Snk_putDecimal_82 hl (by decide) rfl (fun ls hl => ?_)
  obtain ⟨n, hw⟩ := hw
  exact tl_Snk_putDecimal_84 hx hb hml hown hT hK hN hA hRf hRl hE hret  n ad NN cells slots o l1 l3 l4 l3 v9 kb nb x H locs ls hNN hag hRc hRs fo hw hW hS (lv_sub hl [2, 3, 4, 5, 1, 0] rfl)
set_option maxRecDepth 100000 in
set_option maxHeartbeats 4000000 in
set_option maxRecDepth 100000 in
theorem t_Snk_putDecimal_61 {p : Program} {l : Launch} {e : Env} {R : Room} {s : State} {m : MethodId} {args : Array Value} {below : List Frame} {meth : Method} {c : Code} {Q : State → Prop} {dC : Nat → ClassId} {dI : Nat → Nat → Nat} {cI cB cJ cZ : ClassId} {A : Nat → Prop} {E : Heap} {tM tC : Nat} {kK kV : Nat → Nat} {ad0 : Nat → Nat} {NN0 : Nat} {post : St → Prop} (hx : p.tables.exec = Jvm.exec) (hb : c.code = b_Snk_putDecimal) (hml : c.maxLocals = 9) (hown : s.vm.findClass R_Snk = some m.cls) (hT : ∀ w ∈ TG, w.before args s = true) (hK : va_K (dC, dI) CL (TY cI cB cJ cZ) s) (hN : NW s) (hA : ∀ q : Nat, s.heap.size ≤ q → A q) (hRf : 4 ≤ R.frames) (hRl : 242 ≤ R.locals) (hE : CE E tM tC kK kV A s) (hret : ∀ (ad : Nat → Nat) (NN cells slots : Nat) (x : St) (H : Heap) (locs : List Loc) (pc : Nat) (ls : Array Slot), decode b_Snk_putDecimal pc = .ok (.return_, 1) → (NN0 ≤ NN ∧ ∀ o : Nat, o < NN0 → ad o = ad0 o) → cells ≤ R.cells → slots ≤ R.slots → post x → Wd dC dI cI cB cJ cZ ad stC kcC NN A x H → va_S A s.heap H locs → W p l e R s m args below meth c H locs cells slots Q (F0 m pc ls []))  : ∀ (ad : Nat → Nat) (NN cells slots : Nat) (o : Nat) (l1 : Int64) (l3 : Int32) (l4 : Int64) (l6 : Int32) (kb : Nat) (nb : Nat) (x : St) (H : Heap) (locs : List Loc) (ls : Array Slot), (152 ≤ NN) → (NN0 ≤ NN ∧ ∀ o : Nat, o < NN0 → ad o = ad0 o) → (cells + kb ≤ R.cells) → (slots + nb ≤ R.slots) → (o < NN ∧ kcC o = 1) → j_Snk_putDecimal_61 post o l1 l3 l4 l6 kb nb x → Wd dC dI cI cB cJ cZ ad stC kcC NN A x H → va_S A s.heap H locs → lv_has ls 9 [(0, .ref (ad o)), (1, .long l1), (3, .int l3), (4, .long l4), (6, .int l6)] → W p l e R s m args below meth c H locs cells slots Q (F0 m 61 ls []) := by
  intro ad NN cells slots o l1 l3 l4 l6 kb nb x H locs ls hNN hag hRc hRs fo hw hW hS hl
  unfold j_Snk_putDecimal_61 at hw
  refine lv_lload_n hx hb d_Snk_putDecimal_61 rfl (lv_at hl 1 rfl) ?_
  refine lv_lconst (v := 0) hx hb d_Snk_putDecimal_62 (by decide) ?_
  refine W.lcmp hx hb d_Snk_putDecimal_63 ?_
  refine lv_if_ge (tgt := 73) hx hb d_Snk_putDecimal_64 (by decide) (fun c10 => ?_) (fun c10 => ?_)
  · have hw := hw.1 c10
    exact t_Snk_putDecimal_73 hx hb hml hown hT hK hN hA hRf hRl hE hret  ad NN cells slots o l1 l3 l4 l6 kb nb x H locs ls hNN hag hRc hRs fo hw hW hS (lv_sub hl [0, 1, 2, 3, 4] rfl)
  · have hw := hw.2 c10
    refine lv_aload_n hx hb d_Snk_putDecimal_67 rfl (lv_at hl 0 rfl) ?_
    refine lv_bipush (v := 45) hx hb d_Snk_putDecimal_68 (by decide) ?_
    obtain ⟨k11, n12, k13, n14, ek11, en12, hw⟩ := hw
    have hF := hW.free hS hA
    refine va_callv (va_runV (C := R_Snk) (As := [.int 45]) (rest := []) ⟨hx, hb, hml, hown, hT⟩ (k_Snk_put l dC dI cI cB cJ cZ ad NN E tM tC kK kV hNN H.size o 45 k11 n12 x fo hw) ⟨callB_of 1 hT (gwt_in w_4_52) rfl rfl rfl (hT _ w_1_2) (hT _ w_5_189) (by decide +kernel) ⟨Nat.le_trans (Nat.le_of_ble_eq_true rfl) hRf, Nat.le_trans (Nat.le_of_ble_eq_true rfl) hRl⟩, hT _ w_4_50, hT _ w_4_51⟩ ⟨PVc.blind, va_recv hK hW.1 (ci := 1) (q0 := o) rfl (pic_obj fo.1 fo.2 (by decide)), PVc.at _ hW hK hN hE hS hF⟩ rfl rfl hl.1 rfl (lv_room (Nat.le_of_ble_eq_true rfl)) d_Snk_putDecimal_70 ⟨show cells + k11 ≤ R.cells by omega, show slots + n12 ≤ R.slots by omega⟩) hS (fun q _ h => hF q h) hF (fun  x15 t H locs ht hvm hw hB hz1 hk1 hS => ?_)
    obtain ⟨x15, ad, NN⟩ := x15
    obtain ⟨hB, hle, hg⟩ := hB
    try dsimp only at hw hB hle hg
    have hW := Wd.back hB ht hF
    rw [← hg o fo.1] at hl
    have fo : o < NN ∧ kcC o = 1 := ⟨Nat.lt_of_lt_of_le fo.1 hle, fo.2⟩
    have hag : NN0 ≤ NN ∧ ∀ o : Nat, o < NN0 → ad o = ad0 o := ⟨Nat.le_trans hag.1 hle, fun o h => (hg o (Nat.lt_of_lt_of_le h hag.1)).trans (hag.2 o h)⟩
    have hNN : 152 ≤ NN := Nat.le_trans hNN hle
    clear hg hle
    obtain ⟨cells, ec⟩ : ∃ z, z = cells + k11 := ⟨_, rfl⟩
    obtain ⟨slots, es⟩ : ∃ z, z = slots + n12 := ⟨_, rfl⟩
    first | rw [← ec, ← es] | rw [Nat.add_zero, Nat.add_zero, ← ec, ← es]
    have hRc : cells + k13 ≤ R.cells := by omega
    have hRs : slots + n14 ≤ R.slots := by omega
    clear ec es hB ht hF hz1 hk1 hvm ek11 en12
    exact t_Snk_putDecimal_73 hx hb hml hown hT hK hN hA hRf hRl hE hret  ad NN cells slots o l1 l3 l4 l6 k13 n14 x15 H locs ls hNN hag hRc hRs fo hw hW hS (lv_sub hl [0, 1, 2, 3, 4] rfl)
set_option maxRecDepth 100000 in
set_option maxHeartbeats 4000000 in
set_option maxRecDepth 100000 in
theorem t_Snk_putDecimal_30 {p : Program} {l : Launch} {e : Env} {R : Room} {s : State} {m : MethodId} {args : Array Value} {below : List Frame} {meth : Method} {c : Code} {Q : State → Prop} {dC : Nat → ClassId} {dI : Nat → Nat → Nat} {cI cB cJ cZ : ClassId} {A : Nat → Prop} {E : Heap} {tM tC : Nat} {kK kV : Nat → Nat} {ad0 : Nat → Nat} {NN0 : Nat} {post : St → Prop} {rec11 : Nat → Int64 → Int32 → Int64 → Int32 → Nat → Nat → St → Prop} (hx : p.tables.exec = Jvm.exec) (hb : c.code = b_Snk_putDecimal) (hml : c.maxLocals = 9) (hown : s.vm.findClass R_Snk = some m.cls) (hT : ∀ w ∈ TG, w.before args s = true) (hK : va_K (dC, dI) CL (TY cI cB cJ cZ) s) (hN : NW s) (hA : ∀ q : Nat, s.heap.size ≤ q → A q) (hRf : 4 ≤ R.frames) (hRl : 242 ≤ R.locals) (hE : CE E tM tC kK kV A s) (hret : ∀ (ad : Nat → Nat) (NN cells slots : Nat) (x : St) (H : Heap) (locs : List Loc) (pc : Nat) (ls : Array Slot), decode b_Snk_putDecimal pc = .ok (.return_, 1) → (NN0 ≤ NN ∧ ∀ o : Nat, o < NN0 → ad o = ad0 o) → cells ≤ R.cells → slots ≤ R.slots → post x → Wd dC dI cI cB cJ cZ ad stC kcC NN A x H → va_S A s.heap H locs → W p l e R s m args below meth c H locs cells slots Q (F0 m pc ls [])) (hrec11 : ∀ (ad : Nat → Nat) (NN cells slots : Nat) (o : Nat) (l1 : Int64) (l3 : Int32) (l4 : Int64) (l6 : Int32) (kb : Nat) (nb : Nat) (x : St) (H : Heap) (locs : List Loc) (ls : Array Slot), (152 ≤ NN) → (NN0 ≤ NN ∧ ∀ o : Nat, o < NN0 → ad o = ad0 o) → (cells + kb ≤ R.cells) → (slots + nb ≤ R.slots) → (o < NN ∧ kcC o = 1) → rec11 o l1 l3 l4 l6 kb nb x → Wd dC dI cI cB cJ cZ ad stC kcC NN A x H → va_S A s.heap H locs → lv_has ls 9 [(0, .ref (ad o)), (1, .long l1), (3, .int l3), (4, .long l4), (6, .int l6)] → W p l e R s m args below meth c H locs cells slots Q (F0 m 11 ls [])) : ∀ (ad : Nat → Nat) (NN cells slots : Nat) (o : Nat) (l1 : Int64) (l3 : Int32) (l4 : Int64) (l6 : Int32) (kb : Nat) (nb : Nat) (x : St) (H : Heap) (locs : List Loc) (ls : Array Slot), (152 ≤ NN) → (NN0 ≤ NN ∧ ∀ o : Nat, o < NN0 → ad o = ad0 o) → (cells + kb ≤ R.cells) → (slots + nb ≤ R.slots) → (o < NN ∧ kcC o = 1) → j_Snk_putDecimal_30 post rec11 o l1 l3 l4 l6 kb nb x → Wd dC dI cI cB cJ cZ ad stC kcC NN A x H → va_S A s.heap H locs → lv_has ls 9 [(0, .ref (ad o)), (1, .long l1), (3, .int l3), (4, .long l4), (6, .int l6)] → W p l e R s m args below meth c H locs cells slots Q (F0 m 30 ls []) := by
  intro ad NN cells slots o l1 l3 l4 l6 kb nb x H locs ls hNN hag hRc hRs fo hw hW hS hl
  unfold j_Snk_putDecimal_30 at hw
  refine lv_aload_n hx hb d_Snk_putDecimal_30 rfl (lv_at hl 0 rfl) ?_
  refine lv_bipush (v := 48) hx hb d_Snk_putDecimal_31 (by decide) ?_
  refine lv_lload hx hb d_Snk_putDecimal_33 (lv_at hl 3 rfl) ?_
  refine lv_ldc2 hx hb hown (hT _ w_7_129) d_Snk_putDecimal_35 ?_
  refine lv_lrem hx hb d_Snk_putDecimal_38 (by decide) ?_
  refine va_mabs_long hx hb (hml.trans hl.1.symm) hown (hT _ w_7_130) (hT _ w_7_131) (hT _ w_1_3) (hT _ w_7_132) (Nat.le_trans (by decide) hRf) (Nat.le_trans (Nat.le_of_ble_eq_true rfl) hRl) (Nat.le_trans (Nat.le_add_right _ _) hRc) (Nat.le_trans (Nat.le_add_right _ _) hRs) d_Snk_putDecimal_39 ?_
  refine lv_l2i hx hb d_Snk_putDecimal_42 rfl ?_
  refine lv_iadd hx hb d_Snk_putDecimal_43 ?_
  obtain ⟨k16, n17, k18, n19, ek16, en17, hw⟩ := hw
  have hF := hW.free hS hA
  refine va_callv (va_runV (C := R_Snk) (As := [.int (48 + ((if 0 < (l4 - l4 / 10 * 10) then (l4 - l4 / 10 * 10) else -(l4 - l4 / 10 * 10)) : Int64).toInt32)]) (rest := []) ⟨hx, hb, hml, hown, hT⟩ (k_Snk_put l dC dI cI cB cJ cZ ad NN E tM tC kK kV hNN H.size o (48 + ((if 0 < (l4 - l4 / 10 * 10) then (l4 - l4 / 10 * 10) else -(l4 - l4 / 10 * 10)) : Int64).toInt32) k16 n17 x fo hw) ⟨callB_of 1 hT (gwt_in w_4_52) rfl rfl rfl (hT _ w_1_2) (hT _ w_5_189) (by decide +kernel) ⟨Nat.le_trans (Nat.le_of_ble_eq_true rfl) hRf, Nat.le_trans (Nat.le_of_ble_eq_true rfl) hRl⟩, hT _ w_4_50, hT _ w_4_51⟩ ⟨PVc.blind, va_recv hK hW.1 (ci := 1) (q0 := o) rfl (pic_obj fo.1 fo.2 (by decide)), PVc.at _ hW hK hN hE hS hF⟩ rfl rfl hl.1 rfl (lv_room (Nat.le_of_ble_eq_true rfl)) d_Snk_putDecimal_44 ⟨show cells + k16 ≤ R.cells by omega, show slots + n17 ≤ R.slots by omega⟩) hS (fun q _ h => hF q h) hF (fun  x20 t H locs ht hvm hw hB hz1 hk1 hS => ?_)
  obtain ⟨x20, ad, NN⟩ := x20
  obtain ⟨hB, hle, hg⟩ := hB
  try dsimp only at hw hB hle hg
  have hW := Wd.back hB ht hF
  rw [← hg o fo.1] at hl
  have fo : o < NN ∧ kcC o = 1 := ⟨Nat.lt_of_lt_of_le fo.1 hle, fo.2⟩
  have hag : NN0 ≤ NN ∧ ∀ o : Nat, o < NN0 → ad o = ad0 o := ⟨Nat.le_trans hag.1 hle, fun o h => (hg o (Nat.lt_of_lt_of_le h hag.1)).trans (hag.2 o h)⟩
  have hNN : 152 ≤ NN := Nat.le_trans hNN hle
  clear hg hle
  obtain ⟨cells, ec⟩ : ∃ z, z = cells + k16 := ⟨_, rfl⟩
  obtain ⟨slots, es⟩ : ∃ z, z = slots + n17 := ⟨_, rfl⟩
  first | rw [← ec, ← es] | rw [Nat.add_zero, Nat.add_zero, ← ec, ← es]
  have hRc : cells + k18 ≤ R.cells := by omega
  have hRs : slots + n19 ≤ R.slots := by omega
  clear ec es hB ht hF hz1 hk1 hvm ek16 en17
  refine lv_lload hx hb d_Snk_putDecimal_47 (lv_at hl 3 rfl) ?_
  refine lv_ldc2 hx hb hown (hT _ w_7_129) d_Snk_putDecimal_49 ?_
  refine lv_ldiv hx hb d_Snk_putDecimal_52 (by decide) ?_
  refine lv_topl (fun v21 ev21 => ?_)
  have hw := hw v21 ev21
  refine lv_lstore (lv' := [(4, .long v21), (0, .ref (ad o)), (1, .long l1), (3, .int l3), (6, .int l6)]) hx hb d_Snk_putDecimal_53 hl (by decide) rfl (fun ls hl => ?_)
  refine lv_iinc (v := (l6 + 1)) (lv' := [(6, .int (l6 + 1)), (4, .long v21), (0, .ref (ad o)), (1, .long l1), (3, .int l3)]) hx hb d_Snk_putDecimal_55 hl (k := 4) rfl rfl (by decide) rfl (fun ls hl => ?_)
  refine lv_goto (tgt := 11) hx hb d_Snk_putDecimal_58 (by decide) ?_
  exact hrec11 ad NN cells slots o l1 l3 v21 (l6 + 1) k18 n19 x20 H locs ls hNN hag hRc hRs fo hw hW hS (lv_sub hl [2, 3, 4, 1, 0] rfl)
set_option maxRecDepth 100000 in
set_option maxHeartbeats 4000000 in
set_option maxRecDepth 100000 in
theorem t_Snk_putDecimal_11 {p : Program} {l : Launch} {e : Env} {R : Room} {s : State} {m : MethodId} {args : Array Value} {below : List Frame} {meth : Method} {c : Code} {Q : State → Prop} {dC : Nat → ClassId} {dI : Nat → Nat → Nat} {cI cB cJ cZ : ClassId} {A : Nat → Prop} {E : Heap} {tM tC : Nat} {kK kV : Nat → Nat} {ad0 : Nat → Nat} {NN0 : Nat} {post : St → Prop} {rec11 : Nat → Int64 → Int32 → Int64 → Int32 → Nat → Nat → St → Prop} (hx : p.tables.exec = Jvm.exec) (hb : c.code = b_Snk_putDecimal) (hml : c.maxLocals = 9) (hown : s.vm.findClass R_Snk = some m.cls) (hT : ∀ w ∈ TG, w.before args s = true) (hK : va_K (dC, dI) CL (TY cI cB cJ cZ) s) (hN : NW s) (hA : ∀ q : Nat, s.heap.size ≤ q → A q) (hRf : 4 ≤ R.frames) (hRl : 242 ≤ R.locals) (hE : CE E tM tC kK kV A s) (hret : ∀ (ad : Nat → Nat) (NN cells slots : Nat) (x : St) (H : Heap) (locs : List Loc) (pc : Nat) (ls : Array Slot), decode b_Snk_putDecimal pc = .ok (.return_, 1) → (NN0 ≤ NN ∧ ∀ o : Nat, o < NN0 → ad o = ad0 o) → cells ≤ R.cells → slots ≤ R.slots → post x → Wd dC dI cI cB cJ cZ ad stC kcC NN A x H → va_S A s.heap H locs → W p l e R s m args below meth c H locs cells slots Q (F0 m pc ls [])) (hrec11 : ∀ (ad : Nat → Nat) (NN cells slots : Nat) (o : Nat) (l1 : Int64) (l3 : Int32) (l4 : Int64) (l6 : Int32) (kb : Nat) (nb : Nat) (x : St) (H : Heap) (locs : List Loc) (ls : Array Slot), (152 ≤ NN) → (NN0 ≤ NN ∧ ∀ o : Nat, o < NN0 → ad o = ad0 o) → (cells + kb ≤ R.cells) → (slots + nb ≤ R.slots) → (o < NN ∧ kcC o = 1) → rec11 o l1 l3 l4 l6 kb nb x → Wd dC dI cI cB cJ cZ ad stC kcC NN A x H → va_S A s.heap H locs → lv_has ls 9 [(0, .ref (ad o)), (1, .long l1), (3, .int l3), (4, .long l4), (6, .int l6)] → W p l e R s m args below meth c H locs cells slots Q (F0 m 11 ls [])) : ∀ (ad : Nat → Nat) (NN cells slots : Nat) (o : Nat) (l1 : Int64) (l3 : Int32) (l4 : Int64) (l6 : Int32) (kb : Nat) (nb : Nat) (x : St) (H : Heap) (locs : List Loc) (ls : Array Slot), (152 ≤ NN) → (NN0 ≤ NN ∧ ∀ o : Nat, o < NN0 → ad o = ad0 o) → (cells + kb ≤ R.cells) → (slots + nb ≤ R.slots) → (o < NN ∧ kcC o = 1) → j_Snk_putDecimal_11 post rec11 o l1 l3 l4 l6 kb nb x → Wd dC dI cI cB cJ cZ ad stC kcC NN A x H → va_S A s.heap H locs → lv_has ls 9 [(0, .ref (ad o)), (1, .long l1), (3, .int l3), (4, .long l4), (6, .int l6)] → W p l e R s m args below meth c H locs cells slots Q (F0 m 11 ls []) := by
  intro ad NN cells slots o l1 l3 l4 l6 kb nb x H locs ls hNN hag hRc hRs fo hw hW hS hl
  unfold j_Snk_putDecimal_11 at hw
  refine lv_iload hx hb d_Snk_putDecimal_11 (lv_at hl 4 rfl) ?_
  refine lv_bipush (v := 20) hx hb d_Snk_putDecimal_13 (by decide) ?_
  refine lv_icmp_ge (tgt := 61) hx hb d_Snk_putDecimal_15 (by decide) (fun c22 => ?_) (fun c22 => ?_)
  · have hw := hw.1 c22
    exact t_Snk_putDecimal_61 hx hb hml hown hT hK hN hA hRf hRl hE hret  ad NN cells slots o l1 l3 l4 l6 kb nb x H locs ls hNN hag hRc hRs fo hw hW hS (lv_sub hl [0, 1, 2, 3, 4] rfl)
  · have hw := hw.2 c22
    refine lv_iload hx hb d_Snk_putDecimal_18 (lv_at hl 4 rfl) ?_
    refine lv_if_eq (tgt := 30) hx hb d_Snk_putDecimal_20 (by decide) (fun c23 => ?_) (fun c23 => ?_)
    · have hw := hw.1 c23
      exact t_Snk_putDecimal_30 hx hb hml hown hT hK hN hA hRf hRl hE hret hrec11 ad NN cells slots o l1 l3 l4 l6 kb nb x H locs ls hNN hag hRc hRs fo hw hW hS (lv_sub hl [0, 1, 2, 3, 4] rfl)
    · have hw := hw.2 c23
      refine lv_lload hx hb d_Snk_putDecimal_23 (lv_at hl 3 rfl) ?_
      refine lv_lconst (v := 0) hx hb d_Snk_putDecimal_25 (by decide) ?_
      refine W.lcmp hx hb d_Snk_putDecimal_26 ?_
      refine lv_if_eq (tgt := 61) hx hb d_Snk_putDecimal_27 (by decide) (fun c24 => ?_) (fun c24 => ?_)
      · have hw := hw.1 c24
        exact t_Snk_putDecimal_61 hx hb hml hown hT hK hN hA hRf hRl hE hret  ad NN cells slots o l1 l3 l4 l6 kb nb x H locs ls hNN hag hRc hRs fo hw hW hS (lv_sub hl [0, 1, 2, 3, 4] rfl)
      · have hw := hw.2 c24
        exact t_Snk_putDecimal_30 hx hb hml hown hT hK hN hA hRf hRl hE hret hrec11 ad NN cells slots o l1 l3 l4 l6 kb nb x H locs ls hNN hag hRc hRs fo hw hW hS (lv_sub hl [0, 1, 2, 3, 4] rfl)
set_option maxHeartbeats 4000000 in
set_option maxRecDepth 100000 in
theorem tl_Snk_putDecimal_11 {p : Program} {l : Launch} {e : Env} {R : Room} {s : State} {m : MethodId} {args : Array Value} {below : List Frame} {meth : Method} {c : Code} {Q : State → Prop} {dC : Nat → ClassId} {dI : Nat → Nat → Nat} {cI cB cJ cZ : ClassId} {A : Nat → Prop} {E : Heap} {tM tC : Nat} {kK kV : Nat → Nat} {ad0 : Nat → Nat} {NN0 : Nat} {post : St → Prop} (hx : p.tables.exec = Jvm.exec) (hb : c.code = b_Snk_putDecimal) (hml : c.maxLocals = 9) (hown : s.vm.findClass R_Snk = some m.cls) (hT : ∀ w ∈ TG, w.before args s = true) (hK : va_K (dC, dI) CL (TY cI cB cJ cZ) s) (hN : NW s) (hA : ∀ q : Nat, s.heap.size ≤ q → A q) (hRf : 4 ≤ R.frames) (hRl : 242 ≤ R.locals) (hE : CE E tM tC kK kV A s) (hret : ∀ (ad : Nat → Nat) (NN cells slots : Nat) (x : St) (H : Heap) (locs : List Loc) (pc : Nat) (ls : Array Slot), decode b_Snk_putDecimal pc = .ok (.return_, 1) → (NN0 ≤ NN ∧ ∀ o : Nat, o < NN0 → ad o = ad0 o) → cells ≤ R.cells → slots ≤ R.slots → post x → Wd dC dI cI cB cJ cZ ad stC kcC NN A x H → va_S A s.heap H locs → W p l e R s m args below meth c H locs cells slots Q (F0 m pc ls []))  : ∀ n : Nat, ∀ (ad : Nat → Nat) (NN cells slots : Nat) (o : Nat) (l1 : Int64) (l3 : Int32) (l4 : Int64) (l6 : Int32) (kb : Nat) (nb : Nat) (x : St) (H : Heap) (locs : List Loc) (ls : Array Slot), (152 ≤ NN) → (NN0 ≤ NN ∧ ∀ o : Nat, o < NN0 → ad o = ad0 o) → (cells + kb ≤ R.cells) → (slots + nb ≤ R.slots) → (o < NN ∧ kcC o = 1) → wl_Snk_putDecimal_11 post n o l1 l3 l4 l6 kb nb x → Wd dC dI cI cB cJ cZ ad stC kcC NN A x H → va_S A s.heap H locs → lv_has ls 9 [(0, .ref (ad o)), (1, .long l1), (3, .int l3), (4, .long l4), (6, .int l6)] → W p l e R s m args below meth c H locs cells slots Q (F0 m 11 ls []) := by
  intro n
  induction n with
  | zero => intro ad NN cells slots o l1 l3 l4 l6 kb nb x H locs ls hNN hag hRc hRs fo hw; exact hw.elim
  | succ n ih => intro ad NN cells slots o l1 l3 l4 l6 kb nb x H locs ls hNN hag hRc hRs fo hw hW hS hl; exact t_Snk_putDecimal_11 hx hb hml hown hT hK hN hA hRf hRl hE hret  ih ad NN cells slots o l1 l3 l4 l6 kb nb x H locs ls hNN hag hRc hRs fo hw hW hS hl
set_option maxRecDepth 100000 in
set_option maxHeartbeats 4000000 in
set_option maxRecDepth 100000 in
theorem t_Snk_putDecimal_e {p : Program} {l : Launch} {e : Env} {R : Room} {s : State} {m : MethodId} {args : Array Value} {below : List Frame} {meth : Method} {c : Code} {Q : State → Prop} {dC : Nat → ClassId} {dI : Nat → Nat → Nat} {cI cB cJ cZ : ClassId} {A : Nat → Prop} {E : Heap} {tM tC : Nat} {kK kV : Nat → Nat} {ad0 : Nat → Nat} {NN0 : Nat} {post : St → Prop} (hx : p.tables.exec = Jvm.exec) (hb : c.code = b_Snk_putDecimal) (hml : c.maxLocals = 9) (hown : s.vm.findClass R_Snk = some m.cls) (hT : ∀ w ∈ TG, w.before args s = true) (hK : va_K (dC, dI) CL (TY cI cB cJ cZ) s) (hN : NW s) (hA : ∀ q : Nat, s.heap.size ≤ q → A q) (hRf : 4 ≤ R.frames) (hRl : 242 ≤ R.locals) (hE : CE E tM tC kK kV A s) (hret : ∀ (ad : Nat → Nat) (NN cells slots : Nat) (x : St) (H : Heap) (locs : List Loc) (pc : Nat) (ls : Array Slot), decode b_Snk_putDecimal pc = .ok (.return_, 1) → (NN0 ≤ NN ∧ ∀ o : Nat, o < NN0 → ad o = ad0 o) → cells ≤ R.cells → slots ≤ R.slots → post x → Wd dC dI cI cB cJ cZ ad stC kcC NN A x H → va_S A s.heap H locs → W p l e R s m args below meth c H locs cells slots Q (F0 m pc ls [])) : ∀ (ad : Nat → Nat) (NN cells slots : Nat) (o : Nat) (l1 : Int64) (kb : Nat) (nb : Nat) (x : St) (H : Heap) (locs : List Loc) (ls : Array Slot), (152 ≤ NN) → (NN0 ≤ NN ∧ ∀ o : Nat, o < NN0 → ad o = ad0 o) → (cells + kb ≤ R.cells) → (slots + nb ≤ R.slots) → (o < NN ∧ kcC o = 1) → wp_Snk_putDecimal post o l1 kb nb x → Wd dC dI cI cB cJ cZ ad stC kcC NN A x H → va_S A s.heap H locs → lv_has ls 9 [(0, .ref (ad o)), (1, .long l1)] → W p l e R s m args below meth c H locs cells slots Q (F0 m 0 ls []) := by
  intro ad NN cells slots o l1 kb nb x H locs ls hNN hag hRc hRs fo hw hW hS hl
  unfold wp_Snk_putDecimal at hw
  refine lv_aload_n hx hb d_Snk_putDecimal_0 rfl (lv_at hl 0 rfl) ?_
  refine w_geti (k := 1) (t := 1) (C := R_Snk) (T := F_Snk) (N := 7) hx hb hT hown hK hW fo.1 fo.2 (by decide) in_Snk rfl rfl (by decide) rfl fr_Snk_1 w_1_43 d_Snk_putDecimal_1 ?_
  refine lv_topi (fun v25 ev25 => ?_)
  have hw := hw v25 ev25
  refine lv_istore_n (lv' := [(3, .int v25), (0, .ref (ad o)), (1, .long l1)]) hx hb d_Snk_putDecimal_4 rfl hl (by decide) rfl (fun ls hl => ?_)
  refine lv_lload_n hx hb d_Snk_putDecimal_5 rfl (lv_at hl 2 rfl) ?_
  refine lv_lstore (lv' := [(4, .long l1), (3, .int v25), (0, .ref (ad o)), (1, .long l1)]) hx hb d_Snk_putDecimal_6 hl (by decide) rfl (fun ls hl => ?_)
  refine lv_iconst (v := 0) hx hb d_Snk_putDecimal_8 (by decide) ?_
  refine lv_istore (lv' := [(6, .int 0), (4, .long l1), (3, .int v25), (0, .ref (ad o)), (1, .long l1)]) hx hb d_Snk_putDecimal_9 hl (by decide) rfl (fun ls hl => ?_)
  obtain ⟨n, hw⟩ := hw
  exact tl_Snk_putDecimal_11 hx hb hml hown hT hK hN hA hRf hRl hE hret  n ad NN cells slots o l1 v25 l1 0 kb nb x H locs ls hNN hag hRc hRs fo hw hW hS (lv_sub hl [3, 4, 2, 1, 0] rfl)
set_option maxHeartbeats 4000000 in
set_option maxRecDepth 100000 in
theorem k_Snk_putDecimal (l : Launch) (dC : Nat → ClassId) (dI : Nat → Nat → Nat) (cI cB cJ cZ : ClassId) (ad : Nat → Nat) (NN : Nat) (E : Heap) (tM tC : Nat) (kK kV : Nat → Nat) (hNN : 152 ≤ NN) (sz : Nat) (o : Nat) (l1 : Int64) (kb : Nat) (nb : Nat) (x : St) (fo : o < NN ∧ kcC o = 1) {post : St → Prop} (hw : wp_Snk_putDecimal post o l1 kb nb x) : Met l y_Snk_putDecimal (wsOf y_Snk_putDecimal b_Snk_putDecimal 9 (none)) ({ frames := 4, cells := kb, slots := nb, locals := 242 }) (va_Pc [.ref (ad o), .long l1] (PVc dC dI cI cB cJ cZ ad stC kcC NN E tM tC kK kV sz x)) (va_Qv (fun (u : St × (Nat → Nat) × Nat) => post u.1) (fun u t => Wd dC dI cI cB cJ cZ u.2.1 stC kcC u.2.2 (va_A (pic ad stC kcC NN cI cB cJ cZ x) sz) u.1 t.heap ∧ NN ≤ u.2.2 ∧ ∀ o : Nat, o < NN → u.2.1 o = ad o) (va_A (pic ad stC kcC NN cI cB cJ cZ x) sz)) kb nb (va_A (pic ad stC kcC NN cI cB cJ cZ x) sz) := by
  refine Met.ofW (cc := b_Snk_putDecimal) (maxL := 9) (ret := none) (by decide) rfl ?_
  intro p e s m args below meth c s₁ B hml hv
  obtain ⟨rfl, ⟨hsz, hW0, hK, hN⟩, hE⟩ := hv
  have hx := B.exec
  have hb := B.bytes
  have hr := B.returns
  have hts := atoms_spec B.pre
  have hT : ∀ w ∈ TG, w.before _ s = true := fun w h => hts w (List.mem_cons_of_mem _ h)
  have hown : s.vm.findClass R_Snk = some m.cls := findClass_of_methodNamed B.named
  have hlocks := B.notSynchronized
  subst hsz
  have hW : Wd dC dI cI cB cJ cZ ad stC kcC NN (va_A (pic ad stC kcC NN cI cB cJ cZ x) s.heap.size) x s.heap := ⟨hW0.1, hW0.2.1.self (sz := s.heap.size), hW0.2.2⟩
  generalize hAe : va_A (pic ad stC kcC NN cI cB cJ cZ x) s.heap.size = A at hW hE ⊢
  have hA : ∀ q : Nat, s.heap.size ≤ q → A q := fun q h => by rw [← hAe]; exact Or.inr h
  have hS : va_S A s.heap s.heap [] := va_S.rf
  have hl := lv_entry ([.ref (ad o), .long l1]) (n := 9) (Nat.le_of_ble_eq_true rfl)
  rw [lg_entry_eq]
  generalize (lg_sl ([.ref (ad o), .long l1]) ++ List.replicate (9 - (lg_sl ([.ref (ad o), .long l1])).length) Slot.unset).toArray = ls at hl ⊢
  have hl : lv_has ls 9 [(0, .ref (ad o)), (1, .long l1)] := hl
  exact t_Snk_putDecimal_e hx hb hml hown hT hK hN hA (Nat.le_refl 4) (Nat.le_refl 242) hE (fun ad1 NN1 cells slots x1 H locs pc ls hd hag hc hs hp hW hS => W.widen (k := kb) (n := nb) hc hs (W.vret hx hb hr (fun t ht hM => ⟨⟨(x1, ad1, NN1), rfl, hp, Wd.back hW ht.symm (fun _ z => z), hag.1, hag.2⟩, hS.F ht⟩) hS.2.2 hd hlocks))  ad NN 0 0 o l1 kb nb x _ _ ls hNN ⟨Nat.le_refl _, fun _ _ => rfl⟩ (Nat.le_of_eq (Nat.zero_add kb)) (Nat.le_of_eq (Nat.zero_add nb)) fo hw hW hS hl
set_option maxRecDepth 100000 in
set_option maxHeartbeats 4000000 in
set_option maxRecDepth 100000 in
theorem t_Asm_writeAll_91 {p : Program} {l : Launch} {e : Env} {R : Room} {s : State} {m : MethodId} {args : Array Value} {below : List Frame} {meth : Method} {c : Code} {Q : State → Prop} {dC : Nat → ClassId} {dI : Nat → Nat → Nat} {cI cB cJ cZ : ClassId} {A : Nat → Prop} {E : Heap} {tM tC : Nat} {kK kV : Nat → Nat} {ad0 : Nat → Nat} {NN0 : Nat} {post : St → Prop} {self_Asm_writeAll : (St → Prop) → Nat → Int32 → Int32 → Nat → Nat → St → Prop} {self_Asm_writeGroup : (St → Prop) → Nat → Int32 → Int32 → Nat → Nat → St → Prop} {self_Asm_writeOne : (St → Prop) → Nat → Int32 → Int32 → Nat → Nat → St → Prop} {fd ld : Nat} (hx : p.tables.exec = Jvm.exec) (hb : c.code = b_Asm_writeAll) (hml : c.maxLocals = 5) (hown : s.vm.findClass R_Asm = some m.cls) (hT : ∀ w ∈ TG, w.before args s = true) (hK : va_K (dC, dI) CL (TY cI cB cJ cZ) s) (hN : NW s) (hA : ∀ q : Nat, s.heap.size ≤ q → A q) (hRf : 6 ≤ R.frames) (hRl : 290 ≤ R.locals) (hE : CE E tM tC kK kV A s) (hret : ∀ (ad : Nat → Nat) (NN cells slots : Nat) (x : St) (H : Heap) (locs : List Loc) (pc : Nat) (ls : Array Slot), decode b_Asm_writeAll pc = .ok (.return_, 1) → (NN0 ≤ NN ∧ ∀ o : Nat, o < NN0 → ad o = ad0 o) → cells ≤ R.cells → slots ≤ R.slots → post x → Wd dC dI cI cB cJ cZ ad stC kcC NN A x H → va_S A s.heap H locs → W p l e R s m args below meth c H locs cells slots Q (F0 m pc ls [])) (hs_Asm_writeAll : ∀ (ad : Nat → Nat) (NN : Nat), 152 ≤ NN → ∀ (sz : Nat) (o : Nat) (l1 : Int32) (l2 : Int32) (kb : Nat) (nb : Nat) (x : St), (o < NN ∧ kcC o = 11) → ∀ (post : St → Prop), self_Asm_writeAll post o l1 l2 kb nb x → Met l y_Asm_writeAll (wsOf y_Asm_writeAll b_Asm_writeAll 5 (none)) ({ frames := fd, cells := kb, slots := nb, locals := ld }) (va_Pc [.ref (ad o), .int l1, .int l2] (PVc dC dI cI cB cJ cZ ad stC kcC NN E tM tC kK kV sz x)) (va_Qv (fun (u : St × (Nat → Nat) × Nat) => post u.1) (fun u t => Wd dC dI cI cB cJ cZ u.2.1 stC kcC u.2.2 (va_A (pic ad stC kcC NN cI cB cJ cZ x) sz) u.1 t.heap ∧ NN ≤ u.2.2 ∧ ∀ o : Nat, o < NN → u.2.1 o = ad o) (va_A (pic ad stC kcC NN cI cB cJ cZ x) sz)) kb nb (va_A (pic ad stC kcC NN cI cB cJ cZ x) sz)) (hs_Asm_writeGroup : ∀ (ad : Nat → Nat) (NN : Nat), 152 ≤ NN → ∀ (sz : Nat) (o : Nat) (l1 : Int32) (l2 : Int32) (kb : Nat) (nb : Nat) (x : St), (o < NN ∧ kcC o = 11) → ∀ (post : St → Prop), self_Asm_writeGroup post o l1 l2 kb nb x → Met l y_Asm_writeGroup (wsOf y_Asm_writeGroup b_Asm_writeGroup 7 (none)) ({ frames := fd, cells := kb, slots := nb, locals := ld }) (va_Pc [.ref (ad o), .int l1, .int l2] (PVc dC dI cI cB cJ cZ ad stC kcC NN E tM tC kK kV sz x)) (va_Qv (fun (u : St × (Nat → Nat) × Nat) => post u.1) (fun u t => Wd dC dI cI cB cJ cZ u.2.1 stC kcC u.2.2 (va_A (pic ad stC kcC NN cI cB cJ cZ x) sz) u.1 t.heap ∧ NN ≤ u.2.2 ∧ ∀ o : Nat, o < NN → u.2.1 o = ad o) (va_A (pic ad stC kcC NN cI cB cJ cZ x) sz)) kb nb (va_A (pic ad stC kcC NN cI cB cJ cZ x) sz)) (hs_Asm_writeOne : ∀ (ad : Nat → Nat) (NN : Nat), 152 ≤ NN → ∀ (sz : Nat) (o : Nat) (l1 : Int32) (l2 : Int32) (kb : Nat) (nb : Nat) (x : St), (o < NN ∧ kcC o = 11) → ∀ (post : St → Prop), self_Asm_writeOne post o l1 l2 kb nb x → Met l y_Asm_writeOne (wsOf y_Asm_writeOne b_Asm_writeOne 7 (none)) ({ frames := fd, cells := kb, slots := nb, locals := ld }) (va_Pc [.ref (ad o), .int l1, .int l2] (PVc dC dI cI cB cJ cZ ad stC kcC NN E tM tC kK kV sz x)) (va_Qv (fun (u : St × (Nat → Nat) × Nat) => post u.1) (fun u t => Wd dC dI cI cB cJ cZ u.2.1 stC kcC u.2.2 (va_A (pic ad stC kcC NN cI cB cJ cZ x) sz) u.1 t.heap ∧ NN ≤ u.2.2 ∧ ∀ o : Nat, o < NN → u.2.1 o = ad o) (va_A (pic ad stC kcC NN cI cB cJ cZ x) sz)) kb nb (va_A (pic ad stC kcC NN cI cB cJ cZ x) sz)) (hDf : fd + 1 ≤ R.frames) (hDl : 26 + ld ≤ R.locals)  : ∀ (ad : Nat → Nat) (NN cells slots : Nat) (o : Nat) (l1 : Int32) (l2 : Int32) (l3 : Int32) (l4 : Int32) (kb : Nat) (nb : Nat) (x : St) (H : Heap) (locs : List Loc) (ls : Array Slot), (152 ≤ NN) → (NN0 ≤ NN ∧ ∀ o : Nat, o < NN0 → ad o = ad0 o) → (cells + kb ≤ R.cells) → (slots + nb ≤ R.slots) → (o < NN ∧ kcC o = 11) → j_Asm_writeAll_91 post self_Asm_writeAll self_Asm_writeGroup self_Asm_writeOne o l1 l2 l3 l4 kb nb x → Wd dC dI cI cB cJ cZ ad stC kcC NN A x H → va_S A s.heap H locs → lv_has ls 5 [(0, .ref (ad o)), (1, .int l1), (2, .int l2), (3, .int l3), (4, .int l4)] → W p l e R s m args below meth c H locs cells slots Q (F0 m 91 ls []) := by
  intro ad NN cells slots o l1 l2 l3 l4 kb nb x H locs ls hNN hag hRc hRs fo hw hW hS hl
  unfold j_Asm_writeAll_91 at hw
  refine lv_aload_n hx hb d_Asm_writeAll_91 rfl (lv_at hl 0 rfl) ?_
  refine w_getf (q := (stC o 0)) (k := 0) (t := 11) (C := R_Asm) (T := F_Asm) (N := 4) hx hb hT hown hK hW fo.1 fo.2 (by decide) in_Asm rfl rfl (by decide) rfl fr_Asm_0 w_3_221 d_Asm_writeAll_92 rfl ?_
  refine lv_bipush (v := 93) hx hb d_Asm_writeAll_95 (by decide) ?_
  obtain ⟨k1, n2, k3, n4, ek1, en2, hw⟩ := hw
  have hF := hW.free hS hA
  refine va_callv (va_runV (C := R_Snk) (As := [.int 93]) (rest := []) ⟨hx, hb, hml, hown, hT⟩ (k_Snk_put l dC dI cI cB cJ cZ ad NN E tM tC kK kV hNN H.size (stC o 0) 93 k1 n2 x (st_ty hNN fo.1 fo.2 rfl) hw) ⟨callB_of 1 hT (gwt_in w_4_52) rfl rfl rfl (hT _ w_1_2) (hT _ w_7_91) (by decide +kernel) ⟨Nat.le_trans (Nat.le_of_ble_eq_true rfl) hRf, Nat.le_trans (Nat.le_of_ble_eq_true rfl) hRl⟩, hT _ w_4_50, hT _ w_4_51⟩ ⟨PVc.blind, va_recv hK hW.1 (ci := 1) (q0 := (stC o 0)) rfl (pic_obj (st_ty hNN fo.1 fo.2 rfl).1 (st_ty hNN fo.1 fo.2 rfl).2 (by decide)), PVc.at _ hW hK hN hE hS hF⟩ rfl rfl hl.1 rfl (lv_room (Nat.le_of_ble_eq_true rfl)) d_Asm_writeAll_97 ⟨show cells + k1 ≤ R.cells by omega, show slots + n2 ≤ R.slots by omega⟩) hS (fun q _ h => hF q h) hF (fun  x5 t H locs ht hvm hw hB hz1 hk1 hS => ?_)
  obtain ⟨x5, ad, NN⟩ := x5
  obtain ⟨hB, hle, hg⟩ := hB
  try dsimp only at hw hB hle hg
  have hW := Wd.back hB ht hF
  rw [← hg o fo.1] at hl
  have fo : o < NN ∧ kcC o = 11 := ⟨Nat.lt_of_lt_of_le fo.1 hle, fo.2⟩
  have hag : NN0 ≤ NN ∧ ∀ o : Nat, o < NN0 → ad o = ad0 o := ⟨Nat.le_trans hag.1 hle, fun o h => (hg o (Nat.lt_of_lt_of_le h hag.1)).trans (hag.2 o h)⟩
  have hNN : 152 ≤ NN := Nat.le_trans hNN hle
  clear hg hle
  obtain ⟨cells, ec⟩ : ∃ z, z = cells + k1 := ⟨_, rfl⟩
  obtain ⟨slots, es⟩ : ∃ z, z = slots + n2 := ⟨_, rfl⟩
  first | rw [← ec, ← es] | rw [Nat.add_zero, Nat.add_zero, ← ec, ← es]
  have hRc : cells + k3 ≤ R.cells := by omega
  have hRs : slots + n4 ≤ R.slots := by omega
  clear ec es hB ht hF hz1 hk1 hvm ek1 en2
  exact hret ad NN cells slots x5 H locs 100 ls d_Asm_writeAll_100 hag (Nat.le_trans (Nat.le_add_right _ _) hRc) (Nat.le_trans (Nat.le_add_right _ _) hRs) hw hW hS
set_option maxRecDepth 100000 in
set_option maxHeartbeats 4000000 in
set_option maxRecDepth 100000 in
theorem t_Asm_writeAll_85 {p : Program} {l : Launch} {e : Env} {R : Room} {s : State} {m : MethodId} {args : Array Value} {below : List Frame} {meth : Method} {c : Code} {Q : State → Prop} {dC : Nat → ClassId} {dI : Nat → Nat → Nat} {cI cB cJ cZ : ClassId} {A : Nat → Prop} {E : Heap} {tM tC : Nat} {kK kV : Nat → Nat} {ad0 : Nat → Nat} {NN0 : Nat} {post : St → Prop} {self_Asm_writeAll : (St → Prop) → Nat → Int32 → Int32 → Nat → Nat → St → Prop} {self_Asm_writeGroup : (St → Prop) → Nat → Int32 → Int32 → Nat → Nat → St → Prop} {self_Asm_writeOne : (St → Prop) → Nat → Int32 → Int32 → Nat → Nat → St → Prop} {fd ld : Nat} {rec14 : Nat → Int32 → Int32 → Int32 → Int32 → Nat → Nat → St → Prop} (hx : p.tables.exec = Jvm.exec) (hb : c.code = b_Asm_writeAll) (hml : c.maxLocals = 5) (hown : s.vm.findClass R_Asm = some m.cls) (hT : ∀ w ∈ TG, w.before args s = true) (hK : va_K (dC, dI) CL (TY cI cB cJ cZ) s) (hN : NW s) (hA : ∀ q : Nat, s.heap.size ≤ q → A q) (hRf : 6 ≤ R.frames) (hRl : 290 ≤ R.locals) (hE : CE E tM tC kK kV A s) (hret : ∀ (ad : Nat → Nat) (NN cells slots : Nat) (x : St) (H : Heap) (locs : List Loc) (pc : Nat) (ls : Array Slot), decode b_Asm_writeAll pc = .ok (.return_, 1) → (NN0 ≤ NN ∧ ∀ o : Nat, o < NN0 → ad o = ad0 o) → cells ≤ R.cells → slots ≤ R.slots → post x → Wd dC dI cI cB cJ cZ ad stC kcC NN A x H → va_S A s.heap H locs → W p l e R s m args below meth c H locs cells slots Q (F0 m pc ls [])) (hs_Asm_writeAll : ∀ (ad : Nat → Nat) (NN : Nat), 152 ≤ NN → ∀ (sz : Nat) (o : Nat) (l1 : Int32) (l2 : Int32) (kb : Nat) (nb : Nat) (x : St), (o < NN ∧ kcC o = 11) → ∀ (post : St → Prop), self_Asm_writeAll post o l1 l2 kb nb x → Met l y_Asm_writeAll (wsOf y_Asm_writeAll b_Asm_writeAll 5 (none)) ({ frames := fd, cells := kb, slots := nb, locals := ld }) (va_Pc [.ref (ad o), .int l1, .int l2] (PVc dC dI cI cB cJ cZ ad stC kcC NN E tM tC kK kV sz x)) (va_Qv (fun (u : St × (Nat → Nat) × Nat) => post u.1) (fun u t => Wd dC dI cI cB cJ cZ u.2.1 stC kcC u.2.2 (va_A (pic ad stC kcC NN cI cB cJ cZ x) sz) u.1 t.heap ∧ NN ≤ u.2.2 ∧ ∀ o : Nat, o < NN → u.2.1 o = ad o) (va_A (pic ad stC kcC NN cI cB cJ cZ x) sz)) kb nb (va_A (pic ad stC kcC NN cI cB cJ cZ x) sz)) (hs_Asm_writeGroup : ∀ (ad : Nat → Nat) (NN : Nat), 152 ≤ NN → ∀ (sz : Nat) (o : Nat) (l1 : Int32) (l2 : Int32) (kb : Nat) (nb : Nat) (x : St), (o < NN ∧ kcC o = 11) → ∀ (post : St → Prop), self_Asm_writeGroup post o l1 l2 kb nb x → Met l y_Asm_writeGroup (wsOf y_Asm_writeGroup b_Asm_writeGroup 7 (none)) ({ frames := fd, cells := kb, slots := nb, locals := ld }) (va_Pc [.ref (ad o), .int l1, .int l2] (PVc dC dI cI cB cJ cZ ad stC kcC NN E tM tC kK kV sz x)) (va_Qv (fun (u : St × (Nat → Nat) × Nat) => post u.1) (fun u t => Wd dC dI cI cB cJ cZ u.2.1 stC kcC u.2.2 (va_A (pic ad stC kcC NN cI cB cJ cZ x) sz) u.1 t.heap ∧ NN ≤ u.2.2 ∧ ∀ o : Nat, o < NN → u.2.1 o = ad o) (va_A (pic ad stC kcC NN cI cB cJ cZ x) sz)) kb nb (va_A (pic ad stC kcC NN cI cB cJ cZ x) sz)) (hs_Asm_writeOne : ∀ (ad : Nat → Nat) (NN : Nat), 152 ≤ NN → ∀ (sz : Nat) (o : Nat) (l1 : Int32) (l2 : Int32) (kb : Nat) (nb : Nat) (x : St), (o < NN ∧ kcC o = 11) → ∀ (post : St → Prop), self_Asm_writeOne post o l1 l2 kb nb x → Met l y_Asm_writeOne (wsOf y_Asm_writeOne b_Asm_writeOne 7 (none)) ({ frames := fd, cells := kb, slots := nb, locals := ld }) (va_Pc [.ref (ad o), .int l1, .int l2] (PVc dC dI cI cB cJ cZ ad stC kcC NN E tM tC kK kV sz x)) (va_Qv (fun (u : St × (Nat → Nat) × Nat) => post u.1) (fun u t => Wd dC dI cI cB cJ cZ u.2.1 stC kcC u.2.2 (va_A (pic ad stC kcC NN cI cB cJ cZ x) sz) u.1 t.heap ∧ NN ≤ u.2.2 ∧ ∀ o : Nat, o < NN → u.2.1 o = ad o) (va_A (pic ad stC kcC NN cI cB cJ cZ x) sz)) kb nb (va_A (pic ad stC kcC NN cI cB cJ cZ x) sz)) (hDf : fd + 1 ≤ R.frames) (hDl : 26 + ld ≤ R.locals) (hrec14 : ∀ (ad : Nat → Nat) (NN cells slots : Nat) (o : Nat) (l1 : Int32) (l2 : Int32) (l3 : Int32) (l4 : Int32) (kb : Nat) (nb : Nat) (x : St) (H : Heap) (locs : List Loc) (ls : Array Slot), (152 ≤ NN) → (NN0 ≤ NN ∧ ∀ o : Nat, o < NN0 → ad o = ad0 o) → (cells + kb ≤ R.cells) → (slots + nb ≤ R.slots) → (o < NN ∧ kcC o = 11) → rec14 o l1 l2 l3 l4 kb nb x → Wd dC dI cI cB cJ cZ ad stC kcC NN A x H → va_S A s.heap H locs → lv_has ls 5 [(0, .ref (ad o)), (1, .int l1), (2, .int l2), (3, .int l3), (4, .int l4)] → W p l e R s m args below meth c H locs cells slots Q (F0 m 14 ls [])) : ∀ (ad : Nat → Nat) (NN cells slots : Nat) (o : Nat) (l1 : Int32) (l2 : Int32) (l3 : Int32) (l4 : Int32) (kb : Nat) (nb : Nat) (x : St) (H : Heap) (locs : List Loc) (ls : Array Slot), (152 ≤ NN) → (NN0 ≤ NN ∧ ∀ o : Nat, o < NN0 → ad o = ad0 o) → (cells + kb ≤ R.cells) → (slots + nb ≤ R.slots) → (o < NN ∧ kcC o = 11) → j_Asm_writeAll_85 post self_Asm_writeAll self_Asm_writeGroup self_Asm_writeOne rec14 o l1 l2 l3 l4 kb nb x → Wd dC dI cI cB cJ cZ ad stC kcC NN A x H → va_S A s.heap H locs → lv_has ls 5 [(0, .ref (ad o)), (1, .int l1), (2, .int l2), (3, .int l3), (4, .int l4)] → W p l e R s m args below meth c H locs cells slots Q (F0 m 85 ls []) := by
  intro ad NN cells slots o l1 l2 l3 l4 kb nb x H locs ls hNN hag hRc hRs fo hw hW hS hl
  unfold j_Asm_writeAll_85 at hw
  refine lv_iinc (v := (l4 + 1)) (lv' := [(4, .int (l4 + 1)), (0, .ref (ad o)), (1, .int l1), (2, .int l2), (3, .int l3)]) hx hb d_Asm_writeAll_85 hl (k := 4) rfl rfl (by decide) rfl (fun ls hl => ?_)
  refine lv_goto (tgt := 14) hx hb d_Asm_writeAll_88 (by decide) ?_
  exact hrec14 ad NN cells slots o l1 l2 l3 (l4 + 1) kb nb x H locs ls hNN hag hRc hRs fo hw hW hS (lv_sub hl [1, 2, 3, 4, 0] rfl)
set_option maxRecDepth 100000 in
set_option maxHeartbeats 4000000 in
set_option maxRecDepth 100000 in
theorem t_Asm_writeAll_71 {p : Program} {l : Launch} {e : Env} {R : Room} {s : State} {m : MethodId} {args : Array Value} {below : List Frame} {meth : Method} {c : Code} {Q : State → Prop} {dC : Nat → ClassId} {dI : Nat → Nat → Nat} {cI cB cJ cZ : ClassId} {A : Nat → Prop} {E : Heap} {tM tC : Nat} {kK kV : Nat → Nat} {ad0 : Nat → Nat} {NN0 : Nat} {post : St → Prop} {self_Asm_writeAll : (St → Prop) → Nat → Int32 → Int32 → Nat → Nat → St → Prop} {self_Asm_writeGroup : (St → Prop) → Nat → Int32 → Int32 → Nat → Nat → St → Prop} {self_Asm_writeOne : (St → Prop) → Nat → Int32 → Int32 → Nat → Nat → St → Prop} {fd ld : Nat} {rec14 : Nat → Int32 → Int32 → Int32 → Int32 → Nat → Nat → St → Prop} (hx : p.tables.exec = Jvm.exec) (hb : c.code = b_Asm_writeAll) (hml : c.maxLocals = 5) (hown : s.vm.findClass R_Asm = some m.cls) (hT : ∀ w ∈ TG, w.before args s = true) (hK : va_K (dC, dI) CL (TY cI cB cJ cZ) s) (hN : NW s) (hA : ∀ q : Nat, s.heap.size ≤ q → A q) (hRf : 6 ≤ R.frames) (hRl : 290 ≤ R.locals) (hE : CE E tM tC kK kV A s) (hret : ∀ (ad : Nat → Nat) (NN cells slots : Nat) (x : St) (H : Heap) (locs : List Loc) (pc : Nat) (ls : Array Slot), decode b_Asm_writeAll pc = .ok (.return_, 1) → (NN0 ≤ NN ∧ ∀ o : Nat, o < NN0 → ad o = ad0 o) → cells ≤ R.cells → slots ≤ R.slots → post x → Wd dC dI cI cB cJ cZ ad stC kcC NN A x H → va_S A s.heap H locs → W p l e R s m args below meth c H locs cells slots Q (F0 m pc ls [])) (hs_Asm_writeAll : ∀ (ad : Nat → Nat) (NN : Nat), 152 ≤ NN → ∀ (sz : Nat) (o : Nat) (l1 : Int32) (l2 : Int32) (kb : Nat) (nb : Nat) (x : St), (o < NN ∧ kcC o = 11) → ∀ (post : St → Prop), self_Asm_writeAll post o l1 l2 kb nb x → Met l y_Asm_writeAll (wsOf y_Asm_writeAll b_Asm_writeAll 5 (none)) ({ frames := fd, cells := kb, slots := nb, locals := ld }) (va_Pc [.ref (ad o), .int l1, .int l2] (PVc dC dI cI cB cJ cZ ad stC kcC NN E tM tC kK kV sz x)) (va_Qv (fun (u : St × (Nat → Nat) × Nat) => post u.1) (fun u t => Wd dC dI cI cB cJ cZ u.2.1 stC kcC u.2.2 (va_A (pic ad stC kcC NN cI cB cJ cZ x) sz) u.1 t.heap ∧ NN ≤ u.2.2 ∧ ∀ o : Nat, o < NN → u.2.1 o = ad o) (va_A (pic ad stC kcC NN cI cB cJ cZ x) sz)) kb nb (va_A (pic ad stC kcC NN cI cB cJ cZ x) sz)) (hs_Asm_writeGroup : ∀ (ad : Nat → Nat) (NN : Nat), 152 ≤ NN → ∀ (sz : Nat) (o : Nat) (l1 : Int32) (l2 : Int32) (kb : Nat) (nb : Nat) (x : St), (o < NN ∧ kcC o = 11) → ∀ (post : St → Prop), self_Asm_writeGroup post o l1 l2 kb nb x → Met l y_Asm_writeGroup (wsOf y_Asm_writeGroup b_Asm_writeGroup 7 (none)) ({ frames := fd, cells := kb, slots := nb, locals := ld }) (va_Pc [.ref (ad o), .int l1, .int l2] (PVc dC dI cI cB cJ cZ ad stC kcC NN E tM tC kK kV sz x)) (va_Qv (fun (u : St × (Nat → Nat) × Nat) => post u.1) (fun u t => Wd dC dI cI cB cJ cZ u.2.1 stC kcC u.2.2 (va_A (pic ad stC kcC NN cI cB cJ cZ x) sz) u.1 t.heap ∧ NN ≤ u.2.2 ∧ ∀ o : Nat, o < NN → u.2.1 o = ad o) (va_A (pic ad stC kcC NN cI cB cJ cZ x) sz)) kb nb (va_A (pic ad stC kcC NN cI cB cJ cZ x) sz)) (hs_Asm_writeOne : ∀ (ad : Nat → Nat) (NN : Nat), 152 ≤ NN → ∀ (sz : Nat) (o : Nat) (l1 : Int32) (l2 : Int32) (kb : Nat) (nb : Nat) (x : St), (o < NN ∧ kcC o = 11) → ∀ (post : St → Prop), self_Asm_writeOne post o l1 l2 kb nb x → Met l y_Asm_writeOne (wsOf y_Asm_writeOne b_Asm_writeOne 7 (none)) ({ frames := fd, cells := kb, slots := nb, locals := ld }) (va_Pc [.ref (ad o), .int l1, .int l2] (PVc dC dI cI cB cJ cZ ad stC kcC NN E tM tC kK kV sz x)) (va_Qv (fun (u : St × (Nat → Nat) × Nat) => post u.1) (fun u t => Wd dC dI cI cB cJ cZ u.2.1 stC kcC u.2.2 (va_A (pic ad stC kcC NN cI cB cJ cZ x) sz) u.1 t.heap ∧ NN ≤ u.2.2 ∧ ∀ o : Nat, o < NN → u.2.1 o = ad o) (va_A (pic ad stC kcC NN cI cB cJ cZ x) sz)) kb nb (va_A (pic ad stC kcC NN cI cB cJ cZ x) sz)) (hDf : fd + 1 ≤ R.frames) (hDl : 26 + ld ≤ R.locals) (hrec14 : ∀ (ad : Nat → Nat) (NN cells slots : Nat) (o : Nat) (l1 : Int32) (l2 : Int32) (l3 : Int32) (l4 : Int32) (kb : Nat) (nb : Nat) (x : St) (H : Heap) (locs : List Loc) (ls : Array Slot), (152 ≤ NN) → (NN0 ≤ NN ∧ ∀ o : Nat, o < NN0 → ad o = ad0 o) → (cells + kb ≤ R.cells) → (slots + nb ≤ R.slots) → (o < NN ∧ kcC o = 11) → rec14 o l1 l2 l3 l4 kb nb x → Wd dC dI cI cB cJ cZ ad stC kcC NN A x H → va_S A s.heap H locs → lv_has ls 5 [(0, .ref (ad o)), (1, .int l1), (2, .int l2), (3, .int l3), (4, .int l4)] → W p l e R s m args below meth c H locs cells slots Q (F0 m 14 ls [])) : ∀ (ad : Nat → Nat) (NN cells slots : Nat) (o : Nat) (l1 : Int32) (l2 : Int32) (l3 : Int32) (l4 : Int32) (s0 : Int32) (kb : Nat) (nb : Nat) (x : St) (H : Heap) (locs : List Loc) (ls : Array Slot), (152 ≤ NN) → (NN0 ≤ NN ∧ ∀ o : Nat, o < NN0 → ad o = ad0 o) → (cells + kb ≤ R.cells) → (slots + nb ≤ R.slots) → (o < NN ∧ kcC o = 11) → j_Asm_writeAll_71 post self_Asm_writeAll self_Asm_writeGroup self_Asm_writeOne rec14 o l1 l2 l3 l4 s0 kb nb x → Wd dC dI cI cB cJ cZ ad stC kcC NN A x H → va_S A s.heap H locs → lv_has ls 5 [(0, .ref (ad o)), (1, .int l1), (2, .int l2), (3, .int l3), (4, .int l4)] → W p l e R s m args below meth c H locs cells slots Q (F0 m 71 ls [.int s0]) := by
  intro ad NN cells slots o l1 l2 l3 l4 s0 kb nb x H locs ls hNN hag hRc hRs fo hw hW hS hl
  unfold j_Asm_writeAll_71 at hw
  refine lv_istore_n (lv' := [(3, .int s0), (0, .ref (ad o)), (1, .int l1), (2, .int l2), (4, .int l4)]) hx hb d_Asm_writeAll_71 rfl hl (by decide) rfl (fun ls hl => ?_)
  refine lv_iload_n hx hb d_Asm_writeAll_72 rfl (lv_at hl 0 rfl) ?_
  refine lv_if_eq (tgt := 85) hx hb d_Asm_writeAll_73 (by decide) (fun c6 => ?_) (fun c6 => ?_)
  · have hw := hw.1 c6
    exact t_Asm_writeAll_85 hx hb hml hown hT hK hN hA hRf hRl hE hret hs_Asm_writeAll hs_Asm_writeGroup hs_Asm_writeOne hDf hDl hrec14 ad NN cells slots o l1 l2 s0 l4 kb nb x H locs ls hNN hag hRc hRs fo hw hW hS (lv_sub hl [1, 2, 3, 0, 4] rfl)
  · have hw := hw.2 c6
    refine lv_aload_n hx hb d_Asm_writeAll_76 rfl (lv_at hl 1 rfl) ?_
    refine w_getf (q := (stC o 0)) (k := 0) (t := 11) (C := R_Asm) (T := F_Asm) (N := 4) hx hb hT hown hK hW fo.1 fo.2 (by decide) in_Asm rfl rfl (by decide) rfl fr_Asm_0 w_3_221 d_Asm_writeAll_77 rfl ?_
    refine lv_bipush (v := 44) hx hb d_Asm_writeAll_80 (by decide) ?_
    obtain ⟨k7, n8, k9, n10, ek7, en8, hw⟩ := hw
    have hF := hW.free hS hA
    refine va_callv (va_runV (C := R_Snk) (As := [.int 44]) (rest := []) ⟨hx, hb, hml, hown, hT⟩ (k_Snk_put l dC dI cI cB cJ cZ ad NN E tM tC kK kV hNN H.size (stC o 0) 44 k7 n8 x (st_ty hNN fo.1 fo.2 rfl) hw) ⟨callB_of 1 hT (gwt_in w_4_52) rfl rfl rfl (hT _ w_1_2) (hT _ w_7_91) (by decide +kernel) ⟨Nat.le_trans (Nat.le_of_ble_eq_true rfl) hRf, Nat.le_trans (Nat.le_of_ble_eq_true rfl) hRl⟩, hT _ w_4_50, hT _ w_4_51⟩ ⟨PVc.blind, va_recv hK hW.1 (ci := 1) (q0 := (stC o 0)) rfl (pic_obj (st_ty hNN fo.1 fo.2 rfl).1 (st_ty hNN fo.1 fo.2 rfl).2 (by decide)), PVc.at _ hW hK hN hE hS hF⟩ rfl rfl hl.1 rfl (lv_room (Nat.le_of_ble_eq_true rfl)) d_Asm_writeAll_82 ⟨show cells + k7 ≤ R.cells by omega, show slots + n8 ≤ R.slots by omega⟩) hS (fun q _ h => hF q h) hF (fun  x11 t H locs ht hvm hw hB hz1 hk1 hS => ?_)
    obtain ⟨x11, ad, NN⟩ := x11
    obtain ⟨hB, hle, hg⟩ := hB
    try dsimp only at hw hB hle hg
    have hW := Wd.back hB ht hF
    rw [← hg o fo.1] at hl
    have fo : o < NN ∧ kcC o = 11 := ⟨Nat.lt_of_lt_of_le fo.1 hle, fo.2⟩
    have hag : NN0 ≤ NN ∧ ∀ o : Nat, o < NN0 → ad o = ad0 o := ⟨Nat.le_trans hag.1 hle, fun o h => (hg o (Nat.lt_of_lt_of_le h hag.1)).trans (hag.2 o h)⟩
    have hNN : 152 ≤ NN := Nat.le_trans hNN hle
    clear hg hle
    obtain ⟨cells, ec⟩ : ∃ z, z = cells + k7 := ⟨_, rfl⟩
    obtain ⟨slots, es⟩ : ∃ z, z = slots + n8 := ⟨_, rfl⟩
    first | rw [← ec, ← es] | rw [Nat.add_zero, Nat.add_zero, ← ec, ← es]
    have hRc : cells + k9 ≤ R.cells := by omega
    have hRs : slots + n10 ≤ R.slots := by omega
    clear ec es hB ht hF hz1 hk1 hvm ek7 en8
    exact t_Asm_writeAll_85 hx hb hml hown hT hK hN hA hRf hRl hE hret hs_Asm_writeAll hs_Asm_writeGroup hs_Asm_writeOne hDf hDl hrec14 ad NN cells slots o l1 l2 s0 l4 k9 n10 x11 H locs ls hNN hag hRc hRs fo hw hW hS (lv_sub hl [1, 2, 3, 0, 4] rfl)
set_option maxRecDepth 100000 in
set_option maxHeartbeats 4000000 in
set_option maxRecDepth 100000 in
theorem t_Asm_writeAll_14 {p : Program} {l : Launch} {e : Env} {R : Room} {s : State} {m : MethodId} {args : Array Value} {below : List Frame} {meth : Method} {c : Code} {Q : State → Prop} {dC : Nat → ClassId} {dI : Nat → Nat → Nat} {cI cB cJ cZ : ClassId} {A : Nat → Prop} {E : Heap} {tM tC : Nat} {kK kV : Nat → Nat} {ad0 : Nat → Nat} {NN0 : Nat} {post : St → Prop} {self_Asm_writeAll : (St → Prop) → Nat → Int32 → Int32 → Nat → Nat → St → Prop} {self_Asm_writeGroup : (St → Prop) → Nat → Int32 → Int32 → Nat → Nat → St → Prop} {self_Asm_writeOne : (St → Prop) → Nat → Int32 → Int32 → Nat → Nat → St → Prop} {fd ld : Nat} {rec14 : Nat → Int32 → Int32 → Int32 → Int32 → Nat → Nat → St → Prop} (hx : p.tables.exec = Jvm.exec) (hb : c.code = b_Asm_writeAll) (hml : c.maxLocals = 5) (hown : s.vm.findClass R_Asm = some m.cls) (hT : ∀ w ∈ TG, w.before args s = true) (hK : va_K (dC, dI) CL (TY cI cB cJ cZ) s) (hN : NW s) (hA : ∀ q : Nat, s.heap.size ≤ q → A q) (hRf : 6 ≤ R.frames) (hRl : 290 ≤ R.locals) (hE : CE E tM tC kK kV A s) (hret : ∀ (ad : Nat → Nat) (NN cells slots : Nat) (x : St) (H : Heap) (locs : List Loc) (pc : Nat) (ls : Array Slot), decode b_Asm_writeAll pc = .ok (.return_, 1) → (NN0 ≤ NN ∧ ∀ o : Nat, o < NN0 → ad o = ad0 o) → cells ≤ R.cells → slots ≤ R.slots → post x → Wd dC dI cI cB cJ cZ ad stC kcC NN A x H → va_S A s.heap H locs → W p l e R s m args below meth c H locs cells slots Q (F0 m pc ls [])) (hs_Asm_writeAll : ∀ (ad : Nat → Nat) (NN : Nat), 152 ≤ NN → ∀ (sz : Nat) (o : Nat) (l1 : Int32) (l2 : Int32) (kb : Nat) (nb : Nat) (x : St), (o < NN ∧ kcC o = 11) → ∀ (post : St → Prop), self_Asm_writeAll post o l1 l2 kb nb x → Met l y_Asm_writeAll (wsOf y_Asm_writeAll b_Asm_writeAll 5 (none)) ({ frames := fd, cells := kb, slots := nb, locals := ld }) (va_Pc [.ref (ad o), .int l1, .int l2] (PVc dC dI cI cB cJ cZ ad stC kcC NN E tM tC kK kV sz x)) (va_Qv (fun (u : St × (Nat → Nat) × Nat) => post u.1) (fun u t => Wd dC dI cI cB cJ cZ u.2.1 stC kcC u.2.2 (va_A (pic ad stC kcC NN cI cB cJ cZ x) sz) u.1 t.heap ∧ NN ≤ u.2.2 ∧ ∀ o : Nat, o < NN → u.2.1 o = ad o) (va_A (pic ad stC kcC NN cI cB cJ cZ x) sz)) kb nb (va_A (pic ad stC kcC NN cI cB cJ cZ x) sz)) (hs_Asm_writeGroup : ∀ (ad : Nat → Nat) (NN : Nat), 152 ≤ NN → ∀ (sz : Nat) (o : Nat) (l1 : Int32) (l2 : Int32) (kb : Nat) (nb : Nat) (x : St), (o < NN ∧ kcC o = 11) → ∀ (post : St → Prop), self_Asm_writeGroup post o l1 l2 kb nb x → Met l y_Asm_writeGroup (wsOf y_Asm_writeGroup b_Asm_writeGroup 7 (none)) ({ frames := fd, cells := kb, slots := nb, locals := ld }) (va_Pc [.ref (ad o), .int l1, .int l2] (PVc dC dI cI cB cJ cZ ad stC kcC NN E tM tC kK kV sz x)) (va_Qv (fun (u : St × (Nat → Nat) × Nat) => post u.1) (fun u t => Wd dC dI cI cB cJ cZ u.2.1 stC kcC u.2.2 (va_A (pic ad stC kcC NN cI cB cJ cZ x) sz) u.1 t.heap ∧ NN ≤ u.2.2 ∧ ∀ o : Nat, o < NN → u.2.1 o = ad o) (va_A (pic ad stC kcC NN cI cB cJ cZ x) sz)) kb nb (va_A (pic ad stC kcC NN cI cB cJ cZ x) sz)) (hs_Asm_writeOne : ∀ (ad : Nat → Nat) (NN : Nat), 152 ≤ NN → ∀ (sz : Nat) (o : Nat) (l1 : Int32) (l2 : Int32) (kb : Nat) (nb : Nat) (x : St), (o < NN ∧ kcC o = 11) → ∀ (post : St → Prop), self_Asm_writeOne post o l1 l2 kb nb x → Met l y_Asm_writeOne (wsOf y_Asm_writeOne b_Asm_writeOne 7 (none)) ({ frames := fd, cells := kb, slots := nb, locals := ld }) (va_Pc [.ref (ad o), .int l1, .int l2] (PVc dC dI cI cB cJ cZ ad stC kcC NN E tM tC kK kV sz x)) (va_Qv (fun (u : St × (Nat → Nat) × Nat) => post u.1) (fun u t => Wd dC dI cI cB cJ cZ u.2.1 stC kcC u.2.2 (va_A (pic ad stC kcC NN cI cB cJ cZ x) sz) u.1 t.heap ∧ NN ≤ u.2.2 ∧ ∀ o : Nat, o < NN → u.2.1 o = ad o) (va_A (pic ad stC kcC NN cI cB cJ cZ x) sz)) kb nb (va_A (pic ad stC kcC NN cI cB cJ cZ x) sz)) (hDf : fd + 1 ≤ R.frames) (hDl : 26 + ld ≤ R.locals) (hrec14 : ∀ (ad : Nat → Nat) (NN cells slots : Nat) (o : Nat) (l1 : Int32) (l2 : Int32) (l3 : Int32) (l4 : Int32) (kb : Nat) (nb : Nat) (x : St) (H : Heap) (locs : List Loc) (ls : Array Slot), (152 ≤ NN) → (NN0 ≤ NN ∧ ∀ o : Nat, o < NN0 → ad o = ad0 o) → (cells + kb ≤ R.cells) → (slots + nb ≤ R.slots) → (o < NN ∧ kcC o = 11) → rec14 o l1 l2 l3 l4 kb nb x → Wd dC dI cI cB cJ cZ ad stC kcC NN A x H → va_S A s.heap H locs → lv_has ls 5 [(0, .ref (ad o)), (1, .int l1), (2, .int l2), (3, .int l3), (4, .int l4)] → W p l e R s m args below meth c H locs cells slots Q (F0 m 14 ls [])) : ∀ (ad : Nat → Nat) (NN cells slots : Nat) (o : Nat) (l1 : Int32) (l2 : Int32) (l3 : Int32) (l4 : Int32) (kb : Nat) (nb : Nat) (x : St) (H : Heap) (locs : List Loc) (ls : Array Slot), (152 ≤ NN) → (NN0 ≤ NN ∧ ∀ o : Nat, o < NN0 → ad o = ad0 o) → (cells + kb ≤ R.cells) → (slots + nb ≤ R.slots) → (o < NN ∧ kcC o = 11) → j_Asm_writeAll_14 post self_Asm_writeAll self_Asm_writeGroup self_Asm_writeOne rec14 o l1 l2 l3 l4 kb nb x → Wd dC dI cI cB cJ cZ ad stC kcC NN A x H → va_S A s.heap H locs → lv_has ls 5 [(0, .ref (ad o)), (1, .int l1), (2, .int l2), (3, .int l3), (4, .int l4)] → W p l e R s m args below meth c H locs cells slots Q (F0 m 14 ls []) := by
  intro ad NN cells slots o l1 l2 l3 l4 kb nb x H locs ls hNN hag hRc hRs fo hw hW hS hl
  unfold j_Asm_writeAll_14 at hw
  refine lv_iload hx hb d_Asm_writeAll_14 (lv_at hl 4 rfl) ?_
  refine lv_sipush (v := 10000) hx hb d_Asm_writeAll_16 (by decide) ?_
  refine lv_icmp_ge (tgt := 91) hx hb d_Asm_writeAll_19 (by decide) (fun c12 => ?_) (fun c12 => ?_)
  · have hw := hw.1 c12
    exact t_Asm_writeAll_91 hx hb hml hown hT hK hN hA hRf hRl hE hret hs_Asm_writeAll hs_Asm_writeGroup hs_Asm_writeOne hDf hDl  ad NN cells slots o l1 l2 l3 l4 kb nb x H locs ls hNN hag hRc hRs fo hw hW hS (lv_sub hl [0, 1, 2, 3, 4] rfl)
  · have hw := hw.2 c12
    refine lv_iload_n hx hb d_Asm_writeAll_22 rfl (lv_at hl 3 rfl) ?_
    refine lv_if_eq (tgt := 91) hx hb d_Asm_writeAll_23 (by decide) (fun c13 => ?_) (fun c13 => ?_)
    · have hw := hw.1 c13
      exact t_Asm_writeAll_91 hx hb hml hown hT hK hN hA hRf hRl hE hret hs_Asm_writeAll hs_Asm_writeGroup hs_Asm_writeOne hDf hDl  ad NN cells slots o l1 l2 l3 l4 kb nb x H locs ls hNN hag hRc hRs fo hw hW hS (lv_sub hl [0, 1, 2, 3, 4] rfl)
    · have hw := hw.2 c13
      refine lv_aload_n hx hb d_Asm_writeAll_26 rfl (lv_at hl 0 rfl) ?_
      refine lv_iload_n hx hb d_Asm_writeAll_27 rfl (lv_at hl 1 rfl) ?_
      refine lv_iload_n hx hb d_Asm_writeAll_28 rfl (lv_at hl 2 rfl) ?_
      obtain ⟨k14, n15, k16, n17, ek14, en15, hw⟩ := hw
      have hF := hW.free hS hA
      refine va_callv (va_runV (C := R_Asm) (As := [.int l1, .int l2]) (rest := []) ⟨hx, hb, hml, hown, hT⟩ (hs_Asm_writeOne ad NN hNN H.size o l1 l2 k14 n15 x fo _ hw) ⟨callB_of 2 hT (gwt_in w_7_106) rfl rfl rfl (hT _ w_1_14) (hT _ w_7_103) (by decide +kernel) ⟨hDf, Nat.le_trans (Nat.add_le_add_right (by decide) _) hDl⟩, hT _ w_7_105, hT _ ws_65⟩ ⟨PVc.blind, va_recv hK hW.1 (ci := 11) (q0 := o) rfl (pic_obj fo.1 fo.2 (by decide)), PVc.at _ hW hK hN hE hS hF⟩ rfl rfl hl.1 rfl (lv_room (Nat.le_of_ble_eq_true rfl)) d_Asm_writeAll_29 ⟨show cells + k14 ≤ R.cells by omega, show slots + n15 ≤ R.slots by omega⟩) hS (fun q _ h => hF q h) hF (fun  x18 t H locs ht hvm hw hB hz1 hk1 hS => ?_)
      obtain ⟨x18, ad, NN⟩ := x18
      obtain ⟨hB, hle, hg⟩ := hB
      try dsimp only at hw hB hle hg
      have hW := Wd.back hB ht hF
      rw [← hg o fo.1] at hl
      have fo : o < NN ∧ kcC o = 11 := ⟨Nat.lt_of_lt_of_le fo.1 hle, fo.2⟩
      have hag : NN0 ≤ NN ∧ ∀ o : Nat, o < NN0 → ad o = ad0 o := ⟨Nat.le_trans hag.1 hle, fun o h => (hg o (Nat.lt_of_lt_of_le h hag.1)).trans (hag.2 o h)⟩
      have hNN : 152 ≤ NN := Nat.le_trans hNN hle
      clear hg hle
      obtain ⟨cells, ec⟩ : ∃ z, z = cells + k14 := ⟨_, rfl⟩
      obtain ⟨slots, es⟩ : ∃ z, z = slots + n15 := ⟨_, rfl⟩
      first | rw [← ec, ← es] | rw [Nat.add_zero, Nat.add_zero, ← ec, ← es]
      have hRc : cells + k16 ≤ R.cells := by omega
      have hRs : slots + n17 ≤ R.slots := by omega
      clear ec es hB ht hF hz1 hk1 hvm ek14 en15
      refine lv_aload_n hx hb d_Asm_writeAll_32 rfl (lv_at hl 0 rfl) ?_
      refine w_getf (q := (stC o 1)) (k := 1) (t := 11) (C := R_Asm) (T := F_Asm) (N := 4) hx hb hT hown hK hW fo.1 fo.2 (by decide) in_Asm rfl rfl (by decide) rfl fr_Asm_1 w_3_223 d_Asm_writeAll_33 rfl ?_
      refine w_getf (q := (stC (stC o 1) 7)) (k := 7) (t := 6) (C := R_Vlt) (T := F_Vlt) (N := 20) hx hb hT hown hK hW (st_ty hNN fo.1 fo.2 rfl).1 (st_ty hNN fo.1 fo.2 rfl).2 (by decide) in_Vlt rfl rfl (by decide) rfl fr_Vlt_7 w_2_145 d_Asm_writeAll_36 rfl ?_
      refine lv_aload_n hx hb d_Asm_writeAll_39 rfl (lv_at hl 0 rfl) ?_
      refine w_getf (q := (stC o 2)) (k := 2) (t := 11) (C := R_Asm) (T := F_Asm) (N := 4) hx hb hT hown hK hW fo.1 fo.2 (by decide) in_Asm rfl rfl (by decide) rfl fr_Asm_2 w_3_224 d_Asm_writeAll_40 rfl ?_
      refine lv_aload_n hx hb d_Asm_writeAll_43 rfl (lv_at hl 0 rfl) ?_
      refine w_getf (q := (stC o 3)) (k := 3) (t := 11) (C := R_Asm) (T := F_Asm) (N := 4) hx hb hT hown hK hW fo.1 fo.2 (by decide) in_Asm rfl rfl (by decide) rfl fr_Asm_3 w_3_225 d_Asm_writeAll_44 rfl ?_
      refine lv_iload_n hx hb d_Asm_writeAll_47 rfl (lv_at hl 1 rfl) ?_
      obtain ⟨hi, hw⟩ := hw
      refine w_iald (o := (stC o 3)) hx hb hK hW (st_ty hNN fo.1 fo.2 rfl).1 (st_ty hNN fo.1 fo.2 rfl).2 hi d_Asm_writeAll_48 ?_
      obtain ⟨hi, hw⟩ := hw
      refine w_iald (o := (stC o 2)) hx hb hK hW (st_ty hNN fo.1 fo.2 rfl).1 (st_ty hNN fo.1 fo.2 rfl).2 hi d_Asm_writeAll_49 ?_
      obtain ⟨hi, hw⟩ := hw
      refine w_bald (o := (stC (stC o 1) 7)) hx hb hK hW (st_ty hNN (st_ty hNN fo.1 fo.2 rfl).1 (st_ty hNN fo.1 fo.2 rfl).2 rfl).1 (st_ty hNN (st_ty hNN fo.1 fo.2 rfl).1 (st_ty hNN fo.1 fo.2 rfl).2 rfl).2 hi d_Asm_writeAll_50 ?_
      refine lv_aload_n hx hb d_Asm_writeAll_51 rfl (lv_at hl 0 rfl) ?_
      refine w_getf (q := (stC o 1)) (k := 1) (t := 11) (C := R_Asm) (T := F_Asm) (N := 4) hx hb hT hown hK hW fo.1 fo.2 (by decide) in_Asm rfl rfl (by decide) rfl fr_Asm_1 w_3_223 d_Asm_writeAll_52 rfl ?_
      refine w_getf (q := (stC (stC o 1) 5)) (k := 5) (t := 6) (C := R_Vlt) (T := F_Vlt) (N := 20) hx hb hT hown hK hW (st_ty hNN fo.1 fo.2 rfl).1 (st_ty hNN fo.1 fo.2 rfl).2 (by decide) in_Vlt rfl rfl (by decide) rfl fr_Vlt_5 w_2_135 d_Asm_writeAll_55 rfl ?_
      refine w_getf (q := (stC (stC (stC o 1) 5) 5)) (k := 5) (t := 3) (C := R_Sch) (T := F_Sch) (N := 13) hx hb hT hown hK hW (st_ty hNN (st_ty hNN fo.1 fo.2 rfl).1 (st_ty hNN fo.1 fo.2 rfl).2 rfl).1 (st_ty hNN (st_ty hNN fo.1 fo.2 rfl).1 (st_ty hNN fo.1 fo.2 rfl).2 rfl).2 (by decide) in_Sch rfl rfl (by decide) rfl fr_Sch_5 w_1_158 d_Asm_writeAll_58 rfl ?_
      refine lv_iload_n hx hb d_Asm_writeAll_61 rfl (lv_at hl 1 rfl) ?_
      obtain ⟨hi, hw⟩ := hw
      refine w_iald (o := (stC (stC (stC o 1) 5) 5)) hx hb hK hW (st_ty hNN (st_ty hNN (st_ty hNN fo.1 fo.2 rfl).1 (st_ty hNN fo.1 fo.2 rfl).2 rfl).1 (st_ty hNN (st_ty hNN fo.1 fo.2 rfl).1 (st_ty hNN fo.1 fo.2 rfl).2 rfl).2 rfl).1 (st_ty hNN (st_ty hNN (st_ty hNN fo.1 fo.2 rfl).1 (st_ty hNN fo.1 fo.2 rfl).2 rfl).1 (st_ty hNN (st_ty hNN fo.1 fo.2 rfl).1 (st_ty hNN fo.1 fo.2 rfl).2 rfl).2 rfl).2 hi d_Asm_writeAll_62 ?_
      refine lv_icmp_ne (tgt := 70) hx hb d_Asm_writeAll_63 (by decide) (fun c19 => ?_) (fun c19 => ?_)
      · have hw := hw.1 c19
        refine lv_iconst (v := 0) hx hb d_Asm_writeAll_70 (by decide) ?_
        exact t_Asm_writeAll_71 hx hb hml hown hT hK hN hA hRf hRl hE hret hs_Asm_writeAll hs_Asm_writeGroup hs_Asm_writeOne hDf hDl hrec14 ad NN cells slots o l1 l2 l3 l4 0 k16 n17 x18 H locs ls hNN hag hRc hRs fo hw hW hS (lv_sub hl [0, 1, 2, 3, 4] rfl)
      · have hw := hw.2 c19
        refine lv_iconst (v := 1) hx hb d_Asm_writeAll_66 (by decide) ?_
        refine lv_goto (tgt := 71) hx hb d_Asm_writeAll_67 (by decide) ?_
        exact t_Asm_writeAll_71 hx hb hml hown hT hK hN hA hRf hRl hE hret hs_Asm_writeAll hs_Asm_writeGroup hs_Asm_writeOne hDf hDl hrec14 ad NN cells slots o l1 l2 l3 l4 1 k16 n17 x18 H locs ls hNN hag hRc hRs fo hw hW hS (lv_sub hl [0, 1, 2, 3, 4] rfl)
set_option maxHeartbeats 4000000 in
set_option maxRecDepth 100000 in
theorem tl_Asm_writeAll_14 {p : Program} {l : Launch} {e : Env} {R : Room} {s : State} {m : MethodId} {args : Array Value} {below : List Frame} {meth : Method} {c : Code} {Q : State → Prop} {dC : Nat → ClassId} {dI : Nat → Nat → Nat} {cI cB cJ cZ : ClassId} {A : Nat → Prop} {E : Heap} {tM tC : Nat} {kK kV : Nat → Nat} {ad0 : Nat → Nat} {NN0 : Nat} {post : St → Prop} {self_Asm_writeAll : (St → Prop) → Nat → Int32 → Int32 → Nat → Nat → St → Prop} {self_Asm_writeGroup : (St → Prop) → Nat → Int32 → Int32 → Nat → Nat → St → Prop} {self_Asm_writeOne : (St → Prop) → Nat → Int32 → Int32 → Nat → Nat → St → Prop} {fd ld : Nat} (hx : p.tables.exec = Jvm.exec) (hb : c.code = b_Asm_writeAll) (hml : c.maxLocals = 5) (hown : s.vm.findClass R_Asm = some m.cls) (hT : ∀ w ∈ TG, w.before args s = true) (hK : va_K (dC, dI) CL (TY cI cB cJ cZ) s) (hN : NW s) (hA : ∀ q : Nat, s.heap.size ≤ q → A q) (hRf : 6 ≤ R.frames) (hRl : 290 ≤ R.locals) (hE : CE E tM tC kK kV A s) (hret : ∀ (ad : Nat → Nat) (NN cells slots : Nat) (x : St) (H : Heap) (locs : List Loc) (pc : Nat) (ls : Array Slot), decode b_Asm_writeAll pc = .ok (.return_, 1) → (NN0 ≤ NN ∧ ∀ o : Nat, o < NN0 → ad o = ad0 o) → cells ≤ R.cells → slots ≤ R.slots → post x → Wd dC dI cI cB cJ cZ ad stC kcC NN A x H → va_S A s.heap H locs → W p l e R s m args below meth c H locs cells slots Q (F0 m pc ls [])) (hs_Asm_writeAll : ∀ (ad : Nat → Nat) (NN : Nat), 152 ≤ NN → ∀ (sz : Nat) (o : Nat) (l1 : Int32) (l2 : Int32) (kb : Nat) (nb : Nat) (x : St), (o < NN ∧ kcC o = 11) → ∀ (post : St → Prop), self_Asm_writeAll post o l1 l2 kb nb x → Met l y_Asm_writeAll (wsOf y_Asm_writeAll b_Asm_writeAll 5 (none)) ({ frames := fd, cells := kb, slots := nb, locals := ld }) (va_Pc [.ref (ad o), .int l1, .int l2] (PVc dC dI cI cB cJ cZ ad stC kcC NN E tM tC kK kV sz x)) (va_Qv (fun (u : St × (Nat → Nat) × Nat) => post u.1) (fun u t => Wd dC dI cI cB cJ cZ u.2.1 stC kcC u.2.2 (va_A (pic ad stC kcC NN cI cB cJ cZ x) sz) u.1 t.heap ∧ NN ≤ u.2.2 ∧ ∀ o : Nat, o < NN → u.2.1 o = ad o) (va_A (pic ad stC kcC NN cI cB cJ cZ x) sz)) kb nb (va_A (pic ad stC kcC NN cI cB cJ cZ x) sz)) (hs_Asm_writeGroup : ∀ (ad : Nat → Nat) (NN : Nat), 152 ≤ NN → ∀ (sz : Nat) (o : Nat) (l1 : Int32) (l2 : Int32) (kb : Nat) (nb : Nat) (x : St), (o < NN ∧ kcC o = 11) → ∀ (post : St → Prop), self_Asm_writeGroup post o l1 l2 kb nb x → Met l y_Asm_writeGroup (wsOf y_Asm_writeGroup b_Asm_writeGroup 7 (none)) ({ frames := fd, cells := kb, slots := nb, locals := ld }) (va_Pc [.ref (ad o), .int l1, .int l2] (PVc dC dI cI cB cJ cZ ad stC kcC NN E tM tC kK kV sz x)) (va_Qv (fun (u : St × (Nat → Nat) × Nat) => post u.1) (fun u t => Wd dC dI cI cB cJ cZ u.2.1 stC kcC u.2.2 (va_A (pic ad stC kcC NN cI cB cJ cZ x) sz) u.1 t.heap ∧ NN ≤ u.2.2 ∧ ∀ o : Nat, o < NN → u.2.1 o = ad o) (va_A (pic ad stC kcC NN cI cB cJ cZ x) sz)) kb nb (va_A (pic ad stC kcC NN cI cB cJ cZ x) sz)) (hs_Asm_writeOne : ∀ (ad : Nat → Nat) (NN : Nat), 152 ≤ NN → ∀ (sz : Nat) (o : Nat) (l1 : Int32) (l2 : Int32) (kb : Nat) (nb : Nat) (x : St), (o < NN ∧ kcC o = 11) → ∀ (post : St → Prop), self_Asm_writeOne post o l1 l2 kb nb x → Met l y_Asm_writeOne (wsOf y_Asm_writeOne b_Asm_writeOne 7 (none)) ({ frames := fd, cells := kb, slots := nb, locals := ld }) (va_Pc [.ref (ad o), .int l1, .int l2] (PVc dC dI cI cB cJ cZ ad stC kcC NN E tM tC kK kV sz x)) (va_Qv (fun (u : St × (Nat → Nat) × Nat) => post u.1) (fun u t => Wd dC dI cI cB cJ cZ u.2.1 stC kcC u.2.2 (va_A (pic ad stC kcC NN cI cB cJ cZ x) sz) u.1 t.heap ∧ NN ≤ u.2.2 ∧ ∀ o : Nat, o < NN → u.2.1 o = ad o) (va_A (pic ad stC kcC NN cI cB cJ cZ x) sz)) kb nb (va_A (pic ad stC kcC NN cI cB cJ cZ x) sz)) (hDf : fd + 1 ≤ R.frames) (hDl : 26 + ld ≤ R.locals)  : ∀ n : Nat, ∀ (ad : Nat → Nat) (NN cells slots : Nat) (o : Nat) (l1 : Int32) (l2 : Int32) (l3 : Int32) (l4 : Int32) (kb : Nat) (nb : Nat) (x : St) (H : Heap) (locs : List Loc) (ls : Array Slot), (152 ≤ NN) → (NN0 ≤ NN ∧ ∀ o : Nat, o < NN0 → ad o = ad0 o) → (cells + kb ≤ R.cells) → (slots + nb ≤ R.slots) → (o < NN ∧ kcC o = 11) → wl_Asm_writeAll_14 post self_Asm_writeAll self_Asm_writeGroup self_Asm_writeOne n o l1 l2 l3 l4 kb nb x → Wd dC dI cI cB cJ cZ ad stC kcC NN A x H → va_S A s.heap H locs → lv_has ls 5 [(0, .ref (ad o)), (1, .int l1), (2, .int l2), (3, .int l3), (4, .int l4)] → W p l e R s m args below meth c H locs cells slots Q (F0 m 14 ls []) := by
  intro n
  induction n with
  | zero => intro ad NN cells slots o l1 l2 l3 l4 kb nb x H locs ls hNN hag hRc hRs fo hw; exact hw.elim
  | succ n ih => intro ad NN cells slots o l1 l2 l3 l4 kb nb x H locs ls hNN hag hRc hRs fo hw hW hS hl; exact t_Asm_writeAll_14 hx hb hml hown hT hK hN hA hRf hRl hE hret hs_Asm_writeAll hs_Asm_writeGroup hs_Asm_writeOne hDf hDl  ih ad NN cells slots o l1 l2 l3 l4 kb nb x H locs ls hNN hag hRc hRs fo hw hW hS hl
set_option maxRecDepth 100000 in
set_option maxHeartbeats 4000000 in
set_option maxRecDepth 100000 in
theorem t_Asm_writeAll_e {p : Program} {l : Launch} {e : Env} {R : Room} {s : State} {m : MethodId} {args : Array Value} {below : List Frame} {meth : Method} {c : Code} {Q : State → Prop} {dC : Nat → ClassId} {dI : Nat → Nat → Nat} {cI cB cJ cZ : ClassId} {A : Nat → Prop} {E : Heap} {tM tC : Nat} {kK kV : Nat → Nat} {ad0 : Nat → Nat} {NN0 : Nat} {post : St → Prop} {self_Asm_writeAll : (St → Prop) → Nat → Int32 → Int32 → Nat → Nat → St → Prop} {self_Asm_writeGroup : (St → Prop) → Nat → Int32 → Int32 → Nat → Nat → St → Prop} {self_Asm_writeOne : (St → Prop) → Nat → Int32 → Int32 → Nat → Nat → St → Prop} {fd ld : Nat} (hx : p.tables.exec = Jvm.exec) (hb : c.code = b_Asm_writeAll) (hml : c.maxLocals = 5) (hown : s.vm.findClass R_Asm = some m.cls) (hT : ∀ w ∈ TG, w.before args s = true) (hK : va_K (dC, dI) CL (TY cI cB cJ cZ) s) (hN : NW s) (hA : ∀ q : Nat, s.heap.size ≤ q → A q) (hRf : 6 ≤ R.frames) (hRl : 290 ≤ R.locals) (hE : CE E tM tC kK kV A s) (hret : ∀ (ad : Nat → Nat) (NN cells slots : Nat) (x : St) (H : Heap) (locs : List Loc) (pc : Nat) (ls : Array Slot), decode b_Asm_writeAll pc = .ok (.return_, 1) → (NN0 ≤ NN ∧ ∀ o : Nat, o < NN0 → ad o = ad0 o) → cells ≤ R.cells → slots ≤ R.slots → post x → Wd dC dI cI cB cJ cZ ad stC kcC NN A x H → va_S A s.heap H locs → W p l e R s m args below meth c H locs cells slots Q (F0 m pc ls [])) (hs_Asm_writeAll : ∀ (ad : Nat → Nat) (NN : Nat), 152 ≤ NN → ∀ (sz : Nat) (o : Nat) (l1 : Int32) (l2 : Int32) (kb : Nat) (nb : Nat) (x : St), (o < NN ∧ kcC o = 11) → ∀ (post : St → Prop), self_Asm_writeAll post o l1 l2 kb nb x → Met l y_Asm_writeAll (wsOf y_Asm_writeAll b_Asm_writeAll 5 (none)) ({ frames := fd, cells := kb, slots := nb, locals := ld }) (va_Pc [.ref (ad o), .int l1, .int l2] (PVc dC dI cI cB cJ cZ ad stC kcC NN E tM tC kK kV sz x)) (va_Qv (fun (u : St × (Nat → Nat) × Nat) => post u.1) (fun u t => Wd dC dI cI cB cJ cZ u.2.1 stC kcC u.2.2 (va_A (pic ad stC kcC NN cI cB cJ cZ x) sz) u.1 t.heap ∧ NN ≤ u.2.2 ∧ ∀ o : Nat, o < NN → u.2.1 o = ad o) (va_A (pic ad stC kcC NN cI cB cJ cZ x) sz)) kb nb (va_A (pic ad stC kcC NN cI cB cJ cZ x) sz)) (hs_Asm_writeGroup : ∀ (ad : Nat → Nat) (NN : Nat), 152 ≤ NN → ∀ (sz : Nat) (o : Nat) (l1 : Int32) (l2 : Int32) (kb : Nat) (nb : Nat) (x : St), (o < NN ∧ kcC o = 11) → ∀ (post : St → Prop), self_Asm_writeGroup post o l1 l2 kb nb x → Met l y_Asm_writeGroup (wsOf y_Asm_writeGroup b_Asm_writeGroup 7 (none)) ({ frames := fd, cells := kb, slots := nb, locals := ld }) (va_Pc [.ref (ad o), .int l1, .int l2] (PVc dC dI cI cB cJ cZ ad stC kcC NN E tM tC kK kV sz x)) (va_Qv (fun (u : St × (Nat → Nat) × Nat) => post u.1) (fun u t => Wd dC dI cI cB cJ cZ u.2.1 stC kcC u.2.2 (va_A (pic ad stC kcC NN cI cB cJ cZ x) sz) u.1 t.heap ∧ NN ≤ u.2.2 ∧ ∀ o : Nat, o < NN → u.2.1 o = ad o) (va_A (pic ad stC kcC NN cI cB cJ cZ x) sz)) kb nb (va_A (pic ad stC kcC NN cI cB cJ cZ x) sz)) (hs_Asm_writeOne : ∀ (ad : Nat → Nat) (NN : Nat), 152 ≤ NN → ∀ (sz : Nat) (o : Nat) (l1 : Int32) (l2 : Int32) (kb : Nat) (nb : Nat) (x : St), (o < NN ∧ kcC o = 11) → ∀ (post : St → Prop), self_Asm_writeOne post o l1 l2 kb nb x → Met l y_Asm_writeOne (wsOf y_Asm_writeOne b_Asm_writeOne 7 (none)) ({ frames := fd, cells := kb, slots := nb, locals := ld }) (va_Pc [.ref (ad o), .int l1, .int l2] (PVc dC dI cI cB cJ cZ ad stC kcC NN E tM tC kK kV sz x)) (va_Qv (fun (u : St × (Nat → Nat) × Nat) => post u.1) (fun u t => Wd dC dI cI cB cJ cZ u.2.1 stC kcC u.2.2 (va_A (pic ad stC kcC NN cI cB cJ cZ x) sz) u.1 t.heap ∧ NN ≤ u.2.2 ∧ ∀ o : Nat, o < NN → u.2.1 o = ad o) (va_A (pic ad stC kcC NN cI cB cJ cZ x) sz)) kb nb (va_A (pic ad stC kcC NN cI cB cJ cZ x) sz)) (hDf : fd + 1 ≤ R.frames) (hDl : 26 + ld ≤ R.locals) : ∀ (ad : Nat → Nat) (NN cells slots : Nat) (o : Nat) (l1 : Int32) (l2 : Int32) (kb : Nat) (nb : Nat) (x : St) (H : Heap) (locs : List Loc) (ls : Array Slot), (152 ≤ NN) → (NN0 ≤ NN ∧ ∀ o : Nat, o < NN0 → ad o = ad0 o) → (cells + kb ≤ R.cells) → (slots + nb ≤ R.slots) → (o < NN ∧ kcC o = 11) → wb_Asm_writeAll post self_Asm_writeAll self_Asm_writeGroup self_Asm_writeOne o l1 l2 kb nb x → Wd dC dI cI cB cJ cZ ad stC kcC NN A x H → va_S A s.heap H locs → lv_has ls 5 [(0, .ref (ad o)), (1, .int l1), (2, .int l2)] → W p l e R s m args below meth c H locs cells slots Q (F0 m 0 ls []) := by
  intro ad NN cells slots o l1 l2 kb nb x H locs ls hNN hag hRc hRs fo hw hW hS hl
  unfold wb_Asm_writeAll at hw
  refine lv_aload_n hx hb d_Asm_writeAll_0 rfl (lv_at hl 0 rfl) ?_
  refine w_getf (q := (stC o 0)) (k := 0) (t := 11) (C := R_Asm) (T := F_Asm) (N := 4) hx hb hT hown hK hW fo.1 fo.2 (by decide) in_Asm rfl rfl (by decide) rfl fr_Asm_0 w_3_221 d_Asm_writeAll_1 rfl ?_
  refine lv_bipush (v := 91) hx hb d_Asm_writeAll_4 (by decide) ?_
  obtain ⟨k20, n21, k22, n23, ek20, en21, hw⟩ := hw
  have hF := hW.free hS hA
  refine va_callv (va_runV (C := R_Snk) (As := [.int 91]) (rest := []) ⟨hx, hb, hml, hown, hT⟩ (k_Snk_put l dC dI cI cB cJ cZ ad NN E tM tC kK kV hNN H.size (stC o 0) 91 k20 n21 x (st_ty hNN fo.1 fo.2 rfl) hw) ⟨callB_of 1 hT (gwt_in w_4_52) rfl rfl rfl (hT _ w_1_2) (hT _ w_7_91) (by decide +kernel) ⟨Nat.le_trans (Nat.le_of_ble_eq_true rfl) hRf, Nat.le_trans (Nat.le_of_ble_eq_true rfl) hRl⟩, hT _ w_4_50, hT _ w_4_51⟩ ⟨PVc.blind, va_recv hK hW.1 (ci := 1) (q0 := (stC o 0)) rfl (pic_obj (st_ty hNN fo.1 fo.2 rfl).1 (st_ty hNN fo.1 fo.2 rfl).2 (by decide)), PVc.at _ hW hK hN hE hS hF⟩ rfl rfl hl.1 rfl (lv_room (Nat.le_of_ble_eq_true rfl)) d_Asm_writeAll_6 ⟨show cells + k20 ≤ R.cells by omega, show slots + n21 ≤ R.slots by omega⟩) hS (fun q _ h => hF q h) hF (fun  x24 t H locs ht hvm hw hB hz1 hk1 hS => ?_)
  obtain ⟨x24, ad, NN⟩ := x24
  obtain ⟨hB, hle, hg⟩ := hB
  try dsimp only at hw hB hle hg
  have hW := Wd.back hB ht hF
  rw [← hg o fo.1] at hl
  have fo : o < NN ∧ kcC o = 11 := ⟨Nat.lt_of_lt_of_le fo.1 hle, fo.2⟩
  have hag : NN0 ≤ NN ∧ ∀ o : Nat, o < NN0 → ad o = ad0 o := ⟨Nat.le_trans hag.1 hle, fun o h => (hg o (Nat.lt_of_lt_of_le h hag.1)).trans (hag.2 o h)⟩
  have hNN : 152 ≤ NN := Nat.le_trans hNN hle
  clear hg hle
  obtain ⟨cells, ec⟩ : ∃ z, z = cells + k20 := ⟨_, rfl⟩
  obtain ⟨slots, es⟩ : ∃ z, z = slots + n21 := ⟨_, rfl⟩
  first | rw [← ec, ← es] | rw [Nat.add_zero, Nat.add_zero, ← ec, ← es]
  have hRc : cells + k22 ≤ R.cells := by omega
  have hRs : slots + n23 ≤ R.slots := by omega
  clear ec es hB ht hF hz1 hk1 hvm ek20 en21
  refine lv_iconst (v := 1) hx hb d_Asm_writeAll_9 (by decide) ?_
  refine lv_istore_n (lv' := [(3, .int 1), (0, .ref (ad o)), (1, .int l1), (2, .int l2)]) hx hb d_Asm_writeAll_10 rfl hl (by decide) rfl (fun ls hl => ?_)
  refine lv_iconst (v := 0) hx hb d_Asm_writeAll_11 (by decide) ?_
  refine lv_istore (lv' := [(4, .int 0), (3, .int 1), (0, .ref (ad o)), (1, .int l1), (2, .int l2)]) hx hb d_Asm_writeAll_12 hl (by decide) rfl (fun ls hl => ?_)
  obtain ⟨n, hw⟩ := hw
  exact tl_Asm_writeAll_14 hx hb hml hown hT hK hN hA hRf hRl hE hret hs_Asm_writeAll hs_Asm_writeGroup hs_Asm_writeOne hDf hDl  n ad NN cells slots o l1 l2 1 0 k22 n23 x24 H locs ls hNN hag hRc hRs fo hw hW hS (lv_sub hl [2, 3, 4, 1, 0] rfl)
set_option maxRecDepth 100000 in
set_option maxHeartbeats 4000000 in
set_option maxRecDepth 100000 in
theorem t_Asm_writeGroup_189 {p : Program} {l : Launch} {e : Env} {R : Room} {s : State} {m : MethodId} {args : Array Value} {below : List Frame} {meth : Method} {c : Code} {Q : State → Prop} {dC : Nat → ClassId} {dI : Nat → Nat → Nat} {cI cB cJ cZ : ClassId} {A : Nat → Prop} {E : Heap} {tM tC : Nat} {kK kV : Nat → Nat} {ad0 : Nat → Nat} {NN0 : Nat} {post : St → Prop} {self_Asm_writeAll : (St → Prop) → Nat → Int32 → Int32 → Nat → Nat → St → Prop} {self_Asm_writeGroup : (St → Prop) → Nat → Int32 → Int32 → Nat → Nat → St → Prop} {self_Asm_writeOne : (St → Prop) → Nat → Int32 → Int32 → Nat → Nat → St → Prop} {fd ld : Nat} {rec41 : Nat → Int32 → Int32 → Nat → Int32 → Int32 → Int32 → Nat → Nat → St → Prop} (hx : p.tables.exec = Jvm.exec) (hb : c.code = b_Asm_writeGroup) (hml : c.maxLocals = 7) (hown : s.vm.findClass R_Asm = some m.cls) (hT : ∀ w ∈ TG, w.before args s = true) (hK : va_K (dC, dI) CL (TY cI cB cJ cZ) s) (hN : NW s) (hA : ∀ q : Nat, s.heap.size ≤ q → A q) (hRf : 6 ≤ R.frames) (hRl : 290 ≤ R.locals) (hE : CE E tM tC kK kV A s) (hret : ∀ (ad : Nat → Nat) (NN cells slots : Nat) (x : St) (H : Heap) (locs : List Loc) (pc : Nat) (ls : Array Slot), decode b_Asm_writeGroup pc = .ok (.return_, 1) → (NN0 ≤ NN ∧ ∀ o : Nat, o < NN0 → ad o = ad0 o) → cells ≤ R.cells → slots ≤ R.slots → post x → Wd dC dI cI cB cJ cZ ad stC kcC NN A x H → va_S A s.heap H locs → W p l e R s m args below meth c H locs cells slots Q (F0 m pc ls [])) (hs_Asm_writeAll : ∀ (ad : Nat → Nat) (NN : Nat), 152 ≤ NN → ∀ (sz : Nat) (o : Nat) (l1 : Int32) (l2 : Int32) (kb : Nat) (nb : Nat) (x : St), (o < NN ∧ kcC o = 11) → ∀ (post : St → Prop), self_Asm_writeAll post o l1 l2 kb nb x → Met l y_Asm_writeAll (wsOf y_Asm_writeAll b_Asm_writeAll 5 (none)) ({ frames := fd, cells := kb, slots := nb, locals := ld }) (va_Pc [.ref (ad o), .int l1, .int l2] (PVc dC dI cI cB cJ cZ ad stC kcC NN E tM tC kK kV sz x)) (va_Qv (fun (u : St × (Nat → Nat) × Nat) => post u.1) (fun u t => Wd dC dI cI cB cJ cZ u.2.1 stC kcC u.2.2 (va_A (pic ad stC kcC NN cI cB cJ cZ x) sz) u.1 t.heap ∧ NN ≤ u.2.2 ∧ ∀ o : Nat, o < NN → u.2.1 o = ad o) (va_A (pic ad stC kcC NN cI cB cJ cZ x) sz)) kb nb (va_A (pic ad stC kcC NN cI cB cJ cZ x) sz)) (hs_Asm_writeGroup : ∀ (ad : Nat → Nat) (NN : Nat), 152 ≤ NN → ∀ (sz : Nat) (o : Nat) (l1 : Int32) (l2 : Int32) (kb : Nat) (nb : Nat) (x : St), (o < NN ∧ kcC o = 11) → ∀ (post : St → Prop), self_Asm_writeGroup post o l1 l2 kb nb x → Met l y_Asm_writeGroup (wsOf y_Asm_writeGroup b_Asm_writeGroup 7 (none)) ({ frames := fd, cells := kb, slots := nb, locals := ld }) (va_Pc [.ref (ad o), .int l1, .int l2] (PVc dC dI cI cB cJ cZ ad stC kcC NN E tM tC kK kV sz x)) (va_Qv (fun (u : St × (Nat → Nat) × Nat) => post u.1) (fun u t => Wd dC dI cI cB cJ cZ u.2.1 stC kcC u.2.2 (va_A (pic ad stC kcC NN cI cB cJ cZ x) sz) u.1 t.heap ∧ NN ≤ u.2.2 ∧ ∀ o : Nat, o < NN → u.2.1 o = ad o) (va_A (pic ad stC kcC NN cI cB cJ cZ x) sz)) kb nb (va_A (pic ad stC kcC NN cI cB cJ cZ x) sz)) (hs_Asm_writeOne : ∀ (ad : Nat → Nat) (NN : Nat), 152 ≤ NN → ∀ (sz : Nat) (o : Nat) (l1 : Int32) (l2 : Int32) (kb : Nat) (nb : Nat) (x : St), (o < NN ∧ kcC o = 11) → ∀ (post : St → Prop), self_Asm_writeOne post o l1 l2 kb nb x → Met l y_Asm_writeOne (wsOf y_Asm_writeOne b_Asm_writeOne 7 (none)) ({ frames := fd, cells := kb, slots := nb, locals := ld }) (va_Pc [.ref (ad o), .int l1, .int l2] (PVc dC dI cI cB cJ cZ ad stC kcC NN E tM tC kK kV sz x)) (va_Qv (fun (u : St × (Nat → Nat) × Nat) => post u.1) (fun u t => Wd dC dI cI cB cJ cZ u.2.1 stC kcC u.2.2 (va_A (pic ad stC kcC NN cI cB cJ cZ x) sz) u.1 t.heap ∧ NN ≤ u.2.2 ∧ ∀ o : Nat, o < NN → u.2.1 o = ad o) (va_A (pic ad stC kcC NN cI cB cJ cZ x) sz)) kb nb (va_A (pic ad stC kcC NN cI cB cJ cZ x) sz)) (hDf : fd + 1 ≤ R.frames) (hDl : 26 + ld ≤ R.locals) (hrec41 : ∀ (ad : Nat → Nat) (NN cells slots : Nat) (o : Nat) (l1 : Int32) (l2 : Int32) (l3 : Nat) (l4 : Int32) (l5 : Int32) (l6 : Int32) (kb : Nat) (nb : Nat) (x : St) (H : Heap) (locs : List Loc) (ls : Array Slot), (152 ≤ NN) → (NN0 ≤ NN ∧ ∀ o : Nat, o < NN0 → ad o = ad0 o) → (cells + kb ≤ R.cells) → (slots + nb ≤ R.slots) → (o < NN ∧ kcC o = 11) → (l3 < NN ∧ kcC l3 = 3) → rec41 o l1 l2 l3 l4 l5 l6 kb nb x → Wd dC dI cI cB cJ cZ ad stC kcC NN A x H → va_S A s.heap H locs → lv_has ls 7 [(0, .ref (ad o)), (1, .int l1), (2, .int l2), (3, .ref (ad l3)), (4, .int l4), (5, .int l5), (6, .int l6)] → W p l e R s m args below meth c H locs cells slots Q (F0 m 41 ls [])) : ∀ (ad : Nat → Nat) (NN cells slots : Nat) (o : Nat) (l1 : Int32) (l2 : Int32) (l3 : Nat) (l4 : Int32) (l5 : Int32) (l6 : Int32) (kb : Nat) (nb : Nat) (x : St) (H : Heap) (locs : List Loc) (ls : Array Slot), (152 ≤ NN) → (NN0 ≤ NN ∧ ∀ o : Nat, o < NN0 → ad o = ad0 o) → (cells + kb ≤ R.cells) → (slots + nb ≤ R.slots) → (o < NN ∧ kcC o = 11) → (l3 < NN ∧ kcC l3 = 3) → j_Asm_writeGroup_189 post self_Asm_writeAll self_Asm_writeGroup self_Asm_writeOne rec41 o l1 l2 l3 l4 l5 l6 kb nb x → Wd dC dI cI cB cJ cZ ad stC kcC NN A x H → va_S A s.heap H locs → lv_has ls 7 [(0, .ref (ad o)), (1, .int l1), (2, .int l2), (3, .ref (ad l3)), (4, .int l4), (5, .int l5), (6, .int l6)] → W p l e R s m args below meth c H locs cells slots Q (F0 m 189 ls []) := by
  intro ad NN cells slots o l1 l2 l3 l4 l5 l6 kb nb x H locs ls hNN hag hRc hRs fo fl3 hw hW hS hl
  unfold j_Asm_writeGroup_189 at hw
  refine lv_iinc (v := (l6 + 1)) (lv' := [(6, .int (l6 + 1)), (0, .ref (ad o)), (1, .int l1), (2, .int l2), (3, .ref (ad l3)), (4, .int l4), (5, .int l5)]) hx hb d_Asm_writeGroup_189 hl (k := 6) rfl rfl (by decide) rfl (fun ls hl => ?_)
  refine lv_goto (tgt := 41) hx hb d_Asm_writeGroup_192 (by decide) ?_
  exact hrec41 ad NN cells slots o l1 l2 l3 l4 l5 (l6 + 1) kb nb x H locs ls hNN hag hRc hRs fo fl3 hw hW hS (lv_sub hl [1, 2, 3, 4, 5, 6, 0] rfl)
set_option maxRecDepth 100000 in
set_option maxHeartbeats 4000000 in
set_option maxRecDepth 100000 in
theorem t_Asm_writeGroup_126 {p : Program} {l : Launch} {e : Env} {R : Room} {s : State} {m : MethodId} {args : Array Value} {below : List Frame} {meth : Method} {c : Code} {Q : State → Prop} {dC : Nat → ClassId} {dI : Nat → Nat → Nat} {cI cB cJ cZ : ClassId} {A : Nat → Prop} {E : Heap} {tM tC : Nat} {kK kV : Nat → Nat} {ad0 : Nat → Nat} {NN0 : Nat} {post : St → Prop} {self_Asm_writeAll : (St → Prop) → Nat → Int32 → Int32 → Nat → Nat → St → Prop} {self_Asm_writeGroup : (St → Prop) → Nat → Int32 → Int32 → Nat → Nat → St → Prop} {self_Asm_writeOne : (St → Prop) → Nat → Int32 → Int32 → Nat → Nat → St → Prop} {fd ld : Nat} {rec41 : Nat → Int32 → Int32 → Nat → Int32 → Int32 → Int32 → Nat → Nat → St → Prop} (hx : p.tables.exec = Jvm.exec) (hb : c.code = b_Asm_writeGroup) (hml : c.maxLocals = 7) (hown : s.vm.findClass R_Asm = some m.cls) (hT : ∀ w ∈ TG, w.before args s = true) (hK : va_K (dC, dI) CL (TY cI cB cJ cZ) s) (hN : NW s) (hA : ∀ q : Nat, s.heap.size ≤ q → A q) (hRf : 6 ≤ R.frames) (hRl : 290 ≤ R.locals) (hE : CE E tM tC kK kV A s) (hret : ∀ (ad : Nat → Nat) (NN cells slots : Nat) (x : St) (H : Heap) (locs : List Loc) (pc : Nat) (ls : Array Slot), decode b_Asm_writeGroup pc = .ok (.return_, 1) → (NN0 ≤ NN ∧ ∀ o : Nat, o < NN0 → ad o = ad0 o) → cells ≤ R.cells → slots ≤ R.slots → post x → Wd dC dI cI cB cJ cZ ad stC kcC NN A x H → va_S A s.heap H locs → W p l e R s m args below meth c H locs cells slots Q (F0 m pc ls [])) (hs_Asm_writeAll : ∀ (ad : Nat → Nat) (NN : Nat), 152 ≤ NN → ∀ (sz : Nat) (o : Nat) (l1 : Int32) (l2 : Int32) (kb : Nat) (nb : Nat) (x : St), (o < NN ∧ kcC o = 11) → ∀ (post : St → Prop), self_Asm_writeAll post o l1 l2 kb nb x → Met l y_Asm_writeAll (wsOf y_Asm_writeAll b_Asm_writeAll 5 (none)) ({ frames := fd, cells := kb, slots := nb, locals := ld }) (va_Pc [.ref (ad o), .int l1, .int l2] (PVc dC dI cI cB cJ cZ ad stC kcC NN E tM tC kK kV sz x)) (va_Qv (fun (u : St × (Nat → Nat) × Nat) => post u.1) (fun u t => Wd dC dI cI cB cJ cZ u.2.1 stC kcC u.2.2 (va_A (pic ad stC kcC NN cI cB cJ cZ x) sz) u.1 t.heap ∧ NN ≤ u.2.2 ∧ ∀ o : Nat, o < NN → u.2.1 o = ad o) (va_A (pic ad stC kcC NN cI cB cJ cZ x) sz)) kb nb (va_A (pic ad stC kcC NN cI cB cJ cZ x) sz)) (hs_Asm_writeGroup : ∀ (ad : Nat → Nat) (NN : Nat), 152 ≤ NN → ∀ (sz : Nat) (o : Nat) (l1 : Int32) (l2 : Int32) (kb : Nat) (nb : Nat) (x : St), (o < NN ∧ kcC o = 11) → ∀ (post : St → Prop), self_Asm_writeGroup post o l1 l2 kb nb x → Met l y_Asm_writeGroup (wsOf y_Asm_writeGroup b_Asm_writeGroup 7 (none)) ({ frames := fd, cells := kb, slots := nb, locals := ld }) (va_Pc [.ref (ad o), .int l1, .int l2] (PVc dC dI cI cB cJ cZ ad stC kcC NN E tM tC kK kV sz x)) (va_Qv (fun (u : St × (Nat → Nat) × Nat) => post u.1) (fun u t => Wd dC dI cI cB cJ cZ u.2.1 stC kcC u.2.2 (va_A (pic ad stC kcC NN cI cB cJ cZ x) sz) u.1 t.heap ∧ NN ≤ u.2.2 ∧ ∀ o : Nat, o < NN → u.2.1 o = ad o) (va_A (pic ad stC kcC NN cI cB cJ cZ x) sz)) kb nb (va_A (pic ad stC kcC NN cI cB cJ cZ x) sz)) (hs_Asm_writeOne : ∀ (ad : Nat → Nat) (NN : Nat), 152 ≤ NN → ∀ (sz : Nat) (o : Nat) (l1 : Int32) (l2 : Int32) (kb : Nat) (nb : Nat) (x : St), (o < NN ∧ kcC o = 11) → ∀ (post : St → Prop), self_Asm_writeOne post o l1 l2 kb nb x → Met l y_Asm_writeOne (wsOf y_Asm_writeOne b_Asm_writeOne 7 (none)) ({ frames := fd, cells := kb, slots := nb, locals := ld }) (va_Pc [.ref (ad o), .int l1, .int l2] (PVc dC dI cI cB cJ cZ ad stC kcC NN E tM tC kK kV sz x)) (va_Qv (fun (u : St × (Nat → Nat) × Nat) => post u.1) (fun u t => Wd dC dI cI cB cJ cZ u.2.1 stC kcC u.2.2 (va_A (pic ad stC kcC NN cI cB cJ cZ x) sz) u.1 t.heap ∧ NN ≤ u.2.2 ∧ ∀ o : Nat, o < NN → u.2.1 o = ad o) (va_A (pic ad stC kcC NN cI cB cJ cZ x) sz)) kb nb (va_A (pic ad stC kcC NN cI cB cJ cZ x) sz)) (hDf : fd + 1 ≤ R.frames) (hDl : 26 + ld ≤ R.locals) (hrec41 : ∀ (ad : Nat → Nat) (NN cells slots : Nat) (o : Nat) (l1 : Int32) (l2 : Int32) (l3 : Nat) (l4 : Int32) (l5 : Int32) (l6 : Int32) (kb : Nat) (nb : Nat) (x : St) (H : Heap) (locs : List Loc) (ls : Array Slot), (152 ≤ NN) → (NN0 ≤ NN ∧ ∀ o : Nat, o < NN0 → ad o = ad0 o) → (cells + kb ≤ R.cells) → (slots + nb ≤ R.slots) → (o < NN ∧ kcC o = 11) → (l3 < NN ∧ kcC l3 = 3) → rec41 o l1 l2 l3 l4 l5 l6 kb nb x → Wd dC dI cI cB cJ cZ ad stC kcC NN A x H → va_S A s.heap H locs → lv_has ls 7 [(0, .ref (ad o)), (1, .int l1), (2, .int l2), (3, .ref (ad l3)), (4, .int l4), (5, .int l5), (6, .int l6)] → W p l e R s m args below meth c H locs cells slots Q (F0 m 41 ls [])) : ∀ (ad : Nat → Nat) (NN cells slots : Nat) (o : Nat) (l1 : Int32) (l2 : Int32) (l3 : Nat) (l4 : Int32) (l5 : Int32) (l6 : Int32) (kb : Nat) (nb : Nat) (x : St) (H : Heap) (locs : List Loc) (ls : Array Slot), (152 ≤ NN) → (NN0 ≤ NN ∧ ∀ o : Nat, o < NN0 → ad o = ad0 o) → (cells + kb ≤ R.cells) → (slots + nb ≤ R.slots) → (o < NN ∧ kcC o = 11) → (l3 < NN ∧ kcC l3 = 3) → j_Asm_writeGroup_126 post self_Asm_writeAll self_Asm_writeGroup self_Asm_writeOne rec41 o l1 l2 l3 l4 l5 l6 kb nb x → Wd dC dI cI cB cJ cZ ad stC kcC NN A x H → va_S A s.heap H locs → lv_has ls 7 [(0, .ref (ad o)), (1, .int l1), (2, .int l2), (3, .ref (ad l3)), (4, .int l4), (5, .int l5), (6, .int l6)] → W p l e R s m args below meth c H locs cells slots Q (F0 m 126 ls []) := by
  intro ad NN cells slots o l1 l2 l3 l4 l5 l6 kb nb x H locs ls hNN hag hRc hRs fo fl3 hw hW hS hl
  unfold j_Asm_writeGroup_126 at hw
  refine lv_iconst (v := 1) hx hb d_Asm_writeGroup_126 (by decide) ?_
  refine lv_istore (lv' := [(5, .int 1), (0, .ref (ad o)), (1, .int l1), (2, .int l2), (3, .ref (ad l3)), (4, .int l4), (6, .int l6)]) hx hb d_Asm_writeGroup_127 hl (by decide) rfl (fun ls hl => ?_)
  refine lv_aload_n hx hb d_Asm_writeGroup_129 rfl (lv_at hl 1 rfl) ?_
  refine w_getf (q := (stC o 0)) (k := 0) (t := 11) (C := R_Asm) (T := F_Asm) (N := 4) hx hb hT hown hK hW fo.1 fo.2 (by decide) in_Asm rfl rfl (by decide) rfl fr_Asm_0 w_3_221 d_Asm_writeGroup_130 rfl ?_
  refine lv_aload_n hx hb d_Asm_writeGroup_133 rfl (lv_at hl 4 rfl) ?_
  refine w_getf (q := (stC l3 12)) (k := 12) (t := 3) (C := R_Sch) (T := F_Sch) (N := 13) hx hb hT hown hK hW fl3.1 fl3.2 (by decide) in_Sch rfl rfl (by decide) rfl fr_Sch_12 w_1_189 d_Asm_writeGroup_134 rfl ?_
  refine lv_iload hx hb d_Asm_writeGroup_137 (lv_at hl 6 rfl) ?_
  refine lv_bipush (v := 16) hx hb d_Asm_writeGroup_139 (by decide) ?_
  refine lv_imul hx hb d_Asm_writeGroup_141 ?_
  refine lv_aload_n hx hb d_Asm_writeGroup_142 rfl (lv_at hl 4 rfl) ?_
  refine w_getf (q := (stC l3 11)) (k := 11) (t := 3) (C := R_Sch) (T := F_Sch) (N := 13) hx hb hT hown hK hW fl3.1 fl3.2 (by decide) in_Sch rfl rfl (by decide) rfl fr_Sch_11 w_1_186 d_Asm_writeGroup_143 rfl ?_
  refine lv_iload hx hb d_Asm_writeGroup_146 (lv_at hl 6 rfl) ?_
  obtain ⟨hi, hw⟩ := hw
  refine w_iald (o := (stC l3 11)) hx hb hK hW (st_ty hNN fl3.1 fl3.2 rfl).1 (st_ty hNN fl3.1 fl3.2 rfl).2 hi d_Asm_writeGroup_148 ?_
  obtain ⟨k1, n2, k3, n4, ek1, en2, hw⟩ := hw
  have hF := hW.free hS hA
  refine va_callv (va_runV (C := R_Snk) (As := [.ref (ad (stC l3 12)), .int (l6 * 16), .int (rA x (stC l3 11) l6)]) (rest := []) ⟨hx, hb, hml, hown, hT⟩ (k_Snk_putAll l dC dI cI cB cJ cZ ad NN E tM tC kK kV hNN H.size (stC o 0) (stC l3 12) (l6 * 16) (rA x (stC l3 11) l6) k1 n2 x (st_ty hNN fo.1 fo.2 rfl) (st_ty hNN fl3.1 fl3.2 rfl) hw) ⟨callB_of 3 hT (gwt_in w_5_138) rfl rfl rfl (hT _ w_1_2) (hT _ w_7_98) (by decide +kernel) ⟨Nat.le_trans (Nat.le_of_ble_eq_true rfl) hRf, Nat.le_trans (Nat.le_of_ble_eq_true rfl) hRl⟩, hT _ w_5_136, hT _ w_5_137⟩ ⟨PVc.blind, va_recv hK hW.1 (ci := 1) (q0 := (stC o 0)) rfl (pic_obj (st_ty hNN fo.1 fo.2 rfl).1 (st_ty hNN fo.1 fo.2 rfl).2 (by decide)), PVc.at _ hW hK hN hE hS hF⟩ rfl rfl hl.1 rfl (lv_room (Nat.le_of_ble_eq_true rfl)) d_Asm_writeGroup_149 ⟨show cells + k1 ≤ R.cells by omega, show slots + n2 ≤ R.slots by omega⟩) hS (fun q _ h => hF q h) hF (fun  x5 t H locs ht hvm hw hB hz1 hk1 hS => ?_)
  obtain ⟨x5, ad, NN⟩ := x5
  obtain ⟨hB, hle, hg⟩ := hB
  try dsimp only at hw hB hle hg
  have hW := Wd.back hB ht hF
  rw [← hg o fo.1] at hl
  rw [← hg l3 fl3.1] at hl
  have fl3 : l3 < NN ∧ kcC l3 = 3 := ⟨Nat.lt_of_lt_of_le fl3.1 hle, fl3.2⟩
  have fo : o < NN ∧ kcC o = 11 := ⟨Nat.lt_of_lt_of_le fo.1 hle, fo.2⟩
  have hag : NN0 ≤ NN ∧ ∀ o : Nat, o < NN0 → ad o = ad0 o := ⟨Nat.le_trans hag.1 hle, fun o h => (hg o (Nat.lt_of_lt_of_le h hag.1)).trans (hag.2 o h)⟩
  have hNN : 152 ≤ NN := Nat.le_trans hNN hle
  clear hg hle
  obtain ⟨cells, ec⟩ : ∃ z, z = cells + k1 := ⟨_, rfl⟩
  obtain ⟨slots, es⟩ : ∃ z, z = slots + n2 := ⟨_, rfl⟩
  first | rw [← ec, ← es] | rw [Nat.add_zero, Nat.add_zero, ← ec, ← es]
  have hRc : cells + k3 ≤ R.cells := by omega
  have hRs : slots + n4 ≤ R.slots := by omega
  clear ec es hB ht hF hz1 hk1 hvm ek1 en2
  refine lv_aload_n hx hb d_Asm_writeGroup_152 rfl (lv_at hl 1 rfl) ?_
  refine w_getf (q := (stC o 0)) (k := 0) (t := 11) (C := R_Asm) (T := F_Asm) (N := 4) hx hb hT hown hK hW fo.1 fo.2 (by decide) in_Asm rfl rfl (by decide) rfl fr_Asm_0 w_3_221 d_Asm_writeGroup_153 rfl ?_
  refine lv_bipush (v := 58) hx hb d_Asm_writeGroup_156 (by decide) ?_
  obtain ⟨k6, n7, k8, n9, ek6, en7, hw⟩ := hw
  have hF := hW.free hS hA
  refine va_callv (va_runV (C := R_Snk) (As := [.int 58]) (rest := []) ⟨hx, hb, hml, hown, hT⟩ (k_Snk_put l dC dI cI cB cJ cZ ad NN E tM tC kK kV hNN H.size (stC o 0) 58 k6 n7 x5 (st_ty hNN fo.1 fo.2 rfl) hw) ⟨callB_of 1 hT (gwt_in w_4_52) rfl rfl rfl (hT _ w_1_2) (hT _ w_7_91) (by decide +kernel) ⟨Nat.le_trans (Nat.le_of_ble_eq_true rfl) hRf, Nat.le_trans (Nat.le_of_ble_eq_true rfl) hRl⟩, hT _ w_4_50, hT _ w_4_51⟩ ⟨PVc.blind, va_recv hK hW.1 (ci := 1) (q0 := (stC o 0)) rfl (pic_obj (st_ty hNN fo.1 fo.2 rfl).1 (st_ty hNN fo.1 fo.2 rfl).2 (by decide)), PVc.at _ hW hK hN hE hS hF⟩ rfl rfl hl.1 rfl (lv_room (Nat.le_of_ble_eq_true rfl)) d_Asm_writeGroup_158 ⟨show cells + k6 ≤ R.cells by omega, show slots + n7 ≤ R.slots by omega⟩) hS (fun q _ h => hF q h) hF (fun  x10 t H locs ht hvm hw hB hz1 hk1 hS => ?_)
  obtain ⟨x10, ad, NN⟩ := x10
  obtain ⟨hB, hle, hg⟩ := hB
  try dsimp only at hw hB hle hg
  have hW := Wd.back hB ht hF
  rw [← hg o fo.1] at hl
  rw [← hg l3 fl3.1] at hl
  have fl3 : l3 < NN ∧ kcC l3 = 3 := ⟨Nat.lt_of_lt_of_le fl3.1 hle, fl3.2⟩
  have fo : o < NN ∧ kcC o = 11 := ⟨Nat.lt_of_lt_of_le fo.1 hle, fo.2⟩
  have hag : NN0 ≤ NN ∧ ∀ o : Nat, o < NN0 → ad o = ad0 o := ⟨Nat.le_trans hag.1 hle, fun o h => (hg o (Nat.lt_of_lt_of_le h hag.1)).trans (hag.2 o h)⟩
  have hNN : 152 ≤ NN := Nat.le_trans hNN hle
  clear hg hle
  obtain ⟨cells, ec⟩ : ∃ z, z = cells + k6 := ⟨_, rfl⟩
  obtain ⟨slots, es⟩ : ∃ z, z = slots + n7 := ⟨_, rfl⟩
  first | rw [← ec, ← es] | rw [Nat.add_zero, Nat.add_zero, ← ec, ← es]
  have hRc : cells + k8 ≤ R.cells := by omega
  have hRs : slots + n9 ≤ R.slots := by omega
  clear ec es hB ht hF hz1 hk1 hvm ek6 en7
  refine lv_aload_n hx hb d_Asm_writeGroup_161 rfl (lv_at hl 4 rfl) ?_
  refine w_getf (q := (stC l3 2)) (k := 2) (t := 3) (C := R_Sch) (T := F_Sch) (N := 13) hx hb hT hown hK hW fl3.1 fl3.2 (by decide) in_Sch rfl rfl (by decide) rfl fr_Sch_2 w_1_142 d_Asm_writeGroup_162 rfl ?_
  refine lv_iload hx hb d_Asm_writeGroup_165 (lv_at hl 6 rfl) ?_
  obtain ⟨hi, hw⟩ := hw
  refine w_iald (o := (stC l3 2)) hx hb hK hW (st_ty hNN fl3.1 fl3.2 rfl).1 (st_ty hNN fl3.1 fl3.2 rfl).2 hi d_Asm_writeGroup_167 ?_
  refine lv_iconst (v := 2) hx hb d_Asm_writeGroup_168 (by decide) ?_
  refine lv_icmp_ne (tgt := 182) hx hb d_Asm_writeGroup_169 (by decide) (fun c11 => ?_) (fun c11 => ?_)
  · have hw := hw.1 c11
    refine lv_aload_n hx hb d_Asm_writeGroup_182 rfl (lv_at hl 1 rfl) ?_
    refine lv_iload hx hb d_Asm_writeGroup_183 (lv_at hl 6 rfl) ?_
    refine lv_iload_n hx hb d_Asm_writeGroup_185 rfl (lv_at hl 3 rfl) ?_
    obtain ⟨k12, n13, k14, n15, ek12, en13, hw⟩ := hw
    have hF := hW.free hS hA
    refine va_callv (va_runV (C := R_Asm) (As := [.int l6, .int l2]) (rest := []) ⟨hx, hb, hml, hown, hT⟩ (hs_Asm_writeOne ad NN hNN H.size o l6 l2 k12 n13 x10 fo _ hw) ⟨callB_of 2 hT (gwt_in w_7_106) rfl rfl rfl (hT _ w_1_14) (hT _ w_7_103) (by decide +kernel) ⟨hDf, Nat.le_trans (Nat.add_le_add_right (by decide) _) hDl⟩, hT _ w_7_105, hT _ ws_65⟩ ⟨PVc.blind, va_recv hK hW.1 (ci := 11) (q0 := o) rfl (pic_obj fo.1 fo.2 (by decide)), PVc.at _ hW hK hN hE hS hF⟩ rfl rfl hl.1 rfl (lv_room (Nat.le_of_ble_eq_true rfl)) d_Asm_writeGroup_186 ⟨show cells + k12 ≤ R.cells by omega, show slots + n13 ≤ R.slots by omega⟩) hS (fun q _ h => hF q h) hF (fun  x16 t H locs ht hvm hw hB hz1 hk1 hS => ?_)
    obtain ⟨x16, ad, NN⟩ := x16
    obtain ⟨hB, hle, hg⟩ := hB
    try dsimp only at hw hB hle hg
    have hW := Wd.back hB ht hF
    rw [← hg o fo.1] at hl
    rw [← hg l3 fl3.1] at hl
    have fl3 : l3 < NN ∧ kcC l3 = 3 := ⟨Nat.lt_of_lt_of_le fl3.1 hle, fl3.2⟩
    have fo : o < NN ∧ kcC o = 11 := ⟨Nat.lt_of_lt_of_le fo.1 hle, fo.2⟩
    have hag : NN0 ≤ NN ∧ ∀ o : Nat, o < NN0 → ad o = ad0 o := ⟨Nat.le_trans hag.1 hle, fun o h => (hg o (Nat.lt_of_lt_of_le h hag.1)).trans (hag.2 o h)⟩
    have hNN : 152 ≤ NN := Nat.le_trans hNN hle
    clear hg hle
    obtain ⟨cells, ec⟩ : ∃ z, z = cells + k12 := ⟨_, rfl⟩
    obtain ⟨slots, es⟩ : ∃ z, z = slots + n13 := ⟨_, rfl⟩
    first | rw [← ec, ← es] | rw [Nat.add_zero, Nat.add_zero, ← ec, ← es]
    have hRc : cells + k14 ≤ R.cells := by omega
    have hRs : slots + n15 ≤ R.slots := by omega
    clear ec es hB ht hF hz1 hk1 hvm ek12 en13
    exact t_Asm_writeGroup_189 hx hb hml hown hT hK hN hA hRf hRl hE hret hs_Asm_writeAll hs_Asm_writeGroup hs_Asm_writeOne hDf hDl hrec41 ad NN cells slots o l1 l2 l3 l4 1 l6 k14 n15 x16 H locs ls hNN hag hRc hRs fo fl3 hw hW hS (lv_sub hl [1, 2, 3, 4, 5, 0, 6] rfl)
  · have hw := hw.2 c11
    refine lv_aload_n hx hb d_Asm_writeGroup_172 rfl (lv_at hl 1 rfl) ?_
    refine lv_iload hx hb d_Asm_writeGroup_173 (lv_at hl 6 rfl) ?_
    refine lv_iload_n hx hb d_Asm_writeGroup_175 rfl (lv_at hl 3 rfl) ?_
    obtain ⟨k17, n18, k19, n20, ek17, en18, hw⟩ := hw
    have hF := hW.free hS hA
    refine va_callv (va_runV (C := R_Asm) (As := [.int l6, .int l2]) (rest := []) ⟨hx, hb, hml, hown, hT⟩ (hs_Asm_writeAll ad NN hNN H.size o l6 l2 k17 n18 x10 fo _ hw) ⟨callB_of 2 hT (gwt_in w_7_102) rfl rfl rfl (hT _ w_1_14) (hT _ w_7_99) (by decide +kernel) ⟨hDf, Nat.le_trans (Nat.add_le_add_right (by decide) _) hDl⟩, hT _ w_7_101, hT _ ws_64⟩ ⟨PVc.blind, va_recv hK hW.1 (ci := 11) (q0 := o) rfl (pic_obj fo.1 fo.2 (by decide)), PVc.at _ hW hK hN hE hS hF⟩ rfl rfl hl.1 rfl (lv_room (Nat.le_of_ble_eq_true rfl)) d_Asm_writeGroup_176 ⟨show cells + k17 ≤ R.cells by omega, show slots + n18 ≤ R.slots by omega⟩) hS (fun q _ h => hF q h) hF (fun  x21 t H locs ht hvm hw hB hz1 hk1 hS => ?_)
    obtain ⟨x21, ad, NN⟩ := x21
    obtain ⟨hB, hle, hg⟩ := hB
    try dsimp only at hw hB hle hg
    have hW := Wd.back hB ht hF
    rw [← hg o fo.1] at hl
    rw [← hg l3 fl3.1] at hl
    have fl3 : l3 < NN ∧ kcC l3 = 3 := ⟨Nat.lt_of_lt_of_le fl3.1 hle, fl3.2⟩
    have fo : o < NN ∧ kcC o = 11 := ⟨Nat.lt_of_lt_of_le fo.1 hle, fo.2⟩
    have hag : NN0 ≤ NN ∧ ∀ o : Nat, o < NN0 → ad o = ad0 o := ⟨Nat.le_trans hag.1 hle, fun o h => (hg o (Nat.lt_of_lt_of_le h hag.1)).trans (hag.2 o h)⟩
    have hNN : 152 ≤ NN := Nat.le_trans hNN hle
    clear hg hle
    obtain ⟨cells, ec⟩ : ∃ z, z = cells + k17 := ⟨_, rfl⟩
    obtain ⟨slots, es⟩ : ∃ z, z = slots + n18 := ⟨_, rfl⟩
    first | rw [← ec, ← es] | rw [Nat.add_zero, Nat.add_zero, ← ec, ← es]
    have hRc : cells + k19 ≤ R.cells := by omega
    have hRs : slots + n20 ≤ R.slots := by omega
    clear ec es hB ht hF hz1 hk1 hvm ek17 en18
    refine lv_goto (tgt := 189) hx hb d_Asm_writeGroup_179 (by decide) ?_
    exact t_Asm_writeGroup_189 hx hb hml hown hT hK hN hA hRf hRl hE hret hs_Asm_writeAll hs_Asm_writeGroup hs_Asm_writeOne hDf hDl hrec41 ad NN cells slots o l1 l2 l3 l4 1 l6 k19 n20 x21 H locs ls hNN hag hRc hRs fo fl3 hw hW hS (lv_sub hl [1, 2, 3, 4, 5, 0, 6] rfl)
set_option maxRecDepth 100000 in
set_option maxHeartbeats 4000000 in
set_option maxRecDepth 100000 in
theorem t_Asm_writeGroup_41 {p : Program} {l : Launch} {e : Env} {R : Room} {s : State} {m : MethodId} {args : Array Value} {below : List Frame} {meth : Method} {c : Code} {Q : State → Prop} {dC : Nat → ClassId} {dI : Nat → Nat → Nat} {cI cB cJ cZ : ClassId} {A : Nat → Prop} {E : Heap} {tM tC : Nat} {kK kV : Nat → Nat} {ad0 : Nat → Nat} {NN0 : Nat} {post : St → Prop} {self_Asm_writeAll : (St → Prop) → Nat → Int32 → Int32 → Nat → Nat → St → Prop} {self_Asm_writeGroup : (St → Prop) → Nat → Int32 → Int32 → Nat → Nat → St → Prop} {self_Asm_writeOne : (St → Prop) → Nat → Int32 → Int32 → Nat → Nat → St → Prop} {fd ld : Nat} {rec41 : Nat → Int32 → Int32 → Nat → Int32 → Int32 → Int32 → Nat → Nat → St → Prop} (hx : p.tables.exec = Jvm.exec) (hb : c.code = b_Asm_writeGroup) (hml : c.maxLocals = 7) (hown : s.vm.findClass R_Asm = some m.cls) (hT : ∀ w ∈ TG, w.before args s = true) (hK : va_K (dC, dI) CL (TY cI cB cJ cZ) s) (hN : NW s) (hA : ∀ q : Nat, s.heap.size ≤ q → A q) (hRf : 6 ≤ R.frames) (hRl : 290 ≤ R.locals) (hE : CE E tM tC kK kV A s) (hret : ∀ (ad : Nat → Nat) (NN cells slots : Nat) (x : St) (H : Heap) (locs : List Loc) (pc : Nat) (ls : Array Slot), decode b_Asm_writeGroup pc = .ok (.return_, 1) → (NN0 ≤ NN ∧ ∀ o : Nat, o < NN0 → ad o = ad0 o) → cells ≤ R.cells → slots ≤ R.slots → post x → Wd dC dI cI cB cJ cZ ad stC kcC NN A x H → va_S A s.heap H locs → W p l e R s m args below meth c H locs cells slots Q (F0 m pc ls [])) (hs_Asm_writeAll : ∀ (ad : Nat → Nat) (NN : Nat), 152 ≤ NN → ∀ (sz : Nat) (o : Nat) (l1 : Int32) (l2 : Int32) (kb : Nat) (nb : Nat) (x : St), (o < NN ∧ kcC o = 11) → ∀ (post : St → Prop), self_Asm_writeAll post o l1 l2 kb nb x → Met l y_Asm_writeAll (wsOf y_Asm_writeAll b_Asm_writeAll 5 (none)) ({ frames := fd, cells := kb, slots := nb, locals := ld }) (va_Pc [.ref (ad o), .int l1, .int l2] (PVc dC dI cI cB cJ cZ ad stC kcC NN E tM tC kK kV sz x)) (va_Qv (fun (u : St × (Nat → Nat) × Nat) => post u.1) (fun u t => Wd dC dI cI cB cJ cZ u.2.1 stC kcC u.2.2 (va_A (pic ad stC kcC NN cI cB cJ cZ x) sz) u.1 t.heap ∧ NN ≤ u.2.2 ∧ ∀ o : Nat, o < NN → u.2.1 o = ad o) (va_A (pic ad stC kcC NN cI cB cJ cZ x) sz)) kb nb (va_A (pic ad stC kcC NN cI cB cJ cZ x) sz)) (hs_Asm_writeGroup : ∀ (ad : Nat → Nat) (NN : Nat), 152 ≤ NN → ∀ (sz : Nat) (o : Nat) (l1 : Int32) (l2 : Int32) (kb : Nat) (nb : Nat) (x : St), (o < NN ∧ kcC o = 11) → ∀ (post : St → Prop), self_Asm_writeGroup post o l1 l2 kb nb x → Met l y_Asm_writeGroup (wsOf y_Asm_writeGroup b_Asm_writeGroup 7 (none)) ({ frames := fd, cells := kb, slots := nb, locals := ld }) (va_Pc [.ref (ad o), .int l1, .int l2] (PVc dC dI cI cB cJ cZ ad stC kcC NN E tM tC kK kV sz x)) (va_Qv (fun (u : St × (Nat → Nat) × Nat) => post u.1) (fun u t => Wd dC dI cI cB cJ cZ u.2.1 stC kcC u.2.2 (va_A (pic ad stC kcC NN cI cB cJ cZ x) sz) u.1 t.heap ∧ NN ≤ u.2.2 ∧ ∀ o : Nat, o < NN → u.2.1 o = ad o) (va_A (pic ad stC kcC NN cI cB cJ cZ x) sz)) kb nb (va_A (pic ad stC kcC NN cI cB cJ cZ x) sz)) (hs_Asm_writeOne : ∀ (ad : Nat → Nat) (NN : Nat), 152 ≤ NN → ∀ (sz : Nat) (o : Nat) (l1 : Int32) (l2 : Int32) (kb : Nat) (nb : Nat) (x : St), (o < NN ∧ kcC o = 11) → ∀ (post : St → Prop), self_Asm_writeOne post o l1 l2 kb nb x → Met l y_Asm_writeOne (wsOf y_Asm_writeOne b_Asm_writeOne 7 (none)) ({ frames := fd, cells := kb, slots := nb, locals := ld }) (va_Pc [.ref (ad o), .int l1, .int l2] (PVc dC dI cI cB cJ cZ ad stC kcC NN E tM tC kK kV sz x)) (va_Qv (fun (u : St × (Nat → Nat) × Nat) => post u.1) (fun u t => Wd dC dI cI cB cJ cZ u.2.1 stC kcC u.2.2 (va_A (pic ad stC kcC NN cI cB cJ cZ x) sz) u.1 t.heap ∧ NN ≤ u.2.2 ∧ ∀ o : Nat, o < NN → u.2.1 o = ad o) (va_A (pic ad stC kcC NN cI cB cJ cZ x) sz)) kb nb (va_A (pic ad stC kcC NN cI cB cJ cZ x) sz)) (hDf : fd + 1 ≤ R.frames) (hDl : 26 + ld ≤ R.locals) (hrec41 : ∀ (ad : Nat → Nat) (NN cells slots : Nat) (o : Nat) (l1 : Int32) (l2 : Int32) (l3 : Nat) (l4 : Int32) (l5 : Int32) (l6 : Int32) (kb : Nat) (nb : Nat) (x : St) (H : Heap) (locs : List Loc) (ls : Array Slot), (152 ≤ NN) → (NN0 ≤ NN ∧ ∀ o : Nat, o < NN0 → ad o = ad0 o) → (cells + kb ≤ R.cells) → (slots + nb ≤ R.slots) → (o < NN ∧ kcC o = 11) → (l3 < NN ∧ kcC l3 = 3) → rec41 o l1 l2 l3 l4 l5 l6 kb nb x → Wd dC dI cI cB cJ cZ ad stC kcC NN A x H → va_S A s.heap H locs → lv_has ls 7 [(0, .ref (ad o)), (1, .int l1), (2, .int l2), (3, .ref (ad l3)), (4, .int l4), (5, .int l5), (6, .int l6)] → W p l e R s m args below meth c H locs cells slots Q (F0 m 41 ls [])) : ∀ (ad : Nat → Nat) (NN cells slots : Nat) (o : Nat) (l1 : Int32) (l2 : Int32) (l3 : Nat) (l4 : Int32) (l5 : Int32) (l6 : Int32) (kb : Nat) (nb : Nat) (x : St) (H : Heap) (locs : List Loc) (ls : Array Slot), (152 ≤ NN) → (NN0 ≤ NN ∧ ∀ o : Nat, o < NN0 → ad o = ad0 o) → (cells + kb ≤ R.cells) → (slots + nb ≤ R.slots) → (o < NN ∧ kcC o = 11) → (l3 < NN ∧ kcC l3 = 3) → j_Asm_writeGroup_41 post self_Asm_writeAll self_Asm_writeGroup self_Asm_writeOne rec41 o l1 l2 l3 l4 l5 l6 kb nb x → Wd dC dI cI cB cJ cZ ad stC kcC NN A x H → va_S A s.heap H locs → lv_has ls 7 [(0, .ref (ad o)), (1, .int l1), (2, .int l2), (3, .ref (ad l3)), (4, .int l4), (5, .int l5), (6, .int l6)] → W p l e R s m args below meth c H locs cells slots Q (F0 m 41 ls []) := by
  intro ad NN cells slots o l1 l2 l3 l4 l5 l6 kb nb x H locs ls hNN hag hRc hRs fo fl3 hw hW hS hl
  unfold j_Asm_writeGroup_41 at hw
  refine lv_iload hx hb d_Asm_writeGroup_41 (lv_at hl 6 rfl) ?_
  refine lv_iload hx hb d_Asm_writeGroup_43 (lv_at hl 4 rfl) ?_
  refine lv_icmp_ge (tgt := 195) hx hb d_Asm_writeGroup_45 (by decide) (fun c22 => ?_) (fun c22 => ?_)
  · have hw := hw.1 c22
    refine lv_aload_n hx hb d_Asm_writeGroup_195 rfl (lv_at hl 0 rfl) ?_
    refine w_getf (q := (stC o 0)) (k := 0) (t := 11) (C := R_Asm) (T := F_Asm) (N := 4) hx hb hT hown hK hW fo.1 fo.2 (by decide) in_Asm rfl rfl (by decide) rfl fr_Asm_0 w_3_221 d_Asm_writeGroup_196 rfl ?_
    refine lv_bipush (v := 125) hx hb d_Asm_writeGroup_199 (by decide) ?_
    obtain ⟨k23, n24, k25, n26, ek23, en24, hw⟩ := hw
    have hF := hW.free hS hA
    refine va_callv (va_runV (C := R_Snk) (As := [.int 125]) (rest := []) ⟨hx, hb, hml, hown, hT⟩ (k_Snk_put l dC dI cI cB cJ cZ ad NN E tM tC kK kV hNN H.size (stC o 0) 125 k23 n24 x (st_ty hNN fo.1 fo.2 rfl) hw) ⟨callB_of 1 hT (gwt_in w_4_52) rfl rfl rfl (hT _ w_1_2) (hT _ w_7_91) (by decide +kernel) ⟨Nat.le_trans (Nat.le_of_ble_eq_true rfl) hRf, Nat.le_trans (Nat.le_of_ble_eq_true rfl) hRl⟩, hT _ w_4_50, hT _ w_4_51⟩ ⟨PVc.blind, va_recv hK hW.1 (ci := 1) (q0 := (stC o 0)) rfl (pic_obj (st_ty hNN fo.1 fo.2 rfl).1 (st_ty hNN fo.1 fo.2 rfl).2 (by decide)), PVc.at _ hW hK hN hE hS hF⟩ rfl rfl hl.1 rfl (lv_room (Nat.le_of_ble_eq_true rfl)) d_Asm_writeGroup_201 ⟨show cells + k23 ≤ R.cells by omega, show slots + n24 ≤ R.slots by omega⟩) hS (fun q _ h => hF q h) hF (fun  x27 t H locs ht hvm hw hB hz1 hk1 hS => ?_)
    obtain ⟨x27, ad, NN⟩ := x27
    obtain ⟨hB, hle, hg⟩ := hB
    try dsimp only at hw hB hle hg
    have hW := Wd.back hB ht hF
    rw [← hg o fo.1] at hl
    rw [← hg l3 fl3.1] at hl
    have fl3 : l3 < NN ∧ kcC l3 = 3 := ⟨Nat.lt_of_lt_of_le fl3.1 hle, fl3.2⟩
    have fo : o < NN ∧ kcC o = 11 := ⟨Nat.lt_of_lt_of_le fo.1 hle, fo.2⟩
    have hag : NN0 ≤ NN ∧ ∀ o : Nat, o < NN0 → ad o = ad0 o := ⟨Nat.le_trans hag.1 hle, fun o h => (hg o (Nat.lt_of_lt_of_le h hag.1)).trans (hag.2 o h)⟩
    have hNN : 152 ≤ NN := Nat.le_trans hNN hle
    clear hg hle
    obtain ⟨cells, ec⟩ : ∃ z, z = cells + k23 := ⟨_, rfl⟩
    obtain ⟨slots, es⟩ : ∃ z, z = slots + n24 := ⟨_, rfl⟩
    first | rw [← ec, ← es] | rw [Nat.add_zero, Nat.add_zero, ← ec, ← es]
    have hRc : cells + k25 ≤ R.cells := by omega
    have hRs : slots + n26 ≤ R.slots := by omega
    clear ec es hB ht hF hz1 hk1 hvm ek23 en24
    exact hret ad NN cells slots x27 H locs 204 ls d_Asm_writeGroup_204 hag (Nat.le_trans (Nat.le_add_right _ _) hRc) (Nat.le_trans (Nat.le_add_right _ _) hRs) hw hW hS
  · have hw := hw.2 c22
    refine lv_aload_n hx hb d_Asm_writeGroup_48 rfl (lv_at hl 3 rfl) ?_
    refine w_getf (q := (stC l3 4)) (k := 4) (t := 3) (C := R_Sch) (T := F_Sch) (N := 13) hx hb hT hown hK hW fl3.1 fl3.2 (by decide) in_Sch rfl rfl (by decide) rfl fr_Sch_4 w_1_154 d_Asm_writeGroup_49 rfl ?_
    refine lv_iload hx hb d_Asm_writeGroup_52 (lv_at hl 6 rfl) ?_
    obtain ⟨hi, hw⟩ := hw
    refine w_iald (o := (stC l3 4)) hx hb hK hW (st_ty hNN fl3.1 fl3.2 rfl).1 (st_ty hNN fl3.1 fl3.2 rfl).2 hi d_Asm_writeGroup_54 ?_
    refine lv_iload_n hx hb d_Asm_writeGroup_55 rfl (lv_at hl 1 rfl) ?_
    refine lv_icmp_ne (tgt := 189) hx hb d_Asm_writeGroup_56 (by decide) (fun c28 => ?_) (fun c28 => ?_)
    · have hw := hw.1 c28
      exact t_Asm_writeGroup_189 hx hb hml hown hT hK hN hA hRf hRl hE hret hs_Asm_writeAll hs_Asm_writeGroup hs_Asm_writeOne hDf hDl hrec41 ad NN cells slots o l1 l2 l3 l4 l5 l6 kb nb x H locs ls hNN hag hRc hRs fo fl3 hw hW hS (lv_sub hl [0, 1, 2, 3, 4, 5, 6] rfl)
    · have hw := hw.2 c28
      refine lv_aload_n hx hb d_Asm_writeGroup_59 rfl (lv_at hl 0 rfl) ?_
      refine w_getf (q := (stC o 3)) (k := 3) (t := 11) (C := R_Asm) (T := F_Asm) (N := 4) hx hb hT hown hK hW fo.1 fo.2 (by decide) in_Asm rfl rfl (by decide) rfl fr_Asm_3 w_3_225 d_Asm_writeGroup_60 rfl ?_
      refine lv_iload hx hb d_Asm_writeGroup_63 (lv_at hl 6 rfl) ?_
      obtain ⟨hi, hw⟩ := hw
      refine w_iald (o := (stC o 3)) hx hb hK hW (st_ty hNN fo.1 fo.2 rfl).1 (st_ty hNN fo.1 fo.2 rfl).2 hi d_Asm_writeGroup_65 ?_
      refine lv_iconst (v := (-1)) hx hb d_Asm_writeGroup_66 (by decide) ?_
      refine lv_icmp_ne (tgt := 73) hx hb d_Asm_writeGroup_67 (by decide) (fun c29 => ?_) (fun c29 => ?_)
      · have hw := hw.1 c29
        refine lv_aload_n hx hb d_Asm_writeGroup_73 rfl (lv_at hl 0 rfl) ?_
        refine w_getf (q := (stC o 1)) (k := 1) (t := 11) (C := R_Asm) (T := F_Asm) (N := 4) hx hb hT hown hK hW fo.1 fo.2 (by decide) in_Asm rfl rfl (by decide) rfl fr_Asm_1 w_3_223 d_Asm_writeGroup_74 rfl ?_
        refine w_getf (q := (stC (stC o 1) 8)) (k := 8) (t := 6) (C := R_Vlt) (T := F_Vlt) (N := 20) hx hb hT hown hK hW (st_ty hNN fo.1 fo.2 rfl).1 (st_ty hNN fo.1 fo.2 rfl).2 (by decide) in_Vlt rfl rfl (by decide) rfl fr_Vlt_8 w_2_148 d_Asm_writeGroup_77 rfl ?_
        refine lv_aload_n hx hb d_Asm_writeGroup_80 rfl (lv_at hl 0 rfl) ?_
        refine w_getf (q := (stC o 2)) (k := 2) (t := 11) (C := R_Asm) (T := F_Asm) (N := 4) hx hb hT hown hK hW fo.1 fo.2 (by decide) in_Asm rfl rfl (by decide) rfl fr_Asm_2 w_3_224 d_Asm_writeGroup_81 rfl ?_
        refine lv_aload_n hx hb d_Asm_writeGroup_84 rfl (lv_at hl 0 rfl) ?_
        refine w_getf (q := (stC o 3)) (k := 3) (t := 11) (C := R_Asm) (T := F_Asm) (N := 4) hx hb hT hown hK hW fo.1 fo.2 (by decide) in_Asm rfl rfl (by decide) rfl fr_Asm_3 w_3_225 d_Asm_writeGroup_85 rfl ?_
        refine lv_iload hx hb d_Asm_writeGroup_88 (lv_at hl 6 rfl) ?_
        obtain ⟨hi, hw⟩ := hw
        refine w_iald (o := (stC o 3)) hx hb hK hW (st_ty hNN fo.1 fo.2 rfl).1 (st_ty hNN fo.1 fo.2 rfl).2 hi d_Asm_writeGroup_90 ?_
        obtain ⟨hi, hw⟩ := hw
        refine w_iald (o := (stC o 2)) hx hb hK hW (st_ty hNN fo.1 fo.2 rfl).1 (st_ty hNN fo.1 fo.2 rfl).2 hi d_Asm_writeGroup_91 ?_
        obtain ⟨hi, hw⟩ := hw
        refine w_bald (o := (stC (stC o 1) 8)) hx hb hK hW (st_ty hNN (st_ty hNN fo.1 fo.2 rfl).1 (st_ty hNN fo.1 fo.2 rfl).2 rfl).1 (st_ty hNN (st_ty hNN fo.1 fo.2 rfl).1 (st_ty hNN fo.1 fo.2 rfl).2 rfl).2 hi d_Asm_writeGroup_92 ?_
        refine lv_aload_n hx hb d_Asm_writeGroup_93 rfl (lv_at hl 3 rfl) ?_
        refine w_getf (q := (stC l3 6)) (k := 6) (t := 3) (C := R_Sch) (T := F_Sch) (N := 13) hx hb hT hown hK hW fl3.1 fl3.2 (by decide) in_Sch rfl rfl (by decide) rfl fr_Sch_6 w_1_164 d_Asm_writeGroup_94 rfl ?_
        refine lv_iload hx hb d_Asm_writeGroup_97 (lv_at hl 6 rfl) ?_
        obtain ⟨hi, hw⟩ := hw
        refine w_iald (o := (stC l3 6)) hx hb hK hW (st_ty hNN fl3.1 fl3.2 rfl).1 (st_ty hNN fl3.1 fl3.2 rfl).2 hi d_Asm_writeGroup_99 ?_
        refine lv_icmp_ge (tgt := 112) hx hb d_Asm_writeGroup_100 (by decide) (fun c30 => ?_) (fun c30 => ?_)
        · have hw := hw.1 c30
          refine lv_iload hx hb d_Asm_writeGroup_112 (lv_at hl 5 rfl) ?_
          refine lv_if_eq (tgt := 126) hx hb d_Asm_writeGroup_114 (by decide) (fun c31 => ?_) (fun c31 => ?_)
          · have hw := hw.1 c31
            exact t_Asm_writeGroup_126 hx hb hml hown hT hK hN hA hRf hRl hE hret hs_Asm_writeAll hs_Asm_writeGroup hs_Asm_writeOne hDf hDl hrec41 ad NN cells slots o l1 l2 l3 l4 l5 l6 kb nb x H locs ls hNN hag hRc hRs fo fl3 hw hW hS (lv_sub hl [0, 1, 2, 3, 4, 5, 6] rfl)
          · have hw := hw.2 c31
            refine lv_aload_n hx hb d_Asm_writeGroup_117 rfl (lv_at hl 0 rfl) ?_
            refine w_getf (q := (stC o 0)) (k := 0) (t := 11) (C := R_Asm) (T := F_Asm) (N := 4) hx hb hT hown hK hW fo.1 fo.2 (by decide) in_Asm rfl rfl (by decide) rfl fr_Asm_0 w_3_221 d_Asm_writeGroup_118 rfl ?_
            refine lv_bipush (v := 44) hx hb d_Asm_writeGroup_121 (by decide) ?_
            obtain ⟨k32, n33, k34, n35, ek32, en33, hw⟩ := hw
            have hF := hW.free hS hA
            refine va_callv (va_runV (C := R_Snk) (As := [.int 44]) (rest := []) ⟨hx, hb, hml, hown, hT⟩ (k_Snk_put l dC dI cI cB cJ cZ ad NN E tM tC kK kV hNN H.size (stC o 0) 44 k32 n33 x (st_ty hNN fo.1 fo.2 rfl) hw) ⟨callB_of 1 hT (gwt_in w_4_52) rfl rfl rfl (hT _ w_1_2) (hT _ w_7_91) (by decide +kernel) ⟨Nat.le_trans (Nat.le_of_ble_eq_true rfl) hRf, Nat.le_trans (Nat.le_of_ble_eq_true rfl) hRl⟩, hT _ w_4_50, hT _ w_4_51⟩ ⟨PVc.blind, va_recv hK hW.1 (ci := 1) (q0 := (stC o 0)) rfl (pic_obj (st_ty hNN fo.1 fo.2 rfl).1 (st_ty hNN fo.1 fo.2 rfl).2 (by decide)), PVc.at _ hW hK hN hE hS hF⟩ rfl rfl hl.1 rfl (lv_room (Nat.le_of_ble_eq_true rfl)) d_Asm_writeGroup_123 ⟨show cells + k32 ≤ R.cells by omega, show slots + n33 ≤ R.slots by omega⟩) hS (fun q _ h => hF q h) hF (fun  x36 t H locs ht hvm hw hB hz1 hk1 hS => ?_)
            obtain ⟨x36, ad, NN⟩ := x36
            obtain ⟨hB, hle, hg⟩ := hB
            try dsimp only at hw hB hle hg
            have hW := Wd.back hB ht hF
            rw [← hg o fo.1] at hl
            rw [← hg l3 fl3.1] at hl
            have fl3 : l3 < NN ∧ kcC l3 = 3 := ⟨Nat.lt_of_lt_of_le fl3.1 hle, fl3.2⟩
            have fo : o < NN ∧ kcC o = 11 := ⟨Nat.lt_of_lt_of_le fo.1 hle, fo.2⟩
            have hag : NN0 ≤ NN ∧ ∀ o : Nat, o < NN0 → ad o = ad0 o := ⟨Nat.le_trans hag.1 hle, fun o h => (hg o (Nat.lt_of_lt_of_le h hag.1)).trans (hag.2 o h)⟩
            have hNN : 152 ≤ NN := Nat.le_trans hNN hle
            clear hg hle
            obtain ⟨cells, ec⟩ : ∃ z, z = cells + k32 := ⟨_, rfl⟩
            obtain ⟨slots, es⟩ : ∃ z, z = slots + n33 := ⟨_, rfl⟩
            first | rw [← ec, ← es] | rw [Nat.add_zero, Nat.add_zero, ← ec, ← es]
            have hRc : cells + k34 ≤ R.cells := by omega
            have hRs : slots + n35 ≤ R.slots := by omega
            clear ec es hB ht hF hz1 hk1 hvm ek32 en33
            exact t_Asm_writeGroup_126 hx hb hml hown hT hK hN hA hRf hRl hE hret hs_Asm_writeAll hs_Asm_writeGroup hs_Asm_writeOne hDf hDl hrec41 ad NN cells slots o l1 l2 l3 l4 l5 l6 k34 n35 x36 H locs ls hNN hag hRc hRs fo fl3 hw hW hS (lv_sub hl [0, 1, 2, 3, 4, 5, 6] rfl)
        · have hw := hw.2 c30
          refine lv_aload_n hx hb d_Asm_writeGroup_103 rfl (lv_at hl 0 rfl) ?_
          refine lv_iload hx hb d_Asm_writeGroup_104 (lv_at hl 6 rfl) ?_
          have hF := hW.free hS hA
          refine va_callv (va_runV (C := R_Asm) (As := [.int l6]) (rest := []) ⟨hx, hb, hml, hown, hT⟩ (k_Asm_passBy l dC dI cI cB cJ cZ ad NN E tM tC kK kV hNN H.size o l6 x fo hw) ⟨callB_of 1 hT (gwt_in w_7_96) rfl rfl rfl (hT _ w_1_14) (hT _ w_7_93) (by decide +kernel) ⟨Nat.le_trans (Nat.le_of_ble_eq_true rfl) hRf, Nat.le_trans (Nat.le_of_ble_eq_true rfl) hRl⟩, hT _ w_7_95, hT _ ws_63⟩ ⟨PVc.blind, va_recv hK hW.1 (ci := 11) (q0 := o) rfl (pic_obj fo.1 fo.2 (by decide)), PVc.at _ hW hK hN hE hS hF⟩ rfl rfl hl.1 rfl (lv_room (Nat.le_of_ble_eq_true rfl)) d_Asm_writeGroup_106 ⟨(Nat.le_trans (Nat.le_add_right _ _) hRc), (Nat.le_trans (Nat.le_add_right _ _) hRs)⟩) hS (fun q _ h => hF q h) hF (fun  x37 t H locs ht hvm hw hB hz1 hk1 hS => ?_)
          have hW := Wd.back hB ht hF
          clear hB ht hF hz1 hk1 hvm
          refine lv_goto (tgt := 189) hx hb d_Asm_writeGroup_109 (by decide) ?_
          exact t_Asm_writeGroup_189 hx hb hml hown hT hK hN hA hRf hRl hE hret hs_Asm_writeAll hs_Asm_writeGroup hs_Asm_writeOne hDf hDl hrec41 ad NN cells slots o l1 l2 l3 l4 l5 l6 kb nb x37 H locs ls hNN hag hRc hRs fo fl3 hw hW hS (lv_sub hl [0, 1, 2, 3, 4, 5, 6] rfl)
      · have hw := hw.2 c29
        refine lv_goto (tgt := 189) hx hb d_Asm_writeGroup_70 (by decide) ?_
        exact t_Asm_writeGroup_189 hx hb hml hown hT hK hN hA hRf hRl hE hret hs_Asm_writeAll hs_Asm_writeGroup hs_Asm_writeOne hDf hDl hrec41 ad NN cells slots o l1 l2 l3 l4 l5 l6 kb nb x H locs ls hNN hag hRc hRs fo fl3 hw hW hS (lv_sub hl [0, 1, 2, 3, 4, 5, 6] rfl)
set_option maxHeartbeats 4000000 in
set_option maxRecDepth 100000 in
theorem tl_Asm_writeGroup_41 {p : Program} {l : Launch} {e : Env} {R : Room} {s : State} {m : MethodId} {args : Array Value} {below : List Frame} {meth : Method} {c : Code} {Q : State → Prop} {dC : Nat → ClassId} {dI : Nat → Nat → Nat} {cI cB cJ cZ : ClassId} {A : Nat → Prop} {E : Heap} {tM tC : Nat} {kK kV : Nat → Nat} {ad0 : Nat → Nat} {NN0 : Nat} {post : St → Prop} {self_Asm_writeAll : (St → Prop) → Nat → Int32 → Int32 → Nat → Nat → St → Prop} {self_Asm_writeGroup : (St → Prop) → Nat → Int32 → Int32 → Nat → Nat → St → Prop} {self_Asm_writeOne : (St → Prop) → Nat → Int32 → Int32 → Nat → Nat → St → Prop} {fd ld : Nat} (hx : p.tables.exec = Jvm.exec) (hb : c.code = b_Asm_writeGroup) (hml : c.maxLocals = 7) (hown : s.vm.findClass R_Asm = some m.cls) (hT : ∀ w ∈ TG, w.before args s = true) (hK : va_K (dC, dI) CL (TY cI cB cJ cZ) s) (hN : NW s) (hA : ∀ q : Nat, s.heap.size ≤ q → A q) (hRf : 6 ≤ R.frames) (hRl : 290 ≤ R.locals) (hE : CE E tM tC kK kV A s) (hret : ∀ (ad : Nat → Nat) (NN cells slots : Nat) (x : St) (H : Heap) (locs : List Loc) (pc : Nat) (ls : Array Slot), decode b_Asm_writeGroup pc = .ok (.return_, 1) → (NN0 ≤ NN ∧ ∀ o : Nat, o < NN0 → ad o = ad0 o) → cells ≤ R.cells → slots ≤ R.slots → post x → Wd dC dI cI cB cJ cZ ad stC kcC NN A x H → va_S A s.heap H locs → W p l e R s m args below meth c H locs cells slots Q (F0 m pc ls [])) (hs_Asm_writeAll : ∀ (ad : Nat → Nat) (NN : Nat), 152 ≤ NN → ∀ (sz : Nat) (o : Nat) (l1 : Int32) (l2 : Int32) (kb : Nat) (nb : Nat) (x : St), (o < NN ∧ kcC o = 11) → ∀ (post : St → Prop), self_Asm_writeAll post o l1 l2 kb nb x → Met l y_Asm_writeAll (wsOf y_Asm_writeAll b_Asm_writeAll 5 (none)) ({ frames := fd, cells := kb, slots := nb, locals := ld }) (va_Pc [.ref (ad o), .int l1, .int l2] (PVc dC dI cI cB cJ cZ ad stC kcC NN E tM tC kK kV sz x)) (va_Qv (fun (u : St × (Nat → Nat) × Nat) => post u.1) (fun u t => Wd dC dI cI cB cJ cZ u.2.1 stC kcC u.2.2 (va_A (pic ad stC kcC NN cI cB cJ cZ x) sz) u.1 t.heap ∧ NN ≤ u.2.2 ∧ ∀ o : Nat, o < NN → u.2.1 o = ad o) (va_A (pic ad stC kcC NN cI cB cJ cZ x) sz)) kb nb (va_A (pic ad stC kcC NN cI cB cJ cZ x) sz)) (hs_Asm_writeGroup : ∀ (ad : Nat → Nat) (NN : Nat), 152 ≤ NN → ∀ (sz : Nat) (o : Nat) (l1 : Int32) (l2 : Int32) (kb : Nat) (nb : Nat) (x : St), (o < NN ∧ kcC o = 11) → ∀ (post : St → Prop), self_Asm_writeGroup post o l1 l2 kb nb x → Met l y_Asm_writeGroup (wsOf y_Asm_writeGroup b_Asm_writeGroup 7 (none)) ({ frames := fd, cells := kb, slots := nb, locals := ld }) (va_Pc [.ref (ad o), .int l1, .int l2] (PVc dC dI cI cB cJ cZ ad stC kcC NN E tM tC kK kV sz x)) (va_Qv (fun (u : St × (Nat → Nat) × Nat) => post u.1) (fun u t => Wd dC dI cI cB cJ cZ u.2.1 stC kcC u.2.2 (va_A (pic ad stC kcC NN cI cB cJ cZ x) sz) u.1 t.heap ∧ NN ≤ u.2.2 ∧ ∀ o : Nat, o < NN → u.2.1 o = ad o) (va_A (pic ad stC kcC NN cI cB cJ cZ x) sz)) kb nb (va_A (pic ad stC kcC NN cI cB cJ cZ x) sz)) (hs_Asm_writeOne : ∀ (ad : Nat → Nat) (NN : Nat), 152 ≤ NN → ∀ (sz : Nat) (o : Nat) (l1 : Int32) (l2 : Int32) (kb : Nat) (nb : Nat) (x : St), (o < NN ∧ kcC o = 11) → ∀ (post : St → Prop), self_Asm_writeOne post o l1 l2 kb nb x → Met l y_Asm_writeOne (wsOf y_Asm_writeOne b_Asm_writeOne 7 (none)) ({ frames := fd, cells := kb, slots := nb, locals := ld }) (va_Pc [.ref (ad o), .int l1, .int l2] (PVc dC dI cI cB cJ cZ ad stC kcC NN E tM tC kK kV sz x)) (va_Qv (fun (u : St × (Nat → Nat) × Nat) => post u.1) (fun u t => Wd dC dI cI cB cJ cZ u.2.1 stC kcC u.2.2 (va_A (pic ad stC kcC NN cI cB cJ cZ x) sz) u.1 t.heap ∧ NN ≤ u.2.2 ∧ ∀ o : Nat, o < NN → u.2.1 o = ad o) (va_A (pic ad stC kcC NN cI cB cJ cZ x) sz)) kb nb (va_A (pic ad stC kcC NN cI cB cJ cZ x) sz)) (hDf : fd + 1 ≤ R.frames) (hDl : 26 + ld ≤ R.locals)  : ∀ n : Nat, ∀ (ad : Nat → Nat) (NN cells slots : Nat) (o : Nat) (l1 : Int32) (l2 : Int32) (l3 : Nat) (l4 : Int32) (l5 : Int32) (l6 : Int32) (kb : Nat) (nb : Nat) (x : St) (H : Heap) (locs : List Loc) (ls : Array Slot), (152 ≤ NN) → (NN0 ≤ NN ∧ ∀ o : Nat, o < NN0 → ad o = ad0 o) → (cells + kb ≤ R.cells) → (slots + nb ≤ R.slots) → (o < NN ∧ kcC o = 11) → (l3 < NN ∧ kcC l3 = 3) → wl_Asm_writeGroup_41 post self_Asm_writeAll self_Asm_writeGroup self_Asm_writeOne n o l1 l2 l3 l4 l5 l6 kb nb x → Wd dC dI cI cB cJ cZ ad stC kcC NN A x H → va_S A s.heap H locs → lv_has ls 7 [(0, .ref (ad o)), (1, .int l1), (2, .int l2), (3, .ref (ad l3)), (4, .int l4), (5, .int l5), (6, .int l6)] → W p l e R s m args below meth c H locs cells slots Q (F0 m 41 ls []) := by
  intro n
  induction n with
  | zero => intro ad NN cells slots o l1 l2 l3 l4 l5 l6 kb nb x H locs ls hNN hag hRc hRs fo fl3 hw; exact hw.elim
  | succ n ih => intro ad NN cells slots o l1 l2 l3 l4 l5 l6 kb nb x H locs ls hNN hag hRc hRs fo fl3 hw hW hS hl; exact t_Asm_writeGroup_41 hx hb hml hown hT hK hN hA hRf hRl hE hret hs_Asm_writeAll hs_Asm_writeGroup hs_Asm_writeOne hDf hDl  ih ad NN cells slots o l1 l2 l3 l4 l5 l6 kb nb x H locs ls hNN hag hRc hRs fo fl3 hw hW hS hl
set_option maxRecDepth 100000 in
set_option maxHeartbeats 4000000 in
set_option maxRecDepth 100000 in
theorem t_Asm_writeGroup_e {p : Program} {l : Launch} {e : Env} {R : Room} {s : State} {m : MethodId} {args : Array Value} {below : List Frame} {meth : Method} {c : Code} {Q : State → Prop} {dC : Nat → ClassId} {dI : Nat → Nat → Nat} {cI cB cJ cZ : ClassId} {A : Nat → Prop} {E : Heap} {tM tC : Nat} {kK kV : Nat → Nat} {ad0 : Nat → Nat} {NN0 : Nat} {post : St → Prop} {self_Asm_writeAll : (St → Prop) → Nat → Int32 → Int32 → Nat → Nat → St → Prop} {self_Asm_writeGroup : (St → Prop) → Nat → Int32 → Int32 → Nat → Nat → St → Prop} {self_Asm_writeOne : (St → Prop) → Nat → Int32 → Int32 → Nat → Nat → St → Prop} {fd ld : Nat} (hx : p.tables.exec = Jvm.exec) (hb : c.code = b_Asm_writeGroup) (hml : c.maxLocals = 7) (hown : s.vm.findClass R_Asm = some m.cls) (hT : ∀ w ∈ TG, w.before args s = true) (hK : va_K (dC, dI) CL (TY cI cB cJ cZ) s) (hN : NW s) (hA : ∀ q : Nat, s.heap.size ≤ q → A q) (hRf : 6 ≤ R.frames) (hRl : 290 ≤ R.locals) (hE : CE E tM tC kK kV A s) (hret : ∀ (ad : Nat → Nat) (NN cells slots : Nat) (x : St) (H : Heap) (locs : List Loc) (pc : Nat) (ls : Array Slot), decode b_Asm_writeGroup pc = .ok (.return_, 1) → (NN0 ≤ NN ∧ ∀ o : Nat, o < NN0 → ad o = ad0 o) → cells ≤ R.cells → slots ≤ R.slots → post x → Wd dC dI cI cB cJ cZ ad stC kcC NN A x H → va_S A s.heap H locs → W p l e R s m args below meth c H locs cells slots Q (F0 m pc ls [])) (hs_Asm_writeAll : ∀ (ad : Nat → Nat) (NN : Nat), 152 ≤ NN → ∀ (sz : Nat) (o : Nat) (l1 : Int32) (l2 : Int32) (kb : Nat) (nb : Nat) (x : St), (o < NN ∧ kcC o = 11) → ∀ (post : St → Prop), self_Asm_writeAll post o l1 l2 kb nb x → Met l y_Asm_writeAll (wsOf y_Asm_writeAll b_Asm_writeAll 5 (none)) ({ frames := fd, cells := kb, slots := nb, locals := ld }) (va_Pc [.ref (ad o), .int l1, .int l2] (PVc dC dI cI cB cJ cZ ad stC kcC NN E tM tC kK kV sz x)) (va_Qv (fun (u : St × (Nat → Nat) × Nat) => post u.1) (fun u t => Wd dC dI cI cB cJ cZ u.2.1 stC kcC u.2.2 (va_A (pic ad stC kcC NN cI cB cJ cZ x) sz) u.1 t.heap ∧ NN ≤ u.2.2 ∧ ∀ o : Nat, o < NN → u.2.1 o = ad o) (va_A (pic ad stC kcC NN cI cB cJ cZ x) sz)) kb nb (va_A (pic ad stC kcC NN cI cB cJ cZ x) sz)) (hs_Asm_writeGroup : ∀ (ad : Nat → Nat) (NN : Nat), 152 ≤ NN → ∀ (sz : Nat) (o : Nat) (l1 : Int32) (l2 : Int32) (kb : Nat) (nb : Nat) (x : St), (o < NN ∧ kcC o = 11) → ∀ (post : St → Prop), self_Asm_writeGroup post o l1 l2 kb nb x → Met l y_Asm_writeGroup (wsOf y_Asm_writeGroup b_Asm_writeGroup 7 (none)) ({ frames := fd, cells := kb, slots := nb, locals := ld }) (va_Pc [.ref (ad o), .int l1, .int l2] (PVc dC dI cI cB cJ cZ ad stC kcC NN E tM tC kK kV sz x)) (va_Qv (fun (u : St × (Nat → Nat) × Nat) => post u.1) (fun u t => Wd dC dI cI cB cJ cZ u.2.1 stC kcC u.2.2 (va_A (pic ad stC kcC NN cI cB cJ cZ x) sz) u.1 t.heap ∧ NN ≤ u.2.2 ∧ ∀ o : Nat, o < NN → u.2.1 o = ad o) (va_A (pic ad stC kcC NN cI cB cJ cZ x) sz)) kb nb (va_A (pic ad stC kcC NN cI cB cJ cZ x) sz)) (hs_Asm_writeOne : ∀ (ad : Nat → Nat) (NN : Nat), 152 ≤ NN → ∀ (sz : Nat) (o : Nat) (l1 : Int32) (l2 : Int32) (kb : Nat) (nb : Nat) (x : St), (o < NN ∧ kcC o = 11) → ∀ (post : St → Prop), self_Asm_writeOne post o l1 l2 kb nb x → Met l y_Asm_writeOne (wsOf y_Asm_writeOne b_Asm_writeOne 7 (none)) ({ frames := fd, cells := kb, slots := nb, locals := ld }) (va_Pc [.ref (ad o), .int l1, .int l2] (PVc dC dI cI cB cJ cZ ad stC kcC NN E tM tC kK kV sz x)) (va_Qv (fun (u : St × (Nat → Nat) × Nat) => post u.1) (fun u t => Wd dC dI cI cB cJ cZ u.2.1 stC kcC u.2.2 (va_A (pic ad stC kcC NN cI cB cJ cZ x) sz) u.1 t.heap ∧ NN ≤ u.2.2 ∧ ∀ o : Nat, o < NN → u.2.1 o = ad o) (va_A (pic ad stC kcC NN cI cB cJ cZ x) sz)) kb nb (va_A (pic ad stC kcC NN cI cB cJ cZ x) sz)) (hDf : fd + 1 ≤ R.frames) (hDl : 26 + ld ≤ R.locals) : ∀ (ad : Nat → Nat) (NN cells slots : Nat) (o : Nat) (l1 : Int32) (l2 : Int32) (kb : Nat) (nb : Nat) (x : St) (H : Heap) (locs : List Loc) (ls : Array Slot), (152 ≤ NN) → (NN0 ≤ NN ∧ ∀ o : Nat, o < NN0 → ad o = ad0 o) → (cells + kb ≤ R.cells) → (slots + nb ≤ R.slots) → (o < NN ∧ kcC o = 11) → wb_Asm_writeGroup post self_Asm_writeAll self_Asm_writeGroup self_Asm_writeOne o l1 l2 kb nb x → Wd dC dI cI cB cJ cZ ad stC kcC NN A x H → va_S A s.heap H locs → lv_has ls 7 [(0, .ref (ad o)), (1, .int l1), (2, .int l2)] → W p l e R s m args below meth c H locs cells slots Q (F0 m 0 ls []) := by
  intro ad NN cells slots o l1 l2 kb nb x H locs ls hNN hag hRc hRs fo hw hW hS hl
  unfold wb_Asm_writeGroup at hw
  refine lv_iload_n hx hb d_Asm_writeGroup_0 rfl (lv_at hl 2 rfl) ?_
  refine lv_bipush (v := 16) hx hb d_Asm_writeGroup_1 (by decide) ?_
  refine lv_icmp_le (tgt := 7) hx hb d_Asm_writeGroup_3 (by decide) (fun c38 => ?_) (fun c38 => ?_)
  · have hw := hw.1 c38
    refine lv_aload_n hx hb d_Asm_writeGroup_7 rfl (lv_at hl 0 rfl) ?_
    refine w_getf (q := (stC o 1)) (k := 1) (t := 11) (C := R_Asm) (T := F_Asm) (N := 4) hx hb hT hown hK hW fo.1 fo.2 (by decide) in_Asm rfl rfl (by decide) rfl fr_Asm_1 w_3_223 d_Asm_writeGroup_8 rfl ?_
    refine w_getf (q := (stC (stC o 1) 5)) (k := 5) (t := 6) (C := R_Vlt) (T := F_Vlt) (N := 20) hx hb hT hown hK hW (st_ty hNN fo.1 fo.2 rfl).1 (st_ty hNN fo.1 fo.2 rfl).2 (by decide) in_Vlt rfl rfl (by decide) rfl fr_Vlt_5 w_2_135 d_Asm_writeGroup_11 rfl ?_
    refine lv_astore_n (lv' := [(3, .ref (ad (stC (stC o 1) 5))), (0, .ref (ad o)), (1, .int l1), (2, .int l2)]) hx hb d_Asm_writeGroup_14 rfl hl (by decide) rfl (fun ls hl => ?_)
    refine lv_aload_n hx hb d_Asm_writeGroup_15 rfl (lv_at hl 0 rfl) ?_
    refine lv_iload_n hx hb d_Asm_writeGroup_16 rfl (lv_at hl 2 rfl) ?_
    have hF := hW.free hS hA
    refine va_calli (va_runV (C := R_Sch) (As := [.int l1]) (rest := []) ⟨hx, hb, hml, hown, hT⟩ (k_Sch_pastOf l dC dI cI cB cJ cZ ad NN E tM tC kK kV hNN H.size (stC (stC o 1) 5) l1 x (st_ty hNN (st_ty hNN fo.1 fo.2 rfl).1 (st_ty hNN fo.1 fo.2 rfl).2 rfl) hw) ⟨callB_of 1 hT (gwt_in w_4_233) rfl rfl rfl (hT _ w_1_5) (hT _ w_7_90) (by decide +kernel) ⟨Nat.le_trans (Nat.le_of_ble_eq_true rfl) hRf, Nat.le_trans (Nat.le_of_ble_eq_true rfl) hRl⟩, hT _ w_4_231, hT _ w_4_232⟩ ⟨PVc.blind, va_recv hK hW.1 (ci := 3) (q0 := (stC (stC o 1) 5)) rfl (pic_obj (st_ty hNN (st_ty hNN fo.1 fo.2 rfl).1 (st_ty hNN fo.1 fo.2 rfl).2 rfl).1 (st_ty hNN (st_ty hNN fo.1 fo.2 rfl).1 (st_ty hNN fo.1 fo.2 rfl).2 rfl).2 (by decide)), PVc.at _ hW hK hN hE hS hF⟩ rfl rfl hl.1 rfl (lv_room (Nat.le_of_ble_eq_true rfl)) d_Asm_writeGroup_17 ⟨(Nat.le_trans (Nat.le_add_right _ _) hRc), (Nat.le_trans (Nat.le_add_right _ _) hRs)⟩) hS (fun q _ h => hF q h) hF (fun r40 x39 t H locs ht hvm hw hB hz1 hk1 hS => ?_)
    have hW := Wd.back hB ht hF
    clear hB ht hF hz1 hk1 hvm
    refine lv_istore (lv' := [(4, .int r40), (3, .ref (ad (stC (stC o 1) 5))), (0, .ref (ad o)), (1, .int l1), (2, .int l2)]) hx hb d_Asm_writeGroup_20 hl (by decide) rfl (fun ls hl => ?_)
    refine lv_iconst (v := 0) hx hb d_Asm_writeGroup_22 (by decide) ?_
    refine lv_istore (lv' := [(5, .int 0), (4, .int r40), (3, .ref (ad (stC (stC o 1) 5))), (0, .ref (ad o)), (1, .int l1), (2, .int l2)]) hx hb d_Asm_writeGroup_23 hl (by decide) rfl (fun ls hl => ?_)
    refine lv_aload_n hx hb d_Asm_writeGroup_25 rfl (lv_at hl 3 rfl) ?_
    refine w_getf (q := (stC o 0)) (k := 0) (t := 11) (C := R_Asm) (T := F_Asm) (N := 4) hx hb hT hown hK hW fo.1 fo.2 (by decide) in_Asm rfl rfl (by decide) rfl fr_Asm_0 w_3_221 d_Asm_writeGroup_26 rfl ?_
    refine lv_bipush (v := 123) hx hb d_Asm_writeGroup_29 (by decide) ?_
    obtain ⟨k41, n42, k43, n44, ek41, en42, hw⟩ := hw
    have hF := hW.free hS hA
    refine va_callv (va_runV (C := R_Snk) (As := [.int 123]) (rest := []) ⟨hx, hb, hml, hown, hT⟩ (k_Snk_put l dC dI cI cB cJ cZ ad NN E tM tC kK kV hNN H.size (stC o 0) 123 k41 n42 x39 (st_ty hNN fo.1 fo.2 rfl) hw) ⟨callB_of 1 hT (gwt_in w_4_52) rfl rfl rfl (hT _ w_1_2) (hT _ w_7_91) (by decide +kernel) ⟨Nat.le_trans (Nat.le_of_ble_eq_true rfl) hRf, Nat.le_trans (Nat.le_of_ble_eq_true rfl) hRl⟩, hT _ w_4_50, hT _ w_4_51⟩ ⟨PVc.blind, va_recv hK hW.1 (ci := 1) (q0 := (stC o 0)) rfl (pic_obj (st_ty hNN fo.1 fo.2 rfl).1 (st_ty hNN fo.1 fo.2 rfl).2 (by decide)), PVc.at _ hW hK hN hE hS hF⟩ rfl rfl hl.1 rfl (lv_room (Nat.le_of_ble_eq_true rfl)) d_Asm_writeGroup_31 ⟨show cells + k41 ≤ R.cells by omega, show slots + n42 ≤ R.slots by omega⟩) hS (fun q _ h => hF q h) hF (fun  x45 t H locs ht hvm hw hB hz1 hk1 hS => ?_)
    obtain ⟨x45, ad, NN⟩ := x45
    obtain ⟨hB, hle, hg⟩ := hB
    try dsimp only at hw hB hle hg
    have hW := Wd.back hB ht hF
    rw [← hg (stC (stC o 1) 5) (st_ty hNN (st_ty hNN fo.1 fo.2 rfl).1 (st_ty hNN fo.1 fo.2 rfl).2 rfl).1] at hl
    rw [← hg o fo.1] at hl
    have fo : o < NN ∧ kcC o = 11 := ⟨Nat.lt_of_lt_of_le fo.1 hle, fo.2⟩
    have hag : NN0 ≤ NN ∧ ∀ o : Nat, o < NN0 → ad o = ad0 o := ⟨Nat.le_trans hag.1 hle, fun o h => (hg o (Nat.lt_of_lt_of_le h hag.1)).trans (hag.2 o h)⟩
    have hNN : 152 ≤ NN := Nat.le_trans hNN hle
    clear hg hle
    obtain ⟨cells, ec⟩ : ∃ z, z = cells + k41 := ⟨_, rfl⟩
    obtain ⟨slots, es⟩ : ∃ z, z = slots + n42 := ⟨_, rfl⟩
    first | rw [← ec, ← es] | rw [Nat.add_zero, Nat.add_zero, ← ec, ← es]
    have hRc : cells + k43 ≤ R.cells := by omega
    have hRs : slots + n44 ≤ R.slots := by omega
    clear ec es hB ht hF hz1 hk1 hvm ek41 en42
    refine lv_aload_n hx hb d_Asm_writeGroup_34 rfl (lv_at hl 2 rfl) ?_
    refine lv_iload_n hx hb d_Asm_writeGroup_35 rfl (lv_at hl 4 rfl) ?_
    have hF := hW.free hS hA
    refine va_calli (va_runV (C := R_Sch) (As := [.int l1]) (rest := []) ⟨hx, hb, hml, hown, hT⟩ (k_Sch_firstIn l dC dI cI cB cJ cZ ad NN E tM tC kK kV hNN H.size (stC (stC o 1) 5) l1 x45 (st_ty hNN (st_ty hNN fo.1 fo.2 rfl).1 (st_ty hNN fo.1 fo.2 rfl).2 rfl) hw) ⟨callB_of 1 hT (gwt_in w_4_237) rfl rfl rfl (hT _ w_1_5) (hT _ w_7_92) (by decide +kernel) ⟨Nat.le_trans (Nat.le_of_ble_eq_true rfl) hRf, Nat.le_trans (Nat.le_of_ble_eq_true rfl) hRl⟩, hT _ w_4_235, hT _ w_4_236⟩ ⟨PVc.blind, va_recv hK hW.1 (ci := 3) (q0 := (stC (stC o 1) 5)) rfl (pic_obj (st_ty hNN (st_ty hNN fo.1 fo.2 rfl).1 (st_ty hNN fo.1 fo.2 rfl).2 rfl).1 (st_ty hNN (st_ty hNN fo.1 fo.2 rfl).1 (st_ty hNN fo.1 fo.2 rfl).2 rfl).2 (by decide)), PVc.at _ hW hK hN hE hS hF⟩ rfl rfl hl.1 rfl (lv_room (Nat.le_of_ble_eq_true rfl)) d_Asm_writeGroup_36 ⟨(Nat.le_trans (Nat.le_add_right _ _) hRc), (Nat.le_trans (Nat.le_add_right _ _) hRs)⟩) hS (fun q _ h => hF q h) hF (fun r47 x46 t H locs ht hvm hw hB hz1 hk1 hS => ?_)
    have hW := Wd.back hB ht hF
    clear hB ht hF hz1 hk1 hvm
    refine lv_istore (lv' := [(6, .int r47), (5, .int 0), (4, .int r40), (3, .ref (ad (stC (stC o 1) 5))), (0, .ref (ad o)), (1, .int l1), (2, .int l2)]) hx hb d_Asm_writeGroup_39 hl (by decide) rfl (fun ls hl => ?_)
    obtain ⟨n, hw⟩ := hw
    exact tl_Asm_writeGroup_41 hx hb hml hown hT hK hN hA hRf hRl hE hret hs_Asm_writeAll hs_Asm_writeGroup hs_Asm_writeOne hDf hDl  n ad NN cells slots o l1 l2 (stC (stC o 1) 5) r40 0 r47 k43 n44 x46 H locs ls hNN hag hRc hRs fo (st_ty hNN (st_ty hNN fo.1 fo.2 rfl).1 (st_ty hNN fo.1 fo.2 rfl).2 rfl) hw hW hS (lv_sub hl [4, 5, 6, 3, 2, 1, 0] rfl)
  · have hw := hw.2 c38
    exact hret ad NN cells slots x H locs 6 ls d_Asm_writeGroup_6 hag (Nat.le_trans (Nat.le_add_right _ _) hRc) (Nat.le_trans (Nat.le_add_right _ _) hRs) hw hW hS
set_option maxRecDepth 100000 in
set_option maxHeartbeats 4000000 in
set_option maxRecDepth 100000 in
theorem t_Asm_writeOne_102 {p : Program} {l : Launch} {e : Env} {R : Room} {s : State} {m : MethodId} {args : Array Value} {below : List Frame} {meth : Method} {c : Code} {Q : State → Prop} {dC : Nat → ClassId} {dI : Nat → Nat → Nat} {cI cB cJ cZ : ClassId} {A : Nat → Prop} {E : Heap} {tM tC : Nat} {kK kV : Nat → Nat} {ad0 : Nat → Nat} {NN0 : Nat} {post : St → Prop} {self_Asm_writeAll : (St → Prop) → Nat → Int32 → Int32 → Nat → Nat → St → Prop} {self_Asm_writeGroup : (St → Prop) → Nat → Int32 → Int32 → Nat → Nat → St → Prop} {self_Asm_writeOne : (St → Prop) → Nat → Int32 → Int32 → Nat → Nat → St → Prop} {fd ld : Nat} (hx : p.tables.exec = Jvm.exec) (hb : c.code = b_Asm_writeOne) (hml : c.maxLocals = 7) (hown : s.vm.findClass R_Asm = some m.cls) (hT : ∀ w ∈ TG, w.before args s = true) (hK : va_K (dC, dI) CL (TY cI cB cJ cZ) s) (hN : NW s) (hA : ∀ q : Nat, s.heap.size ≤ q → A q) (hRf : 6 ≤ R.frames) (hRl : 290 ≤ R.locals) (hE : CE E tM tC kK kV A s) (hret : ∀ (ad : Nat → Nat) (NN cells slots : Nat) (x : St) (H : Heap) (locs : List Loc) (pc : Nat) (ls : Array Slot), decode b_Asm_writeOne pc = .ok (.return_, 1) → (NN0 ≤ NN ∧ ∀ o : Nat, o < NN0 → ad o = ad0 o) → cells ≤ R.cells → slots ≤ R.slots → post x → Wd dC dI cI cB cJ cZ ad stC kcC NN A x H → va_S A s.heap H locs → W p l e R s m args below meth c H locs cells slots Q (F0 m pc ls [])) (hs_Asm_writeAll : ∀ (ad : Nat → Nat) (NN : Nat), 152 ≤ NN → ∀ (sz : Nat) (o : Nat) (l1 : Int32) (l2 : Int32) (kb : Nat) (nb : Nat) (x : St), (o < NN ∧ kcC o = 11) → ∀ (post : St → Prop), self_Asm_writeAll post o l1 l2 kb nb x → Met l y_Asm_writeAll (wsOf y_Asm_writeAll b_Asm_writeAll 5 (none)) ({ frames := fd, cells := kb, slots := nb, locals := ld }) (va_Pc [.ref (ad o), .int l1, .int l2] (PVc dC dI cI cB cJ cZ ad stC kcC NN E tM tC kK kV sz x)) (va_Qv (fun (u : St × (Nat → Nat) × Nat) => post u.1) (fun u t => Wd dC dI cI cB cJ cZ u.2.1 stC kcC u.2.2 (va_A (pic ad stC kcC NN cI cB cJ cZ x) sz) u.1 t.heap ∧ NN ≤ u.2.2 ∧ ∀ o : Nat, o < NN → u.2.1 o = ad o) (va_A (pic ad stC kcC NN cI cB cJ cZ x) sz)) kb nb (va_A (pic ad stC kcC NN cI cB cJ cZ x) sz)) (hs_Asm_writeGroup : ∀ (ad : Nat → Nat) (NN : Nat), 152 ≤ NN → ∀ (sz : Nat) (o : Nat) (l1 : Int32) (l2 : Int32) (kb : Nat) (nb : Nat) (x : St), (o < NN ∧ kcC o = 11) → ∀ (post : St → Prop), self_Asm_writeGroup post o l1 l2 kb nb x → Met l y_Asm_writeGroup (wsOf y_Asm_writeGroup b_Asm_writeGroup 7 (none)) ({ frames := fd, cells := kb, slots := nb, locals := ld }) (va_Pc [.ref (ad o), .int l1, .int l2] (PVc dC dI cI cB cJ cZ ad stC kcC NN E tM tC kK kV sz x)) (va_Qv (fun (u : St × (Nat → Nat) × Nat) => post u.1) (fun u t => Wd dC dI cI cB cJ cZ u.2.1 stC kcC u.2.2 (va_A (pic ad stC kcC NN cI cB cJ cZ x) sz) u.1 t.heap ∧ NN ≤ u.2.2 ∧ ∀ o : Nat, o < NN → u.2.1 o = ad o) (va_A (pic ad stC kcC NN cI cB cJ cZ x) sz)) kb nb (va_A (pic ad stC kcC NN cI cB cJ cZ x) sz)) (hs_Asm_writeOne : ∀ (ad : Nat → Nat) (NN : Nat), 152 ≤ NN → ∀ (sz : Nat) (o : Nat) (l1 : Int32) (l2 : Int32) (kb : Nat) (nb : Nat) (x : St), (o < NN ∧ kcC o = 11) → ∀ (post : St → Prop), self_Asm_writeOne post o l1 l2 kb nb x → Met l y_Asm_writeOne (wsOf y_Asm_writeOne b_Asm_writeOne 7 (none)) ({ frames := fd, cells := kb, slots := nb, locals := ld }) (va_Pc [.ref (ad o), .int l1, .int l2] (PVc dC dI cI cB cJ cZ ad stC kcC NN E tM tC kK kV sz x)) (va_Qv (fun (u : St × (Nat → Nat) × Nat) => post u.1) (fun u t => Wd dC dI cI cB cJ cZ u.2.1 stC kcC u.2.2 (va_A (pic ad stC kcC NN cI cB cJ cZ x) sz) u.1 t.heap ∧ NN ≤ u.2.2 ∧ ∀ o : Nat, o < NN → u.2.1 o = ad o) (va_A (pic ad stC kcC NN cI cB cJ cZ x) sz)) kb nb (va_A (pic ad stC kcC NN cI cB cJ cZ x) sz)) (hDf : fd + 1 ≤ R.frames) (hDl : 26 + ld ≤ R.locals)  : ∀ (ad : Nat → Nat) (NN cells slots : Nat) (o : Nat) (l1 : Int32) (l2 : Int32) (l3 : Int32) (l4 : Int32) (l5 : Int64) (s0 : Nat) (s1 : Nat) (kb : Nat) (nb : Nat) (x : St) (H : Heap) (locs : List Loc) (ls : Array Slot), (152 ≤ NN) → (NN0 ≤ NN ∧ ∀ o : Nat, o < NN0 → ad o = ad0 o) → (cells + kb ≤ R.cells) → (slots + nb ≤ R.slots) → (o < NN ∧ kcC o = 11) → (s0 < NSTR) → (s1 < NN ∧ kcC s1 = 11) → j_Asm_writeOne_102 post self_Asm_writeAll self_Asm_writeGroup self_Asm_writeOne o l1 l2 l3 l4 l5 s0 s1 kb nb x → Wd dC dI cI cB cJ cZ ad stC kcC NN A x H → va_S A s.heap H locs → lv_has ls 7 [(0, .ref (ad o)), (1, .int l1), (2, .int l2), (3, .int l3), (4, .int l4), (5, .long l5)] → W p l e R s m args below meth c H locs cells slots Q (F0 m 102 ls [.ref (kK s0), .ref (ad s1)]) := by
  intro ad NN cells slots o l1 l2 l3 l4 l5 s0 s1 kb nb x H locs ls hNN hag hRc hRs fo fs0 fs1 hw hW hS hl
  unfold j_Asm_writeOne_102 at hw
  obtain ⟨k1, n2, k3, n4, ek1, en2, hw⟩ := hw
  have hF := hW.free hS hA
  refine va_callv (va_runV (C := R_Asm) (As := [.ref (kK s0)]) (rest := []) ⟨hx, hb, hml, hown, hT⟩ (k_Asm_writeWord l dC dI cI cB cJ cZ ad NN E tM tC kK kV hNN H.size s1 s0 k1 n2 x fs1 fs0 hw) ⟨callB_of 1 hT (gwt_in w_7_117) rfl rfl rfl (hT _ w_1_14) (hT _ w_7_114) (by decide +kernel) ⟨Nat.le_trans (Nat.le_of_ble_eq_true rfl) hRf, Nat.le_trans (Nat.le_of_ble_eq_true rfl) hRl⟩, hT _ w_7_116, hT _ ws_67⟩ ⟨PVc.blind, va_recv hK hW.1 (ci := 11) (q0 := s1) rfl (pic_obj fs1.1 fs1.2 (by decide)), PVc.at _ hW hK hN hE hS hF⟩ rfl rfl hl.1 rfl (lv_room (Nat.le_of_ble_eq_true rfl)) d_Asm_writeOne_102 ⟨show cells + k1 ≤ R.cells by omega, show slots + n2 ≤ R.slots by omega⟩) hS (fun q _ h => hF q h) hF (fun  x5 t H locs ht hvm hw hB hz1 hk1 hS => ?_)
  obtain ⟨x5, ad, NN⟩ := x5
  obtain ⟨hB, hle, hg⟩ := hB
  try dsimp only at hw hB hle hg
  have hW := Wd.back hB ht hF
  rw [← hg o fo.1] at hl
  have fo : o < NN ∧ kcC o = 11 := ⟨Nat.lt_of_lt_of_le fo.1 hle, fo.2⟩
  have fs1 : s1 < NN ∧ kcC s1 = 11 := ⟨Nat.lt_of_lt_of_le fs1.1 hle, fs1.2⟩
  have hag : NN0 ≤ NN ∧ ∀ o : Nat, o < NN0 → ad o = ad0 o := ⟨Nat.le_trans hag.1 hle, fun o h => (hg o (Nat.lt_of_lt_of_le h hag.1)).trans (hag.2 o h)⟩
  have hNN : 152 ≤ NN := Nat.le_trans hNN hle
  clear hg hle
  obtain ⟨cells, ec⟩ : ∃ z, z = cells + k1 := ⟨_, rfl⟩
  obtain ⟨slots, es⟩ : ∃ z, z = slots + n2 := ⟨_, rfl⟩
  first | rw [← ec, ← es] | rw [Nat.add_zero, Nat.add_zero, ← ec, ← es]
  have hRc : cells + k3 ≤ R.cells := by omega
  have hRs : slots + n4 ≤ R.slots := by omega
  clear ec es hB ht hF hz1 hk1 hvm ek1 en2
  refine lv_goto (tgt := 117) hx hb d_Asm_writeOne_105 (by decide) ?_
  exact hret ad NN cells slots x5 H locs 117 ls d_Asm_writeOne_117 hag (Nat.le_trans (Nat.le_add_right _ _) hRc) (Nat.le_trans (Nat.le_add_right _ _) hRs) hw hW hS
set_option maxRecDepth 100000 in
set_option maxHeartbeats 4000000 in
set_option maxRecDepth 100000 in
theorem t_Asm_writeOne_e {p : Program} {l : Launch} {e : Env} {R : Room} {s : State} {m : MethodId} {args : Array Value} {below : List Frame} {meth : Method} {c : Code} {Q : State → Prop} {dC : Nat → ClassId} {dI : Nat → Nat → Nat} {cI cB cJ cZ : ClassId} {A : Nat → Prop} {E : Heap} {tM tC : Nat} {kK kV : Nat → Nat} {ad0 : Nat → Nat} {NN0 : Nat} {post : St → Prop} {self_Asm_writeAll : (St → Prop) → Nat → Int32 → Int32 → Nat → Nat → St → Prop} {self_Asm_writeGroup : (St → Prop) → Nat → Int32 → Int32 → Nat → Nat → St → Prop} {self_Asm_writeOne : (St → Prop) → Nat → Int32 → Int32 → Nat → Nat → St → Prop} {fd ld : Nat} (hx : p.tables.exec = Jvm.exec) (hb : c.code = b_Asm_writeOne) (hml : c.maxLocals = 7) (hown : s.vm.findClass R_Asm = some m.cls) (hT : ∀ w ∈ TG, w.before args s = true) (hK : va_K (dC, dI) CL (TY cI cB cJ cZ) s) (hN : NW s) (hA : ∀ q : Nat, s.heap.size ≤ q → A q) (hRf : 6 ≤ R.frames) (hRl : 290 ≤ R.locals) (hE : CE E tM tC kK kV A s) (hret : ∀ (ad : Nat → Nat) (NN cells slots : Nat) (x : St) (H : Heap) (locs : List Loc) (pc : Nat) (ls : Array Slot), decode b_Asm_writeOne pc = .ok (.return_, 1) → (NN0 ≤ NN ∧ ∀ o : Nat, o < NN0 → ad o = ad0 o) → cells ≤ R.cells → slots ≤ R.slots → post x → Wd dC dI cI cB cJ cZ ad stC kcC NN A x H → va_S A s.heap H locs → W p l e R s m args below meth c H locs cells slots Q (F0 m pc ls [])) (hs_Asm_writeAll : ∀ (ad : Nat → Nat) (NN : Nat), 152 ≤ NN → ∀ (sz : Nat) (o : Nat) (l1 : Int32) (l2 : Int32) (kb : Nat) (nb : Nat) (x : St), (o < NN ∧ kcC o = 11) → ∀ (post : St → Prop), self_Asm_writeAll post o l1 l2 kb nb x → Met l y_Asm_writeAll (wsOf y_Asm_writeAll b_Asm_writeAll 5 (none)) ({ frames := fd, cells := kb, slots := nb, locals := ld }) (va_Pc [.ref (ad o), .int l1, .int l2] (PVc dC dI cI cB cJ cZ ad stC kcC NN E tM tC kK kV sz x)) (va_Qv (fun (u : St × (Nat → Nat) × Nat) => post u.1) (fun u t => Wd dC dI cI cB cJ cZ u.2.1 stC kcC u.2.2 (va_A (pic ad stC kcC NN cI cB cJ cZ x) sz) u.1 t.heap ∧ NN ≤ u.2.2 ∧ ∀ o : Nat, o < NN → u.2.1 o = ad o) (va_A (pic ad stC kcC NN cI cB cJ cZ x) sz)) kb nb (va_A (pic ad stC kcC NN cI cB cJ cZ x) sz)) (hs_Asm_writeGroup : ∀ (ad : Nat → Nat) (NN : Nat), 152 ≤ NN → ∀ (sz : Nat) (o : Nat) (l1 : Int32) (l2 : Int32) (kb : Nat) (nb : Nat) (x : St), (o < NN ∧ kcC o = 11) → ∀ (post : St → Prop), self_Asm_writeGroup post o l1 l2 kb nb x → Met l y_Asm_writeGroup (wsOf y_Asm_writeGroup b_Asm_writeGroup 7 (none)) ({ frames := fd, cells := kb, slots := nb, locals := ld }) (va_Pc [.ref (ad o), .int l1, .int l2] (PVc dC dI cI cB cJ cZ ad stC kcC NN E tM tC kK kV sz x)) (va_Qv (fun (u : St × (Nat → Nat) × Nat) => post u.1) (fun u t => Wd dC dI cI cB cJ cZ u.2.1 stC kcC u.2.2 (va_A (pic ad stC kcC NN cI cB cJ cZ x) sz) u.1 t.heap ∧ NN ≤ u.2.2 ∧ ∀ o : Nat, o < NN → u.2.1 o = ad o) (va_A (pic ad stC kcC NN cI cB cJ cZ x) sz)) kb nb (va_A (pic ad stC kcC NN cI cB cJ cZ x) sz)) (hs_Asm_writeOne : ∀ (ad : Nat → Nat) (NN : Nat), 152 ≤ NN → ∀ (sz : Nat) (o : Nat) (l1 : Int32) (l2 : Int32) (kb : Nat) (nb : Nat) (x : St), (o < NN ∧ kcC o = 11) → ∀ (post : St → Prop), self_Asm_writeOne post o l1 l2 kb nb x → Met l y_Asm_writeOne (wsOf y_Asm_writeOne b_Asm_writeOne 7 (none)) ({ frames := fd, cells := kb, slots := nb, locals := ld }) (va_Pc [.ref (ad o), .int l1, .int l2] (PVc dC dI cI cB cJ cZ ad stC kcC NN E tM tC kK kV sz x)) (va_Qv (fun (u : St × (Nat → Nat) × Nat) => post u.1) (fun u t => Wd dC dI cI cB cJ cZ u.2.1 stC kcC u.2.2 (va_A (pic ad stC kcC NN cI cB cJ cZ x) sz) u.1 t.heap ∧ NN ≤ u.2.2 ∧ ∀ o : Nat, o < NN → u.2.1 o = ad o) (va_A (pic ad stC kcC NN cI cB cJ cZ x) sz)) kb nb (va_A (pic ad stC kcC NN cI cB cJ cZ x) sz)) (hDf : fd + 1 ≤ R.frames) (hDl : 26 + ld ≤ R.locals) : ∀ (ad : Nat → Nat) (NN cells slots : Nat) (o : Nat) (l1 : Int32) (l2 : Int32) (kb : Nat) (nb : Nat) (x : St) (H : Heap) (locs : List Loc) (ls : Array Slot), (152 ≤ NN) → (NN0 ≤ NN ∧ ∀ o : Nat, o < NN0 → ad o = ad0 o) → (cells + kb ≤ R.cells) → (slots + nb ≤ R.slots) → (o < NN ∧ kcC o = 11) → wb_Asm_writeOne post self_Asm_writeAll self_Asm_writeGroup self_Asm_writeOne o l1 l2 kb nb x → Wd dC dI cI cB cJ cZ ad stC kcC NN A x H → va_S A s.heap H locs → lv_has ls 7 [(0, .ref (ad o)), (1, .int l1), (2, .int l2)] → W p l e R s m args below meth c H locs cells slots Q (F0 m 0 ls []) := by
  intro ad NN cells slots o l1 l2 kb nb x H locs ls hNN hag hRc hRs fo hw hW hS hl
  unfold wb_Asm_writeOne at hw
  refine lv_aload_n hx hb d_Asm_writeOne_0 rfl (lv_at hl 0 rfl) ?_
  refine w_getf (q := (stC o 1)) (k := 1) (t := 11) (C := R_Asm) (T := F_Asm) (N := 4) hx hb hT hown hK hW fo.1 fo.2 (by decide) in_Asm rfl rfl (by decide) rfl fr_Asm_1 w_3_223 d_Asm_writeOne_1 rfl ?_
  refine w_getf (q := (stC (stC o 1) 5)) (k := 5) (t := 6) (C := R_Vlt) (T := F_Vlt) (N := 20) hx hb hT hown hK hW (st_ty hNN fo.1 fo.2 rfl).1 (st_ty hNN fo.1 fo.2 rfl).2 (by decide) in_Vlt rfl rfl (by decide) rfl fr_Vlt_5 w_2_135 d_Asm_writeOne_4 rfl ?_
  refine w_getf (q := (stC (stC (stC o 1) 5) 3)) (k := 3) (t := 3) (C := R_Sch) (T := F_Sch) (N := 13) hx hb hT hown hK hW (st_ty hNN (st_ty hNN fo.1 fo.2 rfl).1 (st_ty hNN fo.1 fo.2 rfl).2 rfl).1 (st_ty hNN (st_ty hNN fo.1 fo.2 rfl).1 (st_ty hNN fo.1 fo.2 rfl).2 rfl).2 (by decide) in_Sch rfl rfl (by decide) rfl fr_Sch_3 w_1_148 d_Asm_writeOne_7 rfl ?_
  refine lv_iload_n hx hb d_Asm_writeOne_10 rfl (lv_at hl 1 rfl) ?_
  obtain ⟨hi, hw⟩ := hw
  refine w_iald (o := (stC (stC (stC o 1) 5) 3)) hx hb hK hW (st_ty hNN (st_ty hNN (st_ty hNN fo.1 fo.2 rfl).1 (st_ty hNN fo.1 fo.2 rfl).2 rfl).1 (st_ty hNN (st_ty hNN fo.1 fo.2 rfl).1 (st_ty hNN fo.1 fo.2 rfl).2 rfl).2 rfl).1 (st_ty hNN (st_ty hNN (st_ty hNN fo.1 fo.2 rfl).1 (st_ty hNN fo.1 fo.2 rfl).2 rfl).1 (st_ty hNN (st_ty hNN fo.1 fo.2 rfl).1 (st_ty hNN fo.1 fo.2 rfl).2 rfl).2 rfl).2 hi d_Asm_writeOne_11 ?_
  refine lv_topi (fun v6 ev6 => ?_)
  have hw := hw v6 ev6
  refine lv_istore_n (lv' := [(3, .int v6), (0, .ref (ad o)), (1, .int l1), (2, .int l2)]) hx hb d_Asm_writeOne_12 rfl hl (by decide) rfl (fun ls hl => ?_)
  refine lv_iload_n hx hb d_Asm_writeOne_13 rfl (lv_at hl 0 rfl) ?_
  refine lv_iconst (v := 4) hx hb d_Asm_writeOne_14 (by decide) ?_
  refine lv_icmp_ne (tgt := 27) hx hb d_Asm_writeOne_15 (by decide) (fun c7 => ?_) (fun c7 => ?_)
  · have hw := hw.1 c7
    refine lv_aload_n hx hb d_Asm_writeOne_27 rfl (lv_at hl 1 rfl) ?_
    refine w_getf (q := (stC o 1)) (k := 1) (t := 11) (C := R_Asm) (T := F_Asm) (N := 4) hx hb hT hown hK hW fo.1 fo.2 (by decide) in_Asm rfl rfl (by decide) rfl fr_Asm_1 w_3_223 d_Asm_writeOne_28 rfl ?_
    refine w_getf (q := (stC (stC o 1) 5)) (k := 5) (t := 6) (C := R_Vlt) (T := F_Vlt) (N := 20) hx hb hT hown hK hW (st_ty hNN fo.1 fo.2 rfl).1 (st_ty hNN fo.1 fo.2 rfl).2 (by decide) in_Vlt rfl rfl (by decide) rfl fr_Vlt_5 w_2_135 d_Asm_writeOne_31 rfl ?_
    refine w_getf (q := (stC (stC (stC o 1) 5) 9)) (k := 9) (t := 3) (C := R_Sch) (T := F_Sch) (N := 13) hx hb hT hown hK hW (st_ty hNN (st_ty hNN fo.1 fo.2 rfl).1 (st_ty hNN fo.1 fo.2 rfl).2 rfl).1 (st_ty hNN (st_ty hNN fo.1 fo.2 rfl).1 (st_ty hNN fo.1 fo.2 rfl).2 rfl).2 (by decide) in_Sch rfl rfl (by decide) rfl fr_Sch_9 w_1_174 d_Asm_writeOne_34 rfl ?_
    refine lv_iload_n hx hb d_Asm_writeOne_37 rfl (lv_at hl 2 rfl) ?_
    obtain ⟨hi, hw⟩ := hw
    refine w_iald (o := (stC (stC (stC o 1) 5) 9)) hx hb hK hW (st_ty hNN (st_ty hNN (st_ty hNN fo.1 fo.2 rfl).1 (st_ty hNN fo.1 fo.2 rfl).2 rfl).1 (st_ty hNN (st_ty hNN fo.1 fo.2 rfl).1 (st_ty hNN fo.1 fo.2 rfl).2 rfl).2 rfl).1 (st_ty hNN (st_ty hNN (st_ty hNN fo.1 fo.2 rfl).1 (st_ty hNN fo.1 fo.2 rfl).2 rfl).1 (st_ty hNN (st_ty hNN fo.1 fo.2 rfl).1 (st_ty hNN fo.1 fo.2 rfl).2 rfl).2 rfl).2 hi d_Asm_writeOne_38 ?_
    refine lv_topi (fun v8 ev8 => ?_)
    have hw := hw v8 ev8
    refine lv_istore (lv' := [(4, .int v8), (3, .int v6), (0, .ref (ad o)), (1, .int l1), (2, .int l2)]) hx hb d_Asm_writeOne_39 hl (by decide) rfl (fun ls hl => ?_)
    refine lv_aload_n hx hb d_Asm_writeOne_41 rfl (lv_at hl 2 rfl) ?_
    refine w_getf (q := (stC o 1)) (k := 1) (t := 11) (C := R_Asm) (T := F_Asm) (N := 4) hx hb hT hown hK hW fo.1 fo.2 (by decide) in_Asm rfl rfl (by decide) rfl fr_Asm_1 w_3_223 d_Asm_writeOne_42 rfl ?_
    refine w_getf (q := (stC (stC o 1) 9)) (k := 9) (t := 6) (C := R_Vlt) (T := F_Vlt) (N := 20) hx hb hT hown hK hW (st_ty hNN fo.1 fo.2 rfl).1 (st_ty hNN fo.1 fo.2 rfl).2 (by decide) in_Vlt rfl rfl (by decide) rfl fr_Vlt_9 w_2_151 d_Asm_writeOne_45 rfl ?_
    refine lv_aload_n hx hb d_Asm_writeOne_48 rfl (lv_at hl 2 rfl) ?_
    refine w_getf (q := (stC o 2)) (k := 2) (t := 11) (C := R_Asm) (T := F_Asm) (N := 4) hx hb hT hown hK hW fo.1 fo.2 (by decide) in_Asm rfl rfl (by decide) rfl fr_Asm_2 w_3_224 d_Asm_writeOne_49 rfl ?_
    refine lv_iload hx hb d_Asm_writeOne_52 (lv_at hl 0 rfl) ?_
    obtain ⟨hi, hw⟩ := hw
    refine w_iald (o := (stC o 2)) hx hb hK hW (st_ty hNN fo.1 fo.2 rfl).1 (st_ty hNN fo.1 fo.2 rfl).2 hi d_Asm_writeOne_54 ?_
    obtain ⟨hi, hw⟩ := hw
    refine w_lald (o := (stC (stC o 1) 9)) hx hb hK hW (st_ty hNN (st_ty hNN fo.1 fo.2 rfl).1 (st_ty hNN fo.1 fo.2 rfl).2 rfl).1 (st_ty hNN (st_ty hNN fo.1 fo.2 rfl).1 (st_ty hNN fo.1 fo.2 rfl).2 rfl).2 hi d_Asm_writeOne_55 ?_
    refine lv_topl (fun v9 ev9 => ?_)
    have hw := hw v9 ev9
    refine lv_lstore (lv' := [(5, .long v9), (4, .int v8), (3, .int v6), (0, .ref (ad o)), (1, .int l1), (2, .int l2)]) hx hb d_Asm_writeOne_56 hl (by decide) rfl (fun ls hl => ?_)
    refine lv_aload_n hx hb d_Asm_writeOne_58 rfl (lv_at hl 3 rfl) ?_
    refine w_getf (q := (stC o 2)) (k := 2) (t := 11) (C := R_Asm) (T := F_Asm) (N := 4) hx hb hT hown hK hW fo.1 fo.2 (by decide) in_Asm rfl rfl (by decide) rfl fr_Asm_2 w_3_224 d_Asm_writeOne_59 rfl ?_
    refine lv_iload hx hb d_Asm_writeOne_62 (lv_at hl 1 rfl) ?_
    refine lv_dup2_11 hx hb d_Asm_writeOne_64 rfl rfl ?_
    obtain ⟨hi, hw⟩ := hw
    refine w_iald (o := (stC o 2)) hx hb hK hW (st_ty hNN fo.1 fo.2 rfl).1 (st_ty hNN fo.1 fo.2 rfl).2 hi d_Asm_writeOne_65 ?_
    refine lv_iconst (v := 1) hx hb d_Asm_writeOne_66 (by decide) ?_
    refine lv_iadd hx hb d_Asm_writeOne_67 ?_
    obtain ⟨hi, hw⟩ := hw
    refine w_iast (o := (stC o 2)) hx hb hK hW hS (st_ty hNN fo.1 fo.2 rfl).1 (st_ty hNN fo.1 fo.2 rfl).2 hi d_Asm_writeOne_68 (fun H locs hW hS => ?_)
    obtain ⟨x10, ex10⟩ : ∃ y : St, y = setA x (stC o 2) v8 ((rA x (stC o 2) v8) + 1) := ⟨_, rfl⟩
    rw [← ex10] at hW
    have hw := hw x10 ex10
    refine lv_iload_n hx hb d_Asm_writeOne_69 rfl (lv_at hl 2 rfl) ?_
    refine lv_iconst (v := 3) hx hb d_Asm_writeOne_70 (by decide) ?_
    refine lv_icmp_ne (tgt := 83) hx hb d_Asm_writeOne_71 (by decide) (fun c11 => ?_) (fun c11 => ?_)
    · have hw := hw.1 c11
      refine lv_iload_n hx hb d_Asm_writeOne_83 rfl (lv_at hl 2 rfl) ?_
      refine lv_if_ne (tgt := 108) hx hb d_Asm_writeOne_84 (by decide) (fun c12 => ?_) (fun c12 => ?_)
      · have hw := hw.1 c12
        refine lv_aload_n hx hb d_Asm_writeOne_108 rfl (lv_at hl 3 rfl) ?_
        refine w_getf (q := (stC o 0)) (k := 0) (t := 11) (C := R_Asm) (T := F_Asm) (N := 4) hx hb hT hown hK hW fo.1 fo.2 (by decide) in_Asm rfl rfl (by decide) rfl fr_Asm_0 w_3_221 d_Asm_writeOne_109 rfl ?_
        refine lv_lload hx hb d_Asm_writeOne_112 (lv_at hl 0 rfl) ?_
        obtain ⟨k13, n14, k15, n16, ek13, en14, hw⟩ := hw
        have hF := hW.free hS hA
        refine va_callv (va_runV (C := R_Snk) (As := [.long v9]) (rest := []) ⟨hx, hb, hml, hown, hT⟩ (k_Snk_putDecimal l dC dI cI cB cJ cZ ad NN E tM tC kK kV hNN H.size (stC o 0) v9 k13 n14 x10 (st_ty hNN fo.1 fo.2 rfl) hw) ⟨callB_of 1 hT (gwt_in w_7_128) rfl rfl rfl (hT _ w_1_2) (hT _ w_7_125) (by decide +kernel) ⟨Nat.le_trans (Nat.le_of_ble_eq_true rfl) hRf, Nat.le_trans (Nat.le_of_ble_eq_true rfl) hRl⟩, hT _ w_7_126, hT _ w_7_127⟩ ⟨PVc.blind, va_recv hK hW.1 (ci := 1) (q0 := (stC o 0)) rfl (pic_obj (st_ty hNN fo.1 fo.2 rfl).1 (st_ty hNN fo.1 fo.2 rfl).2 (by decide)), PVc.at _ hW hK hN hE hS hF⟩ rfl rfl hl.1 rfl (lv_room (Nat.le_of_ble_eq_true rfl)) d_Asm_writeOne_114 ⟨show cells + k13 ≤ R.cells by omega, show slots + n14 ≤ R.slots by omega⟩) hS (fun q _ h => hF q h) hF (fun  x17 t H locs ht hvm hw hB hz1 hk1 hS => ?_)
        obtain ⟨x17, ad, NN⟩ := x17
        obtain ⟨hB, hle, hg⟩ := hB
        try dsimp only at hw hB hle hg
        have hW := Wd.back hB ht hF
        rw [← hg o fo.1] at hl
        have fo : o < NN ∧ kcC o = 11 := ⟨Nat.lt_of_lt_of_le fo.1 hle, fo.2⟩
        have hag : NN0 ≤ NN ∧ ∀ o : Nat, o < NN0 → ad o = ad0 o := ⟨Nat.le_trans hag.1 hle, fun o h => (hg o (Nat.lt_of_lt_of_le h hag.1)).trans (hag.2 o h)⟩
        have hNN : 152 ≤ NN := Nat.le_trans hNN hle
        clear hg hle
        obtain ⟨cells, ec⟩ : ∃ z, z = cells + k13 := ⟨_, rfl⟩
        obtain ⟨slots, es⟩ : ∃ z, z = slots + n14 := ⟨_, rfl⟩
        first | rw [← ec, ← es] | rw [Nat.add_zero, Nat.add_zero, ← ec, ← es]
        have hRc : cells + k15 ≤ R.cells := by omega
        have hRs : slots + n16 ≤ R.slots := by omega
        clear ec es hB ht hF hz1 hk1 hvm ek13 en14
        exact hret ad NN cells slots x17 H locs 117 ls d_Asm_writeOne_117 hag (Nat.le_trans (Nat.le_add_right _ _) hRc) (Nat.le_trans (Nat.le_add_right _ _) hRs) hw hW hS
      · have hw := hw.2 c12
        refine lv_aload_n hx hb d_Asm_writeOne_87 rfl (lv_at hl 3 rfl) ?_
        refine lv_lload hx hb d_Asm_writeOne_88 (lv_at hl 0 rfl) ?_
        refine lv_lconst (v := 1) hx hb d_Asm_writeOne_90 (by decide) ?_
        refine W.lcmp hx hb d_Asm_writeOne_91 ?_
        refine lv_if_ne (tgt := 100) hx hb d_Asm_writeOne_92 (by decide) (fun c18 => ?_) (fun c18 => ?_)
        · have hw := hw.1 c18
          refine va_ldcS hx hb hown (hE.str 12 (by decide)) d_Asm_writeOne_100 ?_
          exact t_Asm_writeOne_102 hx hb hml hown hT hK hN hA hRf hRl hE hret hs_Asm_writeAll hs_Asm_writeGroup hs_Asm_writeOne hDf hDl  ad NN cells slots o l1 l2 v6 v8 v9 9 o kb nb x10 H locs ls hNN hag hRc hRs fo (by decide) fo hw hW hS (lv_sub hl [3, 4, 5, 2, 1, 0] rfl)
        · have hw := hw.2 c18
          refine va_ldcS hx hb hown (hE.str 11 (by decide)) d_Asm_writeOne_95 ?_
          refine lv_goto (tgt := 102) hx hb d_Asm_writeOne_97 (by decide) ?_
          exact t_Asm_writeOne_102 hx hb hml hown hT hK hN hA hRf hRl hE hret hs_Asm_writeAll hs_Asm_writeGroup hs_Asm_writeOne hDf hDl  ad NN cells slots o l1 l2 v6 v8 v9 8 o kb nb x10 H locs ls hNN hag hRc hRs fo (by decide) fo hw hW hS (lv_sub hl [3, 4, 5, 2, 1, 0] rfl)
    · have hw := hw.2 c11
      refine lv_aload_n hx hb d_Asm_writeOne_74 rfl (lv_at hl 3 rfl) ?_
      refine lv_lload hx hb d_Asm_writeOne_75 (lv_at hl 0 rfl) ?_
      obtain ⟨k19, n20, k21, n22, ek19, en20, hw⟩ := hw
      have hF := hW.free hS hA
      refine va_callv (va_runV (C := R_Asm) (As := [.long v9]) (rest := []) ⟨hx, hb, hml, hown, hT⟩ (k_Asm_writeText l dC dI cI cB cJ cZ ad NN E tM tC kK kV hNN H.size o v9 k19 n20 x10 fo hw) ⟨callB_of 1 hT (gwt_in w_7_110) rfl rfl rfl (hT _ w_1_14) (hT _ w_7_107) (by decide +kernel) ⟨Nat.le_trans (Nat.le_of_ble_eq_true rfl) hRf, Nat.le_trans (Nat.le_of_ble_eq_true rfl) hRl⟩, hT _ w_7_109, hT _ ws_66⟩ ⟨PVc.blind, va_recv hK hW.1 (ci := 11) (q0 := o) rfl (pic_obj fo.1 fo.2 (by decide)), PVc.at _ hW hK hN hE hS hF⟩ rfl rfl hl.1 rfl (lv_room (Nat.le_of_ble_eq_true rfl)) d_Asm_writeOne_77 ⟨show cells + k19 ≤ R.cells by omega, show slots + n20 ≤ R.slots by omega⟩) hS (fun q _ h => hF q h) hF (fun  x23 t H locs ht hvm hw hB hz1 hk1 hS => ?_)
      obtain ⟨x23, ad, NN⟩ := x23
      obtain ⟨hB, hle, hg⟩ := hB
      try dsimp only at hw hB hle hg
      have hW := Wd.back hB ht hF
      rw [← hg o fo.1] at hl
      have fo : o < NN ∧ kcC o = 11 := ⟨Nat.lt_of_lt_of_le fo.1 hle, fo.2⟩
      have hag : NN0 ≤ NN ∧ ∀ o : Nat, o < NN0 → ad o = ad0 o := ⟨Nat.le_trans hag.1 hle, fun o h => (hg o (Nat.lt_of_lt_of_le h hag.1)).trans (hag.2 o h)⟩
      have hNN : 152 ≤ NN := Nat.le_trans hNN hle
      clear hg hle
      obtain ⟨cells, ec⟩ : ∃ z, z = cells + k19 := ⟨_, rfl⟩
      obtain ⟨slots, es⟩ : ∃ z, z = slots + n20 := ⟨_, rfl⟩
      first | rw [← ec, ← es] | rw [Nat.add_zero, Nat.add_zero, ← ec, ← es]
      have hRc : cells + k21 ≤ R.cells := by omega
      have hRs : slots + n22 ≤ R.slots := by omega
      clear ec es hB ht hF hz1 hk1 hvm ek19 en20
      refine lv_goto (tgt := 117) hx hb d_Asm_writeOne_80 (by decide) ?_
      exact hret ad NN cells slots x23 H locs 117 ls d_Asm_writeOne_117 hag (Nat.le_trans (Nat.le_add_right _ _) hRc) (Nat.le_trans (Nat.le_add_right _ _) hRs) hw hW hS
  · have hw := hw.2 c7
    refine lv_aload_n hx hb d_Asm_writeOne_18 rfl (lv_at hl 1 rfl) ?_
    refine lv_iload_n hx hb d_Asm_writeOne_19 rfl (lv_at hl 2 rfl) ?_
    refine lv_iload_n hx hb d_Asm_writeOne_20 rfl (lv_at hl 3 rfl) ?_
    refine lv_iconst (v := 1) hx hb d_Asm_writeOne_21 (by decide) ?_
    refine lv_iadd hx hb d_Asm_writeOne_22 ?_
    obtain ⟨k24, n25, k26, n27, ek24, en25, hw⟩ := hw
    have hF := hW.free hS hA
    refine va_callv (va_runV (C := R_Asm) (As := [.int l1, .int (l2 + 1)]) (rest := []) ⟨hx, hb, hml, hown, hT⟩ (hs_Asm_writeGroup ad NN hNN H.size o l1 (l2 + 1) k24 n25 x fo _ hw) ⟨callB_of 2 hT (gwt_in w_7_89) rfl rfl rfl (hT _ w_1_14) (hT _ w_7_86) (by decide +kernel) ⟨hDf, Nat.le_trans (Nat.add_le_add_right (by decide) _) hDl⟩, hT _ w_7_88, hT _ ws_62⟩ ⟨PVc.blind, va_recv hK hW.1 (ci := 11) (q0 := o) rfl (pic_obj fo.1 fo.2 (by decide)), PVc.at _ hW hK hN hE hS hF⟩ rfl rfl hl.1 rfl (lv_room (Nat.le_of_ble_eq_true rfl)) d_Asm_writeOne_23 ⟨show cells + k24 ≤ R.cells by omega, show slots + n25 ≤ R.slots by omega⟩) hS (fun q _ h => hF q h) hF (fun  x28 t H locs ht hvm hw hB hz1 hk1 hS => ?_)
    obtain ⟨x28, ad, NN⟩ := x28
    obtain ⟨hB, hle, hg⟩ := hB
    try dsimp only at hw hB hle hg
    have hW := Wd.back hB ht hF
    rw [← hg o fo.1] at hl
    have fo : o < NN ∧ kcC o = 11 := ⟨Nat.lt_of_lt_of_le fo.1 hle, fo.2⟩
    have hag : NN0 ≤ NN ∧ ∀ o : Nat, o < NN0 → ad o = ad0 o := ⟨Nat.le_trans hag.1 hle, fun o h => (hg o (Nat.lt_of_lt_of_le h hag.1)).trans (hag.2 o h)⟩
    have hNN : 152 ≤ NN := Nat.le_trans hNN hle
    clear hg hle
    obtain ⟨cells, ec⟩ : ∃ z, z = cells + k24 := ⟨_, rfl⟩
    obtain ⟨slots, es⟩ : ∃ z, z = slots + n25 := ⟨_, rfl⟩
    first | rw [← ec, ← es] | rw [Nat.add_zero, Nat.add_zero, ← ec, ← es]
    have hRc : cells + k26 ≤ R.cells := by omega
    have hRs : slots + n27 ≤ R.slots := by omega
    clear ec es hB ht hF hz1 hk1 hvm ek24 en25
    exact hret ad NN cells slots x28 H locs 26 ls d_Asm_writeOne_26 hag (Nat.le_trans (Nat.le_add_right _ _) hRc) (Nat.le_trans (Nat.le_add_right _ _) hRs) hw hW hS
set_option maxHeartbeats 4000000 in
set_option maxRecDepth 100000 in
theorem kr_Asm_writeAll (l : Launch) (dC : Nat → ClassId) (dI : Nat → Nat → Nat) (cI cB cJ cZ : ClassId) (E : Heap) (tM tC : Nat) (kK kV : Nat → Nat) : ∀ d : Nat, (∀ (ad : Nat → Nat) (NN : Nat), 152 ≤ NN → ∀ (sz : Nat) (o : Nat) (l1 : Int32) (l2 : Int32) (kb : Nat) (nb : Nat) (x : St), (o < NN ∧ kcC o = 11) → ∀ (post : St → Prop), ((wr_Asm_writeAll d)).1 post o l1 l2 kb nb x → Met l y_Asm_writeAll (wsOf y_Asm_writeAll b_Asm_writeAll 5 (none)) ({ frames := 6 + d, cells := kb, slots := nb, locals := 290 + d * 26 }) (va_Pc [.ref (ad o), .int l1, .int l2] (PVc dC dI cI cB cJ cZ ad stC kcC NN E tM tC kK kV sz x)) (va_Qv (fun (u : St × (Nat → Nat) × Nat) => post u.1) (fun u t => Wd dC dI cI cB cJ cZ u.2.1 stC kcC u.2.2 (va_A (pic ad stC kcC NN cI cB cJ cZ x) sz) u.1 t.heap ∧ NN ≤ u.2.2 ∧ ∀ o : Nat, o < NN → u.2.1 o = ad o) (va_A (pic ad stC kcC NN cI cB cJ cZ x) sz)) kb nb (va_A (pic ad stC kcC NN cI cB cJ cZ x) sz)) ∧ (∀ (ad : Nat → Nat) (NN : Nat), 152 ≤ NN → ∀ (sz : Nat) (o : Nat) (l1 : Int32) (l2 : Int32) (kb : Nat) (nb : Nat) (x : St), (o < NN ∧ kcC o = 11) → ∀ (post : St → Prop), ((wr_Asm_writeAll d)).2.1 post o l1 l2 kb nb x → Met l y_Asm_writeGroup (wsOf y_Asm_writeGroup b_Asm_writeGroup 7 (none)) ({ frames := 6 + d, cells := kb, slots := nb, locals := 290 + d * 26 }) (va_Pc [.ref (ad o), .int l1, .int l2] (PVc dC dI cI cB cJ cZ ad stC kcC NN E tM tC kK kV sz x)) (va_Qv (fun (u : St × (Nat → Nat) × Nat) => post u.1) (fun u t => Wd dC dI cI cB cJ cZ u.2.1 stC kcC u.2.2 (va_A (pic ad stC kcC NN cI cB cJ cZ x) sz) u.1 t.heap ∧ NN ≤ u.2.2 ∧ ∀ o : Nat, o < NN → u.2.1 o = ad o) (va_A (pic ad stC kcC NN cI cB cJ cZ x) sz)) kb nb (va_A (pic ad stC kcC NN cI cB cJ cZ x) sz)) ∧ (∀ (ad : Nat → Nat) (NN : Nat), 152 ≤ NN → ∀ (sz : Nat) (o : Nat) (l1 : Int32) (l2 : Int32) (kb : Nat) (nb : Nat) (x : St), (o < NN ∧ kcC o = 11) → ∀ (post : St → Prop), ((wr_Asm_writeAll d)).2.2 post o l1 l2 kb nb x → Met l y_Asm_writeOne (wsOf y_Asm_writeOne b_Asm_writeOne 7 (none)) ({ frames := 6 + d, cells := kb, slots := nb, locals := 290 + d * 26 }) (va_Pc [.ref (ad o), .int l1, .int l2] (PVc dC dI cI cB cJ cZ ad stC kcC NN E tM tC kK kV sz x)) (va_Qv (fun (u : St × (Nat → Nat) × Nat) => post u.1) (fun u t => Wd dC dI cI cB cJ cZ u.2.1 stC kcC u.2.2 (va_A (pic ad stC kcC NN cI cB cJ cZ x) sz) u.1 t.heap ∧ NN ≤ u.2.2 ∧ ∀ o : Nat, o < NN → u.2.1 o = ad o) (va_A (pic ad stC kcC NN cI cB cJ cZ x) sz)) kb nb (va_A (pic ad stC kcC NN cI cB cJ cZ x) sz)) := by
  intro d
  induction d with
  | zero =>
    exact ⟨fun ad NN hNN sz o l1 l2 kb nb x fo post hw => hw.elim, fun ad NN hNN sz o l1 l2 kb nb x fo post hw => hw.elim, fun ad NN hNN sz o l1 l2 kb nb x fo post hw => hw.elim⟩
  | succ d ih =>
    refine ⟨?_, ?_, ?_⟩
    · intro ad NN hNN sz o l1 l2 kb nb x fo post hw
      have hw : wb_Asm_writeAll post ((wr_Asm_writeAll d)).1 ((wr_Asm_writeAll d)).2.1 ((wr_Asm_writeAll d)).2.2 o l1 l2 kb nb x := hw
      refine Met.ofW (cc := b_Asm_writeAll) (maxL := 5) (ret := none) (by decide) rfl ?_
      intro p e s m args below meth c s₁ B hml hv
      obtain ⟨rfl, ⟨hsz, hW0, hK, hN⟩, hE⟩ := hv
      have hx := B.exec
      have hb := B.bytes
      have hr := B.returns
      have hts := atoms_spec B.pre
      have hT : ∀ w ∈ TG, w.before _ s = true := fun w h => hts w (List.mem_cons_of_mem _ h)
      have hown : s.vm.findClass R_Asm = some m.cls := findClass_of_methodNamed B.named
      have hlocks := B.notSynchronized
      subst hsz
      have hW : Wd dC dI cI cB cJ cZ ad stC kcC NN (va_A (pic ad stC kcC NN cI cB cJ cZ x) s.heap.size) x s.heap := ⟨hW0.1, hW0.2.1.self (sz := s.heap.size), hW0.2.2⟩
      generalize hAe : va_A (pic ad stC kcC NN cI cB cJ cZ x) s.heap.size = A at hW hE ⊢
      have hA : ∀ q : Nat, s.heap.size ≤ q → A q := fun q h => by rw [← hAe]; exact Or.inr h
      have hS : va_S A s.heap s.heap [] := va_S.rf
      have hl := lv_entry ([.ref (ad o), .int l1, .int l2]) (n := 5) (Nat.le_of_ble_eq_true rfl)
      rw [lg_entry_eq]
      generalize (lg_sl ([.ref (ad o), .int l1, .int l2]) ++ List.replicate (5 - (lg_sl ([.ref (ad o), .int l1, .int l2])).length) Slot.unset).toArray = ls at hl ⊢
      have hl : lv_has ls 5 [(0, .ref (ad o)), (1, .int l1), (2, .int l2)] := hl
      exact t_Asm_writeAll_e hx hb hml hown hT hK hN hA (Nat.le_add_right 6 (d + 1)) (Nat.le_add_right 290 ((d + 1) * 26)) hE (fun ad1 NN1 cells slots x1 H locs pc ls hd hag hc hs hp hW hS => W.widen (k := kb) (n := nb) hc hs (W.vret hx hb hr (fun t ht hM => ⟨⟨(x1, ad1, NN1), rfl, hp, Wd.back hW ht.symm (fun _ z => z), hag.1, hag.2⟩, hS.F ht⟩) hS.2.2 hd hlocks)) (ih).1 (ih).2.1 (ih).2.2 (Nat.le_of_eq (Nat.add_assoc 6 d 1)) (by show 26 + (290 + d * 26) ≤ 290 + (d + 1) * 26; omega) ad NN 0 0 o l1 l2 kb nb x _ _ ls hNN ⟨Nat.le_refl _, fun _ _ => rfl⟩ (Nat.le_of_eq (Nat.zero_add kb)) (Nat.le_of_eq (Nat.zero_add nb)) fo hw hW hS hl
    · intro ad NN hNN sz o l1 l2 kb nb x fo post hw
      have hw : wb_Asm_writeGroup post ((wr_Asm_writeAll d)).1 ((wr_Asm_writeAll d)).2.1 ((wr_Asm_writeAll d)).2.2 o l1 l2 kb nb x := hw
      refine Met.ofW (cc := b_Asm_writeGroup) (maxL := 7) (ret := none) (by decide) rfl ?_
      intro p e s m args below meth c s₁ B hml hv
      obtain ⟨rfl, ⟨hsz, hW0, hK, hN⟩, hE⟩ := hv
      have hx := B.exec
      have hb := B.bytes
      have hr := B.returns
      have hts := atoms_spec B.pre
      have hT : ∀ w ∈ TG, w.before _ s = true := fun w h => hts w (List.mem_cons_of_mem _ h)
      have hown : s.vm.findClass R_Asm = some m.cls := findClass_of_methodNamed B.named
      have hlocks := B.notSynchronized
      subst hsz
      have hW : Wd dC dI cI cB cJ cZ ad stC kcC NN (va_A (pic ad stC kcC NN cI cB cJ cZ x) s.heap.size) x s.heap := ⟨hW0.1, hW0.2.1.self (sz := s.heap.size), hW0.2.2⟩
      generalize hAe : va_A (pic ad stC kcC NN cI cB cJ cZ x) s.heap.size = A at hW hE ⊢
      have hA : ∀ q : Nat, s.heap.size ≤ q → A q := fun q h => by rw [← hAe]; exact Or.inr h
      have hS : va_S A s.heap s.heap [] := va_S.rf
      have hl := lv_entry ([.ref (ad o), .int l1, .int l2]) (n := 7) (Nat.le_of_ble_eq_true rfl)
      rw [lg_entry_eq]
      generalize (lg_sl ([.ref (ad o), .int l1, .int l2]) ++ List.replicate (7 - (lg_sl ([.ref (ad o), .int l1, .int l2])).length) Slot.unset).toArray = ls at hl ⊢
      have hl : lv_has ls 7 [(0, .ref (ad o)), (1, .int l1), (2, .int l2)] := hl
      exact t_Asm_writeGroup_e hx hb hml hown hT hK hN hA (Nat.le_add_right 6 (d + 1)) (Nat.le_add_right 290 ((d + 1) * 26)) hE (fun ad1 NN1 cells slots x1 H locs pc ls hd hag hc hs hp hW hS => W.widen (k := kb) (n := nb) hc hs (W.vret hx hb hr (fun t ht hM => ⟨⟨(x1, ad1, NN1), rfl, hp, Wd.back hW ht.symm (fun _ z => z), hag.1, hag.2⟩, hS.F ht⟩) hS.2.2 hd hlocks)) (ih).1 (ih).2.1 (ih).2.2 (Nat.le_of_eq (Nat.add_assoc 6 d 1)) (by show 26 + (290 + d * 26) ≤ 290 + (d + 1) * 26; omega) ad NN 0 0 o l1 l2 kb nb x _ _ ls hNN ⟨Nat.le_refl _, fun _ _ => rfl⟩ (Nat.le_of_eq (Nat.zero_add kb)) (Nat.le_of_eq (Nat.zero_add nb)) fo hw hW hS hl
    · intro ad NN hNN sz o l1 l2 kb nb x fo post hw
      have hw : wb_Asm_writeOne post ((wr_Asm_writeAll d)).1 ((wr_Asm_writeAll d)).2.1 ((wr_Asm_writeAll d)).2.2 o l1 l2 kb nb x := hw
      refine Met.ofW (cc := b_Asm_writeOne) (maxL := 7) (ret := none) (by decide) rfl ?_
      intro p e s m args below meth c s₁ B hml hv
      obtain ⟨rfl, ⟨hsz, hW0, hK, hN⟩, hE⟩ := hv
      have hx := B.exec
      have hb := B.bytes
      have hr := B.returns
      have hts := atoms_spec B.pre
      have hT : ∀ w ∈ TG, w.before _ s = true := fun w h => hts w (List.mem_cons_of_mem _ h)
      have hown : s.vm.findClass R_Asm = some m.cls := findClass_of_methodNamed B.named
      have hlocks := B.notSynchronized
      subst hsz
      have hW : Wd dC dI cI cB cJ cZ ad stC kcC NN (va_A (pic ad stC kcC NN cI cB cJ cZ x) s.heap.size) x s.heap := ⟨hW0.1, hW0.2.1.self (sz := s.heap.size), hW0.2.2⟩
      generalize hAe : va_A (pic ad stC kcC NN cI cB cJ cZ x) s.heap.size = A at hW hE ⊢
      have hA : ∀ q : Nat, s.heap.size ≤ q → A q := fun q h => by rw [← hAe]; exact Or.inr h
      have hS : va_S A s.heap s.heap [] := va_S.rf
      have hl := lv_entry ([.ref (ad o), .int l1, .int l2]) (n := 7) (Nat.le_of_ble_eq_true rfl)
      rw [lg_entry_eq]
      generalize (lg_sl ([.ref (ad o), .int l1, .int l2]) ++ List.replicate (7 - (lg_sl ([.ref (ad o), .int l1, .int l2])).length) Slot.unset).toArray = ls at hl ⊢
      have hl : lv_has ls 7 [(0, .ref (ad o)), (1, .int l1), (2, .int l2)] := hl
      exact t_Asm_writeOne_e hx hb hml hown hT hK hN hA (Nat.le_add_right 6 (d + 1)) (Nat.le_add_right 290 ((d + 1) * 26)) hE (fun ad1 NN1 cells slots x1 H locs pc ls hd hag hc hs hp hW hS => W.widen (k := kb) (n := nb) hc hs (W.vret hx hb hr (fun t ht hM => ⟨⟨(x1, ad1, NN1), rfl, hp, Wd.back hW ht.symm (fun _ z => z), hag.1, hag.2⟩, hS.F ht⟩) hS.2.2 hd hlocks)) (ih).1 (ih).2.1 (ih).2.2 (Nat.le_of_eq (Nat.add_assoc 6 d 1)) (by show 26 + (290 + d * 26) ≤ 290 + (d + 1) * 26; omega) ad NN 0 0 o l1 l2 kb nb x _ _ ls hNN ⟨Nat.le_refl _, fun _ _ => rfl⟩ (Nat.le_of_eq (Nat.zero_add kb)) (Nat.le_of_eq (Nat.zero_add nb)) fo hw hW hS hl

theorem k_Asm_writeAll (l : Launch) (dC : Nat → ClassId) (dI : Nat → Nat → Nat) (cI cB cJ cZ : ClassId) (ad : Nat → Nat) (NN : Nat) (E : Heap) (tM tC : Nat) (kK kV : Nat → Nat) (hNN : 152 ≤ NN) (sz : Nat) (o : Nat) (l1 : Int32) (l2 : Int32) (kb : Nat) (nb : Nat) (x : St) (fo : o < NN ∧ kcC o = 11) {post : St → Prop} (hw : wp_Asm_writeAll post o l1 l2 kb nb x) : Met l y_Asm_writeAll (wsOf y_Asm_writeAll b_Asm_writeAll 5 (none)) ({ frames := 206, cells := kb, slots := nb, locals := 5490 }) (va_Pc [.ref (ad o), .int l1, .int l2] (PVc dC dI cI cB cJ cZ ad stC kcC NN E tM tC kK kV sz x)) (va_Qv (fun (u : St × (Nat → Nat) × Nat) => post u.1) (fun u t => Wd dC dI cI cB cJ cZ u.2.1 stC kcC u.2.2 (va_A (pic ad stC kcC NN cI cB cJ cZ x) sz) u.1 t.heap ∧ NN ≤ u.2.2 ∧ ∀ o : Nat, o < NN → u.2.1 o = ad o) (va_A (pic ad stC kcC NN cI cB cJ cZ x) sz)) kb nb (va_A (pic ad stC kcC NN cI cB cJ cZ x) sz) := ((kr_Asm_writeAll l dC dI cI cB cJ cZ E tM tC kK kV 200)).1 ad NN hNN sz o l1 l2 kb nb x fo post hw
theorem k_Asm_writeGroup (l : Launch) (dC : Nat → ClassId) (dI : Nat → Nat → Nat) (cI cB cJ cZ : ClassId) (ad : Nat → Nat) (NN : Nat) (E : Heap) (tM tC : Nat) (kK kV : Nat → Nat) (hNN : 152 ≤ NN) (sz : Nat) (o : Nat) (l1 : Int32) (l2 : Int32) (kb : Nat) (nb : Nat) (x : St) (fo : o < NN ∧ kcC o = 11) {post : St → Prop} (hw : wp_Asm_writeGroup post o l1 l2 kb nb x) : Met l y_Asm_writeGroup (wsOf y_Asm_writeGroup b_Asm_writeGroup 7 (none)) ({ frames := 206, cells := kb, slots := nb, locals := 5490 }) (va_Pc [.ref (ad o), .int l1, .int l2] (PVc dC dI cI cB cJ cZ ad stC kcC NN E tM tC kK kV sz x)) (va_Qv (fun (u : St × (Nat → Nat) × Nat) => post u.1) (fun u t => Wd dC dI cI cB cJ cZ u.2.1 stC kcC u.2.2 (va_A (pic ad stC kcC NN cI cB cJ cZ x) sz) u.1 t.heap ∧ NN ≤ u.2.2 ∧ ∀ o : Nat, o < NN → u.2.1 o = ad o) (va_A (pic ad stC kcC NN cI cB cJ cZ x) sz)) kb nb (va_A (pic ad stC kcC NN cI cB cJ cZ x) sz) := ((kr_Asm_writeAll l dC dI cI cB cJ cZ E tM tC kK kV 200)).2.1 ad NN hNN sz o l1 l2 kb nb x fo post hw
theorem k_Asm_writeOne (l : Launch) (dC : Nat → ClassId) (dI : Nat → Nat → Nat) (cI cB cJ cZ : ClassId) (ad : Nat → Nat) (NN : Nat) (E : Heap) (tM tC : Nat) (kK kV : Nat → Nat) (hNN : 152 ≤ NN) (sz : Nat) (o : Nat) (l1 : Int32) (l2 : Int32) (kb : Nat) (nb : Nat) (x : St) (fo : o < NN ∧ kcC o = 11) {post : St → Prop} (hw : wp_Asm_writeOne post o l1 l2 kb nb x) : Met l y_Asm_writeOne (wsOf y_Asm_writeOne b_Asm_writeOne 7 (none)) ({ frames := 206, cells := kb, slots := nb, locals := 5490 }) (va_Pc [.ref (ad o), .int l1, .int l2] (PVc dC dI cI cB cJ cZ ad stC kcC NN E tM tC kK kV sz x)) (va_Qv (fun (u : St × (Nat → Nat) × Nat) => post u.1) (fun u t => Wd dC dI cI cB cJ cZ u.2.1 stC kcC u.2.2 (va_A (pic ad stC kcC NN cI cB cJ cZ x) sz) u.1 t.heap ∧ NN ≤ u.2.2 ∧ ∀ o : Nat, o < NN → u.2.1 o = ad o) (va_A (pic ad stC kcC NN cI cB cJ cZ x) sz)) kb nb (va_A (pic ad stC kcC NN cI cB cJ cZ x) sz) := ((kr_Asm_writeAll l dC dI cI cB cJ cZ E tM tC kK kV 200)).2.2 ad NN hNN sz o l1 l2 kb nb x fo post hw
end
