theorem fr_Sch_1 : F_Sch 1 = (R_Sch, "columns", "I", false) := rfl
theorem fr_Scn_1 : F_Scn 1 = (R_Scn, "count", "I", false) := rfl
theorem fr_Scn_2 : F_Scn 2 = (R_Scn, "pos", "I", false) := rfl
theorem w_1_130 : (Jvm.Cond.fieldLink "StripedVault$Schema" (46 : Nat) "StripedVault$Schema" "fields" "I") ∈ TG := tw_1 130 (by decide +kernel) (by decide +kernel)
theorem w_1_135 : (Jvm.Cond.fieldLink "StripedVault$Schema" (50 : Nat) "StripedVault$Schema" "columns" "I") ∈ TG := tw_1 135 (by decide +kernel) (by decide +kernel)
theorem w_1_81 : (Jvm.Cond.fieldLink "StripedVault$Scan" (25 : Nat) "StripedVault$Scan" "count" "I") ∈ TG := tw_1 81 (by decide +kernel) (by decide +kernel)
theorem w_1_84 : (Jvm.Cond.fieldLink "StripedVault$Schema" (83 : Nat) "StripedVault$Scan" "count" "I") ∈ TG := tw_1 84 (by decide +kernel) (by decide +kernel)
theorem w_1_85 : (Jvm.Cond.fieldLink "StripedVault$Scan" (28 : Nat) "StripedVault$Scan" "pos" "I") ∈ TG := tw_1 85 (by decide +kernel) (by decide +kernel)
theorem w_1_92 : (Jvm.Cond.fieldLink "StripedVault$Schema" (108 : Nat) "StripedVault$Scan" "place" "I") ∈ TG := tw_1 92 (by decide +kernel) (by decide +kernel)
theorem w_4_100 : (Jvm.Cond.instanceMethod ({ cls := "StripedVault$Schema", name := "forget", desc := "()V" } : Jvm.MethodName)) ∈ TG := tw_4 100 (by decide +kernel) (by decide +kernel)
theorem w_4_101 : (Jvm.Cond.selects "StripedVault$Schema" ({ cls := "StripedVault$Schema", name := "forget", desc := "()V" } : Jvm.MethodName) ({ cls := "StripedVault$Schema", name := "forget", desc := "()V" } : Jvm.MethodName)) ∈ TG := tw_4 101 (by decide +kernel) (by decide +kernel)
theorem w_4_102 : (Jvm.Cond.code ({ cls := "StripedVault$Schema", name := "forget", desc := "()V" } : Jvm.MethodName) prog_8_method_2_code (1 : Nat) (Option.none : Option Jvm.ClassFile.FieldType)) ∈ TG := tw_4 102 (by decide +kernel) (by decide +kernel)
theorem w_4_103 : (Jvm.Cond.methodLink "StripedVault$Schema" (88 : Nat) ({ cls := "StripedVault$Scan", name := "good", desc := "()Z" } : Jvm.MethodName)) ∈ TG := tw_4 103 (by decide +kernel) (by decide +kernel)
theorem w_4_104 : (Jvm.Cond.instanceMethod ({ cls := "StripedVault$Scan", name := "good", desc := "()Z" } : Jvm.MethodName)) ∈ TG := tw_4 104 (by decide +kernel) (by decide +kernel)
theorem w_4_105 : (Jvm.Cond.selects "StripedVault$Scan" ({ cls := "StripedVault$Scan", name := "good", desc := "()Z" } : Jvm.MethodName) ({ cls := "StripedVault$Scan", name := "good", desc := "()Z" } : Jvm.MethodName)) ∈ TG := tw_4 105 (by decide +kernel) (by decide +kernel)
theorem w_4_106 : (Jvm.Cond.code ({ cls := "StripedVault$Scan", name := "good", desc := "()Z" } : Jvm.MethodName) prog_7_method_3_code (1 : Nat) (Option.some Jvm.ClassFile.FieldType.boolean)) ∈ TG := tw_4 106 (by decide +kernel) (by decide +kernel)
theorem w_4_107 : (Jvm.Cond.methodLink "StripedVault$Schema" (92 : Nat) ({ cls := "StripedVault$Scan", name := "next", desc := "()I" } : Jvm.MethodName)) ∈ TG := tw_4 107 (by decide +kernel) (by decide +kernel)
theorem w_4_108 : (Jvm.Cond.instanceMethod ({ cls := "StripedVault$Scan", name := "next", desc := "()I" } : Jvm.MethodName)) ∈ TG := tw_4 108 (by decide +kernel) (by decide +kernel)
theorem w_4_109 : (Jvm.Cond.selects "StripedVault$Scan" ({ cls := "StripedVault$Scan", name := "next", desc := "()I" } : Jvm.MethodName) ({ cls := "StripedVault$Scan", name := "next", desc := "()I" } : Jvm.MethodName)) ∈ TG := tw_4 109 (by decide +kernel) (by decide +kernel)
theorem w_4_110 : (Jvm.Cond.code ({ cls := "StripedVault$Scan", name := "next", desc := "()I" } : Jvm.MethodName) prog_7_method_6_code (1 : Nat) (Option.some Jvm.ClassFile.FieldType.int)) ∈ TG := tw_4 110 (by decide +kernel) (by decide +kernel)
theorem w_4_119 : (Jvm.Cond.methodLink "StripedVault$Scan" (65 : Nat) ({ cls := "StripedVault$Scan", name := "good", desc := "()Z" } : Jvm.MethodName)) ∈ TG := tw_4 119 (by decide +kernel) (by decide +kernel)
theorem w_4_124 : (Jvm.Cond.methodLink "StripedVault$Scan" (31 : Nat) ({ cls := "StripedVault$Scan", name := "next", desc := "()I" } : Jvm.MethodName)) ∈ TG := tw_4 124 (by decide +kernel) (by decide +kernel)
theorem w_4_125 : (Jvm.Cond.methodLink "StripedVault$Scan" (72 : Nat) ({ cls := "StripedVault$Scan", name := "refuse", desc := "(I)V" } : Jvm.MethodName)) ∈ TG := tw_4 125 (by decide +kernel) (by decide +kernel)
theorem w_4_126 : (Jvm.Cond.instanceMethod ({ cls := "StripedVault$Scan", name := "refuse", desc := "(I)V" } : Jvm.MethodName)) ∈ TG := tw_4 126 (by decide +kernel) (by decide +kernel)
theorem w_4_127 : (Jvm.Cond.selects "StripedVault$Scan" ({ cls := "StripedVault$Scan", name := "refuse", desc := "(I)V" } : Jvm.MethodName) ({ cls := "StripedVault$Scan", name := "refuse", desc := "(I)V" } : Jvm.MethodName)) ∈ TG := tw_4 127 (by decide +kernel) (by decide +kernel)
theorem w_4_128 : (Jvm.Cond.code ({ cls := "StripedVault$Scan", name := "refuse", desc := "(I)V" } : Jvm.MethodName) prog_7_method_4_code (2 : Nat) (Option.none : Option Jvm.ClassFile.FieldType)) ∈ TG := tw_4 128 (by decide +kernel) (by decide +kernel)
theorem w_4_129 : (Jvm.Cond.methodLink "StripedVault$Schema" (104 : Nat) ({ cls := "StripedVault$Schema", name := "readField", desc := "(LStripedVault$Scan;I)I" } : Jvm.MethodName)) ∈ TG := tw_4 129 (by decide +kernel) (by decide +kernel)
theorem w_4_131 : (Jvm.Cond.instanceMethod ({ cls := "StripedVault$Schema", name := "readField", desc := "(LStripedVault$Scan;I)I" } : Jvm.MethodName)) ∈ TG := tw_4 131 (by decide +kernel) (by decide +kernel)
theorem w_4_132 : (Jvm.Cond.code ({ cls := "StripedVault$Schema", name := "readField", desc := "(LStripedVault$Scan;I)I" } : Jvm.MethodName) prog_8_method_14_code (5 : Nat) (Option.some Jvm.ClassFile.FieldType.int)) ∈ TG := tw_4 132 (by decide +kernel) (by decide +kernel)
theorem w_4_133 : (Jvm.Cond.methodLink "StripedVault$Schema" (111 : Nat) ({ cls := "StripedVault$Schema", name := "readMode", desc := "(LStripedVault$Scan;)I" } : Jvm.MethodName)) ∈ TG := tw_4 133 (by decide +kernel) (by decide +kernel)
theorem w_4_135 : (Jvm.Cond.instanceMethod ({ cls := "StripedVault$Schema", name := "readMode", desc := "(LStripedVault$Scan;)I" } : Jvm.MethodName)) ∈ TG := tw_4 135 (by decide +kernel) (by decide +kernel)
theorem w_4_136 : (Jvm.Cond.code ({ cls := "StripedVault$Schema", name := "readMode", desc := "(LStripedVault$Scan;)I" } : Jvm.MethodName) prog_8_method_15_code (2 : Nat) (Option.some Jvm.ClassFile.FieldType.int)) ∈ TG := tw_4 136 (by decide +kernel) (by decide +kernel)
theorem w_4_138 : (Jvm.Cond.methodLink "StripedVault$Schema" (143 : Nat) ({ cls := "StripedVault$Scan", name := "takeWord", desc := "(Ljava/lang/String;)Z" } : Jvm.MethodName)) ∈ TG := tw_4 138 (by decide +kernel) (by decide +kernel)
theorem w_4_139 : (Jvm.Cond.instanceMethod ({ cls := "StripedVault$Scan", name := "takeWord", desc := "(Ljava/lang/String;)Z" } : Jvm.MethodName)) ∈ TG := tw_4 139 (by decide +kernel) (by decide +kernel)
theorem w_4_140 : (Jvm.Cond.selects "StripedVault$Scan" ({ cls := "StripedVault$Scan", name := "takeWord", desc := "(Ljava/lang/String;)Z" } : Jvm.MethodName) ({ cls := "StripedVault$Scan", name := "takeWord", desc := "(Ljava/lang/String;)Z" } : Jvm.MethodName)) ∈ TG := tw_4 140 (by decide +kernel) (by decide +kernel)
theorem w_4_141 : (Jvm.Cond.code ({ cls := "StripedVault$Scan", name := "takeWord", desc := "(Ljava/lang/String;)Z" } : Jvm.MethodName) prog_7_method_9_code (2 : Nat) (Option.some Jvm.ClassFile.FieldType.boolean)) ∈ TG := tw_4 141 (by decide +kernel) (by decide +kernel)
theorem w_4_142 : (Jvm.Cond.methodLink "StripedVault$Scan" (57 : Nat) ({ cls := "StripedVault$Scan", name := "takeAnyWord", desc := "()Z" } : Jvm.MethodName)) ∈ TG := tw_4 142 (by decide +kernel) (by decide +kernel)
theorem w_4_143 : (Jvm.Cond.instanceMethod ({ cls := "StripedVault$Scan", name := "takeAnyWord", desc := "()Z" } : Jvm.MethodName)) ∈ TG := tw_4 143 (by decide +kernel) (by decide +kernel)
theorem w_4_144 : (Jvm.Cond.selects "StripedVault$Scan" ({ cls := "StripedVault$Scan", name := "takeAnyWord", desc := "()Z" } : Jvm.MethodName) ({ cls := "StripedVault$Scan", name := "takeAnyWord", desc := "()Z" } : Jvm.MethodName)) ∈ TG := tw_4 144 (by decide +kernel) (by decide +kernel)
theorem w_4_145 : (Jvm.Cond.code ({ cls := "StripedVault$Scan", name := "takeAnyWord", desc := "()Z" } : Jvm.MethodName) prog_7_method_7_code (1 : Nat) (Option.some Jvm.ClassFile.FieldType.boolean)) ∈ TG := tw_4 145 (by decide +kernel) (by decide +kernel)
theorem w_4_147 : (Jvm.Cond.static ({ cls := "StripedVault", name := "isLetter", desc := "(I)Z" } : Jvm.MethodName)) ∈ TG := tw_4 147 (by decide +kernel) (by decide +kernel)
theorem w_4_148 : (Jvm.Cond.code ({ cls := "StripedVault", name := "isLetter", desc := "(I)Z" } : Jvm.MethodName) prog_1_method_28_code (1 : Nat) (Option.some Jvm.ClassFile.FieldType.boolean)) ∈ TG := tw_4 148 (by decide +kernel) (by decide +kernel)
theorem w_4_206 : (Jvm.Cond.methodLink "StripedVault$Schema" (151 : Nat) ({ cls := "StripedVault$Scan", name := "needWord", desc := "(Ljava/lang/String;)V" } : Jvm.MethodName)) ∈ TG := tw_4 206 (by decide +kernel) (by decide +kernel)
theorem w_4_207 : (Jvm.Cond.instanceMethod ({ cls := "StripedVault$Scan", name := "needWord", desc := "(Ljava/lang/String;)V" } : Jvm.MethodName)) ∈ TG := tw_4 207 (by decide +kernel) (by decide +kernel)
theorem w_4_208 : (Jvm.Cond.selects "StripedVault$Scan" ({ cls := "StripedVault$Scan", name := "needWord", desc := "(Ljava/lang/String;)V" } : Jvm.MethodName) ({ cls := "StripedVault$Scan", name := "needWord", desc := "(Ljava/lang/String;)V" } : Jvm.MethodName)) ∈ TG := tw_4 208 (by decide +kernel) (by decide +kernel)
theorem w_4_209 : (Jvm.Cond.code ({ cls := "StripedVault$Scan", name := "needWord", desc := "(Ljava/lang/String;)V" } : Jvm.MethodName) prog_7_method_12_code (2 : Nat) (Option.none : Option Jvm.ClassFile.FieldType)) ∈ TG := tw_4 209 (by decide +kernel) (by decide +kernel)
theorem w_4_210 : (Jvm.Cond.methodLink "StripedVault$Scan" (76 : Nat) ({ cls := "StripedVault$Scan", name := "takeWord", desc := "(Ljava/lang/String;)Z" } : Jvm.MethodName)) ∈ TG := tw_4 210 (by decide +kernel) (by decide +kernel)
theorem w_4_211 : (Jvm.Cond.methodLink "StripedVault$Schema" (115 : Nat) ({ cls := "StripedVault$Schema", name := "readType", desc := "(LStripedVault$Scan;)I" } : Jvm.MethodName)) ∈ TG := tw_4 211 (by decide +kernel) (by decide +kernel)
theorem w_4_213 : (Jvm.Cond.instanceMethod ({ cls := "StripedVault$Schema", name := "readType", desc := "(LStripedVault$Scan;)I" } : Jvm.MethodName)) ∈ TG := tw_4 213 (by decide +kernel) (by decide +kernel)
theorem w_4_214 : (Jvm.Cond.code ({ cls := "StripedVault$Schema", name := "readType", desc := "(LStripedVault$Scan;)I" } : Jvm.MethodName) prog_8_method_16_code (2 : Nat) (Option.some Jvm.ClassFile.FieldType.int)) ∈ TG := tw_4 214 (by decide +kernel) (by decide +kernel)
theorem w_4_90 : (Jvm.Cond.methodLink "StripedVault" (120 : Nat) ({ cls := "StripedVault$Scan", name := "begin", desc := "([BI)V" } : Jvm.MethodName)) ∈ TG := tw_4 90 (by decide +kernel) (by decide +kernel)
theorem w_4_91 : (Jvm.Cond.instanceMethod ({ cls := "StripedVault$Scan", name := "begin", desc := "([BI)V" } : Jvm.MethodName)) ∈ TG := tw_4 91 (by decide +kernel) (by decide +kernel)
theorem w_4_92 : (Jvm.Cond.selects "StripedVault$Scan" ({ cls := "StripedVault$Scan", name := "begin", desc := "([BI)V" } : Jvm.MethodName) ({ cls := "StripedVault$Scan", name := "begin", desc := "([BI)V" } : Jvm.MethodName)) ∈ TG := tw_4 92 (by decide +kernel) (by decide +kernel)
theorem w_4_93 : (Jvm.Cond.code ({ cls := "StripedVault$Scan", name := "begin", desc := "([BI)V" } : Jvm.MethodName) prog_7_method_2_code (3 : Nat) (Option.none : Option Jvm.ClassFile.FieldType)) ∈ TG := tw_4 93 (by decide +kernel) (by decide +kernel)
theorem w_4_94 : (Jvm.Cond.methodLink "StripedVault$Scan" (19 : Nat) ({ cls := "java/lang/Math", name := "min", desc := "(II)I" } : Jvm.MethodName)) ∈ TG := tw_4 94 (by decide +kernel) (by decide +kernel)
theorem w_4_95 : (Jvm.Cond.methodLink "StripedVault" (124 : Nat) ({ cls := "StripedVault$Schema", name := "readText", desc := "(LStripedVault$Scan;)I" } : Jvm.MethodName)) ∈ TG := tw_4 95 (by decide +kernel) (by decide +kernel)
theorem w_4_96 : (Jvm.Cond.instanceMethod ({ cls := "StripedVault$Schema", name := "readText", desc := "(LStripedVault$Scan;)I" } : Jvm.MethodName)) ∈ TG := tw_4 96 (by decide +kernel) (by decide +kernel)
theorem w_4_97 : (Jvm.Cond.selects "StripedVault$Schema" ({ cls := "StripedVault$Schema", name := "readText", desc := "(LStripedVault$Scan;)I" } : Jvm.MethodName) ({ cls := "StripedVault$Schema", name := "readText", desc := "(LStripedVault$Scan;)I" } : Jvm.MethodName)) ∈ TG := tw_4 97 (by decide +kernel) (by decide +kernel)
theorem w_4_98 : (Jvm.Cond.code ({ cls := "StripedVault$Schema", name := "readText", desc := "(LStripedVault$Scan;)I" } : Jvm.MethodName) prog_8_method_13_code (5 : Nat) (Option.some Jvm.ClassFile.FieldType.int)) ∈ TG := tw_4 98 (by decide +kernel) (by decide +kernel)
theorem w_4_99 : (Jvm.Cond.methodLink "StripedVault$Schema" (80 : Nat) ({ cls := "StripedVault$Schema", name := "forget", desc := "()V" } : Jvm.MethodName)) ∈ TG := tw_4 99 (by decide +kernel) (by decide +kernel)
theorem wn_4_137 : (Jvm.Cond.stringRef "StripedVault$Schema" (141 : Nat) "required") ∈ lw_tbl := tb_4 _ (List.mem_of_getElem? (i := 137) (by decide +kernel))
theorem wn_4_146 : (Jvm.Cond.methodLinkNest "StripedVault$Scan" (35 : Nat) ({ cls := "StripedVault", name := "isLetter", desc := "(I)Z" } : Jvm.MethodName) "StripedVault") ∈ lw_tbl := tb_4 _ (List.mem_of_getElem? (i := 146) (by decide +kernel))
theorem wn_4_204 : (Jvm.Cond.stringRef "StripedVault$Schema" (147 : Nat) "optional") ∈ lw_tbl := tb_4 _ (List.mem_of_getElem? (i := 204) (by decide +kernel))
theorem wn_4_205 : (Jvm.Cond.stringRef "StripedVault$Schema" (149 : Nat) "repeated") ∈ lw_tbl := tb_4 _ (List.mem_of_getElem? (i := 205) (by decide +kernel))
theorem ws_3 : Cond.selects R_Sch y_Sch_readField y_Sch_readField ∈ TG := tw_s 3 (by decide +kernel) (by decide +kernel)
theorem ws_4 : Cond.selects R_Sch y_Sch_readMode y_Sch_readMode ∈ TG := tw_s 4 (by decide +kernel) (by decide +kernel)
theorem ws_5 : Cond.selects R_Sch y_Sch_readType y_Sch_readType ∈ TG := tw_s 5 (by decide +kernel) (by decide +kernel)
theorem d_V_isLetter_0 : decode b_V_isLetter 0 = .ok (.iload_n 0, 1) := by decide +kernel
theorem d_V_isLetter_1 : decode b_V_isLetter 1 = .ok (.bipush 97, 2) := by decide +kernel
theorem d_V_isLetter_3 : decode b_V_isLetter 3 = .ok (.if_icmp .lt 9, 3) := by decide +kernel
theorem d_V_isLetter_12 : decode b_V_isLetter 12 = .ok (.iload_n 0, 1) := by decide +kernel
theorem d_V_isLetter_13 : decode b_V_isLetter 13 = .ok (.bipush 65, 2) := by decide +kernel
theorem d_V_isLetter_15 : decode b_V_isLetter 15 = .ok (.if_icmp .lt 13, 3) := by decide +kernel
theorem d_V_isLetter_28 : decode b_V_isLetter 28 = .ok (.iconst 0, 1) := by decide +kernel
theorem d_V_isLetter_29 : decode b_V_isLetter 29 = .ok (.ireturn, 1) := by decide +kernel
theorem d_V_isLetter_18 : decode b_V_isLetter 18 = .ok (.iload_n 0, 1) := by decide +kernel
theorem d_V_isLetter_19 : decode b_V_isLetter 19 = .ok (.bipush 90, 2) := by decide +kernel
theorem d_V_isLetter_21 : decode b_V_isLetter 21 = .ok (.if_icmp .gt 7, 3) := by decide +kernel
theorem d_V_isLetter_24 : decode b_V_isLetter 24 = .ok (.iconst 1, 1) := by decide +kernel
theorem d_V_isLetter_25 : decode b_V_isLetter 25 = .ok (.goto 4, 3) := by decide +kernel
theorem d_V_isLetter_6 : decode b_V_isLetter 6 = .ok (.iload_n 0, 1) := by decide +kernel
theorem d_V_isLetter_7 : decode b_V_isLetter 7 = .ok (.bipush 122, 2) := by decide +kernel
theorem d_V_isLetter_9 : decode b_V_isLetter 9 = .ok (.if_icmp .le 15, 3) := by decide +kernel
theorem d_Scn_begin_0 : decode b_Scn_begin 0 = .ok (.aload_n 0, 1) := by decide +kernel
theorem d_Scn_begin_1 : decode b_Scn_begin 1 = .ok (.aload_n 1, 1) := by decide +kernel
theorem d_Scn_begin_2 : decode b_Scn_begin 2 = .ok (.putfield 9, 3) := by decide +kernel
theorem d_Scn_begin_5 : decode b_Scn_begin 5 = .ok (.aload_n 0, 1) := by decide +kernel
theorem d_Scn_begin_6 : decode b_Scn_begin 6 = .ok (.iload_n 2, 1) := by decide +kernel
theorem d_Scn_begin_7 : decode b_Scn_begin 7 = .ok (.aload_n 1, 1) := by decide +kernel
theorem d_Scn_begin_8 : decode b_Scn_begin 8 = .ok (.arraylength, 1) := by decide +kernel
theorem d_Scn_begin_9 : decode b_Scn_begin 9 = .ok (.invokestatic 19, 3) := by decide +kernel
theorem d_Scn_begin_12 : decode b_Scn_begin 12 = .ok (.putfield 25, 3) := by decide +kernel
theorem d_Scn_begin_15 : decode b_Scn_begin 15 = .ok (.aload_n 0, 1) := by decide +kernel
theorem d_Scn_begin_16 : decode b_Scn_begin 16 = .ok (.iconst 0, 1) := by decide +kernel
theorem d_Scn_begin_17 : decode b_Scn_begin 17 = .ok (.putfield 28, 3) := by decide +kernel
theorem d_Scn_begin_20 : decode b_Scn_begin 20 = .ok (.aload_n 0, 1) := by decide +kernel
theorem d_Scn_begin_21 : decode b_Scn_begin 21 = .ok (.iconst (-1), 1) := by decide +kernel
theorem d_Scn_begin_22 : decode b_Scn_begin 22 = .ok (.putfield 15, 3) := by decide +kernel
theorem d_Scn_begin_25 : decode b_Scn_begin 25 = .ok (.return_, 1) := by decide +kernel
theorem d_Scn_good_0 : decode b_Scn_good 0 = .ok (.aload_n 0, 1) := by decide +kernel
theorem d_Scn_good_1 : decode b_Scn_good 1 = .ok (.getfield 15, 3) := by decide +kernel
theorem d_Scn_good_4 : decode b_Scn_good 4 = .ok (.iconst (-1), 1) := by decide +kernel
theorem d_Scn_good_5 : decode b_Scn_good 5 = .ok (.if_icmp .ne 7, 3) := by decide +kernel
theorem d_Scn_good_8 : decode b_Scn_good 8 = .ok (.iconst 1, 1) := by decide +kernel
theorem d_Scn_good_9 : decode b_Scn_good 9 = .ok (.goto 4, 3) := by decide +kernel
theorem d_Scn_good_13 : decode b_Scn_good 13 = .ok (.ireturn, 1) := by decide +kernel
theorem d_Scn_good_12 : decode b_Scn_good 12 = .ok (.iconst 0, 1) := by decide +kernel
theorem d_Scn_refuse_0 : decode b_Scn_refuse 0 = .ok (.aload_n 0, 1) := by decide +kernel
theorem d_Scn_refuse_1 : decode b_Scn_refuse 1 = .ok (.getfield 15, 3) := by decide +kernel
theorem d_Scn_refuse_4 : decode b_Scn_refuse 4 = .ok (.iconst (-1), 1) := by decide +kernel
theorem d_Scn_refuse_5 : decode b_Scn_refuse 5 = .ok (.if_icmp .ne 8, 3) := by decide +kernel
theorem d_Scn_refuse_8 : decode b_Scn_refuse 8 = .ok (.aload_n 0, 1) := by decide +kernel
theorem d_Scn_refuse_9 : decode b_Scn_refuse 9 = .ok (.iload_n 1, 1) := by decide +kernel
theorem d_Scn_refuse_10 : decode b_Scn_refuse 10 = .ok (.putfield 15, 3) := by decide +kernel
theorem d_Scn_refuse_13 : decode b_Scn_refuse 13 = .ok (.return_, 1) := by decide +kernel
theorem d_Scn_next_0 : decode b_Scn_next 0 = .ok (.aload_n 0, 1) := by decide +kernel
theorem d_Scn_next_1 : decode b_Scn_next 1 = .ok (.getfield 28, 3) := by decide +kernel
theorem d_Scn_next_4 : decode b_Scn_next 4 = .ok (.aload_n 0, 1) := by decide +kernel
theorem d_Scn_next_5 : decode b_Scn_next 5 = .ok (.getfield 25, 3) := by decide +kernel
theorem d_Scn_next_8 : decode b_Scn_next 8 = .ok (.if_icmp .ge 44, 3) := by decide +kernel
theorem d_Scn_next_52 : decode b_Scn_next 52 = .ok (.aload_n 0, 1) := by decide +kernel
theorem d_Scn_next_53 : decode b_Scn_next 53 = .ok (.getfield 28, 3) := by decide +kernel
theorem d_Scn_next_56 : decode b_Scn_next 56 = .ok (.aload_n 0, 1) := by decide +kernel
theorem d_Scn_next_57 : decode b_Scn_next 57 = .ok (.getfield 25, 3) := by decide +kernel
theorem d_Scn_next_60 : decode b_Scn_next 60 = .ok (.if_icmp .ge 19, 3) := by decide +kernel
theorem d_Scn_next_79 : decode b_Scn_next 79 = .ok (.iconst (-1), 1) := by decide +kernel
theorem d_Scn_next_80 : decode b_Scn_next 80 = .ok (.ireturn, 1) := by decide +kernel
theorem d_Scn_takeAnyWord_0 : decode b_Scn_takeAnyWord 0 = .ok (.aload_n 0, 1) := by decide +kernel
theorem d_Scn_takeAnyWord_1 : decode b_Scn_takeAnyWord 1 = .ok (.invokevirtual 31, 3) := by decide +kernel
theorem d_Scn_takeAnyWord_4 : decode b_Scn_takeAnyWord 4 = .ok (.invokestatic 35, 3) := by decide +kernel
theorem d_Scn_takeAnyWord_7 : decode b_Scn_takeAnyWord 7 = .ok (.ifCond .ne 5, 3) := by decide +kernel
theorem d_Scn_takeAnyWord_10 : decode b_Scn_takeAnyWord 10 = .ok (.iconst 0, 1) := by decide +kernel
theorem d_Scn_takeAnyWord_11 : decode b_Scn_takeAnyWord 11 = .ok (.ireturn, 1) := by decide +kernel
theorem d_Scn_takeWord_0 : decode b_Scn_takeWord 0 = .ok (.aload_n 0, 1) := by decide +kernel
theorem d_Scn_takeWord_1 : decode b_Scn_takeWord 1 = .ok (.invokevirtual 57, 3) := by decide +kernel
theorem d_Scn_takeWord_4 : decode b_Scn_takeWord 4 = .ok (.ifCond .ne 5, 3) := by decide +kernel
theorem d_Scn_takeWord_7 : decode b_Scn_takeWord 7 = .ok (.iconst 0, 1) := by decide +kernel
theorem d_Scn_takeWord_8 : decode b_Scn_takeWord 8 = .ok (.ireturn, 1) := by decide +kernel
theorem d_Scn_needWord_0 : decode b_Scn_needWord 0 = .ok (.aload_n 0, 1) := by decide +kernel
theorem d_Scn_needWord_1 : decode b_Scn_needWord 1 = .ok (.invokevirtual 65, 3) := by decide +kernel
theorem d_Scn_needWord_4 : decode b_Scn_needWord 4 = .ok (.ifCond .eq 19, 3) := by decide +kernel
theorem d_Scn_needWord_7 : decode b_Scn_needWord 7 = .ok (.aload_n 0, 1) := by decide +kernel
theorem d_Scn_needWord_8 : decode b_Scn_needWord 8 = .ok (.aload_n 1, 1) := by decide +kernel
theorem d_Scn_needWord_9 : decode b_Scn_needWord 9 = .ok (.invokevirtual 76, 3) := by decide +kernel
theorem d_Scn_needWord_12 : decode b_Scn_needWord 12 = .ok (.ifCond .ne 11, 3) := by decide +kernel
theorem d_Scn_needWord_15 : decode b_Scn_needWord 15 = .ok (.aload_n 0, 1) := by decide +kernel
theorem d_Scn_needWord_16 : decode b_Scn_needWord 16 = .ok (.aload_n 0, 1) := by decide +kernel
theorem d_Scn_needWord_17 : decode b_Scn_needWord 17 = .ok (.getfield 28, 3) := by decide +kernel
theorem d_Scn_needWord_20 : decode b_Scn_needWord 20 = .ok (.invokevirtual 72, 3) := by decide +kernel
theorem d_Scn_needWord_23 : decode b_Scn_needWord 23 = .ok (.return_, 1) := by decide +kernel
theorem d_Sch_forget_0 : decode b_Sch_forget 0 = .ok (.aload_n 0, 1) := by decide +kernel
theorem d_Sch_forget_1 : decode b_Sch_forget 1 = .ok (.iconst 0, 1) := by decide +kernel
theorem d_Sch_forget_2 : decode b_Sch_forget 2 = .ok (.putfield 46, 3) := by decide +kernel
theorem d_Sch_forget_5 : decode b_Sch_forget 5 = .ok (.aload_n 0, 1) := by decide +kernel
theorem d_Sch_forget_6 : decode b_Sch_forget 6 = .ok (.iconst 0, 1) := by decide +kernel
theorem d_Sch_forget_7 : decode b_Sch_forget 7 = .ok (.putfield 50, 3) := by decide +kernel
theorem d_Sch_forget_10 : decode b_Sch_forget 10 = .ok (.return_, 1) := by decide +kernel
theorem d_Sch_readMode_0 : decode b_Sch_readMode 0 = .ok (.aload_n 1, 1) := by decide +kernel
theorem d_Sch_readMode_1 : decode b_Sch_readMode 1 = .ok (.ldc 141, 2) := by decide +kernel
theorem d_Sch_readMode_3 : decode b_Sch_readMode 3 = .ok (.invokevirtual 143, 3) := by decide +kernel
theorem d_Sch_readMode_6 : decode b_Sch_readMode 6 = .ok (.ifCond .eq 5, 3) := by decide +kernel
theorem d_Sch_readMode_11 : decode b_Sch_readMode 11 = .ok (.aload_n 1, 1) := by decide +kernel
theorem d_Sch_readMode_12 : decode b_Sch_readMode 12 = .ok (.ldc 147, 2) := by decide +kernel
theorem d_Sch_readMode_14 : decode b_Sch_readMode 14 = .ok (.invokevirtual 143, 3) := by decide +kernel
theorem d_Sch_readMode_17 : decode b_Sch_readMode 17 = .ok (.ifCond .eq 5, 3) := by decide +kernel
theorem d_Sch_readMode_22 : decode b_Sch_readMode 22 = .ok (.aload_n 1, 1) := by decide +kernel
theorem d_Sch_readMode_23 : decode b_Sch_readMode 23 = .ok (.ldc 149, 2) := by decide +kernel
theorem d_Sch_readMode_25 : decode b_Sch_readMode 25 = .ok (.invokevirtual 151, 3) := by decide +kernel
theorem d_Sch_readMode_28 : decode b_Sch_readMode 28 = .ok (.iconst 2, 1) := by decide +kernel
theorem d_Sch_readMode_29 : decode b_Sch_readMode 29 = .ok (.ireturn, 1) := by decide +kernel
theorem d_Sch_readType_0 : decode b_Sch_readType 0 = .ok (.aload_n 1, 1) := by decide +kernel
theorem d_Sch_readType_1 : decode b_Sch_readType 1 = .ok (.invokevirtual 88, 3) := by decide +kernel
theorem d_Sch_readType_4 : decode b_Sch_readType 4 = .ok (.ifCond .ne 5, 3) := by decide +kernel
theorem d_Sch_readType_7 : decode b_Sch_readType 7 = .ok (.iconst 0, 1) := by decide +kernel
theorem d_Sch_readType_8 : decode b_Sch_readType 8 = .ok (.ireturn, 1) := by decide +kernel
theorem d_Sch_readField_0 : decode b_Sch_readField 0 = .ok (.aload_n 0, 1) := by decide +kernel
theorem d_Sch_readField_1 : decode b_Sch_readField 1 = .ok (.aload_n 1, 1) := by decide +kernel
theorem d_Sch_readField_2 : decode b_Sch_readField 2 = .ok (.invokevirtual 111, 3) := by decide +kernel
theorem d_Sch_readField_5 : decode b_Sch_readField 5 = .ok (.istore_n 3, 1) := by decide +kernel
theorem d_Sch_readField_6 : decode b_Sch_readField 6 = .ok (.aload_n 0, 1) := by decide +kernel
theorem d_Sch_readField_7 : decode b_Sch_readField 7 = .ok (.aload_n 1, 1) := by decide +kernel
theorem d_Sch_readField_8 : decode b_Sch_readField 8 = .ok (.invokevirtual 115, 3) := by decide +kernel
theorem d_Sch_readField_11 : decode b_Sch_readField 11 = .ok (.istore 4, 2) := by decide +kernel
theorem d_Sch_readField_13 : decode b_Sch_readField 13 = .ok (.aload_n 1, 1) := by decide +kernel
theorem d_Sch_readField_14 : decode b_Sch_readField 14 = .ok (.invokevirtual 88, 3) := by decide +kernel
theorem d_Sch_readField_17 : decode b_Sch_readField 17 = .ok (.ifCond .eq 18, 3) := by decide +kernel
theorem d_Sch_readField_35 : decode b_Sch_readField 35 = .ok (.aload_n 1, 1) := by decide +kernel
theorem d_Sch_readField_36 : decode b_Sch_readField 36 = .ok (.invokevirtual 88, 3) := by decide +kernel
theorem d_Sch_readField_39 : decode b_Sch_readField 39 = .ok (.ifCond .ne 5, 3) := by decide +kernel
theorem d_Sch_readField_42 : decode b_Sch_readField 42 = .ok (.iload_n 2, 1) := by decide +kernel
theorem d_Sch_readField_43 : decode b_Sch_readField 43 = .ok (.ireturn, 1) := by decide +kernel
theorem d_Sch_readText_0 : decode b_Sch_readText 0 = .ok (.aload_n 0, 1) := by decide +kernel
theorem d_Sch_readText_1 : decode b_Sch_readText 1 = .ok (.invokevirtual 80, 3) := by decide +kernel
theorem d_Sch_readText_4 : decode b_Sch_readText 4 = .ok (.iconst (-1), 1) := by decide +kernel
theorem d_Sch_readText_5 : decode b_Sch_readText 5 = .ok (.istore_n 2, 1) := by decide +kernel
theorem d_Sch_readText_6 : decode b_Sch_readText 6 = .ok (.iconst 0, 1) := by decide +kernel
theorem d_Sch_readText_7 : decode b_Sch_readText 7 = .ok (.istore_n 3, 1) := by decide +kernel
theorem d_Sch_readText_8 : decode b_Sch_readText 8 = .ok (.iload_n 3, 1) := by decide +kernel
theorem d_Sch_readText_9 : decode b_Sch_readText 9 = .ok (.aload_n 1, 1) := by decide +kernel
theorem d_Sch_readText_10 : decode b_Sch_readText 10 = .ok (.getfield 83, 3) := by decide +kernel
theorem d_Sch_readText_13 : decode b_Sch_readText 13 = .ok (.if_icmp .gt 85, 3) := by decide +kernel
theorem d_Sch_readText_16 : decode b_Sch_readText 16 = .ok (.aload_n 1, 1) := by decide +kernel
theorem d_Sch_readText_17 : decode b_Sch_readText 17 = .ok (.invokevirtual 88, 3) := by decide +kernel
theorem d_Sch_readText_20 : decode b_Sch_readText 20 = .ok (.ifCond .eq 78, 3) := by decide +kernel
theorem d_Sch_readText_23 : decode b_Sch_readText 23 = .ok (.aload_n 1, 1) := by decide +kernel
theorem d_Sch_readText_24 : decode b_Sch_readText 24 = .ok (.invokevirtual 92, 3) := by decide +kernel
theorem d_Sch_readText_27 : decode b_Sch_readText 27 = .ok (.istore 4, 2) := by decide +kernel
theorem d_Sch_readText_29 : decode b_Sch_readText 29 = .ok (.iload 4, 2) := by decide +kernel
theorem d_Sch_readText_31 : decode b_Sch_readText 31 = .ok (.iconst (-1), 1) := by decide +kernel
theorem d_Sch_readText_32 : decode b_Sch_readText 32 = .ok (.if_icmp .ne 17, 3) := by decide +kernel
theorem d_Sch_readText_35 : decode b_Sch_readText 35 = .ok (.iload_n 2, 1) := by decide +kernel
theorem d_Sch_readText_36 : decode b_Sch_readText 36 = .ok (.iconst (-1), 1) := by decide +kernel
theorem d_Sch_readText_37 : decode b_Sch_readText 37 = .ok (.if_icmp .ne 12, 3) := by decide +kernel
theorem d_Sch_readText_40 : decode b_Sch_readText 40 = .ok (.aload_n 0, 1) := by decide +kernel
theorem d_Sch_readText_41 : decode b_Sch_readText 41 = .ok (.getfield 46, 3) := by decide +kernel
theorem d_Sch_readText_44 : decode b_Sch_readText 44 = .ok (.ifCond .le 5, 3) := by decide +kernel
theorem d_Sch_readText_49 : decode b_Sch_readText 49 = .ok (.iload 4, 2) := by decide +kernel
theorem d_Sch_readText_51 : decode b_Sch_readText 51 = .ok (.bipush 125, 2) := by decide +kernel
theorem d_Sch_readText_53 : decode b_Sch_readText 53 = .ok (.if_icmp .ne 32, 3) := by decide +kernel
theorem d_Sch_readText_85 : decode b_Sch_readText 85 = .ok (.aload_n 0, 1) := by decide +kernel
theorem d_Sch_readText_86 : decode b_Sch_readText 86 = .ok (.aload_n 1, 1) := by decide +kernel
theorem d_Sch_readText_87 : decode b_Sch_readText 87 = .ok (.iload_n 2, 1) := by decide +kernel
theorem d_Sch_readText_88 : decode b_Sch_readText 88 = .ok (.invokevirtual 104, 3) := by decide +kernel
theorem d_Sch_readText_91 : decode b_Sch_readText 91 = .ok (.istore_n 2, 1) := by decide +kernel
theorem d_Sch_readText_92 : decode b_Sch_readText 92 = .ok (.iinc 3 1, 3) := by decide +kernel
theorem d_Sch_readText_95 : decode b_Sch_readText 95 = .ok (.goto (-87), 3) := by decide +kernel
theorem d_Sch_readText_98 : decode b_Sch_readText 98 = .ok (.aload_n 1, 1) := by decide +kernel
theorem d_Sch_readText_99 : decode b_Sch_readText 99 = .ok (.getfield 108, 3) := by decide +kernel
theorem d_Sch_readText_102 : decode b_Sch_readText 102 = .ok (.ireturn, 1) := by decide +kernel
theorem d_V_schema_0 : decode b_V_schema 0 = .ok (.aload_n 0, 1) := by decide +kernel
theorem d_V_schema_1 : decode b_V_schema 1 = .ok (.invokevirtual 112, 3) := by decide +kernel
theorem d_V_schema_4 : decode b_V_schema 4 = .ok (.istore_n 1, 1) := by decide +kernel
theorem d_V_schema_5 : decode b_V_schema 5 = .ok (.iload_n 1, 1) := by decide +kernel
theorem d_V_schema_6 : decode b_V_schema 6 = .ok (.sipush 4000, 3) := by decide +kernel
theorem d_V_schema_9 : decode b_V_schema 9 = .ok (.if_icmp .le 7, 3) := by decide +kernel
theorem d_V_schema_16 : decode b_V_schema 16 = .ok (.aload_n 0, 1) := by decide +kernel
theorem d_V_schema_17 : decode b_V_schema 17 = .ok (.getfield 28, 3) := by decide +kernel
theorem d_V_schema_20 : decode b_V_schema 20 = .ok (.aload_n 0, 1) := by decide +kernel
theorem d_V_schema_21 : decode b_V_schema 21 = .ok (.getfield 19, 3) := by decide +kernel
theorem d_V_schema_24 : decode b_V_schema 24 = .ok (.getfield 116, 3) := by decide +kernel
theorem d_V_schema_27 : decode b_V_schema 27 = .ok (.iload_n 1, 1) := by decide +kernel
theorem d_V_schema_28 : decode b_V_schema 28 = .ok (.invokevirtual 120, 3) := by decide +kernel
theorem d_V_schema_31 : decode b_V_schema 31 = .ok (.aload_n 0, 1) := by decide +kernel
theorem d_V_schema_32 : decode b_V_schema 32 = .ok (.getfield 39, 3) := by decide +kernel
theorem d_V_schema_35 : decode b_V_schema 35 = .ok (.aload_n 0, 1) := by decide +kernel
theorem d_V_schema_36 : decode b_V_schema 36 = .ok (.getfield 28, 3) := by decide +kernel
theorem d_V_schema_39 : decode b_V_schema 39 = .ok (.invokevirtual 124, 3) := by decide +kernel
theorem d_V_schema_42 : decode b_V_schema 42 = .ok (.istore_n 2, 1) := by decide +kernel
theorem d_V_schema_43 : decode b_V_schema 43 = .ok (.iload_n 2, 1) := by decide +kernel
theorem d_V_schema_44 : decode b_V_schema 44 = .ok (.iconst (-1), 1) := by decide +kernel
theorem d_V_schema_45 : decode b_V_schema 45 = .ok (.if_icmp .eq 5, 3) := by decide +kernel
theorem d_V_schema_48 : decode b_V_schema 48 = .ok (.iload_n 2, 1) := by decide +kernel
theorem d_V_schema_49 : decode b_V_schema 49 = .ok (.ireturn, 1) := by decide +kernel
/-- the String constants are resolved -/
def SW (U : State) : Prop := ∀ (own : String) (k : Nat) (tx : String), Cond.stringRef own k tx ∈ lw_tbl → (Cond.stringRef own k tx).before #[] U = true
theorem str_same {own tx : String} {k : Nat} {u U : State} (hv : U.vm = u.vm) (h : (Cond.stringRef own k tx).before #[] u = true) : (Cond.stringRef own k tx).before #[] U = true := by
  simp only [Cond.before, Cond.holds, Cond.value, State.names, State.poolOf?, State.resolvedAt?, hv] at h ⊢
  exact h
theorem SW.same {u U : State} (h : u.vm = U.vm) (z : SW u) : SW U := fun own k tx hw => str_same h.symm (z own k tx hw)
theorem SW.warm {s U : State} (h : s.WarmedH U.vm) (z : SW s) : SW U := fun own k tx hw => str_same (u := s.setVm U.vm) rfl (Cond.stringRef_warmed h (z own k tx hw))
theorem SW.of {A : Array Value} {s : State} (h : ∀ w ∈ lw_tbl, w.before A s = true) : SW s := fun own k tx hw => h _ hw
def PS (dC : Nat → ClassId) (dI : Nat → Nat → Nat) (cI cB cJ cZ : ClassId) (sz : Nat) (ws : va_W) (U : State) : Prop := PC dC dI cI cB cJ cZ sz ws U ∧ SW U
theorem PS.blind {dC : Nat → ClassId} {dI : Nat → Nat → Nat} {cI cB cJ cZ : ClassId} {sz : Nat} {ws : va_W} {av : List Value} : FrameBlind (va_Pc av (PS dC dI cI cB cJ cZ sz ws)) := fun a U g mk q => by
  obtain ⟨q0, ⟨q1, qP, qK, qD, qN⟩, qS⟩ := q
  exact ⟨q0, ⟨q1, qP, va_K.moved (u := U) (U := U.calling g mk a) (Vm.Alike.refl U.vm) qK, qD, NW.same (u := U) (U := U.calling g mk a) rfl qN⟩, SW.same (u := U) (U := U.calling g mk a) rfl qS⟩
theorem PS.at {dC : Nat → ClassId} {dI : Nat → Nat → Nat} {cI cB cJ cZ : ClassId} {A : Nat → Prop} {s : State} {H : Heap} {ws : va_W} (av : List Value) (hP : va_P (dC, dI) CL ws H) (hD : va_D A ws) (hK : va_K (dC, dI) CL (TY cI cB cJ cZ) s) (hN : NW s) (hSW : SW s) :
    ∀ U : State, U.heap = H → s.WarmedH U.vm → va_Pc av (PS dC dI cI cB cJ cZ H.size ws) av.toArray U := fun U hU hW =>
  ⟨rfl, (PC.at av hP hD hK hN U hU hW).2, SW.warm hW hSW⟩
section LdcT
variable {p : Program} {l : Launch} {e : Env} {R : Room} {s : State} {m : MethodId} {args : Array Value} {below : List Frame} {meth : Method} {c : Code} {H : Heap} {locs : List Loc} {cells slots : Nat} {Q : State → Prop}
variable {cc : ByteArray} {pc : Nat} {ls : Array Slot} {rest : List Value}
/-- a String constant: the cell that its entry names is pushed -/
theorem f_ldcT (hexec : p.tables.exec = Jvm.exec) (hb : c.code = cc) (hSW : SW s) {own tx : String} {index : Nat} (hown : s.vm.findClass own = some m.cls) (hw : Cond.stringRef own index tx ∈ lw_tbl) (hdg : decode cc pc = .ok (.ldc index, 2))
    (k : ∀ q : Nat, vk_R own index tx q s → W p l e R s m args below meth c H locs cells slots Q (F0 m (pc + 2) ls (.ref q :: rest))) : W p l e R s m args below meth c H locs cells slots Q (F0 m pc ls rest) := by
  obtain ⟨-, -, -, q, -, -, -, -, -, hev⟩ := Cond.stringRef_spec hown (hSW _ _ _ hw)
  have hZ : vk_R own index tx q s := vk_R.of (hSW _ _ _ hw) hev
  exact va_ldcS hexec hb hown hZ hdg (k q hZ)
end LdcT
def sp_isLetter (k : Int32) : Int32 := if k < 97 then (if k < 65 then 0 else if 90 < k then 0 else 1) else if k ≤ 122 then 1 else if k < 65 then 0 else if 90 < k then 0 else 1
theorem min_row {n : Int32} {z : Nat} (hn : n.toInt ≤ z) (hz : z < 2 ^ 31) : (if (nI z) < n then (nI z) else n) = n := by
  rw [if_neg]
  rw [Int32.lt_iff_toInt_lt, nI_toInt hz]
  omega
theorem i0_le (z : Nat) : (0 : Int32).toInt ≤ (z : Int) := by rw [Int32.toInt_zero]; omega
section
variable (l : Launch) (dC : Nat → ClassId) (dI : Nat → Nat → Nat) (cI cB cJ cZ : ClassId)
set_option maxHeartbeats 4000000 in
set_option maxRecDepth 100000 in
/-- isLetter(k) -/
theorem c_V_isLetter (sz : Nat) (k : Int32) : Met l y_V_isLetter (wsOf y_V_isLetter b_V_isLetter 1 (some (.boolean))) ({ frames := 0, cells := 0, slots := 0, locals := 0 }) (va_Pc [.int k] (PC dC dI cI cB cJ cZ sz [])) (va_Qi (fun (r : Int32) (_ : Unit) => r = sp_isLetter k) (fun _ t => va_P (dC, dI) CL [] t.heap ∧ va_D (va_A [] sz) []) (va_A [] sz)) 0 0 (va_A [] sz) := by
  refine Met.ofW (cc := b_V_isLetter) (maxL := 1) (ret := some (.boolean)) (by decide) rfl ?_
  intro p e s m args below meth c s₁ B hml hv
  obtain ⟨rfl, hsz, hP, hK, hD0, hN⟩ := hv
  have hx := B.exec
  have hb := B.bytes
  have hr := B.returns
  have hts := atoms_spec B.pre
  have hT : ∀ w ∈ TG, w.before _ s = true := fun w h => hts w (List.mem_cons_of_mem _ h)
  have hown : s.vm.findClass R_V = some m.cls := findClass_of_methodNamed B.named
  have hlocks := B.notSynchronized
  subst hsz
  have hD := hD0.self (sz := s.heap.size)
  generalize hAe : va_A [] s.heap.size = A at hD ⊢
  have hA : ∀ q : Nat, s.heap.size ≤ q → A q := fun q h => by rw [← hAe]; exact Or.inr h
  have hS : va_S A s.heap s.heap [] := va_S.rf
  have hl := lv_entry ([.int k]) (n := 1) (Nat.le_of_ble_eq_true rfl)
  rw [lg_entry_eq]
  generalize (lg_sl ([.int k]) ++ List.replicate (1 - (lg_sl ([.int k])).length) Slot.unset).toArray = ls at hl ⊢
  have hl : lv_has ls 1 [(0, .int k)] := hl
  refine lv_iload_n hx hb d_V_isLetter_0 rfl (lv_at hl 0 rfl) ?_
  refine lv_bipush (v := 97) hx hb d_V_isLetter_1 (by decide) ?_
  refine lv_icmp_lt (tgt := 12) hx hb d_V_isLetter_3 (by decide) (fun c_1 => ?_) (fun c_1 => ?_)
  · refine lv_iload_n hx hb d_V_isLetter_12 rfl (lv_at hl 0 rfl) ?_
    refine lv_bipush (v := 65) hx hb d_V_isLetter_13 (by decide) ?_
    refine lv_icmp_lt (tgt := 28) hx hb d_V_isLetter_15 (by decide) (fun c_2 => ?_) (fun c_2 => ?_)
    · refine lv_iconst (v := 0) hx hb d_V_isLetter_28 (by decide) ?_
      exact W.zret (v := 0) (ty := .boolean) hx hb hr rfl (fun t ht hW => ⟨⟨0, (), rfl, by simp [sp_isLetter, c_1, c_2], by rw [ht]; exact hP, hD⟩, hS.F ht⟩) hS.2.2 d_V_isLetter_29
    · refine lv_iload_n hx hb d_V_isLetter_18 rfl (lv_at hl 0 rfl) ?_
      refine lv_bipush (v := 90) hx hb d_V_isLetter_19 (by decide) ?_
      refine lv_icmp_gt (tgt := 28) hx hb d_V_isLetter_21 (by decide) (fun c_3 => ?_) (fun c_3 => ?_)
      · refine lv_iconst (v := 0) hx hb d_V_isLetter_28 (by decide) ?_
        exact W.zret (v := 0) (ty := .boolean) hx hb hr rfl (fun t ht hW => ⟨⟨0, (), rfl, by simp [sp_isLetter, c_1, c_2, c_3], by rw [ht]; exact hP, hD⟩, hS.F ht⟩) hS.2.2 d_V_isLetter_29
      · refine lv_iconst (v := 1) hx hb d_V_isLetter_24 (by decide) ?_
        refine lv_goto (tgt := 29) hx hb d_V_isLetter_25 (by decide) ?_
        exact W.zret (v := 1) (ty := .boolean) hx hb hr rfl (fun t ht hW => ⟨⟨1, (), rfl, by simp [sp_isLetter, c_1, c_2, c_3], by rw [ht]; exact hP, hD⟩, hS.F ht⟩) hS.2.2 d_V_isLetter_29
  · refine lv_iload_n hx hb d_V_isLetter_6 rfl (lv_at hl 0 rfl) ?_
    refine lv_bipush (v := 122) hx hb d_V_isLetter_7 (by decide) ?_
    refine lv_icmp_le (tgt := 24) hx hb d_V_isLetter_9 (by decide) (fun c_2 => ?_) (fun c_2 => ?_)
    · refine lv_iconst (v := 1) hx hb d_V_isLetter_24 (by decide) ?_
      refine lv_goto (tgt := 29) hx hb d_V_isLetter_25 (by decide) ?_
      exact W.zret (v := 1) (ty := .boolean) hx hb hr rfl (fun t ht hW => ⟨⟨1, (), rfl, by simp [sp_isLetter, c_1, c_2], by rw [ht]; exact hP, hD⟩, hS.F ht⟩) hS.2.2 d_V_isLetter_29
    · refine lv_iload_n hx hb d_V_isLetter_12 rfl (lv_at hl 0 rfl) ?_
      refine lv_bipush (v := 65) hx hb d_V_isLetter_13 (by decide) ?_
      refine lv_icmp_lt (tgt := 28) hx hb d_V_isLetter_15 (by decide) (fun c_3 => ?_) (fun c_3 => ?_)
      · refine lv_iconst (v := 0) hx hb d_V_isLetter_28 (by decide) ?_
        exact W.zret (v := 0) (ty := .boolean) hx hb hr rfl (fun t ht hW => ⟨⟨0, (), rfl, by simp [sp_isLetter, c_1, c_2, c_3], by rw [ht]; exact hP, hD⟩, hS.F ht⟩) hS.2.2 d_V_isLetter_29
      · refine lv_iload_n hx hb d_V_isLetter_18 rfl (lv_at hl 0 rfl) ?_
        refine lv_bipush (v := 90) hx hb d_V_isLetter_19 (by decide) ?_
        refine lv_icmp_gt (tgt := 28) hx hb d_V_isLetter_21 (by decide) (fun c_4 => ?_) (fun c_4 => ?_)
        · refine lv_iconst (v := 0) hx hb d_V_isLetter_28 (by decide) ?_
          exact W.zret (v := 0) (ty := .boolean) hx hb hr rfl (fun t ht hW => ⟨⟨0, (), rfl, by simp [sp_isLetter, c_1, c_2, c_3, c_4], by rw [ht]; exact hP, hD⟩, hS.F ht⟩) hS.2.2 d_V_isLetter_29
        · refine lv_iconst (v := 1) hx hb d_V_isLetter_24 (by decide) ?_
          refine lv_goto (tgt := 29) hx hb d_V_isLetter_25 (by decide) ?_
          exact W.zret (v := 1) (ty := .boolean) hx hb hr rfl (fun t ht hW => ⟨⟨1, (), rfl, by simp [sp_isLetter, c_1, c_2, c_3, c_4], by rw [ht]; exact hP, hD⟩, hS.F ht⟩) hS.2.2 d_V_isLetter_29
set_option maxHeartbeats 4000000 in
set_option maxRecDepth 100000 in
/-- Scan.begin(bytes, n) -/
theorem c_Scn_begin (sz : Nat) (h : Nat) (F : List Value) (y z : Nat) (g : Nat → Int32) (n : Int32) (nF : F.length = 8) (hn : n.toInt ≤ z) (hz : z < 2 ^ 31) : Met l y_Scn_begin (wsOf y_Scn_begin b_Scn_begin 3 none) ({ frames := 1, cells := 0, slots := 0, locals := 15 }) (va_Pc [.ref h, .ref y, .int n] (PC dC dI cI cB cJ cZ sz [(h, .inr (2, F)), (y, .inl (cB, z, .inl g))])) (va_Qv (fun _ : Unit => True) (fun _ t => va_P (dC, dI) CL [(h, .inr (2, (((F.set 0 (.ref y)).set 1 (.int n)).set 2 (.int 0)).set 3 (.int (-1)))), (y, .inl (cB, z, .inl g))] t.heap ∧ va_D (va_A [(h, .inr (2, F)), (y, .inl (cB, z, .inl g))] sz) [(h, .inr (2, (((F.set 0 (.ref y)).set 1 (.int n)).set 2 (.int 0)).set 3 (.int (-1)))), (y, .inl (cB, z, .inl g))]) (va_A [(h, .inr (2, F)), (y, .inl (cB, z, .inl g))] sz)) 0 0 (va_A [(h, .inr (2, F)), (y, .inl (cB, z, .inl g))] sz) := by
  refine Met.ofW (cc := b_Scn_begin) (maxL := 3) (ret := none) (by decide) rfl ?_
  intro p e s m args below meth c s₁ B hml hv
  obtain ⟨rfl, hsz, hP, hK, hD0, hN⟩ := hv
  have hx := B.exec
  have hb := B.bytes
  have hr := B.returns
  have hts := atoms_spec B.pre
  have hT : ∀ w ∈ TG, w.before _ s = true := fun w h => hts w (List.mem_cons_of_mem _ h)
  have hown : s.vm.findClass R_Scn = some m.cls := findClass_of_methodNamed B.named
  have hlocks := B.notSynchronized
  subst hsz
  have hD := hD0.self (sz := s.heap.size)
  generalize hAe : va_A [(h, .inr (2, F)), (y, .inl (cB, z, .inl g))] s.heap.size = A at hD ⊢
  have hA : ∀ q : Nat, s.heap.size ≤ q → A q := fun q h => by rw [← hAe]; exact Or.inr h
  have hS : va_S A s.heap s.heap [] := va_S.rf
  have hl := lv_entry ([.ref h, .ref y, .int n]) (n := 3) (Nat.le_of_ble_eq_true rfl)
  rw [lg_entry_eq]
  generalize (lg_sl ([.ref h, .ref y, .int n]) ++ List.replicate (3 - (lg_sl ([.ref h, .ref y, .int n])).length) Slot.unset).toArray = ls at hl ⊢
  have hl : lv_has ls 3 [(0, .ref h), (1, .ref y), (2, .int n)] := hl
  refine lv_aload_n hx hb d_Scn_begin_0 rfl (lv_at hl 0 rfl) ?_
  refine lv_aload_n hx hb d_Scn_begin_1 rfl (lv_at hl 1 rfl) ?_
  refine f_put (D := (dC, dI)) (ci := 2) (v := .ref y) (ty := .array .byte) (C := R_Scn) (T := F_Scn) (N := 8) hx hb hT in_Scn t_Scn t_Scn_ok n_Scn hown hK hP hD hS 0 rfl rfl 0 (by decide) fr_Scn_0 w_1_77 (by decide +kernel) rfl rfl (by rw [nF]; decide) d_Scn_begin_2 (fun H locs hP hD hS => ?_)
  have hP : va_P (dC, dI) CL [(h, .inr (2, F.set 0 (.ref y))), (y, .inl (cB, z, .inl g))] H := hP
  have hD : va_D A [(h, .inr (2, F.set 0 (.ref y))), (y, .inl (cB, z, .inl g))] := hD
  refine lv_aload_n hx hb d_Scn_begin_5 rfl (lv_at hl 0 rfl) ?_
  refine lv_iload_n hx hb d_Scn_begin_6 rfl (lv_at hl 2 rfl) ?_
  refine lv_aload_n hx hb d_Scn_begin_7 rfl (lv_at hl 1 rfl) ?_
  refine va_alen hx hb hK hP 1 1 rfl rfl (v := nI z) rfl d_Scn_begin_8 ?_
  refine va_mmin hx hb (hml.trans hl.1.symm) hown (hT _ w_4_94) (hT _ w_1_38) (hT _ w_1_3) (hT _ w_1_39) (Nat.le_of_ble_eq_true rfl) (Nat.le_of_ble_eq_true rfl) (show _ ≤ 0 by omega) (show _ ≤ 0 by omega) d_Scn_begin_9 ?_
  rw [show (if (nI z) < n then (nI z) else n) = n from min_row hn hz]
  refine f_put (D := (dC, dI)) (ci := 2) (v := .int n) (ty := .int) (C := R_Scn) (T := F_Scn) (N := 8) hx hb hT in_Scn t_Scn t_Scn_ok n_Scn hown hK hP hD hS 0 rfl rfl 1 (by decide) fr_Scn_1 w_1_81 (by decide +kernel) rfl rfl (by rw [List.length_set]; exact (by rw [nF]; decide)) d_Scn_begin_12 (fun H locs hP hD hS => ?_)
  have hP : va_P (dC, dI) CL [(h, .inr (2, (F.set 0 (.ref y)).set 1 (.int n))), (y, .inl (cB, z, .inl g))] H := hP
  have hD : va_D A [(h, .inr (2, (F.set 0 (.ref y)).set 1 (.int n))), (y, .inl (cB, z, .inl g))] := hD
  refine lv_aload_n hx hb d_Scn_begin_15 rfl (lv_at hl 0 rfl) ?_
  refine lv_iconst (v := 0) hx hb d_Scn_begin_16 (by decide) ?_
  refine f_put (D := (dC, dI)) (ci := 2) (v := .int 0) (ty := .int) (C := R_Scn) (T := F_Scn) (N := 8) hx hb hT in_Scn t_Scn t_Scn_ok n_Scn hown hK hP hD hS 0 rfl rfl 2 (by decide) fr_Scn_2 w_1_85 (by decide +kernel) rfl rfl (by rw [List.length_set]; exact (by rw [List.length_set]; exact (by rw [nF]; decide))) d_Scn_begin_17 (fun H locs hP hD hS => ?_)
  have hP : va_P (dC, dI) CL [(h, .inr (2, ((F.set 0 (.ref y)).set 1 (.int n)).set 2 (.int 0))), (y, .inl (cB, z, .inl g))] H := hP
  have hD : va_D A [(h, .inr (2, ((F.set 0 (.ref y)).set 1 (.int n)).set 2 (.int 0))), (y, .inl (cB, z, .inl g))] := hD
  refine lv_aload_n hx hb d_Scn_begin_20 rfl (lv_at hl 0 rfl) ?_
  refine lv_iconst (v := (-1)) hx hb d_Scn_begin_21 (by decide) ?_
  refine f_put (D := (dC, dI)) (ci := 2) (v := .int (-1)) (ty := .int) (C := R_Scn) (T := F_Scn) (N := 8) hx hb hT in_Scn t_Scn t_Scn_ok n_Scn hown hK hP hD hS 0 rfl rfl 3 (by decide) fr_Scn_3 w_1_89 (by decide +kernel) rfl rfl (by rw [List.length_set]; exact (by rw [List.length_set]; exact (by rw [List.length_set]; exact (by rw [nF]; decide)))) d_Scn_begin_22 (fun H locs hP hD hS => ?_)
  have hP : va_P (dC, dI) CL [(h, .inr (2, (((F.set 0 (.ref y)).set 1 (.int n)).set 2 (.int 0)).set 3 (.int (-1)))), (y, .inl (cB, z, .inl g))] H := hP
  have hD : va_D A [(h, .inr (2, (((F.set 0 (.ref y)).set 1 (.int n)).set 2 (.int 0)).set 3 (.int (-1)))), (y, .inl (cB, z, .inl g))] := hD
  exact W.vret hx hb hr (fun t ht hW => ⟨⟨(), rfl, trivial, by rw [ht]; exact hP, hD⟩, hS.F ht⟩) hS.2.2 d_Scn_begin_25
set_option maxHeartbeats 4000000 in
set_option maxRecDepth 100000 in
/-- Scan.good(), nothing refused -/
theorem c_Scn_good_yes (sz : Nat) (h : Nat) (F : List Value) (nF : F.length = 8) (gF_3 : F[3]? = some (.int (-1))) : Met l y_Scn_good (wsOf y_Scn_good b_Scn_good 1 (some (.boolean))) ({ frames := 0, cells := 0, slots := 0, locals := 0 }) (va_Pc [.ref h] (PC dC dI cI cB cJ cZ sz [(h, .inr (2, F))])) (va_Qi (fun (r : Int32) (_ : Unit) => r = 1) (fun _ t => va_P (dC, dI) CL [(h, .inr (2, F))] t.heap ∧ va_D (va_A [(h, .inr (2, F))] sz) [(h, .inr (2, F))]) (va_A [(h, .inr (2, F))] sz)) 0 0 (va_A [(h, .inr (2, F))] sz) := by
  refine Met.ofW (cc := b_Scn_good) (maxL := 1) (ret := some (.boolean)) (by decide) rfl ?_
  intro p e s m args below meth c s₁ B hml hv
  obtain ⟨rfl, hsz, hP, hK, hD0, hN⟩ := hv
  have hx := B.exec
  have hb := B.bytes
  have hr := B.returns
  have hts := atoms_spec B.pre
  have hT : ∀ w ∈ TG, w.before _ s = true := fun w h => hts w (List.mem_cons_of_mem _ h)
  have hown : s.vm.findClass R_Scn = some m.cls := findClass_of_methodNamed B.named
  have hlocks := B.notSynchronized
  subst hsz
  have hD := hD0.self (sz := s.heap.size)
  generalize hAe : va_A [(h, .inr (2, F))] s.heap.size = A at hD ⊢
  have hA : ∀ q : Nat, s.heap.size ≤ q → A q := fun q h => by rw [← hAe]; exact Or.inr h
  have hS : va_S A s.heap s.heap [] := va_S.rf
  have hl := lv_entry ([.ref h]) (n := 1) (Nat.le_of_ble_eq_true rfl)
  rw [lg_entry_eq]
  generalize (lg_sl ([.ref h]) ++ List.replicate (1 - (lg_sl ([.ref h])).length) Slot.unset).toArray = ls at hl ⊢
  have hl : lv_has ls 1 [(0, .ref h)] := hl
  refine lv_aload_n hx hb d_Scn_good_0 rfl (lv_at hl 0 rfl) ?_
  refine f_get (D := (dC, dI)) (ci := 2) (v := .int (-1)) (C := R_Scn) (T := F_Scn) (N := 8) hx hb hT in_Scn hown hK hP 0 rfl rfl 3 (by decide) fr_Scn_3 w_1_89 gF_3 d_Scn_good_1 ?_
  refine lv_iconst (v := (-1)) hx hb d_Scn_good_4 (by decide) ?_
  refine lv_icmp_ne (tgt := 12) hx hb d_Scn_good_5 (by decide) (fun c1 => by first | exact absurd c1 (by decide) | exact absurd (by decide) c1) (fun c1 => ?_)
  refine lv_iconst (v := 1) hx hb d_Scn_good_8 (by decide) ?_
  refine lv_goto (tgt := 13) hx hb d_Scn_good_9 (by decide) ?_
  exact W.zret (v := 1) (ty := .boolean) hx hb hr rfl (fun t ht hW => ⟨⟨1, (), rfl, rfl, by rw [ht]; exact hP, hD⟩, hS.F ht⟩) hS.2.2 d_Scn_good_13
set_option maxHeartbeats 4000000 in
set_option maxRecDepth 100000 in
/-- Scan.good(), refused at 0 -/
theorem c_Scn_good_no (sz : Nat) (h : Nat) (F : List Value) (nF : F.length = 8) (gF_3 : F[3]? = some (.int 0)) : Met l y_Scn_good (wsOf y_Scn_good b_Scn_good 1 (some (.boolean))) ({ frames := 0, cells := 0, slots := 0, locals := 0 }) (va_Pc [.ref h] (PC dC dI cI cB cJ cZ sz [(h, .inr (2, F))])) (va_Qi (fun (r : Int32) (_ : Unit) => r = 0) (fun _ t => va_P (dC, dI) CL [(h, .inr (2, F))] t.heap ∧ va_D (va_A [(h, .inr (2, F))] sz) [(h, .inr (2, F))]) (va_A [(h, .inr (2, F))] sz)) 0 0 (va_A [(h, .inr (2, F))] sz) := by
  refine Met.ofW (cc := b_Scn_good) (maxL := 1) (ret := some (.boolean)) (by decide) rfl ?_
  intro p e s m args below meth c s₁ B hml hv
  obtain ⟨rfl, hsz, hP, hK, hD0, hN⟩ := hv
  have hx := B.exec
  have hb := B.bytes
  have hr := B.returns
  have hts := atoms_spec B.pre
  have hT : ∀ w ∈ TG, w.before _ s = true := fun w h => hts w (List.mem_cons_of_mem _ h)
  have hown : s.vm.findClass R_Scn = some m.cls := findClass_of_methodNamed B.named
  have hlocks := B.notSynchronized
  subst hsz
  have hD := hD0.self (sz := s.heap.size)
  generalize hAe : va_A [(h, .inr (2, F))] s.heap.size = A at hD ⊢
  have hA : ∀ q : Nat, s.heap.size ≤ q → A q := fun q h => by rw [← hAe]; exact Or.inr h
  have hS : va_S A s.heap s.heap [] := va_S.rf
  have hl := lv_entry ([.ref h]) (n := 1) (Nat.le_of_ble_eq_true rfl)
  rw [lg_entry_eq]
  generalize (lg_sl ([.ref h]) ++ List.replicate (1 - (lg_sl ([.ref h])).length) Slot.unset).toArray = ls at hl ⊢
  have hl : lv_has ls 1 [(0, .ref h)] := hl
  refine lv_aload_n hx hb d_Scn_good_0 rfl (lv_at hl 0 rfl) ?_
  refine f_get (D := (dC, dI)) (ci := 2) (v := .int 0) (C := R_Scn) (T := F_Scn) (N := 8) hx hb hT in_Scn hown hK hP 0 rfl rfl 3 (by decide) fr_Scn_3 w_1_89 gF_3 d_Scn_good_1 ?_
  refine lv_iconst (v := (-1)) hx hb d_Scn_good_4 (by decide) ?_
  refine lv_icmp_ne (tgt := 12) hx hb d_Scn_good_5 (by decide) (fun c1 => ?_) (fun c1 => by first | exact absurd c1 (by decide) | exact absurd (by decide) c1)
  refine lv_iconst (v := 0) hx hb d_Scn_good_12 (by decide) ?_
  exact W.zret (v := 0) (ty := .boolean) hx hb hr rfl (fun t ht hW => ⟨⟨0, (), rfl, rfl, by rw [ht]; exact hP, hD⟩, hS.F ht⟩) hS.2.2 d_Scn_good_13
set_option maxHeartbeats 4000000 in
set_option maxRecDepth 100000 in
/-- Scan.refuse(k), the first -/
theorem c_Scn_refuse_first (sz : Nat) (h : Nat) (F : List Value) (k : Int32) (nF : F.length = 8) (gF_3 : F[3]? = some (.int (-1))) : Met l y_Scn_refuse (wsOf y_Scn_refuse b_Scn_refuse 2 none) ({ frames := 0, cells := 0, slots := 0, locals := 0 }) (va_Pc [.ref h, .int k] (PC dC dI cI cB cJ cZ sz [(h, .inr (2, F))])) (va_Qv (fun _ : Unit => True) (fun _ t => va_P (dC, dI) CL [(h, .inr (2, F.set 3 (.int k)))] t.heap ∧ va_D (va_A [(h, .inr (2, F))] sz) [(h, .inr (2, F.set 3 (.int k)))]) (va_A [(h, .inr (2, F))] sz)) 0 0 (va_A [(h, .inr (2, F))] sz) := by
  refine Met.ofW (cc := b_Scn_refuse) (maxL := 2) (ret := none) (by decide) rfl ?_
  intro p e s m args below meth c s₁ B hml hv
  obtain ⟨rfl, hsz, hP, hK, hD0, hN⟩ := hv
  have hx := B.exec
  have hb := B.bytes
  have hr := B.returns
  have hts := atoms_spec B.pre
  have hT : ∀ w ∈ TG, w.before _ s = true := fun w h => hts w (List.mem_cons_of_mem _ h)
  have hown : s.vm.findClass R_Scn = some m.cls := findClass_of_methodNamed B.named
  have hlocks := B.notSynchronized
  subst hsz
  have hD := hD0.self (sz := s.heap.size)
  generalize hAe : va_A [(h, .inr (2, F))] s.heap.size = A at hD ⊢
  have hA : ∀ q : Nat, s.heap.size ≤ q → A q := fun q h => by rw [← hAe]; exact Or.inr h
  have hS : va_S A s.heap s.heap [] := va_S.rf
  have hl := lv_entry ([.ref h, .int k]) (n := 2) (Nat.le_of_ble_eq_true rfl)
  rw [lg_entry_eq]
  generalize (lg_sl ([.ref h, .int k]) ++ List.replicate (2 - (lg_sl ([.ref h, .int k])).length) Slot.unset).toArray = ls at hl ⊢
  have hl : lv_has ls 2 [(0, .ref h), (1, .int k)] := hl
  refine lv_aload_n hx hb d_Scn_refuse_0 rfl (lv_at hl 0 rfl) ?_
  refine f_get (D := (dC, dI)) (ci := 2) (v := .int (-1)) (C := R_Scn) (T := F_Scn) (N := 8) hx hb hT in_Scn hown hK hP 0 rfl rfl 3 (by decide) fr_Scn_3 w_1_89 gF_3 d_Scn_refuse_1 ?_
  refine lv_iconst (v := (-1)) hx hb d_Scn_refuse_4 (by decide) ?_
  refine lv_icmp_ne (tgt := 13) hx hb d_Scn_refuse_5 (by decide) (fun c1 => by first | exact absurd c1 (by decide) | exact absurd (by decide) c1) (fun c1 => ?_)
  refine lv_aload_n hx hb d_Scn_refuse_8 rfl (lv_at hl 0 rfl) ?_
  refine lv_iload_n hx hb d_Scn_refuse_9 rfl (lv_at hl 1 rfl) ?_
  refine f_put (D := (dC, dI)) (ci := 2) (v := .int k) (ty := .int) (C := R_Scn) (T := F_Scn) (N := 8) hx hb hT in_Scn t_Scn t_Scn_ok n_Scn hown hK hP hD hS 0 rfl rfl 3 (by decide) fr_Scn_3 w_1_89 (by decide +kernel) rfl rfl (by rw [nF]; decide) d_Scn_refuse_10 (fun H locs hP hD hS => ?_)
  have hP : va_P (dC, dI) CL [(h, .inr (2, F.set 3 (.int k)))] H := hP
  have hD : va_D A [(h, .inr (2, F.set 3 (.int k)))] := hD
  exact W.vret hx hb hr (fun t ht hW => ⟨⟨(), rfl, trivial, by rw [ht]; exact hP, hD⟩, hS.F ht⟩) hS.2.2 d_Scn_refuse_13
set_option maxHeartbeats 4000000 in
set_option maxRecDepth 100000 in
/-- Scan.next() of an empty text -/
theorem c_Scn_next_end (sz : Nat) (h : Nat) (F : List Value) (nF : F.length = 8) (gF_2 : F[2]? = some (.int 0)) (gF_1 : F[1]? = some (.int 0)) : Met l y_Scn_next (wsOf y_Scn_next b_Scn_next 1 (some (.int))) ({ frames := 0, cells := 0, slots := 0, locals := 0 }) (va_Pc [.ref h] (PC dC dI cI cB cJ cZ sz [(h, .inr (2, F))])) (va_Qi (fun (r : Int32) (_ : Unit) => r = (-1)) (fun _ t => va_P (dC, dI) CL [(h, .inr (2, F))] t.heap ∧ va_D (va_A [(h, .inr (2, F))] sz) [(h, .inr (2, F))]) (va_A [(h, .inr (2, F))] sz)) 0 0 (va_A [(h, .inr (2, F))] sz) := by
  refine Met.ofW (cc := b_Scn_next) (maxL := 1) (ret := some (.int)) (by decide) rfl ?_
  intro p e s m args below meth c s₁ B hml hv
  obtain ⟨rfl, hsz, hP, hK, hD0, hN⟩ := hv
  have hx := B.exec
  have hb := B.bytes
  have hr := B.returns
  have hts := atoms_spec B.pre
  have hT : ∀ w ∈ TG, w.before _ s = true := fun w h => hts w (List.mem_cons_of_mem _ h)
  have hown : s.vm.findClass R_Scn = some m.cls := findClass_of_methodNamed B.named
  have hlocks := B.notSynchronized
  subst hsz
  have hD := hD0.self (sz := s.heap.size)
  generalize hAe : va_A [(h, .inr (2, F))] s.heap.size = A at hD ⊢
  have hA : ∀ q : Nat, s.heap.size ≤ q → A q := fun q h => by rw [← hAe]; exact Or.inr h
  have hS : va_S A s.heap s.heap [] := va_S.rf
  have hl := lv_entry ([.ref h]) (n := 1) (Nat.le_of_ble_eq_true rfl)
  rw [lg_entry_eq]
  generalize (lg_sl ([.ref h]) ++ List.replicate (1 - (lg_sl ([.ref h])).length) Slot.unset).toArray = ls at hl ⊢
  have hl : lv_has ls 1 [(0, .ref h)] := hl
  refine lv_aload_n hx hb d_Scn_next_0 rfl (lv_at hl 0 rfl) ?_
  refine f_get (D := (dC, dI)) (ci := 2) (v := .int 0) (C := R_Scn) (T := F_Scn) (N := 8) hx hb hT in_Scn hown hK hP 0 rfl rfl 2 (by decide) fr_Scn_2 w_1_85 gF_2 d_Scn_next_1 ?_
  refine lv_aload_n hx hb d_Scn_next_4 rfl (lv_at hl 0 rfl) ?_
  refine f_get (D := (dC, dI)) (ci := 2) (v := .int 0) (C := R_Scn) (T := F_Scn) (N := 8) hx hb hT in_Scn hown hK hP 0 rfl rfl 1 (by decide) fr_Scn_1 w_1_81 gF_1 d_Scn_next_5 ?_
  refine lv_icmp_ge (tgt := 52) hx hb d_Scn_next_8 (by decide) (fun c1 => ?_) (fun c1 => by first | exact absurd c1 (by decide) | exact absurd (by decide) c1)
  refine lv_aload_n hx hb d_Scn_next_52 rfl (lv_at hl 0 rfl) ?_
  refine f_get (D := (dC, dI)) (ci := 2) (v := .int 0) (C := R_Scn) (T := F_Scn) (N := 8) hx hb hT in_Scn hown hK hP 0 rfl rfl 2 (by decide) fr_Scn_2 w_1_85 gF_2 d_Scn_next_53 ?_
  refine lv_aload_n hx hb d_Scn_next_56 rfl (lv_at hl 0 rfl) ?_
  refine f_get (D := (dC, dI)) (ci := 2) (v := .int 0) (C := R_Scn) (T := F_Scn) (N := 8) hx hb hT in_Scn hown hK hP 0 rfl rfl 1 (by decide) fr_Scn_1 w_1_81 gF_1 d_Scn_next_57 ?_
  refine lv_icmp_ge (tgt := 79) hx hb d_Scn_next_60 (by decide) (fun c1 => ?_) (fun c1 => by first | exact absurd c1 (by decide) | exact absurd (by decide) c1)
  refine lv_iconst (v := (-1)) hx hb d_Scn_next_79 (by decide) ?_
  exact W.iret (v := (-1)) hx hb hr (fun t ht hW => ⟨⟨(-1), (), rfl, rfl, by rw [ht]; exact hP, hD⟩, hS.F ht⟩) hS.2.2 d_Scn_next_80
set_option maxHeartbeats 4000000 in
set_option maxRecDepth 100000 in
/-- Scan.takeAnyWord() of an empty text -/
theorem c_Scn_takeAnyWord_end (sz : Nat) (h : Nat) (F : List Value) (nF : F.length = 8) (gF_2 : F[2]? = some (.int 0)) (gF_1 : F[1]? = some (.int 0)) : Met l y_Scn_takeAnyWord (wsOf y_Scn_takeAnyWord b_Scn_takeAnyWord 1 (some (.boolean))) ({ frames := 1, cells := 0, slots := 0, locals := 20 }) (va_Pc [.ref h] (PC dC dI cI cB cJ cZ sz [(h, .inr (2, F))])) (va_Qi (fun (r : Int32) (_ : Unit) => r = 0) (fun _ t => va_P (dC, dI) CL [(h, .inr (2, F))] t.heap ∧ va_D (va_A [(h, .inr (2, F))] sz) [(h, .inr (2, F))]) (va_A [(h, .inr (2, F))] sz)) 0 0 (va_A [(h, .inr (2, F))] sz) := by
  refine Met.ofW (cc := b_Scn_takeAnyWord) (maxL := 1) (ret := some (.boolean)) (by decide) rfl ?_
  intro p e s m args below meth c s₁ B hml hv
  obtain ⟨rfl, hsz, hP, hK, hD0, hN⟩ := hv
  have hx := B.exec
  have hb := B.bytes
  have hr := B.returns
  have hts := atoms_spec B.pre
  have hT : ∀ w ∈ TG, w.before _ s = true := fun w h => hts w (List.mem_cons_of_mem _ h)
  have hown : s.vm.findClass R_Scn = some m.cls := findClass_of_methodNamed B.named
  have hlocks := B.notSynchronized
  subst hsz
  have hD := hD0.self (sz := s.heap.size)
  generalize hAe : va_A [(h, .inr (2, F))] s.heap.size = A at hD ⊢
  have hA : ∀ q : Nat, s.heap.size ≤ q → A q := fun q h => by rw [← hAe]; exact Or.inr h
  have hS : va_S A s.heap s.heap [] := va_S.rf
  have hl := lv_entry ([.ref h]) (n := 1) (Nat.le_of_ble_eq_true rfl)
  rw [lg_entry_eq]
  generalize (lg_sl ([.ref h]) ++ List.replicate (1 - (lg_sl ([.ref h])).length) Slot.unset).toArray = ls at hl ⊢
  have hl : lv_has ls 1 [(0, .ref h)] := hl
  refine lv_aload_n hx hb d_Scn_takeAnyWord_0 rfl (lv_at hl 0 rfl) ?_
  have hPc := hP.sub (ws' := [(h, .inr (2, F))]) [0] rfl
  have hDc := hD.sub (ws' := [(h, .inr (2, F))]) [0] (by decide) rfl
  have hFc := va_free (wc := [(h, .inr (2, F))]) hD hS hA [0] rfl
  refine va_calli (va_runV (C := R_Scn) (As := []) (rest := []) ⟨hx, hb, hml, hown, hT⟩ (c_Scn_next_end l dC dI cI cB cJ cZ s.heap.size h F  nF gF_2 gF_1) ⟨callB_of 0 hT (gw_in w_4_110) rfl rfl rfl (hT _ w_1_4) (hT _ w_4_124) (by decide +kernel) ⟨Nat.le_of_ble_eq_true rfl, Nat.le_of_ble_eq_true rfl⟩, hT _ w_4_108, hT _ w_4_109⟩ ⟨PC.blind, va_recv hK hPc (ci := 2) (q0 := 0) rfl rfl, PC.at _ hPc hDc hK hN⟩ rfl rfl hl.1 rfl (lv_room (Nat.le_of_ble_eq_true rfl)) d_Scn_takeAnyWord_1 ⟨show _ ≤ 0 by omega, show _ ≤ 0 by omega⟩) hS (fun q _ h => hFc q h) hFc (fun r1 u t H1 locs ht hvm hw hB hz1 hk1 hS => ?_)
  obtain ⟨hP1, hD1⟩ := hB
  have hw : (-1) = r1 := Eq.symm hw
  subst hw
  rw [ht] at hP1
  obtain ⟨hP, hD⟩ := va_join (wr := []) (w1 := [(h, .inr (2, F))]) hP hD [0] [] rfl rfl (by decide) (by decide) hk1 hFc hP1 hD1
  generalize H1 = H at hP hS ⊢
  have hP : va_P (dC, dI) CL [(h, .inr (2, F))] H := hP
  have hD : va_D A [(h, .inr (2, F))] := hD
  have hPc := hP.sub (ws' := []) [] rfl
  have hDc := hD.sub (ws' := []) [] (by decide) rfl
  have hFc := va_free (wc := []) hD hS hA [] rfl
  refine va_calli (va_runSN (As := [.int (-1)]) (rest := []) ⟨hx, hb, hml, hown, hT⟩ (c_V_isLetter l dC dI cI cB cJ cZ H.size  (-1)) ⟨va_cnB 1 hT (gw_in w_4_148) rfl rfl rfl (hN _ wn_4_146 rfl) (hT _ w_1_1) (by decide +kernel) ⟨Nat.le_of_ble_eq_true rfl, Nat.le_of_ble_eq_true rfl⟩, hT _ w_4_147, trivial⟩ ⟨PC.blind, PC.at _ hPc hDc hK hN⟩ rfl rfl hl.1 rfl (lv_room (Nat.le_of_ble_eq_true rfl)) d_Scn_takeAnyWord_4 ⟨show _ ≤ 0 by omega, show _ ≤ 0 by omega⟩) hS (fun q _ h => hFc q h) hFc (fun r2 u t H1 locs ht hvm hw hB hz1 hk1 hS => ?_)
  obtain ⟨hP1, hD1⟩ := hB
  have hw : sp_isLetter (-1) = r2 := Eq.symm hw
  subst hw
  rw [ht] at hP1
  obtain ⟨hP, hD⟩ := va_join (wr := [(h, .inr (2, F))]) (w1 := []) hP hD [] [0] rfl rfl (by decide) (by decide) hk1 hFc hP1 hD1
  generalize H1 = H at hP hS ⊢
  have hP : va_P (dC, dI) CL [(h, .inr (2, F))] H := hP
  have hD : va_D A [(h, .inr (2, F))] := hD
  refine lv_if_ne (tgt := 12) hx hb d_Scn_takeAnyWord_7 (by decide) (fun c1 => by first | exact absurd c1 (by decide) | exact absurd (by decide) c1) (fun c1 => ?_)
  refine lv_iconst (v := 0) hx hb d_Scn_takeAnyWord_10 (by decide) ?_
  exact W.zret (v := 0) (ty := .boolean) hx hb hr rfl (fun t ht hW => ⟨⟨0, (), rfl, rfl, by rw [ht]; exact hP, hD⟩, hS.F ht⟩) hS.2.2 d_Scn_takeAnyWord_11
set_option maxHeartbeats 4000000 in
set_option maxRecDepth 100000 in
/-- Scan.takeWord(y) of an empty text -/
theorem c_Scn_takeWord_end (sz : Nat) (h : Nat) (F : List Value) (y : Nat) (nF : F.length = 8) (gF_2 : F[2]? = some (.int 0)) (gF_1 : F[1]? = some (.int 0)) : Met l y_Scn_takeWord (wsOf y_Scn_takeWord b_Scn_takeWord 2 (some (.boolean))) ({ frames := 2, cells := 0, slots := 0, locals := 40 }) (va_Pc [.ref h, .ref y] (PC dC dI cI cB cJ cZ sz [(h, .inr (2, F))])) (va_Qi (fun (r : Int32) (_ : Unit) => r = 0) (fun _ t => va_P (dC, dI) CL [(h, .inr (2, F))] t.heap ∧ va_D (va_A [(h, .inr (2, F))] sz) [(h, .inr (2, F))]) (va_A [(h, .inr (2, F))] sz)) 0 0 (va_A [(h, .inr (2, F))] sz) := by
  refine Met.ofW (cc := b_Scn_takeWord) (maxL := 2) (ret := some (.boolean)) (by decide) rfl ?_
  intro p e s m args below meth c s₁ B hml hv
  obtain ⟨rfl, hsz, hP, hK, hD0, hN⟩ := hv
  have hx := B.exec
  have hb := B.bytes
  have hr := B.returns
  have hts := atoms_spec B.pre
  have hT : ∀ w ∈ TG, w.before _ s = true := fun w h => hts w (List.mem_cons_of_mem _ h)
  have hown : s.vm.findClass R_Scn = some m.cls := findClass_of_methodNamed B.named
  have hlocks := B.notSynchronized
  subst hsz
  have hD := hD0.self (sz := s.heap.size)
  generalize hAe : va_A [(h, .inr (2, F))] s.heap.size = A at hD ⊢
  have hA : ∀ q : Nat, s.heap.size ≤ q → A q := fun q h => by rw [← hAe]; exact Or.inr h
  have hS : va_S A s.heap s.heap [] := va_S.rf
  have hl := lv_entry ([.ref h, .ref y]) (n := 2) (Nat.le_of_ble_eq_true rfl)
  rw [lg_entry_eq]
  generalize (lg_sl ([.ref h, .ref y]) ++ List.replicate (2 - (lg_sl ([.ref h, .ref y])).length) Slot.unset).toArray = ls at hl ⊢
  have hl : lv_has ls 2 [(0, .ref h), (1, .ref y)] := hl
  refine lv_aload_n hx hb d_Scn_takeWord_0 rfl (lv_at hl 0 rfl) ?_
  have hPc := hP.sub (ws' := [(h, .inr (2, F))]) [0] rfl
  have hDc := hD.sub (ws' := [(h, .inr (2, F))]) [0] (by decide) rfl
  have hFc := va_free (wc := [(h, .inr (2, F))]) hD hS hA [0] rfl
  refine va_calli (va_runV (C := R_Scn) (As := []) (rest := []) ⟨hx, hb, hml, hown, hT⟩ (c_Scn_takeAnyWord_end l dC dI cI cB cJ cZ s.heap.size h F  nF gF_2 gF_1) ⟨callB_of 0 hT (gw_in w_4_145) rfl rfl rfl (hT _ w_1_4) (hT _ w_4_142) (by decide +kernel) ⟨Nat.le_of_ble_eq_true rfl, Nat.le_of_ble_eq_true rfl⟩, hT _ w_4_143, hT _ w_4_144⟩ ⟨PC.blind, va_recv hK hPc (ci := 2) (q0 := 0) rfl rfl, PC.at _ hPc hDc hK hN⟩ rfl rfl hl.1 rfl (lv_room (Nat.le_of_ble_eq_true rfl)) d_Scn_takeWord_1 ⟨show _ ≤ 0 by omega, show _ ≤ 0 by omega⟩) hS (fun q _ h => hFc q h) hFc (fun r1 u t H1 locs ht hvm hw hB hz1 hk1 hS => ?_)
  obtain ⟨hP1, hD1⟩ := hB
  have hw : 0 = r1 := Eq.symm hw
  subst hw
  rw [ht] at hP1
  obtain ⟨hP, hD⟩ := va_join (wr := []) (w1 := [(h, .inr (2, F))]) hP hD [0] [] rfl rfl (by decide) (by decide) hk1 hFc hP1 hD1
  generalize H1 = H at hP hS ⊢
  have hP : va_P (dC, dI) CL [(h, .inr (2, F))] H := hP
  have hD : va_D A [(h, .inr (2, F))] := hD
  refine lv_if_ne (tgt := 9) hx hb d_Scn_takeWord_4 (by decide) (fun c1 => by first | exact absurd c1 (by decide) | exact absurd (by decide) c1) (fun c1 => ?_)
  refine lv_iconst (v := 0) hx hb d_Scn_takeWord_7 (by decide) ?_
  exact W.zret (v := 0) (ty := .boolean) hx hb hr rfl (fun t ht hW => ⟨⟨0, (), rfl, rfl, by rw [ht]; exact hP, hD⟩, hS.F ht⟩) hS.2.2 d_Scn_takeWord_8
set_option maxHeartbeats 4000000 in
set_option maxRecDepth 100000 in
/-- Scan.needWord(y) of an empty text -/
theorem c_Scn_needWord_end (sz : Nat) (h : Nat) (F : List Value) (y : Nat) (nF : F.length = 8) (gF_3 : F[3]? = some (.int (-1))) (gF_2 : F[2]? = some (.int 0)) (gF_1 : F[1]? = some (.int 0)) : Met l y_Scn_needWord (wsOf y_Scn_needWord b_Scn_needWord 2 none) ({ frames := 3, cells := 0, slots := 0, locals := 61 }) (va_Pc [.ref h, .ref y] (PC dC dI cI cB cJ cZ sz [(h, .inr (2, F))])) (va_Qv (fun _ : Unit => True) (fun _ t => va_P (dC, dI) CL [(h, .inr (2, F.set 3 (.int 0)))] t.heap ∧ va_D (va_A [(h, .inr (2, F))] sz) [(h, .inr (2, F.set 3 (.int 0)))]) (va_A [(h, .inr (2, F))] sz)) 0 0 (va_A [(h, .inr (2, F))] sz) := by
  refine Met.ofW (cc := b_Scn_needWord) (maxL := 2) (ret := none) (by decide) rfl ?_
  intro p e s m args below meth c s₁ B hml hv
  obtain ⟨rfl, hsz, hP, hK, hD0, hN⟩ := hv
  have hx := B.exec
  have hb := B.bytes
  have hr := B.returns
  have hts := atoms_spec B.pre
  have hT : ∀ w ∈ TG, w.before _ s = true := fun w h => hts w (List.mem_cons_of_mem _ h)
  have hown : s.vm.findClass R_Scn = some m.cls := findClass_of_methodNamed B.named
  have hlocks := B.notSynchronized
  subst hsz
  have hD := hD0.self (sz := s.heap.size)
  generalize hAe : va_A [(h, .inr (2, F))] s.heap.size = A at hD ⊢
  have hA : ∀ q : Nat, s.heap.size ≤ q → A q := fun q h => by rw [← hAe]; exact Or.inr h
  have hS : va_S A s.heap s.heap [] := va_S.rf
  have hl := lv_entry ([.ref h, .ref y]) (n := 2) (Nat.le_of_ble_eq_true rfl)
  rw [lg_entry_eq]
  generalize (lg_sl ([.ref h, .ref y]) ++ List.replicate (2 - (lg_sl ([.ref h, .ref y])).length) Slot.unset).toArray = ls at hl ⊢
  have hl : lv_has ls 2 [(0, .ref h), (1, .ref y)] := hl
  refine lv_aload_n hx hb d_Scn_needWord_0 rfl (lv_at hl 0 rfl) ?_
  have hPc := hP.sub (ws' := [(h, .inr (2, F))]) [0] rfl
  have hDc := hD.sub (ws' := [(h, .inr (2, F))]) [0] (by decide) rfl
  have hFc := va_free (wc := [(h, .inr (2, F))]) hD hS hA [0] rfl
  refine va_calli (va_runV (C := R_Scn) (As := []) (rest := []) ⟨hx, hb, hml, hown, hT⟩ (c_Scn_good_yes l dC dI cI cB cJ cZ s.heap.size h F  nF gF_3) ⟨callB_of 0 hT (gw_in w_4_106) rfl rfl rfl (hT _ w_1_4) (hT _ w_4_119) (by decide +kernel) ⟨Nat.le_of_ble_eq_true rfl, Nat.le_of_ble_eq_true rfl⟩, hT _ w_4_104, hT _ w_4_105⟩ ⟨PC.blind, va_recv hK hPc (ci := 2) (q0 := 0) rfl rfl, PC.at _ hPc hDc hK hN⟩ rfl rfl hl.1 rfl (lv_room (Nat.le_of_ble_eq_true rfl)) d_Scn_needWord_1 ⟨show _ ≤ 0 by omega, show _ ≤ 0 by omega⟩) hS (fun q _ h => hFc q h) hFc (fun r1 u t H1 locs ht hvm hw hB hz1 hk1 hS => ?_)
  obtain ⟨hP1, hD1⟩ := hB
  have hw : 1 = r1 := Eq.symm hw
  subst hw
  rw [ht] at hP1
  obtain ⟨hP, hD⟩ := va_join (wr := []) (w1 := [(h, .inr (2, F))]) hP hD [0] [] rfl rfl (by decide) (by decide) hk1 hFc hP1 hD1
  generalize H1 = H at hP hS ⊢
  have hP : va_P (dC, dI) CL [(h, .inr (2, F))] H := hP
  have hD : va_D A [(h, .inr (2, F))] := hD
  refine lv_if_eq (tgt := 23) hx hb d_Scn_needWord_4 (by decide) (fun c1 => by first | exact absurd c1 (by decide) | exact absurd (by decide) c1) (fun c1 => ?_)
  refine lv_aload_n hx hb d_Scn_needWord_7 rfl (lv_at hl 0 rfl) ?_
  refine lv_aload_n hx hb d_Scn_needWord_8 rfl (lv_at hl 1 rfl) ?_
  have hPc := hP.sub (ws' := [(h, .inr (2, F))]) [0] rfl
  have hDc := hD.sub (ws' := [(h, .inr (2, F))]) [0] (by decide) rfl
  have hFc := va_free (wc := [(h, .inr (2, F))]) hD hS hA [0] rfl
  refine va_calli (va_runV (C := R_Scn) (As := [.ref y]) (rest := []) ⟨hx, hb, hml, hown, hT⟩ (c_Scn_takeWord_end l dC dI cI cB cJ cZ H.size h F y nF gF_2 gF_1) ⟨callB_of 1 hT (gw_in w_4_141) rfl rfl rfl (hT _ w_1_4) (hT _ w_4_210) (by decide +kernel) ⟨Nat.le_of_ble_eq_true rfl, Nat.le_of_ble_eq_true rfl⟩, hT _ w_4_139, hT _ w_4_140⟩ ⟨PC.blind, va_recv hK hPc (ci := 2) (q0 := 0) rfl rfl, PC.at _ hPc hDc hK hN⟩ rfl rfl hl.1 rfl (lv_room (Nat.le_of_ble_eq_true rfl)) d_Scn_needWord_9 ⟨show _ ≤ 0 by omega, show _ ≤ 0 by omega⟩) hS (fun q _ h => hFc q h) hFc (fun r2 u t H1 locs ht hvm hw hB hz1 hk1 hS => ?_)
  obtain ⟨hP1, hD1⟩ := hB
  have hw : 0 = r2 := Eq.symm hw
  subst hw
  rw [ht] at hP1
  obtain ⟨hP, hD⟩ := va_join (wr := []) (w1 := [(h, .inr (2, F))]) hP hD [0] [] rfl rfl (by decide) (by decide) hk1 hFc hP1 hD1
  generalize H1 = H at hP hS ⊢
  have hP : va_P (dC, dI) CL [(h, .inr (2, F))] H := hP
  have hD : va_D A [(h, .inr (2, F))] := hD
  refine lv_if_ne (tgt := 23) hx hb d_Scn_needWord_12 (by decide) (fun c1 => by first | exact absurd c1 (by decide) | exact absurd (by decide) c1) (fun c1 => ?_)
  refine lv_aload_n hx hb d_Scn_needWord_15 rfl (lv_at hl 0 rfl) ?_
  refine lv_aload_n hx hb d_Scn_needWord_16 rfl (lv_at hl 0 rfl) ?_
  refine f_get (D := (dC, dI)) (ci := 2) (v := .int 0) (C := R_Scn) (T := F_Scn) (N := 8) hx hb hT in_Scn hown hK hP 0 rfl rfl 2 (by decide) fr_Scn_2 w_1_85 gF_2 d_Scn_needWord_17 ?_
  have hPc := hP.sub (ws' := [(h, .inr (2, F))]) [0] rfl
  have hDc := hD.sub (ws' := [(h, .inr (2, F))]) [0] (by decide) rfl
  have hFc := va_free (wc := [(h, .inr (2, F))]) hD hS hA [0] rfl
  refine va_callv (va_runV (C := R_Scn) (As := [.int 0]) (rest := []) ⟨hx, hb, hml, hown, hT⟩ (c_Scn_refuse_first l dC dI cI cB cJ cZ H.size h F 0 nF gF_3) ⟨callB_of 1 hT (gw_in w_4_128) rfl rfl rfl (hT _ w_1_4) (hT _ w_4_125) (by decide +kernel) ⟨Nat.le_of_ble_eq_true rfl, Nat.le_of_ble_eq_true rfl⟩, hT _ w_4_126, hT _ w_4_127⟩ ⟨PC.blind, va_recv hK hPc (ci := 2) (q0 := 0) rfl rfl, PC.at _ hPc hDc hK hN⟩ rfl rfl hl.1 rfl (lv_room (Nat.le_of_ble_eq_true rfl)) d_Scn_needWord_20 ⟨show _ ≤ 0 by omega, show _ ≤ 0 by omega⟩) hS (fun q _ h => hFc q h) hFc (fun  u t H1 locs ht hvm hw hB hz1 hk1 hS => ?_)
  obtain ⟨hP1, hD1⟩ := hB
  rw [ht] at hP1
  obtain ⟨hP, hD⟩ := va_join (wr := []) (w1 := [(h, .inr (2, F.set 3 (.int 0)))]) hP hD [0] [] rfl rfl (by decide) (by decide) hk1 hFc hP1 hD1
  generalize H1 = H at hP hS ⊢
  have hP : va_P (dC, dI) CL [(h, .inr (2, F.set 3 (.int 0)))] H := hP
  have hD : va_D A [(h, .inr (2, F.set 3 (.int 0)))] := hD
  exact W.vret hx hb hr (fun t ht hW => ⟨⟨(), rfl, trivial, by rw [ht]; exact hP, hD⟩, hS.F ht⟩) hS.2.2 d_Scn_needWord_23
set_option maxHeartbeats 4000000 in
set_option maxRecDepth 100000 in
/-- Schema.forget() -/
theorem c_Sch_forget (sz : Nat) (h : Nat) (F : List Value) (nF : F.length = 13) : Met l y_Sch_forget (wsOf y_Sch_forget b_Sch_forget 1 none) ({ frames := 0, cells := 0, slots := 0, locals := 0 }) (va_Pc [.ref h] (PC dC dI cI cB cJ cZ sz [(h, .inr (3, F))])) (va_Qv (fun _ : Unit => True) (fun _ t => va_P (dC, dI) CL [(h, .inr (3, (F.set 0 (.int 0)).set 1 (.int 0)))] t.heap ∧ va_D (va_A [(h, .inr (3, F))] sz) [(h, .inr (3, (F.set 0 (.int 0)).set 1 (.int 0)))]) (va_A [(h, .inr (3, F))] sz)) 0 0 (va_A [(h, .inr (3, F))] sz) := by
  refine Met.ofW (cc := b_Sch_forget) (maxL := 1) (ret := none) (by decide) rfl ?_
  intro p e s m args below meth c s₁ B hml hv
  obtain ⟨rfl, hsz, hP, hK, hD0, hN⟩ := hv
  have hx := B.exec
  have hb := B.bytes
  have hr := B.returns
  have hts := atoms_spec B.pre
  have hT : ∀ w ∈ TG, w.before _ s = true := fun w h => hts w (List.mem_cons_of_mem _ h)
  have hown : s.vm.findClass R_Sch = some m.cls := findClass_of_methodNamed B.named
  have hlocks := B.notSynchronized
  subst hsz
  have hD := hD0.self (sz := s.heap.size)
  generalize hAe : va_A [(h, .inr (3, F))] s.heap.size = A at hD ⊢
  have hA : ∀ q : Nat, s.heap.size ≤ q → A q := fun q h => by rw [← hAe]; exact Or.inr h
  have hS : va_S A s.heap s.heap [] := va_S.rf
  have hl := lv_entry ([.ref h]) (n := 1) (Nat.le_of_ble_eq_true rfl)
  rw [lg_entry_eq]
  generalize (lg_sl ([.ref h]) ++ List.replicate (1 - (lg_sl ([.ref h])).length) Slot.unset).toArray = ls at hl ⊢
  have hl : lv_has ls 1 [(0, .ref h)] := hl
  refine lv_aload_n hx hb d_Sch_forget_0 rfl (lv_at hl 0 rfl) ?_
  refine lv_iconst (v := 0) hx hb d_Sch_forget_1 (by decide) ?_
  refine f_put (D := (dC, dI)) (ci := 3) (v := .int 0) (ty := .int) (C := R_Sch) (T := F_Sch) (N := 13) hx hb hT in_Sch t_Sch t_Sch_ok n_Sch hown hK hP hD hS 0 rfl rfl 0 (by decide) fr_Sch_0 w_1_130 (by decide +kernel) rfl rfl (by rw [nF]; decide) d_Sch_forget_2 (fun H locs hP hD hS => ?_)
  have hP : va_P (dC, dI) CL [(h, .inr (3, F.set 0 (.int 0)))] H := hP
  have hD : va_D A [(h, .inr (3, F.set 0 (.int 0)))] := hD
  refine lv_aload_n hx hb d_Sch_forget_5 rfl (lv_at hl 0 rfl) ?_
  refine lv_iconst (v := 0) hx hb d_Sch_forget_6 (by decide) ?_
  refine f_put (D := (dC, dI)) (ci := 3) (v := .int 0) (ty := .int) (C := R_Sch) (T := F_Sch) (N := 13) hx hb hT in_Sch t_Sch t_Sch_ok n_Sch hown hK hP hD hS 0 rfl rfl 1 (by decide) fr_Sch_1 w_1_135 (by decide +kernel) rfl rfl (by rw [List.length_set]; exact (by rw [nF]; decide)) d_Sch_forget_7 (fun H locs hP hD hS => ?_)
  have hP : va_P (dC, dI) CL [(h, .inr (3, (F.set 0 (.int 0)).set 1 (.int 0)))] H := hP
  have hD : va_D A [(h, .inr (3, (F.set 0 (.int 0)).set 1 (.int 0)))] := hD
  exact W.vret hx hb hr (fun t ht hW => ⟨⟨(), rfl, trivial, by rw [ht]; exact hP, hD⟩, hS.F ht⟩) hS.2.2 d_Sch_forget_10
set_option maxHeartbeats 4000000 in
set_option maxRecDepth 100000 in
/-- Schema.readMode of an empty text -/
theorem c_Sch_readMode_end (sz : Nat) (h : Nat) (F : List Value) (c0 : Nat) (S : List Value) (nF : F.length = 13) (nS : S.length = 8) (gS_3 : S[3]? = some (.int (-1))) (gS_2 : S[2]? = some (.int 0)) (gS_1 : S[1]? = some (.int 0)) : Met l y_Sch_readMode (wsOf y_Sch_readMode b_Sch_readMode 2 (some (.int))) ({ frames := 4, cells := 0, slots := 0, locals := 82 }) (va_Pc [.ref h, .ref c0] (PS dC dI cI cB cJ cZ sz [(h, .inr (3, F)), (c0, .inr (2, S))])) (va_Qi (fun (r : Int32) (_ : Unit) => r = 2) (fun _ t => va_P (dC, dI) CL [(h, .inr (3, F)), (c0, .inr (2, S.set 3 (.int 0)))] t.heap ∧ va_D (va_A [(h, .inr (3, F)), (c0, .inr (2, S))] sz) [(h, .inr (3, F)), (c0, .inr (2, S.set 3 (.int 0)))]) (va_A [(h, .inr (3, F)), (c0, .inr (2, S))] sz)) 0 0 (va_A [(h, .inr (3, F)), (c0, .inr (2, S))] sz) := by
  refine Met.ofW (cc := b_Sch_readMode) (maxL := 2) (ret := some (.int)) (by decide) rfl ?_
  intro p e s m args below meth c s₁ B hml hv
  obtain ⟨rfl, ⟨hsz, hP, hK, hD0, hN⟩, hSW⟩ := hv
  have hx := B.exec
  have hb := B.bytes
  have hr := B.returns
  have hts := atoms_spec B.pre
  have hT : ∀ w ∈ TG, w.before _ s = true := fun w h => hts w (List.mem_cons_of_mem _ h)
  have hown : s.vm.findClass R_Sch = some m.cls := findClass_of_methodNamed B.named
  have hlocks := B.notSynchronized
  subst hsz
  have hD := hD0.self (sz := s.heap.size)
  generalize hAe : va_A [(h, .inr (3, F)), (c0, .inr (2, S))] s.heap.size = A at hD ⊢
  have hA : ∀ q : Nat, s.heap.size ≤ q → A q := fun q h => by rw [← hAe]; exact Or.inr h
  have hS : va_S A s.heap s.heap [] := va_S.rf
  have hl := lv_entry ([.ref h, .ref c0]) (n := 2) (Nat.le_of_ble_eq_true rfl)
  rw [lg_entry_eq]
  generalize (lg_sl ([.ref h, .ref c0]) ++ List.replicate (2 - (lg_sl ([.ref h, .ref c0])).length) Slot.unset).toArray = ls at hl ⊢
  have hl : lv_has ls 2 [(0, .ref h), (1, .ref c0)] := hl
  refine lv_aload_n hx hb d_Sch_readMode_0 rfl (lv_at hl 1 rfl) ?_
  refine f_ldcT hx hb hSW hown wn_4_137 d_Sch_readMode_1 (fun r1 _ => ?_)
  have hPc := hP.sub (ws' := [(c0, .inr (2, S))]) [1] rfl
  have hDc := hD.sub (ws' := [(c0, .inr (2, S))]) [1] (by decide) rfl
  have hFc := va_free (wc := [(c0, .inr (2, S))]) hD hS hA [1] rfl
  refine va_calli (va_runV (C := R_Scn) (As := [.ref r1]) (rest := []) ⟨hx, hb, hml, hown, hT⟩ (c_Scn_takeWord_end l dC dI cI cB cJ cZ s.heap.size c0 S r1 nS gS_2 gS_1) ⟨callB_of 1 hT (gw_in w_4_141) rfl rfl rfl (hT _ w_1_4) (hT _ w_4_138) (by decide +kernel) ⟨Nat.le_of_ble_eq_true rfl, Nat.le_of_ble_eq_true rfl⟩, hT _ w_4_139, hT _ w_4_140⟩ ⟨PC.blind, va_recv hK hPc (ci := 2) (q0 := 0) rfl rfl, PC.at _ hPc hDc hK hN⟩ rfl rfl hl.1 rfl (lv_room (Nat.le_of_ble_eq_true rfl)) d_Sch_readMode_3 ⟨show _ ≤ 0 by omega, show _ ≤ 0 by omega⟩) hS (fun q _ h => hFc q h) hFc (fun r2 u t H1 locs ht hvm hw hB hz1 hk1 hS => ?_)
  obtain ⟨hP1, hD1⟩ := hB
  have hw : 0 = r2 := Eq.symm hw
  subst hw
  rw [ht] at hP1
  obtain ⟨hP, hD⟩ := va_join (wr := [(h, .inr (3, F))]) (w1 := [(c0, .inr (2, S))]) hP hD [1] [0] rfl rfl (by decide) (by decide) hk1 hFc hP1 hD1
  generalize H1 = H at hP hS ⊢
  have hP : va_P (dC, dI) CL [(h, .inr (3, F)), (c0, .inr (2, S))] H := hP
  have hD : va_D A [(h, .inr (3, F)), (c0, .inr (2, S))] := hD
  refine lv_if_eq (tgt := 11) hx hb d_Sch_readMode_6 (by decide) (fun c1 => ?_) (fun c1 => by first | exact absurd c1 (by decide) | exact absurd (by decide) c1)
  refine lv_aload_n hx hb d_Sch_readMode_11 rfl (lv_at hl 1 rfl) ?_
  refine f_ldcT hx hb hSW hown wn_4_204 d_Sch_readMode_12 (fun r3 _ => ?_)
  have hPc := hP.sub (ws' := [(c0, .inr (2, S))]) [1] rfl
  have hDc := hD.sub (ws' := [(c0, .inr (2, S))]) [1] (by decide) rfl
  have hFc := va_free (wc := [(c0, .inr (2, S))]) hD hS hA [1] rfl
  refine va_calli (va_runV (C := R_Scn) (As := [.ref r3]) (rest := []) ⟨hx, hb, hml, hown, hT⟩ (c_Scn_takeWord_end l dC dI cI cB cJ cZ H.size c0 S r3 nS gS_2 gS_1) ⟨callB_of 1 hT (gw_in w_4_141) rfl rfl rfl (hT _ w_1_4) (hT _ w_4_138) (by decide +kernel) ⟨Nat.le_of_ble_eq_true rfl, Nat.le_of_ble_eq_true rfl⟩, hT _ w_4_139, hT _ w_4_140⟩ ⟨PC.blind, va_recv hK hPc (ci := 2) (q0 := 0) rfl rfl, PC.at _ hPc hDc hK hN⟩ rfl rfl hl.1 rfl (lv_room (Nat.le_of_ble_eq_true rfl)) d_Sch_readMode_14 ⟨show _ ≤ 0 by omega, show _ ≤ 0 by omega⟩) hS (fun q _ h => hFc q h) hFc (fun r4 u t H1 locs ht hvm hw hB hz1 hk1 hS => ?_)
  obtain ⟨hP1, hD1⟩ := hB
  have hw : 0 = r4 := Eq.symm hw
  subst hw
  rw [ht] at hP1
  obtain ⟨hP, hD⟩ := va_join (wr := [(h, .inr (3, F))]) (w1 := [(c0, .inr (2, S))]) hP hD [1] [0] rfl rfl (by decide) (by decide) hk1 hFc hP1 hD1
  generalize H1 = H at hP hS ⊢
  have hP : va_P (dC, dI) CL [(h, .inr (3, F)), (c0, .inr (2, S))] H := hP
  have hD : va_D A [(h, .inr (3, F)), (c0, .inr (2, S))] := hD
  refine lv_if_eq (tgt := 22) hx hb d_Sch_readMode_17 (by decide) (fun c1 => ?_) (fun c1 => by first | exact absurd c1 (by decide) | exact absurd (by decide) c1)
  refine lv_aload_n hx hb d_Sch_readMode_22 rfl (lv_at hl 1 rfl) ?_
  refine f_ldcT hx hb hSW hown wn_4_205 d_Sch_readMode_23 (fun r5 _ => ?_)
  have hPc := hP.sub (ws' := [(c0, .inr (2, S))]) [1] rfl
  have hDc := hD.sub (ws' := [(c0, .inr (2, S))]) [1] (by decide) rfl
  have hFc := va_free (wc := [(c0, .inr (2, S))]) hD hS hA [1] rfl
  refine va_callv (va_runV (C := R_Scn) (As := [.ref r5]) (rest := []) ⟨hx, hb, hml, hown, hT⟩ (c_Scn_needWord_end l dC dI cI cB cJ cZ H.size c0 S r5 nS gS_3 gS_2 gS_1) ⟨callB_of 1 hT (gw_in w_4_209) rfl rfl rfl (hT _ w_1_4) (hT _ w_4_206) (by decide +kernel) ⟨Nat.le_of_ble_eq_true rfl, Nat.le_of_ble_eq_true rfl⟩, hT _ w_4_207, hT _ w_4_208⟩ ⟨PC.blind, va_recv hK hPc (ci := 2) (q0 := 0) rfl rfl, PC.at _ hPc hDc hK hN⟩ rfl rfl hl.1 rfl (lv_room (Nat.le_of_ble_eq_true rfl)) d_Sch_readMode_25 ⟨show _ ≤ 0 by omega, show _ ≤ 0 by omega⟩) hS (fun q _ h => hFc q h) hFc (fun  u t H1 locs ht hvm hw hB hz1 hk1 hS => ?_)
  obtain ⟨hP1, hD1⟩ := hB
  rw [ht] at hP1
  obtain ⟨hP, hD⟩ := va_join (wr := [(h, .inr (3, F))]) (w1 := [(c0, .inr (2, S.set 3 (.int 0)))]) hP hD [1] [0] rfl rfl (by decide) (by decide) hk1 hFc hP1 hD1
  generalize H1 = H at hP hS ⊢
  have hP : va_P (dC, dI) CL [(h, .inr (3, F)), (c0, .inr (2, S.set 3 (.int 0)))] H := hP
  have hD : va_D A [(h, .inr (3, F)), (c0, .inr (2, S.set 3 (.int 0)))] := hD
  refine lv_iconst (v := 2) hx hb d_Sch_readMode_28 (by decide) ?_
  exact W.iret (v := 2) hx hb hr (fun t ht hW => ⟨⟨2, (), rfl, rfl, by rw [ht]; exact hP, hD⟩, hS.F ht⟩) hS.2.2 d_Sch_readMode_29
set_option maxHeartbeats 4000000 in
set_option maxRecDepth 100000 in
/-- Schema.readType, refused at 0 -/
theorem c_Sch_readType_bad (sz : Nat) (h : Nat) (F : List Value) (c0 : Nat) (S : List Value) (nF : F.length = 13) (nS : S.length = 8) (gS_3 : S[3]? = some (.int 0)) : Met l y_Sch_readType (wsOf y_Sch_readType b_Sch_readType 2 (some (.int))) ({ frames := 1, cells := 0, slots := 0, locals := 20 }) (va_Pc [.ref h, .ref c0] (PC dC dI cI cB cJ cZ sz [(h, .inr (3, F)), (c0, .inr (2, S))])) (va_Qi (fun (r : Int32) (_ : Unit) => r = 0) (fun _ t => va_P (dC, dI) CL [(h, .inr (3, F)), (c0, .inr (2, S))] t.heap ∧ va_D (va_A [(h, .inr (3, F)), (c0, .inr (2, S))] sz) [(h, .inr (3, F)), (c0, .inr (2, S))]) (va_A [(h, .inr (3, F)), (c0, .inr (2, S))] sz)) 0 0 (va_A [(h, .inr (3, F)), (c0, .inr (2, S))] sz) := by
  refine Met.ofW (cc := b_Sch_readType) (maxL := 2) (ret := some (.int)) (by decide) rfl ?_
  intro p e s m args below meth c s₁ B hml hv
  obtain ⟨rfl, hsz, hP, hK, hD0, hN⟩ := hv
  have hx := B.exec
  have hb := B.bytes
  have hr := B.returns
  have hts := atoms_spec B.pre
  have hT : ∀ w ∈ TG, w.before _ s = true := fun w h => hts w (List.mem_cons_of_mem _ h)
  have hown : s.vm.findClass R_Sch = some m.cls := findClass_of_methodNamed B.named
  have hlocks := B.notSynchronized
  subst hsz
  have hD := hD0.self (sz := s.heap.size)
  generalize hAe : va_A [(h, .inr (3, F)), (c0, .inr (2, S))] s.heap.size = A at hD ⊢
  have hA : ∀ q : Nat, s.heap.size ≤ q → A q := fun q h => by rw [← hAe]; exact Or.inr h
  have hS : va_S A s.heap s.heap [] := va_S.rf
  have hl := lv_entry ([.ref h, .ref c0]) (n := 2) (Nat.le_of_ble_eq_true rfl)
  rw [lg_entry_eq]
  generalize (lg_sl ([.ref h, .ref c0]) ++ List.replicate (2 - (lg_sl ([.ref h, .ref c0])).length) Slot.unset).toArray = ls at hl ⊢
  have hl : lv_has ls 2 [(0, .ref h), (1, .ref c0)] := hl
  refine lv_aload_n hx hb d_Sch_readType_0 rfl (lv_at hl 1 rfl) ?_
  have hPc := hP.sub (ws' := [(c0, .inr (2, S))]) [1] rfl
  have hDc := hD.sub (ws' := [(c0, .inr (2, S))]) [1] (by decide) rfl
  have hFc := va_free (wc := [(c0, .inr (2, S))]) hD hS hA [1] rfl
  refine va_calli (va_runV (C := R_Scn) (As := []) (rest := []) ⟨hx, hb, hml, hown, hT⟩ (c_Scn_good_no l dC dI cI cB cJ cZ s.heap.size c0 S  nS gS_3) ⟨callB_of 0 hT (gw_in w_4_106) rfl rfl rfl (hT _ w_1_4) (hT _ w_4_103) (by decide +kernel) ⟨Nat.le_of_ble_eq_true rfl, Nat.le_of_ble_eq_true rfl⟩, hT _ w_4_104, hT _ w_4_105⟩ ⟨PC.blind, va_recv hK hPc (ci := 2) (q0 := 0) rfl rfl, PC.at _ hPc hDc hK hN⟩ rfl rfl hl.1 rfl (lv_room (Nat.le_of_ble_eq_true rfl)) d_Sch_readType_1 ⟨show _ ≤ 0 by omega, show _ ≤ 0 by omega⟩) hS (fun q _ h => hFc q h) hFc (fun r1 u t H1 locs ht hvm hw hB hz1 hk1 hS => ?_)
  obtain ⟨hP1, hD1⟩ := hB
  have hw : 0 = r1 := Eq.symm hw
  subst hw
  rw [ht] at hP1
  obtain ⟨hP, hD⟩ := va_join (wr := [(h, .inr (3, F))]) (w1 := [(c0, .inr (2, S))]) hP hD [1] [0] rfl rfl (by decide) (by decide) hk1 hFc hP1 hD1
  generalize H1 = H at hP hS ⊢
  have hP : va_P (dC, dI) CL [(h, .inr (3, F)), (c0, .inr (2, S))] H := hP
  have hD : va_D A [(h, .inr (3, F)), (c0, .inr (2, S))] := hD
  refine lv_if_ne (tgt := 9) hx hb d_Sch_readType_4 (by decide) (fun c1 => by first | exact absurd c1 (by decide) | exact absurd (by decide) c1) (fun c1 => ?_)
  refine lv_iconst (v := 0) hx hb d_Sch_readType_7 (by decide) ?_
  exact W.iret (v := 0) hx hb hr (fun t ht hW => ⟨⟨0, (), rfl, rfl, by rw [ht]; exact hP, hD⟩, hS.F ht⟩) hS.2.2 d_Sch_readType_8
set_option maxHeartbeats 4000000 in
set_option maxRecDepth 100000 in
/-- Schema.readField of an empty text -/
theorem c_Sch_readField_end (sz : Nat) (h : Nat) (F : List Value) (c0 : Nat) (S : List Value) (nF : F.length = 13) (nS : S.length = 8) (gS_3 : S[3]? = some (.int (-1))) (gS_2 : S[2]? = some (.int 0)) (gS_1 : S[1]? = some (.int 0)) : Met l y_Sch_readField (wsOf y_Sch_readField b_Sch_readField 5 (some (.int))) ({ frames := 5, cells := 0, slots := 0, locals := 103 }) (va_Pc [.ref h, .ref c0, .int (-1)] (PS dC dI cI cB cJ cZ sz [(h, .inr (3, F)), (c0, .inr (2, S))])) (va_Qi (fun (r : Int32) (_ : Unit) => r = (-1)) (fun _ t => va_P (dC, dI) CL [(h, .inr (3, F)), (c0, .inr (2, S.set 3 (.int 0)))] t.heap ∧ va_D (va_A [(h, .inr (3, F)), (c0, .inr (2, S))] sz) [(h, .inr (3, F)), (c0, .inr (2, S.set 3 (.int 0)))]) (va_A [(h, .inr (3, F)), (c0, .inr (2, S))] sz)) 0 0 (va_A [(h, .inr (3, F)), (c0, .inr (2, S))] sz) := by
  refine Met.ofW (cc := b_Sch_readField) (maxL := 5) (ret := some (.int)) (by decide) rfl ?_
  intro p e s m args below meth c s₁ B hml hv
  obtain ⟨rfl, ⟨hsz, hP, hK, hD0, hN⟩, hSW⟩ := hv
  have hx := B.exec
  have hb := B.bytes
  have hr := B.returns
  have hts := atoms_spec B.pre
  have hT : ∀ w ∈ TG, w.before _ s = true := fun w h => hts w (List.mem_cons_of_mem _ h)
  have hown : s.vm.findClass R_Sch = some m.cls := findClass_of_methodNamed B.named
  have hlocks := B.notSynchronized
  subst hsz
  have hD := hD0.self (sz := s.heap.size)
  generalize hAe : va_A [(h, .inr (3, F)), (c0, .inr (2, S))] s.heap.size = A at hD ⊢
  have hA : ∀ q : Nat, s.heap.size ≤ q → A q := fun q h => by rw [← hAe]; exact Or.inr h
  have hS : va_S A s.heap s.heap [] := va_S.rf
  have hl := lv_entry ([.ref h, .ref c0, .int (-1)]) (n := 5) (Nat.le_of_ble_eq_true rfl)
  rw [lg_entry_eq]
  generalize (lg_sl ([.ref h, .ref c0, .int (-1)]) ++ List.replicate (5 - (lg_sl ([.ref h, .ref c0, .int (-1)])).length) Slot.unset).toArray = ls at hl ⊢
  have hl : lv_has ls 5 [(0, .ref h), (1, .ref c0), (2, .int (-1))] := hl
  refine lv_aload_n hx hb d_Sch_readField_0 rfl (lv_at hl 0 rfl) ?_
  refine lv_aload_n hx hb d_Sch_readField_1 rfl (lv_at hl 1 rfl) ?_
  have hPc := hP.sub (ws' := [(h, .inr (3, F)), (c0, .inr (2, S))]) [0, 1] rfl
  have hDc := hD.sub (ws' := [(h, .inr (3, F)), (c0, .inr (2, S))]) [0, 1] (by decide) rfl
  have hFc := va_free (wc := [(h, .inr (3, F)), (c0, .inr (2, S))]) hD hS hA [0, 1] rfl
  refine va_calli (va_runV (C := R_Sch) (As := [.ref c0]) (rest := []) ⟨hx, hb, hml, hown, hT⟩ (c_Sch_readMode_end l dC dI cI cB cJ cZ s.heap.size h F c0 S  nF nS gS_3 gS_2 gS_1) ⟨callB_of 1 hT (gw_in w_4_136) rfl rfl rfl (hT _ w_1_5) (hT _ w_4_133) (by decide +kernel) ⟨Nat.le_of_ble_eq_true rfl, Nat.le_of_ble_eq_true rfl⟩, hT _ w_4_135, hT _ ws_4⟩ ⟨PS.blind, va_recv hK hPc (ci := 3) (q0 := 0) rfl rfl, PS.at _ hPc hDc hK hN hSW⟩ rfl rfl hl.1 rfl (lv_room (Nat.le_of_ble_eq_true rfl)) d_Sch_readField_2 ⟨show _ ≤ 0 by omega, show _ ≤ 0 by omega⟩) hS (fun q _ h => hFc q h) hFc (fun r1 u t H1 locs ht hvm hw hB hz1 hk1 hS => ?_)
  obtain ⟨hP1, hD1⟩ := hB
  have hw : 2 = r1 := Eq.symm hw
  subst hw
  rw [ht] at hP1
  obtain ⟨hP, hD⟩ := va_join (wr := []) (w1 := [(h, .inr (3, F)), (c0, .inr (2, S.set 3 (.int 0)))]) hP hD [0, 1] [] rfl rfl (by decide) (by decide) hk1 hFc hP1 hD1
  generalize H1 = H at hP hS ⊢
  have hP : va_P (dC, dI) CL [(h, .inr (3, F)), (c0, .inr (2, S.set 3 (.int 0)))] H := hP
  have hD : va_D A [(h, .inr (3, F)), (c0, .inr (2, S.set 3 (.int 0)))] := hD
  refine lv_istore_n (lv' := [(3, .int 2), (0, .ref h), (1, .ref c0), (2, .int (-1))]) hx hb d_Sch_readField_5 rfl hl (by decide) rfl (fun ls hl => ?_)
  refine lv_aload_n hx hb d_Sch_readField_6 rfl (lv_at hl 1 rfl) ?_
  refine lv_aload_n hx hb d_Sch_readField_7 rfl (lv_at hl 2 rfl) ?_
  have hPc := hP.sub (ws' := [(h, .inr (3, F)), (c0, .inr (2, S.set 3 (.int 0)))]) [0, 1] rfl
  have hDc := hD.sub (ws' := [(h, .inr (3, F)), (c0, .inr (2, S.set 3 (.int 0)))]) [0, 1] (by decide) rfl
  have hFc := va_free (wc := [(h, .inr (3, F)), (c0, .inr (2, S.set 3 (.int 0)))]) hD hS hA [0, 1] rfl
  refine va_calli (va_runV (C := R_Sch) (As := [.ref c0]) (rest := []) ⟨hx, hb, hml, hown, hT⟩ (c_Sch_readType_bad l dC dI cI cB cJ cZ H.size h F c0 (S.set 3 (.int 0))  nF (by rw [List.length_set]; exact nS) (List.getElem?_set_self (by rw [nS]; decide))) ⟨callB_of 1 hT (gw_in w_4_214) rfl rfl rfl (hT _ w_1_5) (hT _ w_4_211) (by decide +kernel) ⟨Nat.le_of_ble_eq_true rfl, Nat.le_of_ble_eq_true rfl⟩, hT _ w_4_213, hT _ ws_5⟩ ⟨PC.blind, va_recv hK hPc (ci := 3) (q0 := 0) rfl rfl, PC.at _ hPc hDc hK hN⟩ rfl rfl hl.1 rfl (lv_room (Nat.le_of_ble_eq_true rfl)) d_Sch_readField_8 ⟨show _ ≤ 0 by omega, show _ ≤ 0 by omega⟩) hS (fun q _ h => hFc q h) hFc (fun r2 u t H1 locs ht hvm hw hB hz1 hk1 hS => ?_)
  obtain ⟨hP1, hD1⟩ := hB
  have hw : 0 = r2 := Eq.symm hw
  subst hw
  rw [ht] at hP1
  obtain ⟨hP, hD⟩ := va_join (wr := []) (w1 := [(h, .inr (3, F)), (c0, .inr (2, S.set 3 (.int 0)))]) hP hD [0, 1] [] rfl rfl (by decide) (by decide) hk1 hFc hP1 hD1
  generalize H1 = H at hP hS ⊢
  have hP : va_P (dC, dI) CL [(h, .inr (3, F)), (c0, .inr (2, S.set 3 (.int 0)))] H := hP
  have hD : va_D A [(h, .inr (3, F)), (c0, .inr (2, S.set 3 (.int 0)))] := hD
  refine lv_istore (lv' := [(4, .int 0), (3, .int 2), (0, .ref h), (1, .ref c0), (2, .int (-1))]) hx hb d_Sch_readField_11 hl (by decide) rfl (fun ls hl => ?_)
  refine lv_aload_n hx hb d_Sch_readField_13 rfl (lv_at hl 3 rfl) ?_
  have hPc := hP.sub (ws' := [(c0, .inr (2, S.set 3 (.int 0)))]) [1] rfl
  have hDc := hD.sub (ws' := [(c0, .inr (2, S.set 3 (.int 0)))]) [1] (by decide) rfl
  have hFc := va_free (wc := [(c0, .inr (2, S.set 3 (.int 0)))]) hD hS hA [1] rfl
  refine va_calli (va_runV (C := R_Scn) (As := []) (rest := []) ⟨hx, hb, hml, hown, hT⟩ (c_Scn_good_no l dC dI cI cB cJ cZ H.size c0 (S.set 3 (.int 0))  (by rw [List.length_set]; exact nS) (List.getElem?_set_self (by rw [nS]; decide))) ⟨callB_of 0 hT (gw_in w_4_106) rfl rfl rfl (hT _ w_1_4) (hT _ w_4_103) (by decide +kernel) ⟨Nat.le_of_ble_eq_true rfl, Nat.le_of_ble_eq_true rfl⟩, hT _ w_4_104, hT _ w_4_105⟩ ⟨PC.blind, va_recv hK hPc (ci := 2) (q0 := 0) rfl rfl, PC.at _ hPc hDc hK hN⟩ rfl rfl hl.1 rfl (lv_room (Nat.le_of_ble_eq_true rfl)) d_Sch_readField_14 ⟨show _ ≤ 0 by omega, show _ ≤ 0 by omega⟩) hS (fun q _ h => hFc q h) hFc (fun r3 u t H1 locs ht hvm hw hB hz1 hk1 hS => ?_)
  obtain ⟨hP1, hD1⟩ := hB
  have hw : 0 = r3 := Eq.symm hw
  subst hw
  rw [ht] at hP1
  obtain ⟨hP, hD⟩ := va_join (wr := [(h, .inr (3, F))]) (w1 := [(c0, .inr (2, S.set 3 (.int 0)))]) hP hD [1] [0] rfl rfl (by decide) (by decide) hk1 hFc hP1 hD1
  generalize H1 = H at hP hS ⊢
  have hP : va_P (dC, dI) CL [(h, .inr (3, F)), (c0, .inr (2, S.set 3 (.int 0)))] H := hP
  have hD : va_D A [(h, .inr (3, F)), (c0, .inr (2, S.set 3 (.int 0)))] := hD
  refine lv_if_eq (tgt := 35) hx hb d_Sch_readField_17 (by decide) (fun c1 => ?_) (fun c1 => by first | exact absurd c1 (by decide) | exact absurd (by decide) c1)
  refine lv_aload_n hx hb d_Sch_readField_35 rfl (lv_at hl 3 rfl) ?_
  have hPc := hP.sub (ws' := [(c0, .inr (2, S.set 3 (.int 0)))]) [1] rfl
  have hDc := hD.sub (ws' := [(c0, .inr (2, S.set 3 (.int 0)))]) [1] (by decide) rfl
  have hFc := va_free (wc := [(c0, .inr (2, S.set 3 (.int 0)))]) hD hS hA [1] rfl
  refine va_calli (va_runV (C := R_Scn) (As := []) (rest := []) ⟨hx, hb, hml, hown, hT⟩ (c_Scn_good_no l dC dI cI cB cJ cZ H.size c0 (S.set 3 (.int 0))  (by rw [List.length_set]; exact nS) (List.getElem?_set_self (by rw [nS]; decide))) ⟨callB_of 0 hT (gw_in w_4_106) rfl rfl rfl (hT _ w_1_4) (hT _ w_4_103) (by decide +kernel) ⟨Nat.le_of_ble_eq_true rfl, Nat.le_of_ble_eq_true rfl⟩, hT _ w_4_104, hT _ w_4_105⟩ ⟨PC.blind, va_recv hK hPc (ci := 2) (q0 := 0) rfl rfl, PC.at _ hPc hDc hK hN⟩ rfl rfl hl.1 rfl (lv_room (Nat.le_of_ble_eq_true rfl)) d_Sch_readField_36 ⟨show _ ≤ 0 by omega, show _ ≤ 0 by omega⟩) hS (fun q _ h => hFc q h) hFc (fun r4 u t H1 locs ht hvm hw hB hz1 hk1 hS => ?_)
  obtain ⟨hP1, hD1⟩ := hB
  have hw : 0 = r4 := Eq.symm hw
  subst hw
  rw [ht] at hP1
  obtain ⟨hP, hD⟩ := va_join (wr := [(h, .inr (3, F))]) (w1 := [(c0, .inr (2, S.set 3 (.int 0)))]) hP hD [1] [0] rfl rfl (by decide) (by decide) hk1 hFc hP1 hD1
  generalize H1 = H at hP hS ⊢
  have hP : va_P (dC, dI) CL [(h, .inr (3, F)), (c0, .inr (2, S.set 3 (.int 0)))] H := hP
  have hD : va_D A [(h, .inr (3, F)), (c0, .inr (2, S.set 3 (.int 0)))] := hD
  refine lv_if_ne (tgt := 44) hx hb d_Sch_readField_39 (by decide) (fun c1 => by first | exact absurd c1 (by decide) | exact absurd (by decide) c1) (fun c1 => ?_)
  refine lv_iload_n hx hb d_Sch_readField_42 rfl (lv_at hl 4 rfl) ?_
  exact W.iret (v := (-1)) hx hb hr (fun t ht hW => ⟨⟨(-1), (), rfl, rfl, by rw [ht]; exact hP, hD⟩, hS.F ht⟩) hS.2.2 d_Sch_readField_43
set_option maxHeartbeats 4000000 in
set_option maxRecDepth 100000 in
/-- Schema.readText of an empty text -/
theorem c_Sch_readText_end (sz : Nat) (h : Nat) (F : List Value) (c0 : Nat) (S : List Value) (nF : F.length = 13) (nS : S.length = 8) (gS_3 : S[3]? = some (.int (-1))) (gS_2 : S[2]? = some (.int 0)) (gS_1 : S[1]? = some (.int 0)) : Met l y_Sch_readText (wsOf y_Sch_readText b_Sch_readText 5 (some (.int))) ({ frames := 6, cells := 0, slots := 0, locals := 127 }) (va_Pc [.ref h, .ref c0] (PS dC dI cI cB cJ cZ sz [(h, .inr (3, F)), (c0, .inr (2, S))])) (va_Qi (fun (r : Int32) (_ : Unit) => r = 0) (fun _ t => va_P (dC, dI) CL [(h, .inr (3, (F.set 0 (.int 0)).set 1 (.int 0))), (c0, .inr (2, S.set 3 (.int 0)))] t.heap ∧ va_D (va_A [(h, .inr (3, F)), (c0, .inr (2, S))] sz) [(h, .inr (3, (F.set 0 (.int 0)).set 1 (.int 0))), (c0, .inr (2, S.set 3 (.int 0)))]) (va_A [(h, .inr (3, F)), (c0, .inr (2, S))] sz)) 0 0 (va_A [(h, .inr (3, F)), (c0, .inr (2, S))] sz) := by
  refine Met.ofW (cc := b_Sch_readText) (maxL := 5) (ret := some (.int)) (by decide) rfl ?_
  intro p e s m args below meth c s₁ B hml hv
  obtain ⟨rfl, ⟨hsz, hP, hK, hD0, hN⟩, hSW⟩ := hv
  have hx := B.exec
  have hb := B.bytes
  have hr := B.returns
  have hts := atoms_spec B.pre
  have hT : ∀ w ∈ TG, w.before _ s = true := fun w h => hts w (List.mem_cons_of_mem _ h)
  have hown : s.vm.findClass R_Sch = some m.cls := findClass_of_methodNamed B.named
  have hlocks := B.notSynchronized
  subst hsz
  have hD := hD0.self (sz := s.heap.size)
  generalize hAe : va_A [(h, .inr (3, F)), (c0, .inr (2, S))] s.heap.size = A at hD ⊢
  have hA : ∀ q : Nat, s.heap.size ≤ q → A q := fun q h => by rw [← hAe]; exact Or.inr h
  have hS : va_S A s.heap s.heap [] := va_S.rf
  have hl := lv_entry ([.ref h, .ref c0]) (n := 5) (Nat.le_of_ble_eq_true rfl)
  rw [lg_entry_eq]
  generalize (lg_sl ([.ref h, .ref c0]) ++ List.replicate (5 - (lg_sl ([.ref h, .ref c0])).length) Slot.unset).toArray = ls at hl ⊢
  have hl : lv_has ls 5 [(0, .ref h), (1, .ref c0)] := hl
  refine lv_aload_n hx hb d_Sch_readText_0 rfl (lv_at hl 0 rfl) ?_
  have hPc := hP.sub (ws' := [(h, .inr (3, F))]) [0] rfl
  have hDc := hD.sub (ws' := [(h, .inr (3, F))]) [0] (by decide) rfl
  have hFc := va_free (wc := [(h, .inr (3, F))]) hD hS hA [0] rfl
  refine va_callv (va_runV (C := R_Sch) (As := []) (rest := []) ⟨hx, hb, hml, hown, hT⟩ (c_Sch_forget l dC dI cI cB cJ cZ s.heap.size h F  nF) ⟨callB_of 0 hT (gw_in w_4_102) rfl rfl rfl (hT _ w_1_5) (hT _ w_4_99) (by decide +kernel) ⟨Nat.le_of_ble_eq_true rfl, Nat.le_of_ble_eq_true rfl⟩, hT _ w_4_100, hT _ w_4_101⟩ ⟨PC.blind, va_recv hK hPc (ci := 3) (q0 := 0) rfl rfl, PC.at _ hPc hDc hK hN⟩ rfl rfl hl.1 rfl (lv_room (Nat.le_of_ble_eq_true rfl)) d_Sch_readText_1 ⟨show _ ≤ 0 by omega, show _ ≤ 0 by omega⟩) hS (fun q _ h => hFc q h) hFc (fun  u t H1 locs ht hvm hw hB hz1 hk1 hS => ?_)
  obtain ⟨hP1, hD1⟩ := hB
  rw [ht] at hP1
  obtain ⟨hP, hD⟩ := va_join (wr := [(c0, .inr (2, S))]) (w1 := [(h, .inr (3, (F.set 0 (.int 0)).set 1 (.int 0)))]) hP hD [0] [1] rfl rfl (by decide) (by decide) hk1 hFc hP1 hD1
  generalize H1 = H at hP hS ⊢
  have hP : va_P (dC, dI) CL [(c0, .inr (2, S)), (h, .inr (3, (F.set 0 (.int 0)).set 1 (.int 0)))] H := hP
  have hD : va_D A [(c0, .inr (2, S)), (h, .inr (3, (F.set 0 (.int 0)).set 1 (.int 0)))] := hD
  refine lv_iconst (v := (-1)) hx hb d_Sch_readText_4 (by decide) ?_
  refine lv_istore_n (lv' := [(2, .int (-1)), (0, .ref h), (1, .ref c0)]) hx hb d_Sch_readText_5 rfl hl (by decide) rfl (fun ls hl => ?_)
  refine lv_iconst (v := 0) hx hb d_Sch_readText_6 (by decide) ?_
  refine lv_istore_n (lv' := [(3, .int 0), (2, .int (-1)), (0, .ref h), (1, .ref c0)]) hx hb d_Sch_readText_7 rfl hl (by decide) rfl (fun ls hl => ?_)
  refine lv_iload_n hx hb d_Sch_readText_8 rfl (lv_at hl 0 rfl) ?_
  refine lv_aload_n hx hb d_Sch_readText_9 rfl (lv_at hl 3 rfl) ?_
  refine f_get (D := (dC, dI)) (ci := 2) (v := .int 0) (C := R_Scn) (T := F_Scn) (N := 8) hx hb hT in_Scn hown hK hP 0 rfl rfl 1 (by decide) fr_Scn_1 w_1_84 gS_1 d_Sch_readText_10 ?_
  refine lv_icmp_gt (tgt := 98) hx hb d_Sch_readText_13 (by decide) (fun c1 => by first | exact absurd c1 (by decide) | exact absurd (by decide) c1) (fun c1 => ?_)
  refine lv_aload_n hx hb d_Sch_readText_16 rfl (lv_at hl 3 rfl) ?_
  have hPc := hP.sub (ws' := [(c0, .inr (2, S))]) [0] rfl
  have hDc := hD.sub (ws' := [(c0, .inr (2, S))]) [0] (by decide) rfl
  have hFc := va_free (wc := [(c0, .inr (2, S))]) hD hS hA [0] rfl
  refine va_calli (va_runV (C := R_Scn) (As := []) (rest := []) ⟨hx, hb, hml, hown, hT⟩ (c_Scn_good_yes l dC dI cI cB cJ cZ H.size c0 S  nS gS_3) ⟨callB_of 0 hT (gw_in w_4_106) rfl rfl rfl (hT _ w_1_4) (hT _ w_4_103) (by decide +kernel) ⟨Nat.le_of_ble_eq_true rfl, Nat.le_of_ble_eq_true rfl⟩, hT _ w_4_104, hT _ w_4_105⟩ ⟨PC.blind, va_recv hK hPc (ci := 2) (q0 := 0) rfl rfl, PC.at _ hPc hDc hK hN⟩ rfl rfl hl.1 rfl (lv_room (Nat.le_of_ble_eq_true rfl)) d_Sch_readText_17 ⟨show _ ≤ 0 by omega, show _ ≤ 0 by omega⟩) hS (fun q _ h => hFc q h) hFc (fun r1 u t H1 locs ht hvm hw hB hz1 hk1 hS => ?_)
  obtain ⟨hP1, hD1⟩ := hB
  have hw : 1 = r1 := Eq.symm hw
  subst hw
  rw [ht] at hP1
  obtain ⟨hP, hD⟩ := va_join (wr := [(h, .inr (3, (F.set 0 (.int 0)).set 1 (.int 0)))]) (w1 := [(c0, .inr (2, S))]) hP hD [0] [1] rfl rfl (by decide) (by decide) hk1 hFc hP1 hD1
  generalize H1 = H at hP hS ⊢
  have hP : va_P (dC, dI) CL [(h, .inr (3, (F.set 0 (.int 0)).set 1 (.int 0))), (c0, .inr (2, S))] H := hP
  have hD : va_D A [(h, .inr (3, (F.set 0 (.int 0)).set 1 (.int 0))), (c0, .inr (2, S))] := hD
  refine lv_if_eq (tgt := 98) hx hb d_Sch_readText_20 (by decide) (fun c1 => by first | exact absurd c1 (by decide) | exact absurd (by decide) c1) (fun c1 => ?_)
  refine lv_aload_n hx hb d_Sch_readText_23 rfl (lv_at hl 3 rfl) ?_
  have hPc := hP.sub (ws' := [(c0, .inr (2, S))]) [1] rfl
  have hDc := hD.sub (ws' := [(c0, .inr (2, S))]) [1] (by decide) rfl
  have hFc := va_free (wc := [(c0, .inr (2, S))]) hD hS hA [1] rfl
  refine va_calli (va_runV (C := R_Scn) (As := []) (rest := []) ⟨hx, hb, hml, hown, hT⟩ (c_Scn_next_end l dC dI cI cB cJ cZ H.size c0 S  nS gS_2 gS_1) ⟨callB_of 0 hT (gw_in w_4_110) rfl rfl rfl (hT _ w_1_4) (hT _ w_4_107) (by decide +kernel) ⟨Nat.le_of_ble_eq_true rfl, Nat.le_of_ble_eq_true rfl⟩, hT _ w_4_108, hT _ w_4_109⟩ ⟨PC.blind, va_recv hK hPc (ci := 2) (q0 := 0) rfl rfl, PC.at _ hPc hDc hK hN⟩ rfl rfl hl.1 rfl (lv_room (Nat.le_of_ble_eq_true rfl)) d_Sch_readText_24 ⟨show _ ≤ 0 by omega, show _ ≤ 0 by omega⟩) hS (fun q _ h => hFc q h) hFc (fun r2 u t H1 locs ht hvm hw hB hz1 hk1 hS => ?_)
  obtain ⟨hP1, hD1⟩ := hB
  have hw : (-1) = r2 := Eq.symm hw
  subst hw
  rw [ht] at hP1
  obtain ⟨hP, hD⟩ := va_join (wr := [(h, .inr (3, (F.set 0 (.int 0)).set 1 (.int 0)))]) (w1 := [(c0, .inr (2, S))]) hP hD [1] [0] rfl rfl (by decide) (by decide) hk1 hFc hP1 hD1
  generalize H1 = H at hP hS ⊢
  have hP : va_P (dC, dI) CL [(h, .inr (3, (F.set 0 (.int 0)).set 1 (.int 0))), (c0, .inr (2, S))] H := hP
  have hD : va_D A [(h, .inr (3, (F.set 0 (.int 0)).set 1 (.int 0))), (c0, .inr (2, S))] := hD
  refine lv_istore (lv' := [(4, .int (-1)), (3, .int 0), (2, .int (-1)), (0, .ref h), (1, .ref c0)]) hx hb d_Sch_readText_27 hl (by decide) rfl (fun ls hl => ?_)
  refine lv_iload hx hb d_Sch_readText_29 (lv_at hl 0 rfl) ?_
  refine lv_iconst (v := (-1)) hx hb d_Sch_readText_31 (by decide) ?_
  refine lv_icmp_ne (tgt := 49) hx hb d_Sch_readText_32 (by decide) (fun c1 => by first | exact absurd c1 (by decide) | exact absurd (by decide) c1) (fun c1 => ?_)
  refine lv_iload_n hx hb d_Sch_readText_35 rfl (lv_at hl 2 rfl) ?_
  refine lv_iconst (v := (-1)) hx hb d_Sch_readText_36 (by decide) ?_
  refine lv_icmp_ne (tgt := 49) hx hb d_Sch_readText_37 (by decide) (fun c1 => by first | exact absurd c1 (by decide) | exact absurd (by decide) c1) (fun c1 => ?_)
  refine lv_aload_n hx hb d_Sch_readText_40 rfl (lv_at hl 3 rfl) ?_
  refine f_get (D := (dC, dI)) (ci := 3) (v := .int 0) (C := R_Sch) (T := F_Sch) (N := 13) hx hb hT in_Sch hown hK hP 0 rfl rfl 0 (by decide) fr_Sch_0 w_1_130 ((List.getElem?_set_ne (by decide)).trans (List.getElem?_set_self (by rw [nF]; decide))) d_Sch_readText_41 ?_
  refine lv_if_le (tgt := 49) hx hb d_Sch_readText_44 (by decide) (fun c1 => ?_) (fun c1 => by first | exact absurd c1 (by decide) | exact absurd (by decide) c1)
  refine lv_iload hx hb d_Sch_readText_49 (lv_at hl 0 rfl) ?_
  refine lv_bipush (v := 125) hx hb d_Sch_readText_51 (by decide) ?_
  refine lv_icmp_ne (tgt := 85) hx hb d_Sch_readText_53 (by decide) (fun c1 => ?_) (fun c1 => by first | exact absurd c1 (by decide) | exact absurd (by decide) c1)
  refine lv_aload_n hx hb d_Sch_readText_85 rfl (lv_at hl 3 rfl) ?_
  refine lv_aload_n hx hb d_Sch_readText_86 rfl (lv_at hl 4 rfl) ?_
  refine lv_iload_n hx hb d_Sch_readText_87 rfl (lv_at hl 2 rfl) ?_
  have hPc := hP.sub (ws' := [(h, .inr (3, (F.set 0 (.int 0)).set 1 (.int 0))), (c0, .inr (2, S))]) [0, 1] rfl
  have hDc := hD.sub (ws' := [(h, .inr (3, (F.set 0 (.int 0)).set 1 (.int 0))), (c0, .inr (2, S))]) [0, 1] (by decide) rfl
  have hFc := va_free (wc := [(h, .inr (3, (F.set 0 (.int 0)).set 1 (.int 0))), (c0, .inr (2, S))]) hD hS hA [0, 1] rfl
  refine va_calli (va_runV (C := R_Sch) (As := [.ref c0, .int (-1)]) (rest := []) ⟨hx, hb, hml, hown, hT⟩ (c_Sch_readField_end l dC dI cI cB cJ cZ H.size h ((F.set 0 (.int 0)).set 1 (.int 0)) c0 S  (by rw [List.length_set]; exact (by rw [List.length_set]; exact nF)) nS gS_3 gS_2 gS_1) ⟨callB_of 2 hT (gw_in w_4_132) rfl rfl rfl (hT _ w_1_5) (hT _ w_4_129) (by decide +kernel) ⟨Nat.le_of_ble_eq_true rfl, Nat.le_of_ble_eq_true rfl⟩, hT _ w_4_131, hT _ ws_3⟩ ⟨PS.blind, va_recv hK hPc (ci := 3) (q0 := 0) rfl rfl, PS.at _ hPc hDc hK hN hSW⟩ rfl rfl hl.1 rfl (lv_room (Nat.le_of_ble_eq_true rfl)) d_Sch_readText_88 ⟨show _ ≤ 0 by omega, show _ ≤ 0 by omega⟩) hS (fun q _ h => hFc q h) hFc (fun r3 u t H1 locs ht hvm hw hB hz1 hk1 hS => ?_)
  obtain ⟨hP1, hD1⟩ := hB
  have hw : (-1) = r3 := Eq.symm hw
  subst hw
  rw [ht] at hP1
  obtain ⟨hP, hD⟩ := va_join (wr := []) (w1 := [(h, .inr (3, (F.set 0 (.int 0)).set 1 (.int 0))), (c0, .inr (2, S.set 3 (.int 0)))]) hP hD [0, 1] [] rfl rfl (by decide) (by decide) hk1 hFc hP1 hD1
  generalize H1 = H at hP hS ⊢
  have hP : va_P (dC, dI) CL [(h, .inr (3, (F.set 0 (.int 0)).set 1 (.int 0))), (c0, .inr (2, S.set 3 (.int 0)))] H := hP
  have hD : va_D A [(h, .inr (3, (F.set 0 (.int 0)).set 1 (.int 0))), (c0, .inr (2, S.set 3 (.int 0)))] := hD
  refine lv_istore_n (lv' := [(2, .int (-1)), (4, .int (-1)), (3, .int 0), (0, .ref h), (1, .ref c0)]) hx hb d_Sch_readText_91 rfl hl (by decide) rfl (fun ls hl => ?_)
  refine lv_iinc (v := 1) (lv' := [(3, .int 1), (2, .int (-1)), (4, .int (-1)), (0, .ref h), (1, .ref c0)]) hx hb d_Sch_readText_92 hl (k := 2) rfl (by decide) (by decide) rfl (fun ls hl => ?_)
  refine lv_goto (tgt := 8) hx hb d_Sch_readText_95 (by decide) ?_
  refine lv_iload_n hx hb d_Sch_readText_8 rfl (lv_at hl 0 rfl) ?_
  refine lv_aload_n hx hb d_Sch_readText_9 rfl (lv_at hl 4 rfl) ?_
  refine f_get (D := (dC, dI)) (ci := 2) (v := .int 0) (C := R_Scn) (T := F_Scn) (N := 8) hx hb hT in_Scn hown hK hP 1 rfl rfl 1 (by decide) fr_Scn_1 w_1_84 ((List.getElem?_set_ne (by decide)).trans gS_1) d_Sch_readText_10 ?_
  refine lv_icmp_gt (tgt := 98) hx hb d_Sch_readText_13 (by decide) (fun c1 => ?_) (fun c1 => by first | exact absurd c1 (by decide) | exact absurd (by decide) c1)
  refine lv_aload_n hx hb d_Sch_readText_98 rfl (lv_at hl 4 rfl) ?_
  refine f_get (D := (dC, dI)) (ci := 2) (v := .int 0) (C := R_Scn) (T := F_Scn) (N := 8) hx hb hT in_Scn hown hK hP 1 rfl rfl 3 (by decide) fr_Scn_3 w_1_92 (List.getElem?_set_self (by rw [nS]; decide)) d_Sch_readText_99 ?_
  exact W.iret (v := 0) hx hb hr (fun t ht hW => ⟨⟨0, (), rfl, rfl, by rw [ht]; exact hP, hD⟩, hS.F ht⟩) hS.2.2 d_Sch_readText_102
set_option maxHeartbeats 4000000 in
set_option maxRecDepth 100000 in
/-- schema() of an empty input -/
theorem c_V_schema_none (sz : Nat) (h : Nat) (F : List Value) (f0 : Nat) (S : List Value) (c0 : Nat) (C : List Value) (v0 : Nat) (Vv : List Value) (y z : Nat) (g : Nat → Int32) (nF : F.length = 15) (gF_1 : F[1]? = some (.ref f0)) (gF_3 : F[3]? = some (.ref c0)) (gF_5 : F[5]? = some (.ref v0)) (nS : S.length = 7) (gS_1 : S[1]? = some (.int 0)) (gS_0 : S[0]? = some (.ref y)) (nC : C.length = 8) (nVv : Vv.length = 13) (hz : z < 2 ^ 31) : Met l y_V_schema (wsOf y_V_schema b_V_schema 4 (some (.int))) ({ frames := 7, cells := 0, slots := 0, locals := 151 }) (va_Pc [.ref h] (PS dC dI cI cB cJ cZ sz [(h, .inr (0, F)), (f0, .inr (1, S)), (c0, .inr (2, C)), (v0, .inr (3, Vv)), (y, .inl (cB, z, .inl g))])) (va_Qi (fun (r : Int32) (_ : Unit) => r = 0) (fun _ t => va_P (dC, dI) CL [(h, .inr (0, F)), (f0, .inr (1, (S.set 1 (.int 0)).set 2 (.int 0))), (y, .inl (cB, z, .inl g)), (v0, .inr (3, (Vv.set 0 (.int 0)).set 1 (.int 0))), (c0, .inr (2, ((((C.set 0 (.ref y)).set 1 (.int 0)).set 2 (.int 0)).set 3 (.int (-1))).set 3 (.int 0)))] t.heap ∧ va_D (va_A [(h, .inr (0, F)), (f0, .inr (1, S)), (c0, .inr (2, C)), (v0, .inr (3, Vv)), (y, .inl (cB, z, .inl g))] sz) [(h, .inr (0, F)), (f0, .inr (1, (S.set 1 (.int 0)).set 2 (.int 0))), (y, .inl (cB, z, .inl g)), (v0, .inr (3, (Vv.set 0 (.int 0)).set 1 (.int 0))), (c0, .inr (2, ((((C.set 0 (.ref y)).set 1 (.int 0)).set 2 (.int 0)).set 3 (.int (-1))).set 3 (.int 0)))]) (va_A [(h, .inr (0, F)), (f0, .inr (1, S)), (c0, .inr (2, C)), (v0, .inr (3, Vv)), (y, .inl (cB, z, .inl g))] sz)) 0 0 (va_A [(h, .inr (0, F)), (f0, .inr (1, S)), (c0, .inr (2, C)), (v0, .inr (3, Vv)), (y, .inl (cB, z, .inl g))] sz) := by
  refine Met.ofW (cc := b_V_schema) (maxL := 4) (ret := some (.int)) (by decide) rfl ?_
  intro p e s m args below meth c s₁ B hml hv
  obtain ⟨rfl, ⟨hsz, hP, hK, hD0, hN⟩, hSW⟩ := hv
  have hx := B.exec
  have hb := B.bytes
  have hr := B.returns
  have hts := atoms_spec B.pre
  have hT : ∀ w ∈ TG, w.before _ s = true := fun w h => hts w (List.mem_cons_of_mem _ h)
  have hown : s.vm.findClass R_V = some m.cls := findClass_of_methodNamed B.named
  have hlocks := B.notSynchronized
  subst hsz
  have hD := hD0.self (sz := s.heap.size)
  generalize hAe : va_A [(h, .inr (0, F)), (f0, .inr (1, S)), (c0, .inr (2, C)), (v0, .inr (3, Vv)), (y, .inl (cB, z, .inl g))] s.heap.size = A at hD ⊢
  have hA : ∀ q : Nat, s.heap.size ≤ q → A q := fun q h => by rw [← hAe]; exact Or.inr h
  have hS : va_S A s.heap s.heap [] := va_S.rf
  have hl := lv_entry ([.ref h]) (n := 4) (Nat.le_of_ble_eq_true rfl)
  rw [lg_entry_eq]
  generalize (lg_sl ([.ref h]) ++ List.replicate (4 - (lg_sl ([.ref h])).length) Slot.unset).toArray = ls at hl ⊢
  have hl : lv_has ls 4 [(0, .ref h)] := hl
  refine lv_aload_n hx hb d_V_schema_0 rfl (lv_at hl 0 rfl) ?_
  have hPc := hP.sub (ws' := [(h, .inr (0, F)), (f0, .inr (1, S))]) [0, 1] rfl
  have hDc := hD.sub (ws' := [(h, .inr (0, F)), (f0, .inr (1, S))]) [0, 1] (by decide) rfl
  have hFc := va_free (wc := [(h, .inr (0, F)), (f0, .inr (1, S))]) hD hS hA [0, 1] rfl
  refine va_calli (va_runV (C := R_V) (As := []) (rest := []) ⟨hx, hb, hml, hown, hT⟩ (c_V_useInput l dC dI cI cB cJ cZ s.heap.size h F f0 S 0 nF gF_1 nS gS_1) ⟨callB_of 0 hT (gw_in w_4_89) rfl rfl rfl (hT _ w_1_1) (hT _ w_4_86) (by decide +kernel) ⟨Nat.le_of_ble_eq_true rfl, Nat.le_of_ble_eq_true rfl⟩, hT _ w_4_88, hT _ ws_2⟩ ⟨PC.blind, va_recv hK hPc (ci := 0) (q0 := 0) rfl rfl, PC.at _ hPc hDc hK hN⟩ rfl rfl hl.1 rfl (lv_room (Nat.le_of_ble_eq_true rfl)) d_V_schema_1 ⟨show _ ≤ 0 by omega, show _ ≤ 0 by omega⟩) hS (fun q _ h => hFc q h) hFc (fun r1 u t H1 locs ht hvm hw hB hz1 hk1 hS => ?_)
  obtain ⟨hP1, hD1⟩ := hB
  have hw : 0 = r1 := Eq.symm hw
  subst hw
  rw [ht] at hP1
  obtain ⟨hP, hD⟩ := va_join (wr := [(c0, .inr (2, C)), (v0, .inr (3, Vv)), (y, .inl (cB, z, .inl g))]) (w1 := [(h, .inr (0, F)), (f0, .inr (1, (S.set 1 (.int 0)).set 2 (.int 0)))]) hP hD [0, 1] [2, 3, 4] rfl rfl (by decide) (by decide) hk1 hFc hP1 hD1
  generalize H1 = H at hP hS ⊢
  have hP : va_P (dC, dI) CL [(c0, .inr (2, C)), (v0, .inr (3, Vv)), (y, .inl (cB, z, .inl g)), (h, .inr (0, F)), (f0, .inr (1, (S.set 1 (.int 0)).set 2 (.int 0)))] H := hP
  have hD : va_D A [(c0, .inr (2, C)), (v0, .inr (3, Vv)), (y, .inl (cB, z, .inl g)), (h, .inr (0, F)), (f0, .inr (1, (S.set 1 (.int 0)).set 2 (.int 0)))] := hD
  refine lv_istore_n (lv' := [(1, .int 0), (0, .ref h)]) hx hb d_V_schema_4 rfl hl (by decide) rfl (fun ls hl => ?_)
  refine lv_iload_n hx hb d_V_schema_5 rfl (lv_at hl 0 rfl) ?_
  refine lv_sipush (v := 4000) hx hb d_V_schema_6 (by decide) ?_
  refine lv_icmp_le (tgt := 16) hx hb d_V_schema_9 (by decide) (fun c1 => ?_) (fun c1 => by first | exact absurd c1 (by decide) | exact absurd (by decide) c1)
  refine lv_aload_n hx hb d_V_schema_16 rfl (lv_at hl 1 rfl) ?_
  refine f_get (D := (dC, dI)) (ci := 0) (v := .ref c0) (C := R_V) (T := F_V) (N := 15) hx hb hT in_V hown hK hP 3 rfl rfl 3 (by decide) fr_V_3 w_3_238 gF_3 d_V_schema_17 ?_
  refine lv_aload_n hx hb d_V_schema_20 rfl (lv_at hl 1 rfl) ?_
  refine f_get (D := (dC, dI)) (ci := 0) (v := .ref f0) (C := R_V) (T := F_V) (N := 15) hx hb hT in_V hown hK hP 3 rfl rfl 1 (by decide) fr_V_1 w_3_236 gF_1 d_V_schema_21 ?_
  refine f_get (D := (dC, dI)) (ci := 1) (v := .ref y) (C := R_Snk) (T := F_Snk) (N := 7) hx hb hT in_Snk hown hK hP 4 rfl rfl 0 (by decide) fr_Snk_0 w_1_42 ((List.getElem?_set_ne (by decide)).trans ((List.getElem?_set_ne (by decide)).trans gS_0)) d_V_schema_24 ?_
  refine lv_iload_n hx hb d_V_schema_27 rfl (lv_at hl 0 rfl) ?_
  have hPc := hP.sub (ws' := [(c0, .inr (2, C)), (y, .inl (cB, z, .inl g))]) [0, 2] rfl
  have hDc := hD.sub (ws' := [(c0, .inr (2, C)), (y, .inl (cB, z, .inl g))]) [0, 2] (by decide) rfl
  have hFc := va_free (wc := [(c0, .inr (2, C)), (y, .inl (cB, z, .inl g))]) hD hS hA [0, 2] rfl
  refine va_callv (va_runV (C := R_Scn) (As := [.ref y, .int 0]) (rest := []) ⟨hx, hb, hml, hown, hT⟩ (c_Scn_begin l dC dI cI cB cJ cZ H.size c0 C y z g 0 nC (i0_le _) hz) ⟨callB_of 2 hT (gw_in w_4_93) rfl rfl rfl (hT _ w_1_4) (hT _ w_4_90) (by decide +kernel) ⟨Nat.le_of_ble_eq_true rfl, Nat.le_of_ble_eq_true rfl⟩, hT _ w_4_91, hT _ w_4_92⟩ ⟨PC.blind, va_recv hK hPc (ci := 2) (q0 := 0) rfl rfl, PC.at _ hPc hDc hK hN⟩ rfl rfl hl.1 rfl (lv_room (Nat.le_of_ble_eq_true rfl)) d_V_schema_28 ⟨show _ ≤ 0 by omega, show _ ≤ 0 by omega⟩) hS (fun q _ h => hFc q h) hFc (fun  u t H1 locs ht hvm hw hB hz1 hk1 hS => ?_)
  obtain ⟨hP1, hD1⟩ := hB
  rw [ht] at hP1
  obtain ⟨hP, hD⟩ := va_join (wr := [(v0, .inr (3, Vv)), (h, .inr (0, F)), (f0, .inr (1, (S.set 1 (.int 0)).set 2 (.int 0)))]) (w1 := [(c0, .inr (2, (((C.set 0 (.ref y)).set 1 (.int 0)).set 2 (.int 0)).set 3 (.int (-1)))), (y, .inl (cB, z, .inl g))]) hP hD [0, 2] [1, 3, 4] rfl rfl (by decide) (by decide) hk1 hFc hP1 hD1
  generalize H1 = H at hP hS ⊢
  have hP : va_P (dC, dI) CL [(v0, .inr (3, Vv)), (h, .inr (0, F)), (f0, .inr (1, (S.set 1 (.int 0)).set 2 (.int 0))), (c0, .inr (2, (((C.set 0 (.ref y)).set 1 (.int 0)).set 2 (.int 0)).set 3 (.int (-1)))), (y, .inl (cB, z, .inl g))] H := hP
  have hD : va_D A [(v0, .inr (3, Vv)), (h, .inr (0, F)), (f0, .inr (1, (S.set 1 (.int 0)).set 2 (.int 0))), (c0, .inr (2, (((C.set 0 (.ref y)).set 1 (.int 0)).set 2 (.int 0)).set 3 (.int (-1)))), (y, .inl (cB, z, .inl g))] := hD
  refine lv_aload_n hx hb d_V_schema_31 rfl (lv_at hl 1 rfl) ?_
  refine f_get (D := (dC, dI)) (ci := 0) (v := .ref v0) (C := R_V) (T := F_V) (N := 15) hx hb hT in_V hown hK hP 1 rfl rfl 5 (by decide) fr_V_5 w_4_0 gF_5 d_V_schema_32 ?_
  refine lv_aload_n hx hb d_V_schema_35 rfl (lv_at hl 1 rfl) ?_
  refine f_get (D := (dC, dI)) (ci := 0) (v := .ref c0) (C := R_V) (T := F_V) (N := 15) hx hb hT in_V hown hK hP 1 rfl rfl 3 (by decide) fr_V_3 w_3_238 gF_3 d_V_schema_36 ?_
  have hPc := hP.sub (ws' := [(v0, .inr (3, Vv)), (c0, .inr (2, (((C.set 0 (.ref y)).set 1 (.int 0)).set 2 (.int 0)).set 3 (.int (-1))))]) [0, 3] rfl
  have hDc := hD.sub (ws' := [(v0, .inr (3, Vv)), (c0, .inr (2, (((C.set 0 (.ref y)).set 1 (.int 0)).set 2 (.int 0)).set 3 (.int (-1))))]) [0, 3] (by decide) rfl
  have hFc := va_free (wc := [(v0, .inr (3, Vv)), (c0, .inr (2, (((C.set 0 (.ref y)).set 1 (.int 0)).set 2 (.int 0)).set 3 (.int (-1))))]) hD hS hA [0, 3] rfl
  refine va_calli (va_runV (C := R_Sch) (As := [.ref c0]) (rest := []) ⟨hx, hb, hml, hown, hT⟩ (c_Sch_readText_end l dC dI cI cB cJ cZ H.size v0 Vv c0 ((((C.set 0 (.ref y)).set 1 (.int 0)).set 2 (.int 0)).set 3 (.int (-1)))  nVv (by rw [List.length_set]; exact (by rw [List.length_set]; exact (by rw [List.length_set]; exact (by rw [List.length_set]; exact nC)))) (List.getElem?_set_self (by rw [List.length_set]; exact (by rw [List.length_set]; exact (by rw [List.length_set]; exact (by rw [nC]; decide))))) ((List.getElem?_set_ne (by decide)).trans (List.getElem?_set_self (by rw [List.length_set]; exact (by rw [List.length_set]; exact (by rw [nC]; decide))))) ((List.getElem?_set_ne (by decide)).trans ((List.getElem?_set_ne (by decide)).trans (List.getElem?_set_self (by rw [List.length_set]; exact (by rw [nC]; decide)))))) ⟨callB_of 1 hT (gw_in w_4_98) rfl rfl rfl (hT _ w_1_5) (hT _ w_4_95) (by decide +kernel) ⟨Nat.le_of_ble_eq_true rfl, Nat.le_of_ble_eq_true rfl⟩, hT _ w_4_96, hT _ w_4_97⟩ ⟨PS.blind, va_recv hK hPc (ci := 3) (q0 := 0) rfl rfl, PS.at _ hPc hDc hK hN hSW⟩ rfl rfl hl.1 rfl (lv_room (Nat.le_of_ble_eq_true rfl)) d_V_schema_39 ⟨show _ ≤ 0 by omega, show _ ≤ 0 by omega⟩) hS (fun q _ h => hFc q h) hFc (fun r2 u t H1 locs ht hvm hw hB hz1 hk1 hS => ?_)
  obtain ⟨hP1, hD1⟩ := hB
  have hw : 0 = r2 := Eq.symm hw
  subst hw
  rw [ht] at hP1
  obtain ⟨hP, hD⟩ := va_join (wr := [(h, .inr (0, F)), (f0, .inr (1, (S.set 1 (.int 0)).set 2 (.int 0))), (y, .inl (cB, z, .inl g))]) (w1 := [(v0, .inr (3, (Vv.set 0 (.int 0)).set 1 (.int 0))), (c0, .inr (2, ((((C.set 0 (.ref y)).set 1 (.int 0)).set 2 (.int 0)).set 3 (.int (-1))).set 3 (.int 0)))]) hP hD [0, 3] [1, 2, 4] rfl rfl (by decide) (by decide) hk1 hFc hP1 hD1
  generalize H1 = H at hP hS ⊢
  have hP : va_P (dC, dI) CL [(h, .inr (0, F)), (f0, .inr (1, (S.set 1 (.int 0)).set 2 (.int 0))), (y, .inl (cB, z, .inl g)), (v0, .inr (3, (Vv.set 0 (.int 0)).set 1 (.int 0))), (c0, .inr (2, ((((C.set 0 (.ref y)).set 1 (.int 0)).set 2 (.int 0)).set 3 (.int (-1))).set 3 (.int 0)))] H := hP
  have hD : va_D A [(h, .inr (0, F)), (f0, .inr (1, (S.set 1 (.int 0)).set 2 (.int 0))), (y, .inl (cB, z, .inl g)), (v0, .inr (3, (Vv.set 0 (.int 0)).set 1 (.int 0))), (c0, .inr (2, ((((C.set 0 (.ref y)).set 1 (.int 0)).set 2 (.int 0)).set 3 (.int (-1))).set 3 (.int 0)))] := hD
  refine lv_istore_n (lv' := [(2, .int 0), (1, .int 0), (0, .ref h)]) hx hb d_V_schema_42 rfl hl (by decide) rfl (fun ls hl => ?_)
  refine lv_iload_n hx hb d_V_schema_43 rfl (lv_at hl 0 rfl) ?_
  refine lv_iconst (v := (-1)) hx hb d_V_schema_44 (by decide) ?_
  refine lv_icmp_eq (tgt := 50) hx hb d_V_schema_45 (by decide) (fun c1 => by first | exact absurd c1 (by decide) | exact absurd (by decide) c1) (fun c1 => ?_)
  refine lv_iload_n hx hb d_V_schema_48 rfl (lv_at hl 0 rfl) ?_
  exact W.iret (v := 0) hx hb hr (fun t ht hW => ⟨⟨0, (), rfl, rfl, by rw [ht]; exact hP, hD⟩, hS.F ht⟩) hS.2.2 d_V_schema_49
end
