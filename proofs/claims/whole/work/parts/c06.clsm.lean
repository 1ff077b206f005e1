theorem fr_Rec_4 : F_Rec 4 = (R_Rec, "freshTextEnd", "I", false) := rfl
theorem w_1_101 : (Jvm.Cond.fieldLink "StripedVault$Records" (211 : Nat) "StripedVault$Scan" "number" "J") ∈ TG := tw_1 101 (by decide +kernel) (by decide +kernel)
theorem w_1_104 : (Jvm.Cond.fieldLink "StripedVault$Records" (197 : Nat) "StripedVault$Scan" "textSize" "I") ∈ TG := tw_1 104 (by decide +kernel) (by decide +kernel)
theorem w_1_151 : (Jvm.Cond.fieldLink "StripedVault$Records" (169 : Nat) "StripedVault$Schema" "type" "[I") ∈ TG := tw_1 151 (by decide +kernel) (by decide +kernel)
theorem w_1_160 : (Jvm.Cond.fieldLink "StripedVault$Records" (167 : Nat) "StripedVault$Schema" "rep" "[I") ∈ TG := tw_1 160 (by decide +kernel) (by decide +kernel)
theorem w_1_166 : (Jvm.Cond.fieldLink "StripedVault$Records" (179 : Nat) "StripedVault$Schema" "def" "[I") ∈ TG := tw_1 166 (by decide +kernel) (by decide +kernel)
theorem w_1_172 : (Jvm.Cond.fieldLink "StripedVault$Records" (130 : Nat) "StripedVault$Schema" "past" "[I") ∈ TG := tw_1 172 (by decide +kernel) (by decide +kernel)
theorem w_1_176 : (Jvm.Cond.fieldLink "StripedVault$Records" (176 : Nat) "StripedVault$Schema" "column" "[I") ∈ TG := tw_1 176 (by decide +kernel) (by decide +kernel)
theorem w_1_233 : (Jvm.Cond.fieldLink "StripedVault$Records" (66 : Nat) "StripedVault$Records" "freshTextEnd" "I") ∈ TG := tw_1 233 (by decide +kernel) (by decide +kernel)
theorem w_1_83 : (Jvm.Cond.fieldLink "StripedVault$Records" (166 : Nat) "StripedVault$Scan" "count" "I") ∈ TG := tw_1 83 (by decide +kernel) (by decide +kernel)
theorem w_5_101 : (Jvm.Cond.instanceMethod ({ cls := "StripedVault$Scan", name := "readDigits", desc := "()Z" } : Jvm.MethodName)) ∈ TG := tw_5 101 (by decide +kernel) (by decide +kernel)
theorem w_5_102 : (Jvm.Cond.code ({ cls := "StripedVault$Scan", name := "readDigits", desc := "()Z" } : Jvm.MethodName) prog_7_method_15_code (3 : Nat) (Option.some Jvm.ClassFile.FieldType.boolean)) ∈ TG := tw_5 102 (by decide +kernel) (by decide +kernel)
theorem w_5_105 : (Jvm.Cond.methodLink "StripedVault$Records" (133 : Nat) ({ cls := "StripedVault$Scan", name := "takeSign", desc := "(C)Z" } : Jvm.MethodName)) ∈ TG := tw_5 105 (by decide +kernel) (by decide +kernel)
theorem w_5_106 : (Jvm.Cond.methodLink "StripedVault$Records" (137 : Nat) ({ cls := "StripedVault$Records", name := "someRequired", desc := "(III)Z" } : Jvm.MethodName)) ∈ TG := tw_5 106 (by decide +kernel) (by decide +kernel)
theorem w_5_108 : (Jvm.Cond.instanceMethod ({ cls := "StripedVault$Records", name := "someRequired", desc := "(III)Z" } : Jvm.MethodName)) ∈ TG := tw_5 108 (by decide +kernel) (by decide +kernel)
theorem w_5_109 : (Jvm.Cond.code ({ cls := "StripedVault$Records", name := "someRequired", desc := "(III)Z" } : Jvm.MethodName) prog_6_method_8_code (5 : Nat) (Option.some Jvm.ClassFile.FieldType.boolean)) ∈ TG := tw_5 109 (by decide +kernel) (by decide +kernel)
theorem w_5_23 : (Jvm.Cond.methodLink "StripedVault$Records" (69 : Nat) ({ cls := "StripedVault$Records", name := "readGroup", desc := "(III)V" } : Jvm.MethodName)) ∈ TG := tw_5 23 (by decide +kernel) (by decide +kernel)
theorem w_5_25 : (Jvm.Cond.instanceMethod ({ cls := "StripedVault$Records", name := "readGroup", desc := "(III)V" } : Jvm.MethodName)) ∈ TG := tw_5 25 (by decide +kernel) (by decide +kernel)
theorem w_5_26 : (Jvm.Cond.code ({ cls := "StripedVault$Records", name := "readGroup", desc := "(III)V" } : Jvm.MethodName) prog_6_method_7_code (9 : Nat) (Option.none : Option Jvm.ClassFile.FieldType)) ∈ TG := tw_5 26 (by decide +kernel) (by decide +kernel)
theorem w_5_28 : (Jvm.Cond.methodLink "StripedVault$Records" (109 : Nat) ({ cls := "StripedVault$Scan", name := "needSign", desc := "(C)V" } : Jvm.MethodName)) ∈ TG := tw_5 28 (by decide +kernel) (by decide +kernel)
theorem w_5_29 : (Jvm.Cond.methodLink "StripedVault$Records" (113 : Nat) ({ cls := "StripedVault$Schema", name := "firstIn", desc := "(I)I" } : Jvm.MethodName)) ∈ TG := tw_5 29 (by decide +kernel) (by decide +kernel)
theorem w_5_30 : (Jvm.Cond.methodLink "StripedVault$Records" (116 : Nat) ({ cls := "StripedVault$Schema", name := "pastOf", desc := "(I)I" } : Jvm.MethodName)) ∈ TG := tw_5 30 (by decide +kernel) (by decide +kernel)
theorem w_5_31 : (Jvm.Cond.methodLink "StripedVault$Records" (73 : Nat) ({ cls := "StripedVault$Scan", name := "good", desc := "()Z" } : Jvm.MethodName)) ∈ TG := tw_5 31 (by decide +kernel) (by decide +kernel)
theorem w_5_32 : (Jvm.Cond.methodLink "StripedVault$Records" (79 : Nat) ({ cls := "StripedVault$Scan", name := "next", desc := "()I" } : Jvm.MethodName)) ∈ TG := tw_5 32 (by decide +kernel) (by decide +kernel)
theorem w_5_33 : (Jvm.Cond.methodLink "StripedVault$Records" (119 : Nat) ({ cls := "StripedVault$Records", name := "readName", desc := "(III)I" } : Jvm.MethodName)) ∈ TG := tw_5 33 (by decide +kernel) (by decide +kernel)
theorem w_5_35 : (Jvm.Cond.instanceMethod ({ cls := "StripedVault$Records", name := "readName", desc := "(III)I" } : Jvm.MethodName)) ∈ TG := tw_5 35 (by decide +kernel) (by decide +kernel)
theorem w_5_36 : (Jvm.Cond.code ({ cls := "StripedVault$Records", name := "readName", desc := "(III)I" } : Jvm.MethodName) prog_6_method_9_code (6 : Nat) (Option.some Jvm.ClassFile.FieldType.int)) ∈ TG := tw_5 36 (by decide +kernel) (by decide +kernel)
theorem w_5_39 : (Jvm.Cond.methodLink "StripedVault$Records" (123 : Nat) ({ cls := "StripedVault$Records", name := "enterMissing", desc := "(IIII)V" } : Jvm.MethodName)) ∈ TG := tw_5 39 (by decide +kernel) (by decide +kernel)
theorem w_5_41 : (Jvm.Cond.instanceMethod ({ cls := "StripedVault$Records", name := "enterMissing", desc := "(IIII)V" } : Jvm.MethodName)) ∈ TG := tw_5 41 (by decide +kernel) (by decide +kernel)
theorem w_5_42 : (Jvm.Cond.code ({ cls := "StripedVault$Records", name := "enterMissing", desc := "(IIII)V" } : Jvm.MethodName) prog_6_method_6_code (7 : Nat) (Option.none : Option Jvm.ClassFile.FieldType)) ∈ TG := tw_5 42 (by decide +kernel) (by decide +kernel)
theorem w_5_52 : (Jvm.Cond.methodLink "StripedVault$Records" (127 : Nat) ({ cls := "StripedVault$Records", name := "readValues", desc := "(III)V" } : Jvm.MethodName)) ∈ TG := tw_5 52 (by decide +kernel) (by decide +kernel)
theorem w_5_54 : (Jvm.Cond.instanceMethod ({ cls := "StripedVault$Records", name := "readValues", desc := "(III)V" } : Jvm.MethodName)) ∈ TG := tw_5 54 (by decide +kernel) (by decide +kernel)
theorem w_5_55 : (Jvm.Cond.code ({ cls := "StripedVault$Records", name := "readValues", desc := "(III)V" } : Jvm.MethodName) prog_6_method_10_code (7 : Nat) (Option.none : Option Jvm.ClassFile.FieldType)) ∈ TG := tw_5 55 (by decide +kernel) (by decide +kernel)
theorem w_5_56 : (Jvm.Cond.methodLink "StripedVault$Records" (163 : Nat) ({ cls := "StripedVault$Records", name := "readOne", desc := "(III)V" } : Jvm.MethodName)) ∈ TG := tw_5 56 (by decide +kernel) (by decide +kernel)
theorem w_5_58 : (Jvm.Cond.instanceMethod ({ cls := "StripedVault$Records", name := "readOne", desc := "(III)V" } : Jvm.MethodName)) ∈ TG := tw_5 58 (by decide +kernel) (by decide +kernel)
theorem w_5_59 : (Jvm.Cond.code ({ cls := "StripedVault$Records", name := "readOne", desc := "(III)V" } : Jvm.MethodName) prog_6_method_11_code (6 : Nat) (Option.none : Option Jvm.ClassFile.FieldType)) ∈ TG := tw_5 59 (by decide +kernel) (by decide +kernel)
theorem w_5_60 : (Jvm.Cond.methodLink "StripedVault$Records" (172 : Nat) ({ cls := "StripedVault$Records", name := "readValue", desc := "(I)J" } : Jvm.MethodName)) ∈ TG := tw_5 60 (by decide +kernel) (by decide +kernel)
theorem w_5_62 : (Jvm.Cond.instanceMethod ({ cls := "StripedVault$Records", name := "readValue", desc := "(I)J" } : Jvm.MethodName)) ∈ TG := tw_5 62 (by decide +kernel) (by decide +kernel)
theorem w_5_63 : (Jvm.Cond.code ({ cls := "StripedVault$Records", name := "readValue", desc := "(I)J" } : Jvm.MethodName) prog_6_method_12_code (4 : Nat) (Option.some Jvm.ClassFile.FieldType.long)) ∈ TG := tw_5 63 (by decide +kernel) (by decide +kernel)
theorem w_5_65 : (Jvm.Cond.methodLink "StripedVault$Records" (183 : Nat) ({ cls := "StripedVault$Scan", name := "takeWord", desc := "(Ljava/lang/String;)Z" } : Jvm.MethodName)) ∈ TG := tw_5 65 (by decide +kernel) (by decide +kernel)
theorem w_5_67 : (Jvm.Cond.methodLink "StripedVault$Records" (189 : Nat) ({ cls := "StripedVault$Scan", name := "needWord", desc := "(Ljava/lang/String;)V" } : Jvm.MethodName)) ∈ TG := tw_5 67 (by decide +kernel) (by decide +kernel)
theorem w_5_68 : (Jvm.Cond.methodLink "StripedVault$Records" (193 : Nat) ({ cls := "StripedVault$Scan", name := "readQuoted", desc := "([BI)V" } : Jvm.MethodName)) ∈ TG := tw_5 68 (by decide +kernel) (by decide +kernel)
theorem w_5_69 : (Jvm.Cond.instanceMethod ({ cls := "StripedVault$Scan", name := "readQuoted", desc := "([BI)V" } : Jvm.MethodName)) ∈ TG := tw_5 69 (by decide +kernel) (by decide +kernel)
theorem w_5_70 : (Jvm.Cond.selects "StripedVault$Scan" ({ cls := "StripedVault$Scan", name := "readQuoted", desc := "([BI)V" } : Jvm.MethodName) ({ cls := "StripedVault$Scan", name := "readQuoted", desc := "([BI)V" } : Jvm.MethodName)) ∈ TG := tw_5 70 (by decide +kernel) (by decide +kernel)
theorem w_5_71 : (Jvm.Cond.code ({ cls := "StripedVault$Scan", name := "readQuoted", desc := "([BI)V" } : Jvm.MethodName) prog_7_method_16_code (6 : Nat) (Option.none : Option Jvm.ClassFile.FieldType)) ∈ TG := tw_5 71 (by decide +kernel) (by decide +kernel)
theorem w_5_85 : (Jvm.Cond.static ({ cls := "StripedVault", name := "reference", desc := "(II)J" } : Jvm.MethodName)) ∈ TG := tw_5 85 (by decide +kernel) (by decide +kernel)
theorem w_5_86 : (Jvm.Cond.code ({ cls := "StripedVault", name := "reference", desc := "(II)J" } : Jvm.MethodName) prog_1_method_31_code (2 : Nat) (Option.some Jvm.ClassFile.FieldType.long)) ∈ TG := tw_5 86 (by decide +kernel) (by decide +kernel)
theorem w_5_88 : (Jvm.Cond.methodLink "StripedVault$Records" (204 : Nat) ({ cls := "StripedVault$Scan", name := "atNumber", desc := "()Z" } : Jvm.MethodName)) ∈ TG := tw_5 88 (by decide +kernel) (by decide +kernel)
theorem w_5_89 : (Jvm.Cond.instanceMethod ({ cls := "StripedVault$Scan", name := "atNumber", desc := "()Z" } : Jvm.MethodName)) ∈ TG := tw_5 89 (by decide +kernel) (by decide +kernel)
theorem w_5_90 : (Jvm.Cond.selects "StripedVault$Scan" ({ cls := "StripedVault$Scan", name := "atNumber", desc := "()Z" } : Jvm.MethodName) ({ cls := "StripedVault$Scan", name := "atNumber", desc := "()Z" } : Jvm.MethodName)) ∈ TG := tw_5 90 (by decide +kernel) (by decide +kernel)
theorem w_5_91 : (Jvm.Cond.code ({ cls := "StripedVault$Scan", name := "atNumber", desc := "()Z" } : Jvm.MethodName) prog_7_method_13_code (2 : Nat) (Option.some Jvm.ClassFile.FieldType.boolean)) ∈ TG := tw_5 91 (by decide +kernel) (by decide +kernel)
theorem w_5_95 : (Jvm.Cond.methodLink "StripedVault$Records" (207 : Nat) ({ cls := "StripedVault$Scan", name := "readNumber", desc := "(Z)V" } : Jvm.MethodName)) ∈ TG := tw_5 95 (by decide +kernel) (by decide +kernel)
theorem w_5_96 : (Jvm.Cond.instanceMethod ({ cls := "StripedVault$Scan", name := "readNumber", desc := "(Z)V" } : Jvm.MethodName)) ∈ TG := tw_5 96 (by decide +kernel) (by decide +kernel)
theorem w_5_97 : (Jvm.Cond.selects "StripedVault$Scan" ({ cls := "StripedVault$Scan", name := "readNumber", desc := "(Z)V" } : Jvm.MethodName) ({ cls := "StripedVault$Scan", name := "readNumber", desc := "(Z)V" } : Jvm.MethodName)) ∈ TG := tw_5 97 (by decide +kernel) (by decide +kernel)
theorem w_5_98 : (Jvm.Cond.code ({ cls := "StripedVault$Scan", name := "readNumber", desc := "(Z)V" } : Jvm.MethodName) prog_7_method_14_code (8 : Nat) (Option.none : Option Jvm.ClassFile.FieldType)) ∈ TG := tw_5 98 (by decide +kernel) (by decide +kernel)
theorem w_5_99 : (Jvm.Cond.methodLink "StripedVault$Scan" (86 : Nat) ({ cls := "StripedVault$Scan", name := "readDigits", desc := "()Z" } : Jvm.MethodName)) ∈ TG := tw_5 99 (by decide +kernel) (by decide +kernel)
theorem wn_5_84 : (Jvm.Cond.methodLinkNest "StripedVault$Records" (200 : Nat) ({ cls := "StripedVault", name := "reference", desc := "(II)J" } : Jvm.MethodName) "StripedVault") ∈ lw_tbl := tb_5 _ (List.mem_of_getElem? (i := 84) (by decide +kernel))
theorem ws_10 : Cond.selects R_Rec y_Rec_readValues y_Rec_readValues ∈ TG := tw_s 10 (by decide +kernel) (by decide +kernel)
theorem ws_11 : Cond.selects R_Rec y_Rec_readOne y_Rec_readOne ∈ TG := tw_s 11 (by decide +kernel) (by decide +kernel)
theorem ws_12 : Cond.selects R_Rec y_Rec_readValue y_Rec_readValue ∈ TG := tw_s 12 (by decide +kernel) (by decide +kernel)
theorem ws_15 : Cond.selects R_Scn y_Scn_readDigits y_Scn_readDigits ∈ TG := tw_s 15 (by decide +kernel) (by decide +kernel)
theorem ws_16 : Cond.selects R_Rec y_Rec_someRequired y_Rec_someRequired ∈ TG := tw_s 16 (by decide +kernel) (by decide +kernel)
theorem ws_6 : Cond.selects R_Rec y_Rec_readGroup y_Rec_readGroup ∈ TG := tw_s 6 (by decide +kernel) (by decide +kernel)
theorem ws_7 : Cond.selects R_Rec y_Rec_readName y_Rec_readName ∈ TG := tw_s 7 (by decide +kernel) (by decide +kernel)
theorem ws_8 : Cond.selects R_Rec y_Rec_enterMissing y_Rec_enterMissing ∈ TG := tw_s 8 (by decide +kernel) (by decide +kernel)
theorem d_Scn_readNumber_158 : decode b_Scn_readNumber 158 = .ok (.iload_n 1, 1) := by decide +kernel
theorem d_Scn_readNumber_159 : decode b_Scn_readNumber 159 = .ok (.ifCond .ne 22, 3) := by decide +kernel
theorem d_Scn_readNumber_181 : decode b_Scn_readNumber 181 = .ok (.return_, 1) := by decide +kernel
theorem d_Scn_readNumber_162 : decode b_Scn_readNumber 162 = .ok (.aload_n 0, 1) := by decide +kernel
theorem d_Scn_readNumber_163 : decode b_Scn_readNumber 163 = .ok (.getfield 89, 3) := by decide +kernel
theorem d_Scn_readNumber_166 : decode b_Scn_readNumber 166 = .ok (.aload_n 0, 1) := by decide +kernel
theorem d_Scn_readNumber_167 : decode b_Scn_readNumber 167 = .ok (.getfield 89, 3) := by decide +kernel
theorem d_Scn_readNumber_170 : decode b_Scn_readNumber 170 = .ok (.l2i, 1) := by decide +kernel
theorem d_Scn_readNumber_171 : decode b_Scn_readNumber 171 = .ok (.i2l, 1) := by decide +kernel
theorem d_Scn_readNumber_172 : decode b_Scn_readNumber 172 = .ok (.lcmp, 1) := by decide +kernel
theorem d_Scn_readNumber_173 : decode b_Scn_readNumber 173 = .ok (.ifCond .eq 8, 3) := by decide +kernel
theorem d_Scn_readNumber_176 : decode b_Scn_readNumber 176 = .ok (.aload_n 0, 1) := by decide +kernel
theorem d_Scn_readNumber_177 : decode b_Scn_readNumber 177 = .ok (.iload_n 2, 1) := by decide +kernel
theorem d_Scn_readNumber_178 : decode b_Scn_readNumber 178 = .ok (.invokevirtual 72, 3) := by decide +kernel
theorem d_Scn_readNumber_145 : decode b_Scn_readNumber 145 = .ok (.iload_n 3, 1) := by decide +kernel
theorem d_Scn_readNumber_146 : decode b_Scn_readNumber 146 = .ok (.ifCond .ne 12, 3) := by decide +kernel
theorem d_Scn_readNumber_149 : decode b_Scn_readNumber 149 = .ok (.aload_n 0, 1) := by decide +kernel
theorem d_Scn_readNumber_150 : decode b_Scn_readNumber 150 = .ok (.aload_n 0, 1) := by decide +kernel
theorem d_Scn_readNumber_151 : decode b_Scn_readNumber 151 = .ok (.getfield 89, 3) := by decide +kernel
theorem d_Scn_readNumber_154 : decode b_Scn_readNumber 154 = .ok (.lneg, 1) := by decide +kernel
theorem d_Scn_readNumber_155 : decode b_Scn_readNumber 155 = .ok (.putfield 89, 3) := by decide +kernel
theorem d_Scn_readNumber_139 : decode b_Scn_readNumber 139 = .ok (.aload_n 0, 1) := by decide +kernel
theorem d_Scn_readNumber_140 : decode b_Scn_readNumber 140 = .ok (.iload_n 2, 1) := by decide +kernel
theorem d_Scn_readNumber_141 : decode b_Scn_readNumber 141 = .ok (.invokevirtual 72, 3) := by decide +kernel
theorem d_Scn_readNumber_144 : decode b_Scn_readNumber 144 = .ok (.return_, 1) := by decide +kernel
theorem d_Scn_readNumber_112 : decode b_Scn_readNumber 112 = .ok (.istore 7, 2) := by decide +kernel
theorem d_Scn_readNumber_114 : decode b_Scn_readNumber 114 = .ok (.iload 7, 2) := by decide +kernel
theorem d_Scn_readNumber_116 : decode b_Scn_readNumber 116 = .ok (.ifCond .ne 23, 3) := by decide +kernel
theorem d_Scn_readNumber_119 : decode b_Scn_readNumber 119 = .ok (.iload 5, 2) := by decide +kernel
theorem d_Scn_readNumber_121 : decode b_Scn_readNumber 121 = .ok (.ifCond .eq 18, 3) := by decide +kernel
theorem d_Scn_readNumber_124 : decode b_Scn_readNumber 124 = .ok (.iload_n 3, 1) := by decide +kernel
theorem d_Scn_readNumber_125 : decode b_Scn_readNumber 125 = .ok (.ifCond .ne 20, 3) := by decide +kernel
theorem d_Scn_readNumber_128 : decode b_Scn_readNumber 128 = .ok (.aload_n 0, 1) := by decide +kernel
theorem d_Scn_readNumber_129 : decode b_Scn_readNumber 129 = .ok (.getfield 89, 3) := by decide +kernel
theorem d_Scn_readNumber_132 : decode b_Scn_readNumber 132 = .ok (.ldc2_w 93, 3) := by decide +kernel
theorem d_Scn_readNumber_135 : decode b_Scn_readNumber 135 = .ok (.lcmp, 1) := by decide +kernel
theorem d_Scn_readNumber_136 : decode b_Scn_readNumber 136 = .ok (.ifCond .ne 9, 3) := by decide +kernel
theorem d_Scn_readNumber_111 : decode b_Scn_readNumber 111 = .ok (.iconst 0, 1) := by decide +kernel
theorem d_Scn_readNumber_107 : decode b_Scn_readNumber 107 = .ok (.iconst 1, 1) := by decide +kernel
theorem d_Scn_readNumber_108 : decode b_Scn_readNumber 108 = .ok (.goto 4, 3) := by decide +kernel
theorem d_Scn_readNumber_82 : decode b_Scn_readNumber 82 = .ok (.invokevirtual 72, 3) := by decide +kernel
theorem d_Scn_readNumber_85 : decode b_Scn_readNumber 85 = .ok (.return_, 1) := by decide +kernel
theorem d_Scn_readNumber_38 : decode b_Scn_readNumber 38 = .ok (.aload_n 0, 1) := by decide +kernel
theorem d_Scn_readNumber_39 : decode b_Scn_readNumber 39 = .ok (.getfield 28, 3) := by decide +kernel
theorem d_Scn_readNumber_42 : decode b_Scn_readNumber 42 = .ok (.istore 4, 2) := by decide +kernel
theorem d_Scn_readNumber_44 : decode b_Scn_readNumber 44 = .ok (.aload_n 0, 1) := by decide +kernel
theorem d_Scn_readNumber_45 : decode b_Scn_readNumber 45 = .ok (.invokevirtual 86, 3) := by decide +kernel
theorem d_Scn_readNumber_48 : decode b_Scn_readNumber 48 = .ok (.istore 5, 2) := by decide +kernel
theorem d_Scn_readNumber_50 : decode b_Scn_readNumber 50 = .ok (.aload_n 0, 1) := by decide +kernel
theorem d_Scn_readNumber_51 : decode b_Scn_readNumber 51 = .ok (.getfield 28, 3) := by decide +kernel
theorem d_Scn_readNumber_54 : decode b_Scn_readNumber 54 = .ok (.iload 4, 2) := by decide +kernel
theorem d_Scn_readNumber_56 : decode b_Scn_readNumber 56 = .ok (.isub, 1) := by decide +kernel
theorem d_Scn_readNumber_57 : decode b_Scn_readNumber 57 = .ok (.istore 6, 2) := by decide +kernel
theorem d_Scn_readNumber_59 : decode b_Scn_readNumber 59 = .ok (.iload 6, 2) := by decide +kernel
theorem d_Scn_readNumber_61 : decode b_Scn_readNumber 61 = .ok (.ifCond .ne 25, 3) := by decide +kernel
theorem d_Scn_readNumber_86 : decode b_Scn_readNumber 86 = .ok (.aload_n 0, 1) := by decide +kernel
theorem d_Scn_readNumber_87 : decode b_Scn_readNumber 87 = .ok (.iload 4, 2) := by decide +kernel
theorem d_Scn_readNumber_89 : decode b_Scn_readNumber 89 = .ok (.invokevirtual 82, 3) := by decide +kernel
theorem d_Scn_readNumber_92 : decode b_Scn_readNumber 92 = .ok (.bipush 48, 2) := by decide +kernel
theorem d_Scn_readNumber_94 : decode b_Scn_readNumber 94 = .ok (.if_icmp .ne 17, 3) := by decide +kernel
theorem d_Scn_readNumber_97 : decode b_Scn_readNumber 97 = .ok (.iload_n 3, 1) := by decide +kernel
theorem d_Scn_readNumber_98 : decode b_Scn_readNumber 98 = .ok (.ifCond .ne 9, 3) := by decide +kernel
theorem d_Scn_readNumber_101 : decode b_Scn_readNumber 101 = .ok (.iload 6, 2) := by decide +kernel
theorem d_Scn_readNumber_103 : decode b_Scn_readNumber 103 = .ok (.iconst 1, 1) := by decide +kernel
theorem d_Scn_readNumber_104 : decode b_Scn_readNumber 104 = .ok (.if_icmp .le 7, 3) := by decide +kernel
theorem d_Scn_readNumber_64 : decode b_Scn_readNumber 64 = .ok (.aload_n 0, 1) := by decide +kernel
theorem d_Scn_readNumber_65 : decode b_Scn_readNumber 65 = .ok (.iload 4, 2) := by decide +kernel
theorem d_Scn_readNumber_67 : decode b_Scn_readNumber 67 = .ok (.aload_n 0, 1) := by decide +kernel
theorem d_Scn_readNumber_68 : decode b_Scn_readNumber 68 = .ok (.getfield 25, 3) := by decide +kernel
theorem d_Scn_readNumber_71 : decode b_Scn_readNumber 71 = .ok (.if_icmp .lt 10, 3) := by decide +kernel
theorem d_Scn_readNumber_81 : decode b_Scn_readNumber 81 = .ok (.iload_n 2, 1) := by decide +kernel
theorem d_Scn_readNumber_74 : decode b_Scn_readNumber 74 = .ok (.aload_n 0, 1) := by decide +kernel
theorem d_Scn_readNumber_75 : decode b_Scn_readNumber 75 = .ok (.getfield 25, 3) := by decide +kernel
theorem d_Scn_readNumber_78 : decode b_Scn_readNumber 78 = .ok (.goto 4, 3) := by decide +kernel
theorem d_Scn_readNumber_23 : decode b_Scn_readNumber 23 = .ok (.istore_n 3, 1) := by decide +kernel
theorem d_Scn_readNumber_24 : decode b_Scn_readNumber 24 = .ok (.iload_n 3, 1) := by decide +kernel
theorem d_Scn_readNumber_25 : decode b_Scn_readNumber 25 = .ok (.ifCond .eq 13, 3) := by decide +kernel
theorem d_Scn_readNumber_28 : decode b_Scn_readNumber 28 = .ok (.aload_n 0, 1) := by decide +kernel
theorem d_Scn_readNumber_29 : decode b_Scn_readNumber 29 = .ok (.dup, 1) := by decide +kernel
theorem d_Scn_readNumber_30 : decode b_Scn_readNumber 30 = .ok (.getfield 28, 3) := by decide +kernel
theorem d_Scn_readNumber_33 : decode b_Scn_readNumber 33 = .ok (.iconst 1, 1) := by decide +kernel
theorem d_Scn_readNumber_34 : decode b_Scn_readNumber 34 = .ok (.iadd, 1) := by decide +kernel
theorem d_Scn_readNumber_35 : decode b_Scn_readNumber 35 = .ok (.putfield 28, 3) := by decide +kernel
theorem d_Scn_readNumber_0 : decode b_Scn_readNumber 0 = .ok (.aload_n 0, 1) := by decide +kernel
theorem d_Scn_readNumber_1 : decode b_Scn_readNumber 1 = .ok (.getfield 28, 3) := by decide +kernel
theorem d_Scn_readNumber_4 : decode b_Scn_readNumber 4 = .ok (.istore_n 2, 1) := by decide +kernel
theorem d_Scn_readNumber_5 : decode b_Scn_readNumber 5 = .ok (.aload_n 0, 1) := by decide +kernel
theorem d_Scn_readNumber_6 : decode b_Scn_readNumber 6 = .ok (.aload_n 0, 1) := by decide +kernel
theorem d_Scn_readNumber_7 : decode b_Scn_readNumber 7 = .ok (.getfield 28, 3) := by decide +kernel
theorem d_Scn_readNumber_10 : decode b_Scn_readNumber 10 = .ok (.invokevirtual 82, 3) := by decide +kernel
theorem d_Scn_readNumber_13 : decode b_Scn_readNumber 13 = .ok (.bipush 45, 2) := by decide +kernel
theorem d_Scn_readNumber_15 : decode b_Scn_readNumber 15 = .ok (.if_icmp .ne 7, 3) := by decide +kernel
theorem d_Scn_readNumber_22 : decode b_Scn_readNumber 22 = .ok (.iconst 0, 1) := by decide +kernel
theorem d_Scn_readNumber_18 : decode b_Scn_readNumber 18 = .ok (.iconst 1, 1) := by decide +kernel
theorem d_Scn_readNumber_19 : decode b_Scn_readNumber 19 = .ok (.goto 4, 3) := by decide +kernel
theorem d_Rec_readValue_134 : decode b_Rec_readValue 134 = .ok (.aload_n 0, 1) := by decide +kernel
theorem d_Rec_readValue_135 : decode b_Rec_readValue 135 = .ok (.getfield 55, 3) := by decide +kernel
theorem d_Rec_readValue_138 : decode b_Rec_readValue 138 = .ok (.aload_n 0, 1) := by decide +kernel
theorem d_Rec_readValue_139 : decode b_Rec_readValue 139 = .ok (.getfield 55, 3) := by decide +kernel
theorem d_Rec_readValue_142 : decode b_Rec_readValue 142 = .ok (.getfield 82, 3) := by decide +kernel
theorem d_Rec_readValue_145 : decode b_Rec_readValue 145 = .ok (.invokevirtual 85, 3) := by decide +kernel
theorem d_Rec_readValue_148 : decode b_Rec_readValue 148 = .ok (.lconst 0, 1) := by decide +kernel
theorem d_Rec_readValue_149 : decode b_Rec_readValue 149 = .ok (.lreturn, 1) := by decide +kernel
theorem d_Rec_readValue_123 : decode b_Rec_readValue 123 = .ok (.invokevirtual 207, 3) := by decide +kernel
theorem d_Rec_readValue_126 : decode b_Rec_readValue 126 = .ok (.aload_n 0, 1) := by decide +kernel
theorem d_Rec_readValue_127 : decode b_Rec_readValue 127 = .ok (.getfield 55, 3) := by decide +kernel
theorem d_Rec_readValue_130 : decode b_Rec_readValue 130 = .ok (.getfield 211, 3) := by decide +kernel
theorem d_Rec_readValue_133 : decode b_Rec_readValue 133 = .ok (.lreturn, 1) := by decide +kernel
theorem d_Rec_readValue_94 : decode b_Rec_readValue 94 = .ok (.iload_n 1, 1) := by decide +kernel
theorem d_Rec_readValue_95 : decode b_Rec_readValue 95 = .ok (.iconst 3, 1) := by decide +kernel
theorem d_Rec_readValue_96 : decode b_Rec_readValue 96 = .ok (.if_icmp .eq 38, 3) := by decide +kernel
theorem d_Rec_readValue_99 : decode b_Rec_readValue 99 = .ok (.aload_n 0, 1) := by decide +kernel
theorem d_Rec_readValue_100 : decode b_Rec_readValue 100 = .ok (.getfield 55, 3) := by decide +kernel
theorem d_Rec_readValue_103 : decode b_Rec_readValue 103 = .ok (.invokevirtual 204, 3) := by decide +kernel
theorem d_Rec_readValue_106 : decode b_Rec_readValue 106 = .ok (.ifCond .eq 28, 3) := by decide +kernel
theorem d_Rec_readValue_109 : decode b_Rec_readValue 109 = .ok (.aload_n 0, 1) := by decide +kernel
theorem d_Rec_readValue_110 : decode b_Rec_readValue 110 = .ok (.getfield 55, 3) := by decide +kernel
theorem d_Rec_readValue_113 : decode b_Rec_readValue 113 = .ok (.iload_n 1, 1) := by decide +kernel
theorem d_Rec_readValue_114 : decode b_Rec_readValue 114 = .ok (.iconst 2, 1) := by decide +kernel
theorem d_Rec_readValue_115 : decode b_Rec_readValue 115 = .ok (.if_icmp .ne 7, 3) := by decide +kernel
theorem d_Rec_readValue_122 : decode b_Rec_readValue 122 = .ok (.iconst 0, 1) := by decide +kernel
theorem d_Rec_readValue_118 : decode b_Rec_readValue 118 = .ok (.iconst 1, 1) := by decide +kernel
theorem d_Rec_readValue_119 : decode b_Rec_readValue 119 = .ok (.goto 4, 3) := by decide +kernel
theorem d_Rec_readValue_0 : decode b_Rec_readValue 0 = .ok (.iload_n 1, 1) := by decide +kernel
theorem d_Rec_readValue_1 : decode b_Rec_readValue 1 = .ok (.ifCond .ne 28, 3) := by decide +kernel
theorem d_Rec_readValue_29 : decode b_Rec_readValue 29 = .ok (.iload_n 1, 1) := by decide +kernel
theorem d_Rec_readValue_30 : decode b_Rec_readValue 30 = .ok (.iconst 3, 1) := by decide +kernel
theorem d_Rec_readValue_31 : decode b_Rec_readValue 31 = .ok (.if_icmp .ne 63, 3) := by decide +kernel
theorem d_Rec_readValue_34 : decode b_Rec_readValue 34 = .ok (.aload_n 0, 1) := by decide +kernel
theorem d_Rec_readValue_35 : decode b_Rec_readValue 35 = .ok (.getfield 55, 3) := by decide +kernel
theorem d_Rec_readValue_38 : decode b_Rec_readValue 38 = .ok (.invokevirtual 79, 3) := by decide +kernel
theorem d_Rec_readValue_41 : decode b_Rec_readValue 41 = .ok (.bipush 39, 2) := by decide +kernel
theorem d_Rec_readValue_43 : decode b_Rec_readValue 43 = .ok (.if_icmp .ne 51, 3) := by decide +kernel
theorem d_Rec_readValue_46 : decode b_Rec_readValue 46 = .ok (.aload_n 0, 1) := by decide +kernel
theorem d_Rec_readValue_47 : decode b_Rec_readValue 47 = .ok (.getfield 55, 3) := by decide +kernel
theorem d_Rec_readValue_50 : decode b_Rec_readValue 50 = .ok (.aload_n 0, 1) := by decide +kernel
theorem d_Rec_readValue_51 : decode b_Rec_readValue 51 = .ok (.getfield 36, 3) := by decide +kernel
theorem d_Rec_readValue_54 : decode b_Rec_readValue 54 = .ok (.aload_n 0, 1) := by decide +kernel
theorem d_Rec_readValue_55 : decode b_Rec_readValue 55 = .ok (.getfield 66, 3) := by decide +kernel
theorem d_Rec_readValue_58 : decode b_Rec_readValue 58 = .ok (.invokevirtual 193, 3) := by decide +kernel
theorem d_Rec_readValue_61 : decode b_Rec_readValue 61 = .ok (.aload_n 0, 1) := by decide +kernel
theorem d_Rec_readValue_62 : decode b_Rec_readValue 62 = .ok (.getfield 66, 3) := by decide +kernel
theorem d_Rec_readValue_65 : decode b_Rec_readValue 65 = .ok (.aload_n 0, 1) := by decide +kernel
theorem d_Rec_readValue_66 : decode b_Rec_readValue 66 = .ok (.getfield 55, 3) := by decide +kernel
theorem d_Rec_readValue_69 : decode b_Rec_readValue 69 = .ok (.getfield 197, 3) := by decide +kernel
theorem d_Rec_readValue_72 : decode b_Rec_readValue 72 = .ok (.invokestatic 200, 3) := by decide +kernel
theorem d_Rec_readValue_75 : decode b_Rec_readValue 75 = .ok (.lstore_n 2, 1) := by decide +kernel
theorem d_Rec_readValue_76 : decode b_Rec_readValue 76 = .ok (.aload_n 0, 1) := by decide +kernel
theorem d_Rec_readValue_77 : decode b_Rec_readValue 77 = .ok (.dup, 1) := by decide +kernel
theorem d_Rec_readValue_78 : decode b_Rec_readValue 78 = .ok (.getfield 66, 3) := by decide +kernel
theorem d_Rec_readValue_81 : decode b_Rec_readValue 81 = .ok (.aload_n 0, 1) := by decide +kernel
theorem d_Rec_readValue_82 : decode b_Rec_readValue 82 = .ok (.getfield 55, 3) := by decide +kernel
theorem d_Rec_readValue_85 : decode b_Rec_readValue 85 = .ok (.getfield 197, 3) := by decide +kernel
theorem d_Rec_readValue_88 : decode b_Rec_readValue 88 = .ok (.iadd, 1) := by decide +kernel
theorem d_Rec_readValue_89 : decode b_Rec_readValue 89 = .ok (.putfield 66, 3) := by decide +kernel
theorem d_Rec_readValue_92 : decode b_Rec_readValue 92 = .ok (.lload_n 2, 1) := by decide +kernel
theorem d_Rec_readValue_93 : decode b_Rec_readValue 93 = .ok (.lreturn, 1) := by decide +kernel
theorem d_Rec_readValue_4 : decode b_Rec_readValue 4 = .ok (.aload_n 0, 1) := by decide +kernel
theorem d_Rec_readValue_5 : decode b_Rec_readValue 5 = .ok (.getfield 55, 3) := by decide +kernel
theorem d_Rec_readValue_8 : decode b_Rec_readValue 8 = .ok (.ldc 181, 2) := by decide +kernel
theorem d_Rec_readValue_10 : decode b_Rec_readValue 10 = .ok (.invokevirtual 183, 3) := by decide +kernel
theorem d_Rec_readValue_13 : decode b_Rec_readValue 13 = .ok (.ifCond .eq 5, 3) := by decide +kernel
theorem d_Rec_readValue_18 : decode b_Rec_readValue 18 = .ok (.aload_n 0, 1) := by decide +kernel
theorem d_Rec_readValue_19 : decode b_Rec_readValue 19 = .ok (.getfield 55, 3) := by decide +kernel
theorem d_Rec_readValue_22 : decode b_Rec_readValue 22 = .ok (.ldc 187, 2) := by decide +kernel
theorem d_Rec_readValue_24 : decode b_Rec_readValue 24 = .ok (.invokevirtual 189, 3) := by decide +kernel
theorem d_Rec_readValue_27 : decode b_Rec_readValue 27 = .ok (.lconst 0, 1) := by decide +kernel
theorem d_Rec_readValue_28 : decode b_Rec_readValue 28 = .ok (.lreturn, 1) := by decide +kernel
theorem d_Rec_readValue_16 : decode b_Rec_readValue 16 = .ok (.lconst 1, 1) := by decide +kernel
theorem d_Rec_readValue_17 : decode b_Rec_readValue 17 = .ok (.lreturn, 1) := by decide +kernel
theorem d_Rec_readGroup_234 : decode b_Rec_readGroup 234 = .ok (.aload_n 0, 1) := by decide +kernel
theorem d_Rec_readGroup_235 : decode b_Rec_readGroup 235 = .ok (.getfield 55, 3) := by decide +kernel
theorem d_Rec_readGroup_238 : decode b_Rec_readGroup 238 = .ok (.bipush 125, 2) := by decide +kernel
theorem d_Rec_readGroup_240 : decode b_Rec_readGroup 240 = .ok (.invokevirtual 109, 3) := by decide +kernel
theorem d_Rec_readGroup_243 : decode b_Rec_readGroup 243 = .ok (.aload_n 0, 1) := by decide +kernel
theorem d_Rec_readGroup_244 : decode b_Rec_readGroup 244 = .ok (.getfield 55, 3) := by decide +kernel
theorem d_Rec_readGroup_247 : decode b_Rec_readGroup 247 = .ok (.invokevirtual 73, 3) := by decide +kernel
theorem d_Rec_readGroup_250 : decode b_Rec_readGroup 250 = .ok (.ifCond .eq 13, 3) := by decide +kernel
theorem d_Rec_readGroup_263 : decode b_Rec_readGroup 263 = .ok (.return_, 1) := by decide +kernel
theorem d_Rec_readGroup_253 : decode b_Rec_readGroup 253 = .ok (.aload_n 0, 1) := by decide +kernel
theorem d_Rec_readGroup_254 : decode b_Rec_readGroup 254 = .ok (.iload 4, 2) := by decide +kernel
theorem d_Rec_readGroup_256 : decode b_Rec_readGroup 256 = .ok (.iload 5, 2) := by decide +kernel
theorem d_Rec_readGroup_258 : decode b_Rec_readGroup 258 = .ok (.iload_n 2, 1) := by decide +kernel
theorem d_Rec_readGroup_259 : decode b_Rec_readGroup 259 = .ok (.iload_n 1, 1) := by decide +kernel
theorem d_Rec_readGroup_260 : decode b_Rec_readGroup 260 = .ok (.invokevirtual 123, 3) := by decide +kernel
theorem d_Rec_readGroup_190 : decode b_Rec_readGroup 190 = .ok (.aload_n 0, 1) := by decide +kernel
theorem d_Rec_readGroup_191 : decode b_Rec_readGroup 191 = .ok (.getfield 55, 3) := by decide +kernel
theorem d_Rec_readGroup_194 : decode b_Rec_readGroup 194 = .ok (.invokevirtual 73, 3) := by decide +kernel
theorem d_Rec_readGroup_197 : decode b_Rec_readGroup 197 = .ok (.ifCond .eq 37, 3) := by decide +kernel
theorem d_Rec_readGroup_200 : decode b_Rec_readGroup 200 = .ok (.aload_n 0, 1) := by decide +kernel
theorem d_Rec_readGroup_201 : decode b_Rec_readGroup 201 = .ok (.iload 4, 2) := by decide +kernel
theorem d_Rec_readGroup_203 : decode b_Rec_readGroup 203 = .ok (.iload 5, 2) := by decide +kernel
theorem d_Rec_readGroup_205 : decode b_Rec_readGroup 205 = .ok (.iload_n 1, 1) := by decide +kernel
theorem d_Rec_readGroup_206 : decode b_Rec_readGroup 206 = .ok (.invokevirtual 137, 3) := by decide +kernel
theorem d_Rec_readGroup_209 : decode b_Rec_readGroup 209 = .ok (.ifCond .eq 25, 3) := by decide +kernel
theorem d_Rec_readGroup_212 : decode b_Rec_readGroup 212 = .ok (.aload_n 0, 1) := by decide +kernel
theorem d_Rec_readGroup_213 : decode b_Rec_readGroup 213 = .ok (.getfield 55, 3) := by decide +kernel
theorem d_Rec_readGroup_216 : decode b_Rec_readGroup 216 = .ok (.invokevirtual 79, 3) := by decide +kernel
theorem d_Rec_readGroup_219 : decode b_Rec_readGroup 219 = .ok (.pop, 1) := by decide +kernel
theorem d_Rec_readGroup_220 : decode b_Rec_readGroup 220 = .ok (.aload_n 0, 1) := by decide +kernel
theorem d_Rec_readGroup_221 : decode b_Rec_readGroup 221 = .ok (.getfield 55, 3) := by decide +kernel
theorem d_Rec_readGroup_224 : decode b_Rec_readGroup 224 = .ok (.aload_n 0, 1) := by decide +kernel
theorem d_Rec_readGroup_225 : decode b_Rec_readGroup 225 = .ok (.getfield 55, 3) := by decide +kernel
theorem d_Rec_readGroup_228 : decode b_Rec_readGroup 228 = .ok (.getfield 82, 3) := by decide +kernel
theorem d_Rec_readGroup_231 : decode b_Rec_readGroup 231 = .ok (.invokevirtual 85, 3) := by decide +kernel
theorem d_Rec_readGroup_182 : decode b_Rec_readGroup 182 = .ok (.istore 6, 2) := by decide +kernel
theorem d_Rec_readGroup_184 : decode b_Rec_readGroup 184 = .ok (.iinc 7 1, 3) := by decide +kernel
theorem d_Rec_readGroup_187 : decode b_Rec_readGroup 187 = .ok (.goto (-106), 3) := by decide +kernel
theorem d_Rec_readGroup_181 : decode b_Rec_readGroup 181 = .ok (.iconst 0, 1) := by decide +kernel
theorem d_Rec_readGroup_81 : decode b_Rec_readGroup 81 = .ok (.iload 7, 2) := by decide +kernel
theorem d_Rec_readGroup_83 : decode b_Rec_readGroup 83 = .ok (.sipush 128, 3) := by decide +kernel
theorem d_Rec_readGroup_86 : decode b_Rec_readGroup 86 = .ok (.if_icmp .gt 104, 3) := by decide +kernel
theorem d_Rec_readGroup_89 : decode b_Rec_readGroup 89 = .ok (.iload 6, 2) := by decide +kernel
theorem d_Rec_readGroup_91 : decode b_Rec_readGroup 91 = .ok (.ifCond .eq 99, 3) := by decide +kernel
theorem d_Rec_readGroup_94 : decode b_Rec_readGroup 94 = .ok (.aload_n 0, 1) := by decide +kernel
theorem d_Rec_readGroup_95 : decode b_Rec_readGroup 95 = .ok (.iload 4, 2) := by decide +kernel
theorem d_Rec_readGroup_97 : decode b_Rec_readGroup 97 = .ok (.iload 5, 2) := by decide +kernel
theorem d_Rec_readGroup_99 : decode b_Rec_readGroup 99 = .ok (.iload_n 1, 1) := by decide +kernel
theorem d_Rec_readGroup_100 : decode b_Rec_readGroup 100 = .ok (.invokevirtual 119, 3) := by decide +kernel
theorem d_Rec_readGroup_103 : decode b_Rec_readGroup 103 = .ok (.istore 8, 2) := by decide +kernel
theorem d_Rec_readGroup_105 : decode b_Rec_readGroup 105 = .ok (.aload_n 0, 1) := by decide +kernel
theorem d_Rec_readGroup_106 : decode b_Rec_readGroup 106 = .ok (.getfield 55, 3) := by decide +kernel
theorem d_Rec_readGroup_109 : decode b_Rec_readGroup 109 = .ok (.bipush 58, 2) := by decide +kernel
theorem d_Rec_readGroup_111 : decode b_Rec_readGroup 111 = .ok (.invokevirtual 109, 3) := by decide +kernel
theorem d_Rec_readGroup_114 : decode b_Rec_readGroup 114 = .ok (.aload_n 0, 1) := by decide +kernel
theorem d_Rec_readGroup_115 : decode b_Rec_readGroup 115 = .ok (.getfield 55, 3) := by decide +kernel
theorem d_Rec_readGroup_118 : decode b_Rec_readGroup 118 = .ok (.invokevirtual 73, 3) := by decide +kernel
theorem d_Rec_readGroup_121 : decode b_Rec_readGroup 121 = .ok (.ifCond .ne 4, 3) := by decide +kernel
theorem d_Rec_readGroup_125 : decode b_Rec_readGroup 125 = .ok (.aload_n 0, 1) := by decide +kernel
theorem d_Rec_readGroup_126 : decode b_Rec_readGroup 126 = .ok (.iload 4, 2) := by decide +kernel
theorem d_Rec_readGroup_128 : decode b_Rec_readGroup 128 = .ok (.iload 8, 2) := by decide +kernel
theorem d_Rec_readGroup_130 : decode b_Rec_readGroup 130 = .ok (.iload_n 2, 1) := by decide +kernel
theorem d_Rec_readGroup_131 : decode b_Rec_readGroup 131 = .ok (.iload_n 1, 1) := by decide +kernel
theorem d_Rec_readGroup_132 : decode b_Rec_readGroup 132 = .ok (.invokevirtual 123, 3) := by decide +kernel
theorem d_Rec_readGroup_135 : decode b_Rec_readGroup 135 = .ok (.aload_n 0, 1) := by decide +kernel
theorem d_Rec_readGroup_136 : decode b_Rec_readGroup 136 = .ok (.iload 8, 2) := by decide +kernel
theorem d_Rec_readGroup_138 : decode b_Rec_readGroup 138 = .ok (.iload_n 2, 1) := by decide +kernel
theorem d_Rec_readGroup_139 : decode b_Rec_readGroup 139 = .ok (.iload_n 3, 1) := by decide +kernel
theorem d_Rec_readGroup_140 : decode b_Rec_readGroup 140 = .ok (.invokevirtual 127, 3) := by decide +kernel
theorem d_Rec_readGroup_143 : decode b_Rec_readGroup 143 = .ok (.aload_n 0, 1) := by decide +kernel
theorem d_Rec_readGroup_144 : decode b_Rec_readGroup 144 = .ok (.getfield 59, 3) := by decide +kernel
theorem d_Rec_readGroup_147 : decode b_Rec_readGroup 147 = .ok (.getfield 130, 3) := by decide +kernel
theorem d_Rec_readGroup_150 : decode b_Rec_readGroup 150 = .ok (.iload 8, 2) := by decide +kernel
theorem d_Rec_readGroup_152 : decode b_Rec_readGroup 152 = .ok (.iaload, 1) := by decide +kernel
theorem d_Rec_readGroup_153 : decode b_Rec_readGroup 153 = .ok (.istore 4, 2) := by decide +kernel
theorem d_Rec_readGroup_155 : decode b_Rec_readGroup 155 = .ok (.aload_n 0, 1) := by decide +kernel
theorem d_Rec_readGroup_156 : decode b_Rec_readGroup 156 = .ok (.getfield 55, 3) := by decide +kernel
theorem d_Rec_readGroup_159 : decode b_Rec_readGroup 159 = .ok (.invokevirtual 73, 3) := by decide +kernel
theorem d_Rec_readGroup_162 : decode b_Rec_readGroup 162 = .ok (.ifCond .eq 19, 3) := by decide +kernel
theorem d_Rec_readGroup_165 : decode b_Rec_readGroup 165 = .ok (.aload_n 0, 1) := by decide +kernel
theorem d_Rec_readGroup_166 : decode b_Rec_readGroup 166 = .ok (.getfield 55, 3) := by decide +kernel
theorem d_Rec_readGroup_169 : decode b_Rec_readGroup 169 = .ok (.bipush 44, 2) := by decide +kernel
theorem d_Rec_readGroup_171 : decode b_Rec_readGroup 171 = .ok (.invokevirtual 133, 3) := by decide +kernel
theorem d_Rec_readGroup_174 : decode b_Rec_readGroup 174 = .ok (.ifCond .eq 7, 3) := by decide +kernel
theorem d_Rec_readGroup_177 : decode b_Rec_readGroup 177 = .ok (.iconst 1, 1) := by decide +kernel
theorem d_Rec_readGroup_178 : decode b_Rec_readGroup 178 = .ok (.goto 4, 3) := by decide +kernel
theorem d_Rec_readGroup_124 : decode b_Rec_readGroup 124 = .ok (.return_, 1) := by decide +kernel
theorem d_Rec_readGroup_76 : decode b_Rec_readGroup 76 = .ok (.istore 6, 2) := by decide +kernel
theorem d_Rec_readGroup_78 : decode b_Rec_readGroup 78 = .ok (.iconst 0, 1) := by decide +kernel
theorem d_Rec_readGroup_79 : decode b_Rec_readGroup 79 = .ok (.istore 7, 2) := by decide +kernel
theorem d_Rec_readGroup_75 : decode b_Rec_readGroup 75 = .ok (.iconst 0, 1) := by decide +kernel
theorem d_Rec_readGroup_20 : decode b_Rec_readGroup 20 = .ok (.aload_n 0, 1) := by decide +kernel
theorem d_Rec_readGroup_21 : decode b_Rec_readGroup 21 = .ok (.getfield 55, 3) := by decide +kernel
theorem d_Rec_readGroup_24 : decode b_Rec_readGroup 24 = .ok (.bipush 123, 2) := by decide +kernel
theorem d_Rec_readGroup_26 : decode b_Rec_readGroup 26 = .ok (.invokevirtual 109, 3) := by decide +kernel
theorem d_Rec_readGroup_29 : decode b_Rec_readGroup 29 = .ok (.aload_n 0, 1) := by decide +kernel
theorem d_Rec_readGroup_30 : decode b_Rec_readGroup 30 = .ok (.getfield 59, 3) := by decide +kernel
theorem d_Rec_readGroup_33 : decode b_Rec_readGroup 33 = .ok (.iload_n 1, 1) := by decide +kernel
theorem d_Rec_readGroup_34 : decode b_Rec_readGroup 34 = .ok (.invokevirtual 113, 3) := by decide +kernel
theorem d_Rec_readGroup_37 : decode b_Rec_readGroup 37 = .ok (.istore 4, 2) := by decide +kernel
theorem d_Rec_readGroup_39 : decode b_Rec_readGroup 39 = .ok (.aload_n 0, 1) := by decide +kernel
theorem d_Rec_readGroup_40 : decode b_Rec_readGroup 40 = .ok (.getfield 59, 3) := by decide +kernel
theorem d_Rec_readGroup_43 : decode b_Rec_readGroup 43 = .ok (.iload_n 1, 1) := by decide +kernel
theorem d_Rec_readGroup_44 : decode b_Rec_readGroup 44 = .ok (.invokevirtual 116, 3) := by decide +kernel
theorem d_Rec_readGroup_47 : decode b_Rec_readGroup 47 = .ok (.istore 5, 2) := by decide +kernel
theorem d_Rec_readGroup_49 : decode b_Rec_readGroup 49 = .ok (.aload_n 0, 1) := by decide +kernel
theorem d_Rec_readGroup_50 : decode b_Rec_readGroup 50 = .ok (.getfield 55, 3) := by decide +kernel
theorem d_Rec_readGroup_53 : decode b_Rec_readGroup 53 = .ok (.invokevirtual 73, 3) := by decide +kernel
theorem d_Rec_readGroup_56 : decode b_Rec_readGroup 56 = .ok (.ifCond .eq 19, 3) := by decide +kernel
theorem d_Rec_readGroup_59 : decode b_Rec_readGroup 59 = .ok (.aload_n 0, 1) := by decide +kernel
theorem d_Rec_readGroup_60 : decode b_Rec_readGroup 60 = .ok (.getfield 55, 3) := by decide +kernel
theorem d_Rec_readGroup_63 : decode b_Rec_readGroup 63 = .ok (.invokevirtual 79, 3) := by decide +kernel
theorem d_Rec_readGroup_66 : decode b_Rec_readGroup 66 = .ok (.bipush 125, 2) := by decide +kernel
theorem d_Rec_readGroup_68 : decode b_Rec_readGroup 68 = .ok (.if_icmp .eq 7, 3) := by decide +kernel
theorem d_Rec_readGroup_71 : decode b_Rec_readGroup 71 = .ok (.iconst 1, 1) := by decide +kernel
theorem d_Rec_readGroup_72 : decode b_Rec_readGroup 72 = .ok (.goto 4, 3) := by decide +kernel
theorem d_Rec_readGroup_0 : decode b_Rec_readGroup 0 = .ok (.iload_n 3, 1) := by decide +kernel
theorem d_Rec_readGroup_1 : decode b_Rec_readGroup 1 = .ok (.bipush 16, 2) := by decide +kernel
theorem d_Rec_readGroup_3 : decode b_Rec_readGroup 3 = .ok (.if_icmp .le 17, 3) := by decide +kernel
theorem d_Rec_readGroup_6 : decode b_Rec_readGroup 6 = .ok (.aload_n 0, 1) := by decide +kernel
theorem d_Rec_readGroup_7 : decode b_Rec_readGroup 7 = .ok (.getfield 55, 3) := by decide +kernel
theorem d_Rec_readGroup_10 : decode b_Rec_readGroup 10 = .ok (.aload_n 0, 1) := by decide +kernel
theorem d_Rec_readGroup_11 : decode b_Rec_readGroup 11 = .ok (.getfield 55, 3) := by decide +kernel
theorem d_Rec_readGroup_14 : decode b_Rec_readGroup 14 = .ok (.getfield 82, 3) := by decide +kernel
theorem d_Rec_readGroup_17 : decode b_Rec_readGroup 17 = .ok (.invokevirtual 85, 3) := by decide +kernel
theorem d_Rec_readOne_0 : decode b_Rec_readOne 0 = .ok (.aload_n 0, 1) := by decide +kernel
theorem d_Rec_readOne_1 : decode b_Rec_readOne 1 = .ok (.getfield 59, 3) := by decide +kernel
theorem d_Rec_readOne_4 : decode b_Rec_readOne 4 = .ok (.getfield 169, 3) := by decide +kernel
theorem d_Rec_readOne_7 : decode b_Rec_readOne 7 = .ok (.iload_n 1, 1) := by decide +kernel
theorem d_Rec_readOne_8 : decode b_Rec_readOne 8 = .ok (.iaload, 1) := by decide +kernel
theorem d_Rec_readOne_9 : decode b_Rec_readOne 9 = .ok (.iconst 4, 1) := by decide +kernel
theorem d_Rec_readOne_10 : decode b_Rec_readOne 10 = .ok (.if_icmp .ne 13, 3) := by decide +kernel
theorem d_Rec_readOne_23 : decode b_Rec_readOne 23 = .ok (.aload_n 0, 1) := by decide +kernel
theorem d_Rec_readOne_24 : decode b_Rec_readOne 24 = .ok (.aload_n 0, 1) := by decide +kernel
theorem d_Rec_readOne_25 : decode b_Rec_readOne 25 = .ok (.getfield 59, 3) := by decide +kernel
theorem d_Rec_readOne_28 : decode b_Rec_readOne 28 = .ok (.getfield 169, 3) := by decide +kernel
theorem d_Rec_readOne_31 : decode b_Rec_readOne 31 = .ok (.iload_n 1, 1) := by decide +kernel
theorem d_Rec_readOne_32 : decode b_Rec_readOne 32 = .ok (.iaload, 1) := by decide +kernel
theorem d_Rec_readOne_33 : decode b_Rec_readOne 33 = .ok (.invokevirtual 172, 3) := by decide +kernel
theorem d_Rec_readOne_36 : decode b_Rec_readOne 36 = .ok (.lstore 4, 2) := by decide +kernel
theorem d_Rec_readOne_38 : decode b_Rec_readOne 38 = .ok (.aload_n 0, 1) := by decide +kernel
theorem d_Rec_readOne_39 : decode b_Rec_readOne 39 = .ok (.getfield 55, 3) := by decide +kernel
theorem d_Rec_readOne_42 : decode b_Rec_readOne 42 = .ok (.invokevirtual 73, 3) := by decide +kernel
theorem d_Rec_readOne_45 : decode b_Rec_readOne 45 = .ok (.ifCond .eq 28, 3) := by decide +kernel
theorem d_Rec_readOne_73 : decode b_Rec_readOne 73 = .ok (.return_, 1) := by decide +kernel
theorem d_Rec_readOne_48 : decode b_Rec_readOne 48 = .ok (.aload_n 0, 1) := by decide +kernel
theorem d_Rec_readOne_49 : decode b_Rec_readOne 49 = .ok (.aload_n 0, 1) := by decide +kernel
theorem d_Rec_readOne_50 : decode b_Rec_readOne 50 = .ok (.getfield 59, 3) := by decide +kernel
theorem d_Rec_readOne_53 : decode b_Rec_readOne 53 = .ok (.getfield 176, 3) := by decide +kernel
theorem d_Rec_readOne_56 : decode b_Rec_readOne 56 = .ok (.iload_n 1, 1) := by decide +kernel
theorem d_Rec_readOne_57 : decode b_Rec_readOne 57 = .ok (.iaload, 1) := by decide +kernel
theorem d_Rec_readOne_58 : decode b_Rec_readOne 58 = .ok (.iload_n 2, 1) := by decide +kernel
theorem d_Rec_readOne_59 : decode b_Rec_readOne 59 = .ok (.aload_n 0, 1) := by decide +kernel
theorem d_Rec_readOne_60 : decode b_Rec_readOne 60 = .ok (.getfield 59, 3) := by decide +kernel
theorem d_Rec_readOne_63 : decode b_Rec_readOne 63 = .ok (.getfield 179, 3) := by decide +kernel
theorem d_Rec_readOne_66 : decode b_Rec_readOne 66 = .ok (.iload_n 1, 1) := by decide +kernel
theorem d_Rec_readOne_67 : decode b_Rec_readOne 67 = .ok (.iaload, 1) := by decide +kernel
theorem d_Rec_readOne_68 : decode b_Rec_readOne 68 = .ok (.lload 4, 2) := by decide +kernel
theorem d_Rec_readOne_70 : decode b_Rec_readOne 70 = .ok (.invokevirtual 105, 3) := by decide +kernel
theorem d_Rec_readOne_13 : decode b_Rec_readOne 13 = .ok (.aload_n 0, 1) := by decide +kernel
theorem d_Rec_readOne_14 : decode b_Rec_readOne 14 = .ok (.iload_n 1, 1) := by decide +kernel
theorem d_Rec_readOne_15 : decode b_Rec_readOne 15 = .ok (.iload_n 2, 1) := by decide +kernel
theorem d_Rec_readOne_16 : decode b_Rec_readOne 16 = .ok (.iload_n 3, 1) := by decide +kernel
theorem d_Rec_readOne_17 : decode b_Rec_readOne 17 = .ok (.iconst 1, 1) := by decide +kernel
theorem d_Rec_readOne_18 : decode b_Rec_readOne 18 = .ok (.iadd, 1) := by decide +kernel
theorem d_Rec_readOne_19 : decode b_Rec_readOne 19 = .ok (.invokevirtual 69, 3) := by decide +kernel
theorem d_Rec_readOne_22 : decode b_Rec_readOne 22 = .ok (.return_, 1) := by decide +kernel
theorem d_Rec_readValues_158 : decode b_Rec_readValues 158 = .ok (.aload_n 0, 1) := by decide +kernel
theorem d_Rec_readValues_159 : decode b_Rec_readValues 159 = .ok (.getfield 55, 3) := by decide +kernel
theorem d_Rec_readValues_162 : decode b_Rec_readValues 162 = .ok (.bipush 93, 2) := by decide +kernel
theorem d_Rec_readValues_164 : decode b_Rec_readValues 164 = .ok (.invokevirtual 109, 3) := by decide +kernel
theorem d_Rec_readValues_167 : decode b_Rec_readValues 167 = .ok (.return_, 1) := by decide +kernel
theorem d_Rec_readValues_150 : decode b_Rec_readValues 150 = .ok (.istore 5, 2) := by decide +kernel
theorem d_Rec_readValues_152 : decode b_Rec_readValues 152 = .ok (.iinc 6 1, 3) := by decide +kernel
theorem d_Rec_readValues_155 : decode b_Rec_readValues 155 = .ok (.goto (-68), 3) := by decide +kernel
theorem d_Rec_readValues_149 : decode b_Rec_readValues 149 = .ok (.iconst 0, 1) := by decide +kernel
theorem d_Rec_readValues_87 : decode b_Rec_readValues 87 = .ok (.iload 6, 2) := by decide +kernel
theorem d_Rec_readValues_89 : decode b_Rec_readValues 89 = .ok (.aload_n 0, 1) := by decide +kernel
theorem d_Rec_readValues_90 : decode b_Rec_readValues 90 = .ok (.getfield 55, 3) := by decide +kernel
theorem d_Rec_readValues_93 : decode b_Rec_readValues 93 = .ok (.getfield 166, 3) := by decide +kernel
theorem d_Rec_readValues_96 : decode b_Rec_readValues 96 = .ok (.if_icmp .gt 62, 3) := by decide +kernel
theorem d_Rec_readValues_99 : decode b_Rec_readValues 99 = .ok (.iload 5, 2) := by decide +kernel
theorem d_Rec_readValues_101 : decode b_Rec_readValues 101 = .ok (.ifCond .eq 57, 3) := by decide +kernel
theorem d_Rec_readValues_104 : decode b_Rec_readValues 104 = .ok (.aload_n 0, 1) := by decide +kernel
theorem d_Rec_readValues_105 : decode b_Rec_readValues 105 = .ok (.iload_n 1, 1) := by decide +kernel
theorem d_Rec_readValues_106 : decode b_Rec_readValues 106 = .ok (.iload 4, 2) := by decide +kernel
theorem d_Rec_readValues_108 : decode b_Rec_readValues 108 = .ok (.iload_n 3, 1) := by decide +kernel
theorem d_Rec_readValues_109 : decode b_Rec_readValues 109 = .ok (.invokevirtual 163, 3) := by decide +kernel
theorem d_Rec_readValues_112 : decode b_Rec_readValues 112 = .ok (.aload_n 0, 1) := by decide +kernel
theorem d_Rec_readValues_113 : decode b_Rec_readValues 113 = .ok (.getfield 59, 3) := by decide +kernel
theorem d_Rec_readValues_116 : decode b_Rec_readValues 116 = .ok (.getfield 167, 3) := by decide +kernel
theorem d_Rec_readValues_119 : decode b_Rec_readValues 119 = .ok (.iload_n 1, 1) := by decide +kernel
theorem d_Rec_readValues_120 : decode b_Rec_readValues 120 = .ok (.iaload, 1) := by decide +kernel
theorem d_Rec_readValues_121 : decode b_Rec_readValues 121 = .ok (.istore 4, 2) := by decide +kernel
theorem d_Rec_readValues_123 : decode b_Rec_readValues 123 = .ok (.aload_n 0, 1) := by decide +kernel
theorem d_Rec_readValues_124 : decode b_Rec_readValues 124 = .ok (.getfield 55, 3) := by decide +kernel
theorem d_Rec_readValues_127 : decode b_Rec_readValues 127 = .ok (.invokevirtual 73, 3) := by decide +kernel
theorem d_Rec_readValues_130 : decode b_Rec_readValues 130 = .ok (.ifCond .eq 19, 3) := by decide +kernel
theorem d_Rec_readValues_133 : decode b_Rec_readValues 133 = .ok (.aload_n 0, 1) := by decide +kernel
theorem d_Rec_readValues_134 : decode b_Rec_readValues 134 = .ok (.getfield 55, 3) := by decide +kernel
theorem d_Rec_readValues_137 : decode b_Rec_readValues 137 = .ok (.bipush 44, 2) := by decide +kernel
theorem d_Rec_readValues_139 : decode b_Rec_readValues 139 = .ok (.invokevirtual 133, 3) := by decide +kernel
theorem d_Rec_readValues_142 : decode b_Rec_readValues 142 = .ok (.ifCond .eq 7, 3) := by decide +kernel
theorem d_Rec_readValues_145 : decode b_Rec_readValues 145 = .ok (.iconst 1, 1) := by decide +kernel
theorem d_Rec_readValues_146 : decode b_Rec_readValues 146 = .ok (.goto 4, 3) := by decide +kernel
theorem d_Rec_readValues_0 : decode b_Rec_readValues 0 = .ok (.aload_n 0, 1) := by decide +kernel
theorem d_Rec_readValues_1 : decode b_Rec_readValues 1 = .ok (.getfield 59, 3) := by decide +kernel
theorem d_Rec_readValues_4 : decode b_Rec_readValues 4 = .ok (.getfield 144, 3) := by decide +kernel
theorem d_Rec_readValues_7 : decode b_Rec_readValues 7 = .ok (.iload_n 1, 1) := by decide +kernel
theorem d_Rec_readValues_8 : decode b_Rec_readValues 8 = .ok (.iaload, 1) := by decide +kernel
theorem d_Rec_readValues_9 : decode b_Rec_readValues 9 = .ok (.iconst 2, 1) := by decide +kernel
theorem d_Rec_readValues_10 : decode b_Rec_readValues 10 = .ok (.if_icmp .eq 11, 3) := by decide +kernel
theorem d_Rec_readValues_21 : decode b_Rec_readValues 21 = .ok (.aload_n 0, 1) := by decide +kernel
theorem d_Rec_readValues_22 : decode b_Rec_readValues 22 = .ok (.getfield 55, 3) := by decide +kernel
theorem d_Rec_readValues_25 : decode b_Rec_readValues 25 = .ok (.bipush 91, 2) := by decide +kernel
theorem d_Rec_readValues_27 : decode b_Rec_readValues 27 = .ok (.invokevirtual 109, 3) := by decide +kernel
theorem d_Rec_readValues_30 : decode b_Rec_readValues 30 = .ok (.aload_n 0, 1) := by decide +kernel
theorem d_Rec_readValues_31 : decode b_Rec_readValues 31 = .ok (.getfield 55, 3) := by decide +kernel
theorem d_Rec_readValues_34 : decode b_Rec_readValues 34 = .ok (.invokevirtual 73, 3) := by decide +kernel
theorem d_Rec_readValues_37 : decode b_Rec_readValues 37 = .ok (.ifCond .ne 4, 3) := by decide +kernel
theorem d_Rec_readValues_41 : decode b_Rec_readValues 41 = .ok (.aload_n 0, 1) := by decide +kernel
theorem d_Rec_readValues_42 : decode b_Rec_readValues 42 = .ok (.getfield 55, 3) := by decide +kernel
theorem d_Rec_readValues_45 : decode b_Rec_readValues 45 = .ok (.bipush 93, 2) := by decide +kernel
theorem d_Rec_readValues_47 : decode b_Rec_readValues 47 = .ok (.invokevirtual 133, 3) := by decide +kernel
theorem d_Rec_readValues_50 : decode b_Rec_readValues 50 = .ok (.ifCond .eq 28, 3) := by decide +kernel
theorem d_Rec_readValues_78 : decode b_Rec_readValues 78 = .ok (.iload_n 2, 1) := by decide +kernel
theorem d_Rec_readValues_79 : decode b_Rec_readValues 79 = .ok (.istore 4, 2) := by decide +kernel
theorem d_Rec_readValues_81 : decode b_Rec_readValues 81 = .ok (.iconst 1, 1) := by decide +kernel
theorem d_Rec_readValues_82 : decode b_Rec_readValues 82 = .ok (.istore 5, 2) := by decide +kernel
theorem d_Rec_readValues_84 : decode b_Rec_readValues 84 = .ok (.iconst 0, 1) := by decide +kernel
theorem d_Rec_readValues_85 : decode b_Rec_readValues 85 = .ok (.istore 6, 2) := by decide +kernel
theorem d_Rec_readValues_53 : decode b_Rec_readValues 53 = .ok (.aload_n 0, 1) := by decide +kernel
theorem d_Rec_readValues_54 : decode b_Rec_readValues 54 = .ok (.iload_n 1, 1) := by decide +kernel
theorem d_Rec_readValues_55 : decode b_Rec_readValues 55 = .ok (.aload_n 0, 1) := by decide +kernel
theorem d_Rec_readValues_56 : decode b_Rec_readValues 56 = .ok (.getfield 59, 3) := by decide +kernel
theorem d_Rec_readValues_59 : decode b_Rec_readValues 59 = .ok (.getfield 130, 3) := by decide +kernel
theorem d_Rec_readValues_62 : decode b_Rec_readValues 62 = .ok (.iload_n 1, 1) := by decide +kernel
theorem d_Rec_readValues_63 : decode b_Rec_readValues 63 = .ok (.iaload, 1) := by decide +kernel
theorem d_Rec_readValues_64 : decode b_Rec_readValues 64 = .ok (.iload_n 2, 1) := by decide +kernel
theorem d_Rec_readValues_65 : decode b_Rec_readValues 65 = .ok (.aload_n 0, 1) := by decide +kernel
theorem d_Rec_readValues_66 : decode b_Rec_readValues 66 = .ok (.getfield 59, 3) := by decide +kernel
theorem d_Rec_readValues_69 : decode b_Rec_readValues 69 = .ok (.getfield 141, 3) := by decide +kernel
theorem d_Rec_readValues_72 : decode b_Rec_readValues 72 = .ok (.iload_n 1, 1) := by decide +kernel
theorem d_Rec_readValues_73 : decode b_Rec_readValues 73 = .ok (.iaload, 1) := by decide +kernel
theorem d_Rec_readValues_74 : decode b_Rec_readValues 74 = .ok (.invokevirtual 123, 3) := by decide +kernel
theorem d_Rec_readValues_77 : decode b_Rec_readValues 77 = .ok (.return_, 1) := by decide +kernel
theorem d_Rec_readValues_40 : decode b_Rec_readValues 40 = .ok (.return_, 1) := by decide +kernel
theorem d_Rec_readValues_13 : decode b_Rec_readValues 13 = .ok (.aload_n 0, 1) := by decide +kernel
theorem d_Rec_readValues_14 : decode b_Rec_readValues 14 = .ok (.iload_n 1, 1) := by decide +kernel
theorem d_Rec_readValues_15 : decode b_Rec_readValues 15 = .ok (.iload_n 2, 1) := by decide +kernel
theorem d_Rec_readValues_16 : decode b_Rec_readValues 16 = .ok (.iload_n 3, 1) := by decide +kernel
theorem d_Rec_readValues_17 : decode b_Rec_readValues 17 = .ok (.invokevirtual 163, 3) := by decide +kernel
theorem d_Rec_readValues_20 : decode b_Rec_readValues 20 = .ok (.return_, 1) := by decide +kernel
section
variable (l : Launch) (dC : Nat → ClassId) (dI : Nat → Nat → Nat) (cI cB cJ cZ : ClassId)
set_option maxRecDepth 100000 in
set_option maxHeartbeats 4000000 in
set_option maxRecDepth 100000 in
theorem t_Scn_readNumber_158 {p : Program} {l : Launch} {e : Env} {R : Room} {s : State} {m : MethodId} {args : Array Value} {below : List Frame} {meth : Method} {c : Code} {cells slots : Nat} {Q : State → Prop} {dC : Nat → ClassId} {dI : Nat → Nat → Nat} {cI cB cJ cZ : ClassId} {A : Nat → Prop} {ad : Nat → Nat} {NN : Nat} {E : Heap} {tM tC : Nat} {kK kV : Nat → Nat} {post : St → Prop} (hx : p.tables.exec = Jvm.exec) (hb : c.code = b_Scn_readNumber) (hml : c.maxLocals = 8) (hown : s.vm.findClass R_Scn = some m.cls) (hT : ∀ w ∈ TG, w.before args s = true) (hK : va_K (dC, dI) CL (TY cI cB cJ cZ) s) (hN : NW s) (hA : ∀ q : Nat, s.heap.size ≤ q → A q) (hRc : cells ≤ R.cells) (hRs : slots ≤ R.slots) (hRf : 2 ≤ R.frames) (hRl : 42 ≤ R.locals) (hNN : 152 ≤ NN) (hE : CE E tM tC kK kV A s) (hret : ∀ (x : St) (H : Heap) (locs : List Loc) (pc : Nat) (ls : Array Slot), decode b_Scn_readNumber pc = .ok (.return_, 1) → post x → Wd dC dI cI cB cJ cZ ad stC kcC NN A x H → va_S A s.heap H locs → W p l e R s m args below meth c H locs cells slots Q (F0 m pc ls []))  : ∀ (o : Nat) (l1 : Int32) (l2 : Int32) (l3 : Int32) (l4 : Int32) (l5 : Int32) (l6 : Int32) (l7 : Int32) (x : St) (H : Heap) (locs : List Loc) (ls : Array Slot), (o < NN ∧ kcC o = 2) → j_Scn_readNumber_158 post o l1 l2 l3 l4 l5 l6 l7 x → Wd dC dI cI cB cJ cZ ad stC kcC NN A x H → va_S A s.heap H locs → lv_has ls 8 [(0, .ref (ad o)), (1, .int l1), (2, .int l2), (3, .int l3), (4, .int l4), (5, .int l5), (6, .int l6), (7, .int l7)] → W p l e R s m args below meth c H locs cells slots Q (F0 m 158 ls []) := by
  intro o l1 l2 l3 l4 l5 l6 l7 x H locs ls fo hw hW hS hl
  unfold j_Scn_readNumber_158 at hw
  refine lv_iload_n hx hb d_Scn_readNumber_158 rfl (lv_at hl 1 rfl) ?_
  refine lv_if_ne (tgt := 181) hx hb d_Scn_readNumber_159 (by decide) (fun c1 => ?_) (fun c1 => ?_)
  · have hw := hw.1 c1
    exact hret x H locs 181 ls d_Scn_readNumber_181 hw hW hS
  · have hw := hw.2 c1
    refine lv_aload_n hx hb d_Scn_readNumber_162 rfl (lv_at hl 0 rfl) ?_
    refine w_getj (k := 6) (t := 2) (C := R_Scn) (T := F_Scn) (N := 8) hx hb hT hown hK hW fo.1 fo.2 (by decide) in_Scn rfl rfl (by decide) rfl fr_Scn_6 w_1_102 d_Scn_readNumber_163 ?_
    refine lv_aload_n hx hb d_Scn_readNumber_166 rfl (lv_at hl 0 rfl) ?_
    refine w_getj (k := 6) (t := 2) (C := R_Scn) (T := F_Scn) (N := 8) hx hb hT hown hK hW fo.1 fo.2 (by decide) in_Scn rfl rfl (by decide) rfl fr_Scn_6 w_1_102 d_Scn_readNumber_167 ?_
    refine lv_l2i hx hb d_Scn_readNumber_170 rfl ?_
    refine lv_i2l hx hb d_Scn_readNumber_171 rfl ?_
    refine W.lcmp hx hb d_Scn_readNumber_172 ?_
    refine lv_if_eq (tgt := 181) hx hb d_Scn_readNumber_173 (by decide) (fun c2 => ?_) (fun c2 => ?_)
    · have hw := hw.1 c2
      exact hret x H locs 181 ls d_Scn_readNumber_181 hw hW hS
    · have hw := hw.2 c2
      refine lv_aload_n hx hb d_Scn_readNumber_176 rfl (lv_at hl 0 rfl) ?_
      refine lv_iload_n hx hb d_Scn_readNumber_177 rfl (lv_at hl 2 rfl) ?_
      have hF := hW.free hS hA
      refine va_callv (va_runV (C := R_Scn) (As := [.int l2]) (rest := []) ⟨hx, hb, hml, hown, hT⟩ (k_Scn_refuse l dC dI cI cB cJ cZ ad NN E tM tC kK kV hNN H.size o l2 x fo hw) ⟨callB_of 1 hT (gwt_in w_4_128) rfl rfl rfl (hT _ w_1_4) (hT _ w_4_125) (by decide +kernel) ⟨Nat.le_trans (Nat.le_of_ble_eq_true rfl) hRf, Nat.le_trans (Nat.le_of_ble_eq_true rfl) hRl⟩, hT _ w_4_126, hT _ w_4_127⟩ ⟨PVc.blind, va_recv hK hW.1 (ci := 2) (q0 := o) rfl (pic_obj fo.1 fo.2 (by decide)), PVc.at _ hW hK hN hE hS hF⟩ rfl rfl hl.1 rfl (lv_room (Nat.le_of_ble_eq_true rfl)) d_Scn_readNumber_178 ⟨hRc, hRs⟩) hS (fun q _ h => hF q h) hF (fun  x3 t H locs ht hvm hw hB hz1 hk1 hS => ?_)
      have hW := Wd.back hB ht hF
      clear hB ht hF hz1 hk1 hvm
      exact hret x3 H locs 181 ls d_Scn_readNumber_181 hw hW hS
set_option maxRecDepth 100000 in
set_option maxHeartbeats 4000000 in
set_option maxRecDepth 100000 in
theorem t_Scn_readNumber_145 {p : Program} {l : Launch} {e : Env} {R : Room} {s : State} {m : MethodId} {args : Array Value} {below : List Frame} {meth : Method} {c : Code} {cells slots : Nat} {Q : State → Prop} {dC : Nat → ClassId} {dI : Nat → Nat → Nat} {cI cB cJ cZ : ClassId} {A : Nat → Prop} {ad : Nat → Nat} {NN : Nat} {E : Heap} {tM tC : Nat} {kK kV : Nat → Nat} {post : St → Prop} (hx : p.tables.exec = Jvm.exec) (hb : c.code = b_Scn_readNumber) (hml : c.maxLocals = 8) (hown : s.vm.findClass R_Scn = some m.cls) (hT : ∀ w ∈ TG, w.before args s = true) (hK : va_K (dC, dI) CL (TY cI cB cJ cZ) s) (hN : NW s) (hA : ∀ q : Nat, s.heap.size ≤ q → A q) (hRc : cells ≤ R.cells) (hRs : slots ≤ R.slots) (hRf : 2 ≤ R.frames) (hRl : 42 ≤ R.locals) (hNN : 152 ≤ NN) (hE : CE E tM tC kK kV A s) (hret : ∀ (x : St) (H : Heap) (locs : List Loc) (pc : Nat) (ls : Array Slot), decode b_Scn_readNumber pc = .ok (.return_, 1) → post x → Wd dC dI cI cB cJ cZ ad stC kcC NN A x H → va_S A s.heap H locs → W p l e R s m args below meth c H locs cells slots Q (F0 m pc ls []))  : ∀ (o : Nat) (l1 : Int32) (l2 : Int32) (l3 : Int32) (l4 : Int32) (l5 : Int32) (l6 : Int32) (l7 : Int32) (x : St) (H : Heap) (locs : List Loc) (ls : Array Slot), (o < NN ∧ kcC o = 2) → j_Scn_readNumber_145 post o l1 l2 l3 l4 l5 l6 l7 x → Wd dC dI cI cB cJ cZ ad stC kcC NN A x H → va_S A s.heap H locs → lv_has ls 8 [(0, .ref (ad o)), (1, .int l1), (2, .int l2), (3, .int l3), (4, .int l4), (5, .int l5), (6, .int l6), (7, .int l7)] → W p l e R s m args below meth c H locs cells slots Q (F0 m 145 ls []) := by
  intro o l1 l2 l3 l4 l5 l6 l7 x H locs ls fo hw hW hS hl
  unfold j_Scn_readNumber_145 at hw
  refine lv_iload_n hx hb d_Scn_readNumber_145 rfl (lv_at hl 3 rfl) ?_
  refine lv_if_ne (tgt := 158) hx hb d_Scn_readNumber_146 (by decide) (fun c4 => ?_) (fun c4 => ?_)
  · have hw := hw.1 c4
    exact t_Scn_readNumber_158 hx hb hml hown hT hK hN hA hRc hRs hRf hRl hNN hE hret  o l1 l2 l3 l4 l5 l6 l7 x H locs ls fo hw hW hS (lv_sub hl [0, 1, 2, 3, 4, 5, 6, 7] rfl)
  · have hw := hw.2 c4
    refine lv_aload_n hx hb d_Scn_readNumber_149 rfl (lv_at hl 0 rfl) ?_
    refine lv_aload_n hx hb d_Scn_readNumber_150 rfl (lv_at hl 0 rfl) ?_
    refine w_getj (k := 6) (t := 2) (C := R_Scn) (T := F_Scn) (N := 8) hx hb hT hown hK hW fo.1 fo.2 (by decide) in_Scn rfl rfl (by decide) rfl fr_Scn_6 w_1_102 d_Scn_readNumber_151 ?_
    refine lv_lneg hx hb d_Scn_readNumber_154 ?_
    refine w_putj (k := 6) (t := 2) (C := R_Scn) (T := F_Scn) (N := 8) hx hb hT hown hK hW hS fo.1 fo.2 (by decide) in_Scn t_Scn t_Scn_ok n_Scn rfl rfl (by decide) rfl fr_Scn_6 w_1_102 (by decide +kernel) d_Scn_readNumber_155 (fun H locs hW hS => ?_)
    obtain ⟨x5, ex5⟩ : ∃ y : St, y = setJ x o 6 (-(fJ x o 6)) := ⟨_, rfl⟩
    rw [← ex5] at hW
    have hw := hw x5 ex5
    exact t_Scn_readNumber_158 hx hb hml hown hT hK hN hA hRc hRs hRf hRl hNN hE hret  o l1 l2 l3 l4 l5 l6 l7 x5 H locs ls fo hw hW hS (lv_sub hl [0, 1, 2, 3, 4, 5, 6, 7] rfl)
set_option maxRecDepth 100000 in
set_option maxHeartbeats 4000000 in
set_option maxRecDepth 100000 in
theorem t_Scn_readNumber_139 {p : Program} {l : Launch} {e : Env} {R : Room} {s : State} {m : MethodId} {args : Array Value} {below : List Frame} {meth : Method} {c : Code} {cells slots : Nat} {Q : State → Prop} {dC : Nat → ClassId} {dI : Nat → Nat → Nat} {cI cB cJ cZ : ClassId} {A : Nat → Prop} {ad : Nat → Nat} {NN : Nat} {E : Heap} {tM tC : Nat} {kK kV : Nat → Nat} {post : St → Prop} (hx : p.tables.exec = Jvm.exec) (hb : c.code = b_Scn_readNumber) (hml : c.maxLocals = 8) (hown : s.vm.findClass R_Scn = some m.cls) (hT : ∀ w ∈ TG, w.before args s = true) (hK : va_K (dC, dI) CL (TY cI cB cJ cZ) s) (hN : NW s) (hA : ∀ q : Nat, s.heap.size ≤ q → A q) (hRc : cells ≤ R.cells) (hRs : slots ≤ R.slots) (hRf : 2 ≤ R.frames) (hRl : 42 ≤ R.locals) (hNN : 152 ≤ NN) (hE : CE E tM tC kK kV A s) (hret : ∀ (x : St) (H : Heap) (locs : List Loc) (pc : Nat) (ls : Array Slot), decode b_Scn_readNumber pc = .ok (.return_, 1) → post x → Wd dC dI cI cB cJ cZ ad stC kcC NN A x H → va_S A s.heap H locs → W p l e R s m args below meth c H locs cells slots Q (F0 m pc ls []))  : ∀ (o : Nat) (l1 : Int32) (l2 : Int32) (l3 : Int32) (l4 : Int32) (l5 : Int32) (l6 : Int32) (l7 : Int32) (x : St) (H : Heap) (locs : List Loc) (ls : Array Slot), (o < NN ∧ kcC o = 2) → j_Scn_readNumber_139 post o l1 l2 l3 l4 l5 l6 l7 x → Wd dC dI cI cB cJ cZ ad stC kcC NN A x H → va_S A s.heap H locs → lv_has ls 8 [(0, .ref (ad o)), (1, .int l1), (2, .int l2), (3, .int l3), (4, .int l4), (5, .int l5), (6, .int l6), (7, .int l7)] → W p l e R s m args below meth c H locs cells slots Q (F0 m 139 ls []) := by
  intro o l1 l2 l3 l4 l5 l6 l7 x H locs ls fo hw hW hS hl
  unfold j_Scn_readNumber_139 at hw
  refine lv_aload_n hx hb d_Scn_readNumber_139 rfl (lv_at hl 0 rfl) ?_
  refine lv_iload_n hx hb d_Scn_readNumber_140 rfl (lv_at hl 2 rfl) ?_
  have hF := hW.free hS hA
  refine va_callv (va_runV (C := R_Scn) (As := [.int l2]) (rest := []) ⟨hx, hb, hml, hown, hT⟩ (k_Scn_refuse l dC dI cI cB cJ cZ ad NN E tM tC kK kV hNN H.size o l2 x fo hw) ⟨callB_of 1 hT (gwt_in w_4_128) rfl rfl rfl (hT _ w_1_4) (hT _ w_4_125) (by decide +kernel) ⟨Nat.le_trans (Nat.le_of_ble_eq_true rfl) hRf, Nat.le_trans (Nat.le_of_ble_eq_true rfl) hRl⟩, hT _ w_4_126, hT _ w_4_127⟩ ⟨PVc.blind, va_recv hK hW.1 (ci := 2) (q0 := o) rfl (pic_obj fo.1 fo.2 (by decide)), PVc.at _ hW hK hN hE hS hF⟩ rfl rfl hl.1 rfl (lv_room (Nat.le_of_ble_eq_true rfl)) d_Scn_readNumber_141 ⟨hRc, hRs⟩) hS (fun q _ h => hF q h) hF (fun  x6 t H locs ht hvm hw hB hz1 hk1 hS => ?_)
  have hW := Wd.back hB ht hF
  clear hB ht hF hz1 hk1 hvm
  exact hret x6 H locs 144 ls d_Scn_readNumber_144 hw hW hS
set_option maxRecDepth 100000 in
set_option maxHeartbeats 4000000 in
set_option maxRecDepth 100000 in
theorem t_Scn_readNumber_112 {p : Program} {l : Launch} {e : Env} {R : Room} {s : State} {m : MethodId} {args : Array Value} {below : List Frame} {meth : Method} {c : Code} {cells slots : Nat} {Q : State → Prop} {dC : Nat → ClassId} {dI : Nat → Nat → Nat} {cI cB cJ cZ : ClassId} {A : Nat → Prop} {ad : Nat → Nat} {NN : Nat} {E : Heap} {tM tC : Nat} {kK kV : Nat → Nat} {post : St → Prop} (hx : p.tables.exec = Jvm.exec) (hb : c.code = b_Scn_readNumber) (hml : c.maxLocals = 8) (hown : s.vm.findClass R_Scn = some m.cls) (hT : ∀ w ∈ TG, w.before args s = true) (hK : va_K (dC, dI) CL (TY cI cB cJ cZ) s) (hN : NW s) (hA : ∀ q : Nat, s.heap.size ≤ q → A q) (hRc : cells ≤ R.cells) (hRs : slots ≤ R.slots) (hRf : 2 ≤ R.frames) (hRl : 42 ≤ R.locals) (hNN : 152 ≤ NN) (hE : CE E tM tC kK kV A s) (hret : ∀ (x : St) (H : Heap) (locs : List Loc) (pc : Nat) (ls : Array Slot), decode b_Scn_readNumber pc = .ok (.return_, 1) → post x → Wd dC dI cI cB cJ cZ ad stC kcC NN A x H → va_S A s.heap H locs → W p l e R s m args below meth c H locs cells slots Q (F0 m pc ls []))  : ∀ (o : Nat) (l1 : Int32) (l2 : Int32) (l3 : Int32) (l4 : Int32) (l5 : Int32) (l6 : Int32) (s0 : Int32) (x : St) (H : Heap) (locs : List Loc) (ls : Array Slot), (o < NN ∧ kcC o = 2) → j_Scn_readNumber_112 post o l1 l2 l3 l4 l5 l6 s0 x → Wd dC dI cI cB cJ cZ ad stC kcC NN A x H → va_S A s.heap H locs → lv_has ls 8 [(0, .ref (ad o)), (1, .int l1), (2, .int l2), (3, .int l3), (4, .int l4), (5, .int l5), (6, .int l6)] → W p l e R s m args below meth c H locs cells slots Q (F0 m 112 ls [.int s0]) := by
  intro o l1 l2 l3 l4 l5 l6 s0 x H locs ls fo hw hW hS hl
  unfold j_Scn_readNumber_112 at hw
  refine lv_istore (lv' := [(7, .int s0), (0, .ref (ad o)), (1, .int l1), (2, .int l2), (3, .int l3), (4, .int l4), (5, .int l5), (6, .int l6)]) hx hb d_Scn_readNumber_112 hl (by decide) rfl (fun ls hl => ?_)
  refine lv_iload hx hb d_Scn_readNumber_114 (lv_at hl 0 rfl) ?_
  refine lv_if_ne (tgt := 139) hx hb d_Scn_readNumber_116 (by decide) (fun c7 => ?_) (fun c7 => ?_)
  · have hw := hw.1 c7
    exact t_Scn_readNumber_139 hx hb hml hown hT hK hN hA hRc hRs hRf hRl hNN hE hret  o l1 l2 l3 l4 l5 l6 s0 x H locs ls fo hw hW hS (lv_sub hl [1, 2, 3, 4, 5, 6, 7, 0] rfl)
  · have hw := hw.2 c7
    refine lv_iload hx hb d_Scn_readNumber_119 (lv_at hl 6 rfl) ?_
    refine lv_if_eq (tgt := 139) hx hb d_Scn_readNumber_121 (by decide) (fun c8 => ?_) (fun c8 => ?_)
    · have hw := hw.1 c8
      exact t_Scn_readNumber_139 hx hb hml hown hT hK hN hA hRc hRs hRf hRl hNN hE hret  o l1 l2 l3 l4 l5 l6 s0 x H locs ls fo hw hW hS (lv_sub hl [1, 2, 3, 4, 5, 6, 7, 0] rfl)
    · have hw := hw.2 c8
      refine lv_iload_n hx hb d_Scn_readNumber_124 rfl (lv_at hl 4 rfl) ?_
      refine lv_if_ne (tgt := 145) hx hb d_Scn_readNumber_125 (by decide) (fun c9 => ?_) (fun c9 => ?_)
      · have hw := hw.1 c9
        exact t_Scn_readNumber_145 hx hb hml hown hT hK hN hA hRc hRs hRf hRl hNN hE hret  o l1 l2 l3 l4 l5 l6 s0 x H locs ls fo hw hW hS (lv_sub hl [1, 2, 3, 4, 5, 6, 7, 0] rfl)
      · have hw := hw.2 c9
        refine lv_aload_n hx hb d_Scn_readNumber_128 rfl (lv_at hl 1 rfl) ?_
        refine w_getj (k := 6) (t := 2) (C := R_Scn) (T := F_Scn) (N := 8) hx hb hT hown hK hW fo.1 fo.2 (by decide) in_Scn rfl rfl (by decide) rfl fr_Scn_6 w_1_102 d_Scn_readNumber_129 ?_
        refine lv_ldc2 hx hb hown (hT _ w_5_103) d_Scn_readNumber_132 ?_
        refine W.lcmp hx hb d_Scn_readNumber_135 ?_
        refine lv_if_ne (tgt := 145) hx hb d_Scn_readNumber_136 (by decide) (fun c10 => ?_) (fun c10 => ?_)
        · have hw := hw.1 c10
          exact t_Scn_readNumber_145 hx hb hml hown hT hK hN hA hRc hRs hRf hRl hNN hE hret  o l1 l2 l3 l4 l5 l6 s0 x H locs ls fo hw hW hS (lv_sub hl [1, 2, 3, 4, 5, 6, 7, 0] rfl)
        · have hw := hw.2 c10
          exact t_Scn_readNumber_139 hx hb hml hown hT hK hN hA hRc hRs hRf hRl hNN hE hret  o l1 l2 l3 l4 l5 l6 s0 x H locs ls fo hw hW hS (lv_sub hl [1, 2, 3, 4, 5, 6, 7, 0] rfl)
set_option maxRecDepth 100000 in
set_option maxHeartbeats 4000000 in
set_option maxRecDepth 100000 in
theorem t_Scn_readNumber_111 {p : Program} {l : Launch} {e : Env} {R : Room} {s : State} {m : MethodId} {args : Array Value} {below : List Frame} {meth : Method} {c : Code} {cells slots : Nat} {Q : State → Prop} {dC : Nat → ClassId} {dI : Nat → Nat → Nat} {cI cB cJ cZ : ClassId} {A : Nat → Prop} {ad : Nat → Nat} {NN : Nat} {E : Heap} {tM tC : Nat} {kK kV : Nat → Nat} {post : St → Prop} (hx : p.tables.exec = Jvm.exec) (hb : c.code = b_Scn_readNumber) (hml : c.maxLocals = 8) (hown : s.vm.findClass R_Scn = some m.cls) (hT : ∀ w ∈ TG, w.before args s = true) (hK : va_K (dC, dI) CL (TY cI cB cJ cZ) s) (hN : NW s) (hA : ∀ q : Nat, s.heap.size ≤ q → A q) (hRc : cells ≤ R.cells) (hRs : slots ≤ R.slots) (hRf : 2 ≤ R.frames) (hRl : 42 ≤ R.locals) (hNN : 152 ≤ NN) (hE : CE E tM tC kK kV A s) (hret : ∀ (x : St) (H : Heap) (locs : List Loc) (pc : Nat) (ls : Array Slot), decode b_Scn_readNumber pc = .ok (.return_, 1) → post x → Wd dC dI cI cB cJ cZ ad stC kcC NN A x H → va_S A s.heap H locs → W p l e R s m args below meth c H locs cells slots Q (F0 m pc ls []))  : ∀ (o : Nat) (l1 : Int32) (l2 : Int32) (l3 : Int32) (l4 : Int32) (l5 : Int32) (l6 : Int32) (x : St) (H : Heap) (locs : List Loc) (ls : Array Slot), (o < NN ∧ kcC o = 2) → j_Scn_readNumber_111 post o l1 l2 l3 l4 l5 l6 x → Wd dC dI cI cB cJ cZ ad stC kcC NN A x H → va_S A s.heap H locs → lv_has ls 8 [(0, .ref (ad o)), (1, .int l1), (2, .int l2), (3, .int l3), (4, .int l4), (5, .int l5), (6, .int l6)] → W p l e R s m args below meth c H locs cells slots Q (F0 m 111 ls []) := by
  intro o l1 l2 l3 l4 l5 l6 x H locs ls fo hw hW hS hl
  unfold j_Scn_readNumber_111 at hw
  refine lv_iconst (v := 0) hx hb d_Scn_readNumber_111 (by decide) ?_
  exact t_Scn_readNumber_112 hx hb hml hown hT hK hN hA hRc hRs hRf hRl hNN hE hret  o l1 l2 l3 l4 l5 l6 0 x H locs ls fo hw hW hS (lv_sub hl [0, 1, 2, 3, 4, 5, 6] rfl)
set_option maxRecDepth 100000 in
set_option maxHeartbeats 4000000 in
set_option maxRecDepth 100000 in
theorem t_Scn_readNumber_107 {p : Program} {l : Launch} {e : Env} {R : Room} {s : State} {m : MethodId} {args : Array Value} {below : List Frame} {meth : Method} {c : Code} {cells slots : Nat} {Q : State → Prop} {dC : Nat → ClassId} {dI : Nat → Nat → Nat} {cI cB cJ cZ : ClassId} {A : Nat → Prop} {ad : Nat → Nat} {NN : Nat} {E : Heap} {tM tC : Nat} {kK kV : Nat → Nat} {post : St → Prop} (hx : p.tables.exec = Jvm.exec) (hb : c.code = b_Scn_readNumber) (hml : c.maxLocals = 8) (hown : s.vm.findClass R_Scn = some m.cls) (hT : ∀ w ∈ TG, w.before args s = true) (hK : va_K (dC, dI) CL (TY cI cB cJ cZ) s) (hN : NW s) (hA : ∀ q : Nat, s.heap.size ≤ q → A q) (hRc : cells ≤ R.cells) (hRs : slots ≤ R.slots) (hRf : 2 ≤ R.frames) (hRl : 42 ≤ R.locals) (hNN : 152 ≤ NN) (hE : CE E tM tC kK kV A s) (hret : ∀ (x : St) (H : Heap) (locs : List Loc) (pc : Nat) (ls : Array Slot), decode b_Scn_readNumber pc = .ok (.return_, 1) → post x → Wd dC dI cI cB cJ cZ ad stC kcC NN A x H → va_S A s.heap H locs → W p l e R s m args below meth c H locs cells slots Q (F0 m pc ls []))  : ∀ (o : Nat) (l1 : Int32) (l2 : Int32) (l3 : Int32) (l4 : Int32) (l5 : Int32) (l6 : Int32) (x : St) (H : Heap) (locs : List Loc) (ls : Array Slot), (o < NN ∧ kcC o = 2) → j_Scn_readNumber_107 post o l1 l2 l3 l4 l5 l6 x → Wd dC dI cI cB cJ cZ ad stC kcC NN A x H → va_S A s.heap H locs → lv_has ls 8 [(0, .ref (ad o)), (1, .int l1), (2, .int l2), (3, .int l3), (4, .int l4), (5, .int l5), (6, .int l6)] → W p l e R s m args below meth c H locs cells slots Q (F0 m 107 ls []) := by
  intro o l1 l2 l3 l4 l5 l6 x H locs ls fo hw hW hS hl
  unfold j_Scn_readNumber_107 at hw
  refine lv_iconst (v := 1) hx hb d_Scn_readNumber_107 (by decide) ?_
  refine lv_goto (tgt := 112) hx hb d_Scn_readNumber_108 (by decide) ?_
  exact t_Scn_readNumber_112 hx hb hml hown hT hK hN hA hRc hRs hRf hRl hNN hE hret  o l1 l2 l3 l4 l5 l6 1 x H locs ls fo hw hW hS (lv_sub hl [0, 1, 2, 3, 4, 5, 6] rfl)
set_option maxRecDepth 100000 in
set_option maxHeartbeats 4000000 in
set_option maxRecDepth 100000 in
theorem t_Scn_readNumber_82 {p : Program} {l : Launch} {e : Env} {R : Room} {s : State} {m : MethodId} {args : Array Value} {below : List Frame} {meth : Method} {c : Code} {cells slots : Nat} {Q : State → Prop} {dC : Nat → ClassId} {dI : Nat → Nat → Nat} {cI cB cJ cZ : ClassId} {A : Nat → Prop} {ad : Nat → Nat} {NN : Nat} {E : Heap} {tM tC : Nat} {kK kV : Nat → Nat} {post : St → Prop} (hx : p.tables.exec = Jvm.exec) (hb : c.code = b_Scn_readNumber) (hml : c.maxLocals = 8) (hown : s.vm.findClass R_Scn = some m.cls) (hT : ∀ w ∈ TG, w.before args s = true) (hK : va_K (dC, dI) CL (TY cI cB cJ cZ) s) (hN : NW s) (hA : ∀ q : Nat, s.heap.size ≤ q → A q) (hRc : cells ≤ R.cells) (hRs : slots ≤ R.slots) (hRf : 2 ≤ R.frames) (hRl : 42 ≤ R.locals) (hNN : 152 ≤ NN) (hE : CE E tM tC kK kV A s) (hret : ∀ (x : St) (H : Heap) (locs : List Loc) (pc : Nat) (ls : Array Slot), decode b_Scn_readNumber pc = .ok (.return_, 1) → post x → Wd dC dI cI cB cJ cZ ad stC kcC NN A x H → va_S A s.heap H locs → W p l e R s m args below meth c H locs cells slots Q (F0 m pc ls []))  : ∀ (o : Nat) (l1 : Int32) (l2 : Int32) (l3 : Int32) (l4 : Int32) (l5 : Int32) (l6 : Int32) (s0 : Int32) (s1 : Nat) (x : St) (H : Heap) (locs : List Loc) (ls : Array Slot), (o < NN ∧ kcC o = 2) → (s1 < NN ∧ kcC s1 = 2) → j_Scn_readNumber_82 post o l1 l2 l3 l4 l5 l6 s0 s1 x → Wd dC dI cI cB cJ cZ ad stC kcC NN A x H → va_S A s.heap H locs → lv_has ls 8 [(0, .ref (ad o)), (1, .int l1), (2, .int l2), (3, .int l3), (4, .int l4), (5, .int l5), (6, .int l6)] → W p l e R s m args below meth c H locs cells slots Q (F0 m 82 ls [.int s0, .ref (ad s1)]) := by
  intro o l1 l2 l3 l4 l5 l6 s0 s1 x H locs ls fo fs1 hw hW hS hl
  unfold j_Scn_readNumber_82 at hw
  have hF := hW.free hS hA
  refine va_callv (va_runV (C := R_Scn) (As := [.int s0]) (rest := []) ⟨hx, hb, hml, hown, hT⟩ (k_Scn_refuse l dC dI cI cB cJ cZ ad NN E tM tC kK kV hNN H.size s1 s0 x fs1 hw) ⟨callB_of 1 hT (gwt_in w_4_128) rfl rfl rfl (hT _ w_1_4) (hT _ w_4_125) (by decide +kernel) ⟨Nat.le_trans (Nat.le_of_ble_eq_true rfl) hRf, Nat.le_trans (Nat.le_of_ble_eq_true rfl) hRl⟩, hT _ w_4_126, hT _ w_4_127⟩ ⟨PVc.blind, va_recv hK hW.1 (ci := 2) (q0 := s1) rfl (pic_obj fs1.1 fs1.2 (by decide)), PVc.at _ hW hK hN hE hS hF⟩ rfl rfl hl.1 rfl (lv_room (Nat.le_of_ble_eq_true rfl)) d_Scn_readNumber_82 ⟨hRc, hRs⟩) hS (fun q _ h => hF q h) hF (fun  x11 t H locs ht hvm hw hB hz1 hk1 hS => ?_)
  have hW := Wd.back hB ht hF
  clear hB ht hF hz1 hk1 hvm
  exact hret x11 H locs 85 ls d_Scn_readNumber_85 hw hW hS
set_option maxRecDepth 100000 in
set_option maxHeartbeats 4000000 in
set_option maxRecDepth 100000 in
theorem t_Scn_readNumber_38 {p : Program} {l : Launch} {e : Env} {R : Room} {s : State} {m : MethodId} {args : Array Value} {below : List Frame} {meth : Method} {c : Code} {cells slots : Nat} {Q : State → Prop} {dC : Nat → ClassId} {dI : Nat → Nat → Nat} {cI cB cJ cZ : ClassId} {A : Nat → Prop} {ad : Nat → Nat} {NN : Nat} {E : Heap} {tM tC : Nat} {kK kV : Nat → Nat} {post : St → Prop} (hx : p.tables.exec = Jvm.exec) (hb : c.code = b_Scn_readNumber) (hml : c.maxLocals = 8) (hown : s.vm.findClass R_Scn = some m.cls) (hT : ∀ w ∈ TG, w.before args s = true) (hK : va_K (dC, dI) CL (TY cI cB cJ cZ) s) (hN : NW s) (hA : ∀ q : Nat, s.heap.size ≤ q → A q) (hRc : cells ≤ R.cells) (hRs : slots ≤ R.slots) (hRf : 2 ≤ R.frames) (hRl : 42 ≤ R.locals) (hNN : 152 ≤ NN) (hE : CE E tM tC kK kV A s) (hret : ∀ (x : St) (H : Heap) (locs : List Loc) (pc : Nat) (ls : Array Slot), decode b_Scn_readNumber pc = .ok (.return_, 1) → post x → Wd dC dI cI cB cJ cZ ad stC kcC NN A x H → va_S A s.heap H locs → W p l e R s m args below meth c H locs cells slots Q (F0 m pc ls []))  : ∀ (o : Nat) (l1 : Int32) (l2 : Int32) (l3 : Int32) (x : St) (H : Heap) (locs : List Loc) (ls : Array Slot), (o < NN ∧ kcC o = 2) → j_Scn_readNumber_38 post o l1 l2 l3 x → Wd dC dI cI cB cJ cZ ad stC kcC NN A x H → va_S A s.heap H locs → lv_has ls 8 [(0, .ref (ad o)), (1, .int l1), (2, .int l2), (3, .int l3)] → W p l e R s m args below meth c H locs cells slots Q (F0 m 38 ls []) := by
  intro o l1 l2 l3 x H locs ls fo hw hW hS hl
  unfold j_Scn_readNumber_38 at hw
  refine lv_aload_n hx hb d_Scn_readNumber_38 rfl (lv_at hl 0 rfl) ?_
  refine w_geti (k := 2) (t := 2) (C := R_Scn) (T := F_Scn) (N := 8) hx hb hT hown hK hW fo.1 fo.2 (by decide) in_Scn rfl rfl (by decide) rfl fr_Scn_2 w_1_85 d_Scn_readNumber_39 ?_
  refine lv_topi (fun v12 ev12 => ?_)
  have hw := hw v12 ev12
  refine lv_istore (lv' := [(4, .int v12), (0, .ref (ad o)), (1, .int l1), (2, .int l2), (3, .int l3)]) hx hb d_Scn_readNumber_42 hl (by decide) rfl (fun ls hl => ?_)
  refine lv_aload_n hx hb d_Scn_readNumber_44 rfl (lv_at hl 1 rfl) ?_
  have hF := hW.free hS hA
  refine va_calli (va_runV (C := R_Scn) (As := []) (rest := []) ⟨hx, hb, hml, hown, hT⟩ (k_Scn_readDigits l dC dI cI cB cJ cZ ad NN E tM tC kK kV hNN H.size o x fo hw) ⟨callB_of 0 hT (gwt_in w_5_102) rfl rfl rfl (hT _ w_1_4) (hT _ w_5_99) (by decide +kernel) ⟨Nat.le_trans (Nat.le_of_ble_eq_true rfl) hRf, Nat.le_trans (Nat.le_of_ble_eq_true rfl) hRl⟩, hT _ w_5_101, hT _ ws_15⟩ ⟨PVc.blind, va_recv hK hW.1 (ci := 2) (q0 := o) rfl (pic_obj fo.1 fo.2 (by decide)), PVc.at _ hW hK hN hE hS hF⟩ rfl rfl hl.1 rfl (lv_room (Nat.le_of_ble_eq_true rfl)) d_Scn_readNumber_45 ⟨hRc, hRs⟩) hS (fun q _ h => hF q h) hF (fun r14 x13 t H locs ht hvm hw hB hz1 hk1 hS => ?_)
  have hW := Wd.back hB ht hF
  clear hB ht hF hz1 hk1 hvm
  refine lv_istore (lv' := [(5, .int r14), (4, .int v12), (0, .ref (ad o)), (1, .int l1), (2, .int l2), (3, .int l3)]) hx hb d_Scn_readNumber_48 hl (by decide) rfl (fun ls hl => ?_)
  refine lv_aload_n hx hb d_Scn_readNumber_50 rfl (lv_at hl 2 rfl) ?_
  refine w_geti (k := 2) (t := 2) (C := R_Scn) (T := F_Scn) (N := 8) hx hb hT hown hK hW fo.1 fo.2 (by decide) in_Scn rfl rfl (by decide) rfl fr_Scn_2 w_1_85 d_Scn_readNumber_51 ?_
  refine lv_iload hx hb d_Scn_readNumber_54 (lv_at hl 1 rfl) ?_
  refine lv_isub hx hb d_Scn_readNumber_56 ?_
  refine lv_topi (fun v15 ev15 => ?_)
  have hw := hw v15 ev15
  refine lv_istore (lv' := [(6, .int v15), (5, .int r14), (4, .int v12), (0, .ref (ad o)), (1, .int l1), (2, .int l2), (3, .int l3)]) hx hb d_Scn_readNumber_57 hl (by decide) rfl (fun ls hl => ?_)
  refine lv_iload hx hb d_Scn_readNumber_59 (lv_at hl 0 rfl) ?_
  refine lv_if_ne (tgt := 86) hx hb d_Scn_readNumber_61 (by decide) (fun c16 => ?_) (fun c16 => ?_)
  · have hw := hw.1 c16
    refine lv_aload_n hx hb d_Scn_readNumber_86 rfl (lv_at hl 3 rfl) ?_
    refine lv_iload hx hb d_Scn_readNumber_87 (lv_at hl 2 rfl) ?_
    have hF := hW.free hS hA
    refine va_calli (va_runV (C := R_Scn) (As := [.int v12]) (rest := []) ⟨hx, hb, hml, hown, hT⟩ (k_Scn_byteAt l dC dI cI cB cJ cZ ad NN E tM tC kK kV hNN H.size o v12 x13 fo hw) ⟨callB_of 1 hT (gwt_in w_5_75) rfl rfl rfl (hT _ w_1_4) (hT _ w_5_72) (by decide +kernel) ⟨Nat.le_trans (Nat.le_of_ble_eq_true rfl) hRf, Nat.le_trans (Nat.le_of_ble_eq_true rfl) hRl⟩, hT _ w_5_73, hT _ w_5_74⟩ ⟨PVc.blind, va_recv hK hW.1 (ci := 2) (q0 := o) rfl (pic_obj fo.1 fo.2 (by decide)), PVc.at _ hW hK hN hE hS hF⟩ rfl rfl hl.1 rfl (lv_room (Nat.le_of_ble_eq_true rfl)) d_Scn_readNumber_89 ⟨hRc, hRs⟩) hS (fun q _ h => hF q h) hF (fun r18 x17 t H locs ht hvm hw hB hz1 hk1 hS => ?_)
    have hW := Wd.back hB ht hF
    clear hB ht hF hz1 hk1 hvm
    refine lv_bipush (v := 48) hx hb d_Scn_readNumber_92 (by decide) ?_
    refine lv_icmp_ne (tgt := 111) hx hb d_Scn_readNumber_94 (by decide) (fun c19 => ?_) (fun c19 => ?_)
    · have hw := hw.1 c19
      exact t_Scn_readNumber_111 hx hb hml hown hT hK hN hA hRc hRs hRf hRl hNN hE hret  o l1 l2 l3 v12 r14 v15 x17 H locs ls fo hw hW hS (lv_sub hl [3, 4, 5, 6, 2, 1, 0] rfl)
    · have hw := hw.2 c19
      refine lv_iload_n hx hb d_Scn_readNumber_97 rfl (lv_at hl 6 rfl) ?_
      refine lv_if_ne (tgt := 107) hx hb d_Scn_readNumber_98 (by decide) (fun c20 => ?_) (fun c20 => ?_)
      · have hw := hw.1 c20
        exact t_Scn_readNumber_107 hx hb hml hown hT hK hN hA hRc hRs hRf hRl hNN hE hret  o l1 l2 l3 v12 r14 v15 x17 H locs ls fo hw hW hS (lv_sub hl [3, 4, 5, 6, 2, 1, 0] rfl)
      · have hw := hw.2 c20
        refine lv_iload hx hb d_Scn_readNumber_101 (lv_at hl 0 rfl) ?_
        refine lv_iconst (v := 1) hx hb d_Scn_readNumber_103 (by decide) ?_
        refine lv_icmp_le (tgt := 111) hx hb d_Scn_readNumber_104 (by decide) (fun c21 => ?_) (fun c21 => ?_)
        · have hw := hw.1 c21
          exact t_Scn_readNumber_111 hx hb hml hown hT hK hN hA hRc hRs hRf hRl hNN hE hret  o l1 l2 l3 v12 r14 v15 x17 H locs ls fo hw hW hS (lv_sub hl [3, 4, 5, 6, 2, 1, 0] rfl)
        · have hw := hw.2 c21
          exact t_Scn_readNumber_107 hx hb hml hown hT hK hN hA hRc hRs hRf hRl hNN hE hret  o l1 l2 l3 v12 r14 v15 x17 H locs ls fo hw hW hS (lv_sub hl [3, 4, 5, 6, 2, 1, 0] rfl)
  · have hw := hw.2 c16
    refine lv_aload_n hx hb d_Scn_readNumber_64 rfl (lv_at hl 3 rfl) ?_
    refine lv_iload hx hb d_Scn_readNumber_65 (lv_at hl 2 rfl) ?_
    refine lv_aload_n hx hb d_Scn_readNumber_67 rfl (lv_at hl 3 rfl) ?_
    refine w_geti (k := 1) (t := 2) (C := R_Scn) (T := F_Scn) (N := 8) hx hb hT hown hK hW fo.1 fo.2 (by decide) in_Scn rfl rfl (by decide) rfl fr_Scn_1 w_1_81 d_Scn_readNumber_68 ?_
    refine lv_icmp_lt (tgt := 81) hx hb d_Scn_readNumber_71 (by decide) (fun c22 => ?_) (fun c22 => ?_)
    · have hw := hw.1 c22
      refine lv_iload_n hx hb d_Scn_readNumber_81 rfl (lv_at hl 5 rfl) ?_
      exact t_Scn_readNumber_82 hx hb hml hown hT hK hN hA hRc hRs hRf hRl hNN hE hret  o l1 l2 l3 v12 r14 v15 l2 o x13 H locs ls fo fo hw hW hS (lv_sub hl [3, 4, 5, 6, 2, 1, 0] rfl)
    · have hw := hw.2 c22
      refine lv_aload_n hx hb d_Scn_readNumber_74 rfl (lv_at hl 3 rfl) ?_
      refine w_geti (k := 1) (t := 2) (C := R_Scn) (T := F_Scn) (N := 8) hx hb hT hown hK hW fo.1 fo.2 (by decide) in_Scn rfl rfl (by decide) rfl fr_Scn_1 w_1_81 d_Scn_readNumber_75 ?_
      refine lv_goto (tgt := 82) hx hb d_Scn_readNumber_78 (by decide) ?_
      exact t_Scn_readNumber_82 hx hb hml hown hT hK hN hA hRc hRs hRf hRl hNN hE hret  o l1 l2 l3 v12 r14 v15 (fI x13 o 1) o x13 H locs ls fo fo hw hW hS (lv_sub hl [3, 4, 5, 6, 2, 1, 0] rfl)
set_option maxRecDepth 100000 in
set_option maxHeartbeats 4000000 in
set_option maxRecDepth 100000 in
theorem t_Scn_readNumber_23 {p : Program} {l : Launch} {e : Env} {R : Room} {s : State} {m : MethodId} {args : Array Value} {below : List Frame} {meth : Method} {c : Code} {cells slots : Nat} {Q : State → Prop} {dC : Nat → ClassId} {dI : Nat → Nat → Nat} {cI cB cJ cZ : ClassId} {A : Nat → Prop} {ad : Nat → Nat} {NN : Nat} {E : Heap} {tM tC : Nat} {kK kV : Nat → Nat} {post : St → Prop} (hx : p.tables.exec = Jvm.exec) (hb : c.code = b_Scn_readNumber) (hml : c.maxLocals = 8) (hown : s.vm.findClass R_Scn = some m.cls) (hT : ∀ w ∈ TG, w.before args s = true) (hK : va_K (dC, dI) CL (TY cI cB cJ cZ) s) (hN : NW s) (hA : ∀ q : Nat, s.heap.size ≤ q → A q) (hRc : cells ≤ R.cells) (hRs : slots ≤ R.slots) (hRf : 2 ≤ R.frames) (hRl : 42 ≤ R.locals) (hNN : 152 ≤ NN) (hE : CE E tM tC kK kV A s) (hret : ∀ (x : St) (H : Heap) (locs : List Loc) (pc : Nat) (ls : Array Slot), decode b_Scn_readNumber pc = .ok (.return_, 1) → post x → Wd dC dI cI cB cJ cZ ad stC kcC NN A x H → va_S A s.heap H locs → W p l e R s m args below meth c H locs cells slots Q (F0 m pc ls []))  : ∀ (o : Nat) (l1 : Int32) (l2 : Int32) (s0 : Int32) (x : St) (H : Heap) (locs : List Loc) (ls : Array Slot), (o < NN ∧ kcC o = 2) → j_Scn_readNumber_23 post o l1 l2 s0 x → Wd dC dI cI cB cJ cZ ad stC kcC NN A x H → va_S A s.heap H locs → lv_has ls 8 [(0, .ref (ad o)), (1, .int l1), (2, .int l2)] → W p l e R s m args below meth c H locs cells slots Q (F0 m 23 ls [.int s0]) := by
  intro o l1 l2 s0 x H locs ls fo hw hW hS hl
  unfold j_Scn_readNumber_23 at hw
  refine lv_istore_n (lv' := [(3, .int s0), (0, .ref (ad o)), (1, .int l1), (2, .int l2)]) hx hb d_Scn_readNumber_23 rfl hl (by decide) rfl (fun ls hl => ?_)
  refine lv_iload_n hx hb d_Scn_readNumber_24 rfl (lv_at hl 0 rfl) ?_
  refine lv_if_eq (tgt := 38) hx hb d_Scn_readNumber_25 (by decide) (fun c23 => ?_) (fun c23 => ?_)
  · have hw := hw.1 c23
    exact t_Scn_readNumber_38 hx hb hml hown hT hK hN hA hRc hRs hRf hRl hNN hE hret  o l1 l2 s0 x H locs ls fo hw hW hS (lv_sub hl [1, 2, 3, 0] rfl)
  · have hw := hw.2 c23
    refine lv_aload_n hx hb d_Scn_readNumber_28 rfl (lv_at hl 1 rfl) ?_
    refine lv_dup hx hb d_Scn_readNumber_29 rfl ?_
    refine w_geti (k := 2) (t := 2) (C := R_Scn) (T := F_Scn) (N := 8) hx hb hT hown hK hW fo.1 fo.2 (by decide) in_Scn rfl rfl (by decide) rfl fr_Scn_2 w_1_85 d_Scn_readNumber_30 ?_
    refine lv_iconst (v := 1) hx hb d_Scn_readNumber_33 (by decide) ?_
    refine lv_iadd hx hb d_Scn_readNumber_34 ?_
    refine w_puti (ty := .int) (k := 2) (t := 2) (C := R_Scn) (T := F_Scn) (N := 8) hx hb hT hown hK hW hS fo.1 fo.2 (by decide) in_Scn t_Scn t_Scn_ok n_Scn rfl rfl (by decide) rfl fr_Scn_2 w_1_85 (by decide +kernel) rfl rfl d_Scn_readNumber_35 (fun H locs hW hS => ?_)
    obtain ⟨x24, ex24⟩ : ∃ y : St, y = setI x o 2 ((fI x o 2) + 1) := ⟨_, rfl⟩
    rw [← ex24] at hW
    have hw := hw x24 ex24
    exact t_Scn_readNumber_38 hx hb hml hown hT hK hN hA hRc hRs hRf hRl hNN hE hret  o l1 l2 s0 x24 H locs ls fo hw hW hS (lv_sub hl [1, 2, 3, 0] rfl)
set_option maxRecDepth 100000 in
set_option maxHeartbeats 4000000 in
set_option maxRecDepth 100000 in
theorem t_Scn_readNumber_e {p : Program} {l : Launch} {e : Env} {R : Room} {s : State} {m : MethodId} {args : Array Value} {below : List Frame} {meth : Method} {c : Code} {cells slots : Nat} {Q : State → Prop} {dC : Nat → ClassId} {dI : Nat → Nat → Nat} {cI cB cJ cZ : ClassId} {A : Nat → Prop} {ad : Nat → Nat} {NN : Nat} {E : Heap} {tM tC : Nat} {kK kV : Nat → Nat} {post : St → Prop} (hx : p.tables.exec = Jvm.exec) (hb : c.code = b_Scn_readNumber) (hml : c.maxLocals = 8) (hown : s.vm.findClass R_Scn = some m.cls) (hT : ∀ w ∈ TG, w.before args s = true) (hK : va_K (dC, dI) CL (TY cI cB cJ cZ) s) (hN : NW s) (hA : ∀ q : Nat, s.heap.size ≤ q → A q) (hRc : cells ≤ R.cells) (hRs : slots ≤ R.slots) (hRf : 2 ≤ R.frames) (hRl : 42 ≤ R.locals) (hNN : 152 ≤ NN) (hE : CE E tM tC kK kV A s) (hret : ∀ (x : St) (H : Heap) (locs : List Loc) (pc : Nat) (ls : Array Slot), decode b_Scn_readNumber pc = .ok (.return_, 1) → post x → Wd dC dI cI cB cJ cZ ad stC kcC NN A x H → va_S A s.heap H locs → W p l e R s m args below meth c H locs cells slots Q (F0 m pc ls [])) : ∀ (o : Nat) (l1 : Int32) (x : St) (H : Heap) (locs : List Loc) (ls : Array Slot), (o < NN ∧ kcC o = 2) → wp_Scn_readNumber post o l1 x → Wd dC dI cI cB cJ cZ ad stC kcC NN A x H → va_S A s.heap H locs → lv_has ls 8 [(0, .ref (ad o)), (1, .int l1)] → W p l e R s m args below meth c H locs cells slots Q (F0 m 0 ls []) := by
  intro o l1 x H locs ls fo hw hW hS hl
  unfold wp_Scn_readNumber at hw
  refine lv_aload_n hx hb d_Scn_readNumber_0 rfl (lv_at hl 0 rfl) ?_
  refine w_geti (k := 2) (t := 2) (C := R_Scn) (T := F_Scn) (N := 8) hx hb hT hown hK hW fo.1 fo.2 (by decide) in_Scn rfl rfl (by decide) rfl fr_Scn_2 w_1_85 d_Scn_readNumber_1 ?_
  refine lv_topi (fun v25 ev25 => ?_)
  have hw := hw v25 ev25
  refine lv_istore_n (lv' := [(2, .int v25), (0, .ref (ad o)), (1, .int l1)]) hx hb d_Scn_readNumber_4 rfl hl (by decide) rfl (fun ls hl => ?_)
  refine lv_aload_n hx hb d_Scn_readNumber_5 rfl (lv_at hl 1 rfl) ?_
  refine lv_aload_n hx hb d_Scn_readNumber_6 rfl (lv_at hl 1 rfl) ?_
  refine w_geti (k := 2) (t := 2) (C := R_Scn) (T := F_Scn) (N := 8) hx hb hT hown hK hW fo.1 fo.2 (by decide) in_Scn rfl rfl (by decide) rfl fr_Scn_2 w_1_85 d_Scn_readNumber_7 ?_
  have hF := hW.free hS hA
  refine va_calli (va_runV (C := R_Scn) (As := [.int (fI x o 2)]) (rest := []) ⟨hx, hb, hml, hown, hT⟩ (k_Scn_byteAt l dC dI cI cB cJ cZ ad NN E tM tC kK kV hNN H.size o (fI x o 2) x fo hw) ⟨callB_of 1 hT (gwt_in w_5_75) rfl rfl rfl (hT _ w_1_4) (hT _ w_5_72) (by decide +kernel) ⟨Nat.le_trans (Nat.le_of_ble_eq_true rfl) hRf, Nat.le_trans (Nat.le_of_ble_eq_true rfl) hRl⟩, hT _ w_5_73, hT _ w_5_74⟩ ⟨PVc.blind, va_recv hK hW.1 (ci := 2) (q0 := o) rfl (pic_obj fo.1 fo.2 (by decide)), PVc.at _ hW hK hN hE hS hF⟩ rfl rfl hl.1 rfl (lv_room (Nat.le_of_ble_eq_true rfl)) d_Scn_readNumber_10 ⟨hRc, hRs⟩) hS (fun q _ h => hF q h) hF (fun r27 x26 t H locs ht hvm hw hB hz1 hk1 hS => ?_)
  have hW := Wd.back hB ht hF
  clear hB ht hF hz1 hk1 hvm
  refine lv_bipush (v := 45) hx hb d_Scn_readNumber_13 (by decide) ?_
  refine lv_icmp_ne (tgt := 22) hx hb d_Scn_readNumber_15 (by decide) (fun c28 => ?_) (fun c28 => ?_)
  · have hw := hw.1 c28
    refine lv_iconst (v := 0) hx hb d_Scn_readNumber_22 (by decide) ?_
    exact t_Scn_readNumber_23 hx hb hml hown hT hK hN hA hRc hRs hRf hRl hNN hE hret  o l1 v25 0 x26 H locs ls fo hw hW hS (lv_sub hl [1, 2, 0] rfl)
  · have hw := hw.2 c28
    refine lv_iconst (v := 1) hx hb d_Scn_readNumber_18 (by decide) ?_
    refine lv_goto (tgt := 23) hx hb d_Scn_readNumber_19 (by decide) ?_
    exact t_Scn_readNumber_23 hx hb hml hown hT hK hN hA hRc hRs hRf hRl hNN hE hret  o l1 v25 1 x26 H locs ls fo hw hW hS (lv_sub hl [1, 2, 0] rfl)
set_option maxHeartbeats 4000000 in
set_option maxRecDepth 100000 in
theorem k_Scn_readNumber (l : Launch) (dC : Nat → ClassId) (dI : Nat → Nat → Nat) (cI cB cJ cZ : ClassId) (ad : Nat → Nat) (NN : Nat) (E : Heap) (tM tC : Nat) (kK kV : Nat → Nat) (hNN : 152 ≤ NN) (sz : Nat) (o : Nat) (l1 : Int32) (x : St) (fo : o < NN ∧ kcC o = 2) {post : St → Prop} (hw : wp_Scn_readNumber post o l1 x) : Met l y_Scn_readNumber (wsOf y_Scn_readNumber b_Scn_readNumber 8 (none)) ({ frames := 2, cells := 0, slots := 0, locals := 42 }) (va_Pc [.ref (ad o), .int l1] (PVc dC dI cI cB cJ cZ ad stC kcC NN E tM tC kK kV sz x)) (va_Qv (fun (y : St) => post y) (fun y t => Wd dC dI cI cB cJ cZ ad stC kcC NN (va_A (pic ad stC kcC NN cI cB cJ cZ x) sz) y t.heap) (va_A (pic ad stC kcC NN cI cB cJ cZ x) sz)) 0 0 (va_A (pic ad stC kcC NN cI cB cJ cZ x) sz) := by
  refine Met.ofW (cc := b_Scn_readNumber) (maxL := 8) (ret := none) (by decide) rfl ?_
  intro p e s m args below meth c s₁ B hml hv
  obtain ⟨rfl, ⟨hsz, hW0, hK, hN⟩, hE⟩ := hv
  have hx := B.exec
  have hb := B.bytes
  have hr := B.returns
  have hts := atoms_spec B.pre
  have hT : ∀ w ∈ TG, w.before _ s = true := fun w h => hts w (List.mem_cons_of_mem _ h)
  have hown : s.vm.findClass R_Scn = some m.cls := findClass_of_methodNamed B.named
  have hlocks := B.notSynchronized
  subst hsz
  have hW : Wd dC dI cI cB cJ cZ ad stC kcC NN (va_A (pic ad stC kcC NN cI cB cJ cZ x) s.heap.size) x s.heap := ⟨hW0.1, hW0.2.1.self (sz := s.heap.size), hW0.2.2⟩
  generalize hAe : va_A (pic ad stC kcC NN cI cB cJ cZ x) s.heap.size = A at hW hE ⊢
  have hA : ∀ q : Nat, s.heap.size ≤ q → A q := fun q h => by rw [← hAe]; exact Or.inr h
  have hS : va_S A s.heap s.heap [] := va_S.rf
  have hl := lv_entry ([.ref (ad o), .int l1]) (n := 8) (Nat.le_of_ble_eq_true rfl)
  rw [lg_entry_eq]
  generalize (lg_sl ([.ref (ad o), .int l1]) ++ List.replicate (8 - (lg_sl ([.ref (ad o), .int l1])).length) Slot.unset).toArray = ls at hl ⊢
  have hl : lv_has ls 8 [(0, .ref (ad o)), (1, .int l1)] := hl
  exact t_Scn_readNumber_e hx hb hml hown hT hK hN hA (Nat.le_refl 0) (Nat.le_refl 0) (Nat.le_refl 2) (Nat.le_refl 42) hNN hE (fun x H locs pc ls hd hp hW hS => W.vret hx hb hr (fun t ht hM => ⟨⟨x, rfl, hp, Wd.back hW ht.symm (fun _ z => z)⟩, hS.F ht⟩) hS.2.2 hd hlocks)  o l1 x _ _ ls fo hw hW hS hl
set_option maxRecDepth 100000 in
set_option maxHeartbeats 4000000 in
set_option maxRecDepth 100000 in
theorem t_Rec_readValue_134 {p : Program} {l : Launch} {e : Env} {R : Room} {s : State} {m : MethodId} {args : Array Value} {below : List Frame} {meth : Method} {c : Code} {cells slots : Nat} {Q : State → Prop} {dC : Nat → ClassId} {dI : Nat → Nat → Nat} {cI cB cJ cZ : ClassId} {A : Nat → Prop} {ad : Nat → Nat} {NN : Nat} {E : Heap} {tM tC : Nat} {kK kV : Nat → Nat} {post : Int64 → St → Prop} (hx : p.tables.exec = Jvm.exec) (hb : c.code = b_Rec_readValue) (hml : c.maxLocals = 4) (hown : s.vm.findClass R_Rec = some m.cls) (hT : ∀ w ∈ TG, w.before args s = true) (hK : va_K (dC, dI) CL (TY cI cB cJ cZ) s) (hN : NW s) (hA : ∀ q : Nat, s.heap.size ≤ q → A q) (hRc : cells ≤ R.cells) (hRs : slots ≤ R.slots) (hRf : 7 ≤ R.frames) (hRl : 264 ≤ R.locals) (hNN : 152 ≤ NN) (hE : CE E tM tC kK kV A s) (hret : ∀ (r : Int64) (x : St) (H : Heap) (locs : List Loc) (pc : Nat) (ls : Array Slot), decode b_Rec_readValue pc = .ok (.lreturn, 1) → post r x → Wd dC dI cI cB cJ cZ ad stC kcC NN A x H → va_S A s.heap H locs → W p l e R s m args below meth c H locs cells slots Q (F0 m pc ls [.long r]))  : ∀ (o : Nat) (l1 : Int32) (x : St) (H : Heap) (locs : List Loc) (ls : Array Slot), (o < NN ∧ kcC o = 4) → j_Rec_readValue_134 post o l1 x → Wd dC dI cI cB cJ cZ ad stC kcC NN A x H → va_S A s.heap H locs → lv_has ls 4 [(0, .ref (ad o)), (1, .int l1)] → W p l e R s m args below meth c H locs cells slots Q (F0 m 134 ls []) := by
  intro o l1 x H locs ls fo hw hW hS hl
  unfold j_Rec_readValue_134 at hw
  refine lv_aload_n hx hb d_Rec_readValue_134 rfl (lv_at hl 0 rfl) ?_
  obtain ⟨q1, hq1, hw⟩ := hw
  refine w_getr (q := q1) (k := 13) (t := 4) (C := R_Rec) (T := F_Rec) (N := 15) hx hb hT hown hK hW fo.1 fo.2 (by decide) in_Rec rfl rfl (by decide) rfl fr_Rec_13 w_2_8 d_Rec_readValue_135 hq1 (fun aq1 bq1 => ?_)
  have fq1 : q1 < NN ∧ kcC q1 = 2 := ⟨aq1, bq1⟩
  refine lv_aload_n hx hb d_Rec_readValue_138 rfl (lv_at hl 0 rfl) ?_
  obtain ⟨q2, hq2, hw⟩ := hw
  refine w_getr (q := q2) (k := 13) (t := 4) (C := R_Rec) (T := F_Rec) (N := 15) hx hb hT hown hK hW fo.1 fo.2 (by decide) in_Rec rfl rfl (by decide) rfl fr_Rec_13 w_2_8 d_Rec_readValue_139 hq2 (fun aq2 bq2 => ?_)
  have fq2 : q2 < NN ∧ kcC q2 = 2 := ⟨aq2, bq2⟩
  refine w_geti (k := 2) (t := 2) (C := R_Scn) (T := F_Scn) (N := 8) hx hb hT hown hK hW fq2.1 fq2.2 (by decide) in_Scn rfl rfl (by decide) rfl fr_Scn_2 w_1_87 d_Rec_readValue_142 ?_
  have hF := hW.free hS hA
  refine va_callv (va_runV (C := R_Scn) (As := [.int (fI x q2 2)]) (rest := []) ⟨hx, hb, hml, hown, hT⟩ (k_Scn_refuse l dC dI cI cB cJ cZ ad NN E tM tC kK kV hNN H.size q1 (fI x q2 2) x fq1 hw) ⟨callB_of 1 hT (gwt_in w_4_128) rfl rfl rfl (hT _ w_1_4) (hT _ w_5_27) (by decide +kernel) ⟨Nat.le_trans (Nat.le_of_ble_eq_true rfl) hRf, Nat.le_trans (Nat.le_of_ble_eq_true rfl) hRl⟩, hT _ w_4_126, hT _ w_4_127⟩ ⟨PVc.blind, va_recv hK hW.1 (ci := 2) (q0 := q1) rfl (pic_obj fq1.1 fq1.2 (by decide)), PVc.at _ hW hK hN hE hS hF⟩ rfl rfl hl.1 rfl (lv_room (Nat.le_of_ble_eq_true rfl)) d_Rec_readValue_145 ⟨hRc, hRs⟩) hS (fun q _ h => hF q h) hF (fun  x3 t H locs ht hvm hw hB hz1 hk1 hS => ?_)
  have hW := Wd.back hB ht hF
  clear hB ht hF hz1 hk1 hvm
  refine lv_lconst (v := 0) hx hb d_Rec_readValue_148 (by decide) ?_
  exact hret 0 x3 H locs 149 ls d_Rec_readValue_149 hw hW hS
set_option maxRecDepth 100000 in
set_option maxHeartbeats 4000000 in
set_option maxRecDepth 100000 in
theorem t_Rec_readValue_123 {p : Program} {l : Launch} {e : Env} {R : Room} {s : State} {m : MethodId} {args : Array Value} {below : List Frame} {meth : Method} {c : Code} {cells slots : Nat} {Q : State → Prop} {dC : Nat → ClassId} {dI : Nat → Nat → Nat} {cI cB cJ cZ : ClassId} {A : Nat → Prop} {ad : Nat → Nat} {NN : Nat} {E : Heap} {tM tC : Nat} {kK kV : Nat → Nat} {post : Int64 → St → Prop} (hx : p.tables.exec = Jvm.exec) (hb : c.code = b_Rec_readValue) (hml : c.maxLocals = 4) (hown : s.vm.findClass R_Rec = some m.cls) (hT : ∀ w ∈ TG, w.before args s = true) (hK : va_K (dC, dI) CL (TY cI cB cJ cZ) s) (hN : NW s) (hA : ∀ q : Nat, s.heap.size ≤ q → A q) (hRc : cells ≤ R.cells) (hRs : slots ≤ R.slots) (hRf : 7 ≤ R.frames) (hRl : 264 ≤ R.locals) (hNN : 152 ≤ NN) (hE : CE E tM tC kK kV A s) (hret : ∀ (r : Int64) (x : St) (H : Heap) (locs : List Loc) (pc : Nat) (ls : Array Slot), decode b_Rec_readValue pc = .ok (.lreturn, 1) → post r x → Wd dC dI cI cB cJ cZ ad stC kcC NN A x H → va_S A s.heap H locs → W p l e R s m args below meth c H locs cells slots Q (F0 m pc ls [.long r]))  : ∀ (o : Nat) (l1 : Int32) (s0 : Int32) (s1 : Nat) (x : St) (H : Heap) (locs : List Loc) (ls : Array Slot), (o < NN ∧ kcC o = 4) → (s1 < NN ∧ kcC s1 = 2) → j_Rec_readValue_123 post o l1 s0 s1 x → Wd dC dI cI cB cJ cZ ad stC kcC NN A x H → va_S A s.heap H locs → lv_has ls 4 [(0, .ref (ad o)), (1, .int l1)] → W p l e R s m args below meth c H locs cells slots Q (F0 m 123 ls [.int s0, .ref (ad s1)]) := by
  intro o l1 s0 s1 x H locs ls fo fs1 hw hW hS hl
  unfold j_Rec_readValue_123 at hw
  have hF := hW.free hS hA
  refine va_callv (va_runV (C := R_Scn) (As := [.int s0]) (rest := []) ⟨hx, hb, hml, hown, hT⟩ (k_Scn_readNumber l dC dI cI cB cJ cZ ad NN E tM tC kK kV hNN H.size s1 s0 x fs1 hw) ⟨callB_of 1 hT (gwt_in w_5_98) rfl rfl rfl (hT _ w_1_4) (hT _ w_5_95) (by decide +kernel) ⟨Nat.le_trans (Nat.le_of_ble_eq_true rfl) hRf, Nat.le_trans (Nat.le_of_ble_eq_true rfl) hRl⟩, hT _ w_5_96, hT _ w_5_97⟩ ⟨PVc.blind, va_recv hK hW.1 (ci := 2) (q0 := s1) rfl (pic_obj fs1.1 fs1.2 (by decide)), PVc.at _ hW hK hN hE hS hF⟩ rfl rfl hl.1 rfl (lv_room (Nat.le_of_ble_eq_true rfl)) d_Rec_readValue_123 ⟨hRc, hRs⟩) hS (fun q _ h => hF q h) hF (fun  x4 t H locs ht hvm hw hB hz1 hk1 hS => ?_)
  have hW := Wd.back hB ht hF
  clear hB ht hF hz1 hk1 hvm
  refine lv_aload_n hx hb d_Rec_readValue_126 rfl (lv_at hl 0 rfl) ?_
  obtain ⟨q5, hq5, hw⟩ := hw
  refine w_getr (q := q5) (k := 13) (t := 4) (C := R_Rec) (T := F_Rec) (N := 15) hx hb hT hown hK hW fo.1 fo.2 (by decide) in_Rec rfl rfl (by decide) rfl fr_Rec_13 w_2_8 d_Rec_readValue_127 hq5 (fun aq5 bq5 => ?_)
  have fq5 : q5 < NN ∧ kcC q5 = 2 := ⟨aq5, bq5⟩
  refine w_getj (k := 6) (t := 2) (C := R_Scn) (T := F_Scn) (N := 8) hx hb hT hown hK hW fq5.1 fq5.2 (by decide) in_Scn rfl rfl (by decide) rfl fr_Scn_6 w_1_101 d_Rec_readValue_130 ?_
  exact hret (fJ x4 q5 6) x4 H locs 133 ls d_Rec_readValue_133 hw hW hS
set_option maxRecDepth 100000 in
set_option maxHeartbeats 4000000 in
set_option maxRecDepth 100000 in
theorem t_Rec_readValue_94 {p : Program} {l : Launch} {e : Env} {R : Room} {s : State} {m : MethodId} {args : Array Value} {below : List Frame} {meth : Method} {c : Code} {cells slots : Nat} {Q : State → Prop} {dC : Nat → ClassId} {dI : Nat → Nat → Nat} {cI cB cJ cZ : ClassId} {A : Nat → Prop} {ad : Nat → Nat} {NN : Nat} {E : Heap} {tM tC : Nat} {kK kV : Nat → Nat} {post : Int64 → St → Prop} (hx : p.tables.exec = Jvm.exec) (hb : c.code = b_Rec_readValue) (hml : c.maxLocals = 4) (hown : s.vm.findClass R_Rec = some m.cls) (hT : ∀ w ∈ TG, w.before args s = true) (hK : va_K (dC, dI) CL (TY cI cB cJ cZ) s) (hN : NW s) (hA : ∀ q : Nat, s.heap.size ≤ q → A q) (hRc : cells ≤ R.cells) (hRs : slots ≤ R.slots) (hRf : 7 ≤ R.frames) (hRl : 264 ≤ R.locals) (hNN : 152 ≤ NN) (hE : CE E tM tC kK kV A s) (hret : ∀ (r : Int64) (x : St) (H : Heap) (locs : List Loc) (pc : Nat) (ls : Array Slot), decode b_Rec_readValue pc = .ok (.lreturn, 1) → post r x → Wd dC dI cI cB cJ cZ ad stC kcC NN A x H → va_S A s.heap H locs → W p l e R s m args below meth c H locs cells slots Q (F0 m pc ls [.long r]))  : ∀ (o : Nat) (l1 : Int32) (x : St) (H : Heap) (locs : List Loc) (ls : Array Slot), (o < NN ∧ kcC o = 4) → j_Rec_readValue_94 post o l1 x → Wd dC dI cI cB cJ cZ ad stC kcC NN A x H → va_S A s.heap H locs → lv_has ls 4 [(0, .ref (ad o)), (1, .int l1)] → W p l e R s m args below meth c H locs cells slots Q (F0 m 94 ls []) := by
  intro o l1 x H locs ls fo hw hW hS hl
  unfold j_Rec_readValue_94 at hw
  refine lv_iload_n hx hb d_Rec_readValue_94 rfl (lv_at hl 1 rfl) ?_
  refine lv_iconst (v := 3) hx hb d_Rec_readValue_95 (by decide) ?_
  refine lv_icmp_eq (tgt := 134) hx hb d_Rec_readValue_96 (by decide) (fun c6 => ?_) (fun c6 => ?_)
  · have hw := hw.1 c6
    exact t_Rec_readValue_134 hx hb hml hown hT hK hN hA hRc hRs hRf hRl hNN hE hret  o l1 x H locs ls fo hw hW hS (lv_sub hl [0, 1] rfl)
  · have hw := hw.2 c6
    refine lv_aload_n hx hb d_Rec_readValue_99 rfl (lv_at hl 0 rfl) ?_
    obtain ⟨q7, hq7, hw⟩ := hw
    refine w_getr (q := q7) (k := 13) (t := 4) (C := R_Rec) (T := F_Rec) (N := 15) hx hb hT hown hK hW fo.1 fo.2 (by decide) in_Rec rfl rfl (by decide) rfl fr_Rec_13 w_2_8 d_Rec_readValue_100 hq7 (fun aq7 bq7 => ?_)
    have fq7 : q7 < NN ∧ kcC q7 = 2 := ⟨aq7, bq7⟩
    have hF := hW.free hS hA
    refine va_calli (va_runV (C := R_Scn) (As := []) (rest := []) ⟨hx, hb, hml, hown, hT⟩ (k_Scn_atNumber l dC dI cI cB cJ cZ ad NN E tM tC kK kV hNN H.size q7 x fq7 hw) ⟨callB_of 0 hT (gwt_in w_5_91) rfl rfl rfl (hT _ w_1_4) (hT _ w_5_88) (by decide +kernel) ⟨Nat.le_trans (Nat.le_of_ble_eq_true rfl) hRf, Nat.le_trans (Nat.le_of_ble_eq_true rfl) hRl⟩, hT _ w_5_89, hT _ w_5_90⟩ ⟨PVc.blind, va_recv hK hW.1 (ci := 2) (q0 := q7) rfl (pic_obj fq7.1 fq7.2 (by decide)), PVc.at _ hW hK hN hE hS hF⟩ rfl rfl hl.1 rfl (lv_room (Nat.le_of_ble_eq_true rfl)) d_Rec_readValue_103 ⟨hRc, hRs⟩) hS (fun q _ h => hF q h) hF (fun r9 x8 t H locs ht hvm hw hB hz1 hk1 hS => ?_)
    have hW := Wd.back hB ht hF
    clear hB ht hF hz1 hk1 hvm
    refine lv_if_eq (tgt := 134) hx hb d_Rec_readValue_106 (by decide) (fun c10 => ?_) (fun c10 => ?_)
    · have hw := hw.1 c10
      exact t_Rec_readValue_134 hx hb hml hown hT hK hN hA hRc hRs hRf hRl hNN hE hret  o l1 x8 H locs ls fo hw hW hS (lv_sub hl [0, 1] rfl)
    · have hw := hw.2 c10
      refine lv_aload_n hx hb d_Rec_readValue_109 rfl (lv_at hl 0 rfl) ?_
      obtain ⟨q11, hq11, hw⟩ := hw
      refine w_getr (q := q11) (k := 13) (t := 4) (C := R_Rec) (T := F_Rec) (N := 15) hx hb hT hown hK hW fo.1 fo.2 (by decide) in_Rec rfl rfl (by decide) rfl fr_Rec_13 w_2_8 d_Rec_readValue_110 hq11 (fun aq11 bq11 => ?_)
      have fq11 : q11 < NN ∧ kcC q11 = 2 := ⟨aq11, bq11⟩
      refine lv_iload_n hx hb d_Rec_readValue_113 rfl (lv_at hl 1 rfl) ?_
      refine lv_iconst (v := 2) hx hb d_Rec_readValue_114 (by decide) ?_
      refine lv_icmp_ne (tgt := 122) hx hb d_Rec_readValue_115 (by decide) (fun c12 => ?_) (fun c12 => ?_)
      · have hw := hw.1 c12
        refine lv_iconst (v := 0) hx hb d_Rec_readValue_122 (by decide) ?_
        exact t_Rec_readValue_123 hx hb hml hown hT hK hN hA hRc hRs hRf hRl hNN hE hret  o l1 0 q11 x8 H locs ls fo fq11 hw hW hS (lv_sub hl [0, 1] rfl)
      · have hw := hw.2 c12
        refine lv_iconst (v := 1) hx hb d_Rec_readValue_118 (by decide) ?_
        refine lv_goto (tgt := 123) hx hb d_Rec_readValue_119 (by decide) ?_
        exact t_Rec_readValue_123 hx hb hml hown hT hK hN hA hRc hRs hRf hRl hNN hE hret  o l1 1 q11 x8 H locs ls fo fq11 hw hW hS (lv_sub hl [0, 1] rfl)
set_option maxRecDepth 100000 in
set_option maxHeartbeats 4000000 in
set_option maxRecDepth 100000 in
theorem t_Rec_readValue_e {p : Program} {l : Launch} {e : Env} {R : Room} {s : State} {m : MethodId} {args : Array Value} {below : List Frame} {meth : Method} {c : Code} {cells slots : Nat} {Q : State → Prop} {dC : Nat → ClassId} {dI : Nat → Nat → Nat} {cI cB cJ cZ : ClassId} {A : Nat → Prop} {ad : Nat → Nat} {NN : Nat} {E : Heap} {tM tC : Nat} {kK kV : Nat → Nat} {post : Int64 → St → Prop} (hx : p.tables.exec = Jvm.exec) (hb : c.code = b_Rec_readValue) (hml : c.maxLocals = 4) (hown : s.vm.findClass R_Rec = some m.cls) (hT : ∀ w ∈ TG, w.before args s = true) (hK : va_K (dC, dI) CL (TY cI cB cJ cZ) s) (hN : NW s) (hA : ∀ q : Nat, s.heap.size ≤ q → A q) (hRc : cells ≤ R.cells) (hRs : slots ≤ R.slots) (hRf : 7 ≤ R.frames) (hRl : 264 ≤ R.locals) (hNN : 152 ≤ NN) (hE : CE E tM tC kK kV A s) (hret : ∀ (r : Int64) (x : St) (H : Heap) (locs : List Loc) (pc : Nat) (ls : Array Slot), decode b_Rec_readValue pc = .ok (.lreturn, 1) → post r x → Wd dC dI cI cB cJ cZ ad stC kcC NN A x H → va_S A s.heap H locs → W p l e R s m args below meth c H locs cells slots Q (F0 m pc ls [.long r])) : ∀ (o : Nat) (l1 : Int32) (x : St) (H : Heap) (locs : List Loc) (ls : Array Slot), (o < NN ∧ kcC o = 4) → wp_Rec_readValue post o l1 x → Wd dC dI cI cB cJ cZ ad stC kcC NN A x H → va_S A s.heap H locs → lv_has ls 4 [(0, .ref (ad o)), (1, .int l1)] → W p l e R s m args below meth c H locs cells slots Q (F0 m 0 ls []) := by
  intro o l1 x H locs ls fo hw hW hS hl
  unfold wp_Rec_readValue at hw
  refine lv_iload_n hx hb d_Rec_readValue_0 rfl (lv_at hl 1 rfl) ?_
  refine lv_if_ne (tgt := 29) hx hb d_Rec_readValue_1 (by decide) (fun c13 => ?_) (fun c13 => ?_)
  · have hw := hw.1 c13
    refine lv_iload_n hx hb d_Rec_readValue_29 rfl (lv_at hl 1 rfl) ?_
    refine lv_iconst (v := 3) hx hb d_Rec_readValue_30 (by decide) ?_
    refine lv_icmp_ne (tgt := 94) hx hb d_Rec_readValue_31 (by decide) (fun c14 => ?_) (fun c14 => ?_)
    · have hw := hw.1 c14
      exact t_Rec_readValue_94 hx hb hml hown hT hK hN hA hRc hRs hRf hRl hNN hE hret  o l1 x H locs ls fo hw hW hS (lv_sub hl [0, 1] rfl)
    · have hw := hw.2 c14
      refine lv_aload_n hx hb d_Rec_readValue_34 rfl (lv_at hl 0 rfl) ?_
      obtain ⟨q15, hq15, hw⟩ := hw
      refine w_getr (q := q15) (k := 13) (t := 4) (C := R_Rec) (T := F_Rec) (N := 15) hx hb hT hown hK hW fo.1 fo.2 (by decide) in_Rec rfl rfl (by decide) rfl fr_Rec_13 w_2_8 d_Rec_readValue_35 hq15 (fun aq15 bq15 => ?_)
      have fq15 : q15 < NN ∧ kcC q15 = 2 := ⟨aq15, bq15⟩
      have hF := hW.free hS hA
      refine va_calli (va_runV (C := R_Scn) (As := []) (rest := []) ⟨hx, hb, hml, hown, hT⟩ (k_Scn_next l dC dI cI cB cJ cZ ad NN E tM tC kK kV hNN H.size q15 x fq15 hw) ⟨callB_of 0 hT (gwt_in w_4_110) rfl rfl rfl (hT _ w_1_4) (hT _ w_5_32) (by decide +kernel) ⟨Nat.le_trans (Nat.le_of_ble_eq_true rfl) hRf, Nat.le_trans (Nat.le_of_ble_eq_true rfl) hRl⟩, hT _ w_4_108, hT _ w_4_109⟩ ⟨PVc.blind, va_recv hK hW.1 (ci := 2) (q0 := q15) rfl (pic_obj fq15.1 fq15.2 (by decide)), PVc.at _ hW hK hN hE hS hF⟩ rfl rfl hl.1 rfl (lv_room (Nat.le_of_ble_eq_true rfl)) d_Rec_readValue_38 ⟨hRc, hRs⟩) hS (fun q _ h => hF q h) hF (fun r17 x16 t H locs ht hvm hw hB hz1 hk1 hS => ?_)
      have hW := Wd.back hB ht hF
      clear hB ht hF hz1 hk1 hvm
      refine lv_bipush (v := 39) hx hb d_Rec_readValue_41 (by decide) ?_
      refine lv_icmp_ne (tgt := 94) hx hb d_Rec_readValue_43 (by decide) (fun c18 => ?_) (fun c18 => ?_)
      · have hw := hw.1 c18
        exact t_Rec_readValue_94 hx hb hml hown hT hK hN hA hRc hRs hRf hRl hNN hE hret  o l1 x16 H locs ls fo hw hW hS (lv_sub hl [0, 1] rfl)
      · have hw := hw.2 c18
        refine lv_aload_n hx hb d_Rec_readValue_46 rfl (lv_at hl 0 rfl) ?_
        obtain ⟨q19, hq19, hw⟩ := hw
        refine w_getr (q := q19) (k := 13) (t := 4) (C := R_Rec) (T := F_Rec) (N := 15) hx hb hT hown hK hW fo.1 fo.2 (by decide) in_Rec rfl rfl (by decide) rfl fr_Rec_13 w_2_8 d_Rec_readValue_47 hq19 (fun aq19 bq19 => ?_)
        have fq19 : q19 < NN ∧ kcC q19 = 2 := ⟨aq19, bq19⟩
        refine lv_aload_n hx hb d_Rec_readValue_50 rfl (lv_at hl 0 rfl) ?_
        refine w_getf (q := (stC o 12)) (k := 12) (t := 4) (C := R_Rec) (T := F_Rec) (N := 15) hx hb hT hown hK hW fo.1 fo.2 (by decide) in_Rec rfl rfl (by decide) rfl fr_Rec_12 w_2_6 d_Rec_readValue_51 rfl ?_
        refine lv_aload_n hx hb d_Rec_readValue_54 rfl (lv_at hl 0 rfl) ?_
        refine w_geti (k := 4) (t := 4) (C := R_Rec) (T := F_Rec) (N := 15) hx hb hT hown hK hW fo.1 fo.2 (by decide) in_Rec rfl rfl (by decide) rfl fr_Rec_4 w_1_233 d_Rec_readValue_55 ?_
        have hF := hW.free hS hA
        refine va_callv (va_runV (C := R_Scn) (As := [.ref (ad (stC o 12)), .int (fI x16 o 4)]) (rest := []) ⟨hx, hb, hml, hown, hT⟩ (k_Scn_readQuoted l dC dI cI cB cJ cZ ad NN E tM tC kK kV hNN H.size q19 (stC o 12) (fI x16 o 4) x16 fq19 (st_ty hNN fo.1 fo.2 rfl) hw) ⟨callB_of 2 hT (gwt_in w_5_71) rfl rfl rfl (hT _ w_1_4) (hT _ w_5_68) (by decide +kernel) ⟨Nat.le_trans (Nat.le_of_ble_eq_true rfl) hRf, Nat.le_trans (Nat.le_of_ble_eq_true rfl) hRl⟩, hT _ w_5_69, hT _ w_5_70⟩ ⟨PVc.blind, va_recv hK hW.1 (ci := 2) (q0 := q19) rfl (pic_obj fq19.1 fq19.2 (by decide)), PVc.at _ hW hK hN hE hS hF⟩ rfl rfl hl.1 rfl (lv_room (Nat.le_of_ble_eq_true rfl)) d_Rec_readValue_58 ⟨hRc, hRs⟩) hS (fun q _ h => hF q h) hF (fun  x20 t H locs ht hvm hw hB hz1 hk1 hS => ?_)
        have hW := Wd.back hB ht hF
        clear hB ht hF hz1 hk1 hvm
        refine lv_aload_n hx hb d_Rec_readValue_61 rfl (lv_at hl 0 rfl) ?_
        refine w_geti (k := 4) (t := 4) (C := R_Rec) (T := F_Rec) (N := 15) hx hb hT hown hK hW fo.1 fo.2 (by decide) in_Rec rfl rfl (by decide) rfl fr_Rec_4 w_1_233 d_Rec_readValue_62 ?_
        refine lv_aload_n hx hb d_Rec_readValue_65 rfl (lv_at hl 0 rfl) ?_
        obtain ⟨q21, hq21, hw⟩ := hw
        refine w_getr (q := q21) (k := 13) (t := 4) (C := R_Rec) (T := F_Rec) (N := 15) hx hb hT hown hK hW fo.1 fo.2 (by decide) in_Rec rfl rfl (by decide) rfl fr_Rec_13 w_2_8 d_Rec_readValue_66 hq21 (fun aq21 bq21 => ?_)
        have fq21 : q21 < NN ∧ kcC q21 = 2 := ⟨aq21, bq21⟩
        refine w_geti (k := 7) (t := 2) (C := R_Scn) (T := F_Scn) (N := 8) hx hb hT hown hK hW fq21.1 fq21.2 (by decide) in_Scn rfl rfl (by decide) rfl fr_Scn_7 w_1_104 d_Rec_readValue_69 ?_
        have hF := hW.free hS hA
        refine va_calll (va_runSN (As := [.int (fI x20 o 4), .int (fI x20 q21 7)]) (rest := []) ⟨hx, hb, hml, hown, hT⟩ (k_V_reference l dC dI cI cB cJ cZ ad NN E tM tC kK kV hNN H.size (fI x20 o 4) (fI x20 q21 7) x20  hw) ⟨va_cnB 2 hT (gwt_in w_5_86) rfl rfl rfl (hN _ wn_5_84 rfl) (hT _ w_1_1) (by decide +kernel) ⟨Nat.le_trans (Nat.le_of_ble_eq_true rfl) hRf, Nat.le_trans (Nat.le_of_ble_eq_true rfl) hRl⟩, hT _ w_5_85, trivial⟩ ⟨PVc.blind, PVc.at _ hW hK hN hE hS hF⟩ rfl rfl hl.1 rfl (lv_room (Nat.le_of_ble_eq_true rfl)) d_Rec_readValue_72 ⟨hRc, hRs⟩) hS (fun q _ h => hF q h) hF (fun r23 x22 t H locs ht hvm hw hB hz1 hk1 hS => ?_)
        have hW := Wd.back hB ht hF
        clear hB ht hF hz1 hk1 hvm
        refine lv_lstore_n (lv' := [(2, .long r23), (0, .ref (ad o)), (1, .int l1)]) hx hb d_Rec_readValue_75 rfl hl (by decide) rfl (fun ls hl => ?_)
        refine lv_aload_n hx hb d_Rec_readValue_76 rfl (lv_at hl 1 rfl) ?_
        refine lv_dup hx hb d_Rec_readValue_77 rfl ?_
        refine w_geti (k := 4) (t := 4) (C := R_Rec) (T := F_Rec) (N := 15) hx hb hT hown hK hW fo.1 fo.2 (by decide) in_Rec rfl rfl (by decide) rfl fr_Rec_4 w_1_233 d_Rec_readValue_78 ?_
        refine lv_aload_n hx hb d_Rec_readValue_81 rfl (lv_at hl 1 rfl) ?_
        obtain ⟨q24, hq24, hw⟩ := hw
        refine w_getr (q := q24) (k := 13) (t := 4) (C := R_Rec) (T := F_Rec) (N := 15) hx hb hT hown hK hW fo.1 fo.2 (by decide) in_Rec rfl rfl (by decide) rfl fr_Rec_13 w_2_8 d_Rec_readValue_82 hq24 (fun aq24 bq24 => ?_)
        have fq24 : q24 < NN ∧ kcC q24 = 2 := ⟨aq24, bq24⟩
        refine w_geti (k := 7) (t := 2) (C := R_Scn) (T := F_Scn) (N := 8) hx hb hT hown hK hW fq24.1 fq24.2 (by decide) in_Scn rfl rfl (by decide) rfl fr_Scn_7 w_1_104 d_Rec_readValue_85 ?_
        refine lv_iadd hx hb d_Rec_readValue_88 ?_
        refine w_puti (ty := .int) (k := 4) (t := 4) (C := R_Rec) (T := F_Rec) (N := 15) hx hb hT hown hK hW hS fo.1 fo.2 (by decide) in_Rec t_Rec t_Rec_ok n_Rec rfl rfl (by decide) rfl fr_Rec_4 w_1_233 (by decide +kernel) rfl rfl d_Rec_readValue_89 (fun H locs hW hS => ?_)
        obtain ⟨x25, ex25⟩ : ∃ y : St, y = setI x22 o 4 ((fI x22 o 4) + (fI x22 q24 7)) := ⟨_, rfl⟩
        rw [← ex25] at hW
        have hw := hw x25 ex25
        refine lv_lload_n hx hb d_Rec_readValue_92 rfl (lv_at hl 0 rfl) ?_
        exact hret r23 x25 H locs 93 ls d_Rec_readValue_93 hw hW hS
  · have hw := hw.2 c13
    refine lv_aload_n hx hb d_Rec_readValue_4 rfl (lv_at hl 0 rfl) ?_
    obtain ⟨q26, hq26, hw⟩ := hw
    refine w_getr (q := q26) (k := 13) (t := 4) (C := R_Rec) (T := F_Rec) (N := 15) hx hb hT hown hK hW fo.1 fo.2 (by decide) in_Rec rfl rfl (by decide) rfl fr_Rec_13 w_2_8 d_Rec_readValue_5 hq26 (fun aq26 bq26 => ?_)
    have fq26 : q26 < NN ∧ kcC q26 = 2 := ⟨aq26, bq26⟩
    refine va_ldcS hx hb hown (hE.str 8 (by decide)) d_Rec_readValue_8 ?_
    have hF := hW.free hS hA
    refine va_calli (va_runV (C := R_Scn) (As := [.ref (kK 8)]) (rest := []) ⟨hx, hb, hml, hown, hT⟩ (k_Scn_takeWord l dC dI cI cB cJ cZ ad NN E tM tC kK kV hNN H.size q26 8 x fq26 (by decide) hw) ⟨callB_of 1 hT (gwt_in w_4_141) rfl rfl rfl (hT _ w_1_4) (hT _ w_5_65) (by decide +kernel) ⟨Nat.le_trans (Nat.le_of_ble_eq_true rfl) hRf, Nat.le_trans (Nat.le_of_ble_eq_true rfl) hRl⟩, hT _ w_4_139, hT _ w_4_140⟩ ⟨PVc.blind, va_recv hK hW.1 (ci := 2) (q0 := q26) rfl (pic_obj fq26.1 fq26.2 (by decide)), PVc.at _ hW hK hN hE hS hF⟩ rfl rfl hl.1 rfl (lv_room (Nat.le_of_ble_eq_true rfl)) d_Rec_readValue_10 ⟨hRc, hRs⟩) hS (fun q _ h => hF q h) hF (fun r28 x27 t H locs ht hvm hw hB hz1 hk1 hS => ?_)
    have hW := Wd.back hB ht hF
    clear hB ht hF hz1 hk1 hvm
    refine lv_if_eq (tgt := 18) hx hb d_Rec_readValue_13 (by decide) (fun c29 => ?_) (fun c29 => ?_)
    · have hw := hw.1 c29
      refine lv_aload_n hx hb d_Rec_readValue_18 rfl (lv_at hl 0 rfl) ?_
      obtain ⟨q30, hq30, hw⟩ := hw
      refine w_getr (q := q30) (k := 13) (t := 4) (C := R_Rec) (T := F_Rec) (N := 15) hx hb hT hown hK hW fo.1 fo.2 (by decide) in_Rec rfl rfl (by decide) rfl fr_Rec_13 w_2_8 d_Rec_readValue_19 hq30 (fun aq30 bq30 => ?_)
      have fq30 : q30 < NN ∧ kcC q30 = 2 := ⟨aq30, bq30⟩
      refine va_ldcS hx hb hown (hE.str 9 (by decide)) d_Rec_readValue_22 ?_
      have hF := hW.free hS hA
      refine va_callv (va_runV (C := R_Scn) (As := [.ref (kK 9)]) (rest := []) ⟨hx, hb, hml, hown, hT⟩ (k_Scn_needWord l dC dI cI cB cJ cZ ad NN E tM tC kK kV hNN H.size q30 9 x27 fq30 (by decide) hw) ⟨callB_of 1 hT (gwt_in w_4_209) rfl rfl rfl (hT _ w_1_4) (hT _ w_5_67) (by decide +kernel) ⟨Nat.le_trans (Nat.le_of_ble_eq_true rfl) hRf, Nat.le_trans (Nat.le_of_ble_eq_true rfl) hRl⟩, hT _ w_4_207, hT _ w_4_208⟩ ⟨PVc.blind, va_recv hK hW.1 (ci := 2) (q0 := q30) rfl (pic_obj fq30.1 fq30.2 (by decide)), PVc.at _ hW hK hN hE hS hF⟩ rfl rfl hl.1 rfl (lv_room (Nat.le_of_ble_eq_true rfl)) d_Rec_readValue_24 ⟨hRc, hRs⟩) hS (fun q _ h => hF q h) hF (fun  x31 t H locs ht hvm hw hB hz1 hk1 hS => ?_)
      have hW := Wd.back hB ht hF
      clear hB ht hF hz1 hk1 hvm
      refine lv_lconst (v := 0) hx hb d_Rec_readValue_27 (by decide) ?_
      exact hret 0 x31 H locs 28 ls d_Rec_readValue_28 hw hW hS
    · have hw := hw.2 c29
      refine lv_lconst (v := 1) hx hb d_Rec_readValue_16 (by decide) ?_
      exact hret 1 x27 H locs 17 ls d_Rec_readValue_17 hw hW hS
set_option maxHeartbeats 4000000 in
set_option maxRecDepth 100000 in
theorem k_Rec_readValue (l : Launch) (dC : Nat → ClassId) (dI : Nat → Nat → Nat) (cI cB cJ cZ : ClassId) (ad : Nat → Nat) (NN : Nat) (E : Heap) (tM tC : Nat) (kK kV : Nat → Nat) (hNN : 152 ≤ NN) (sz : Nat) (o : Nat) (l1 : Int32) (x : St) (fo : o < NN ∧ kcC o = 4) {post : Int64 → St → Prop} (hw : wp_Rec_readValue post o l1 x) : Met l y_Rec_readValue (wsOf y_Rec_readValue b_Rec_readValue 4 (some (.long))) ({ frames := 7, cells := 0, slots := 0, locals := 264 }) (va_Pc [.ref (ad o), .int l1] (PVc dC dI cI cB cJ cZ ad stC kcC NN E tM tC kK kV sz x)) (va_Ql (fun (r : Int64) (y : St) => post r y) (fun y t => Wd dC dI cI cB cJ cZ ad stC kcC NN (va_A (pic ad stC kcC NN cI cB cJ cZ x) sz) y t.heap) (va_A (pic ad stC kcC NN cI cB cJ cZ x) sz)) 0 0 (va_A (pic ad stC kcC NN cI cB cJ cZ x) sz) := by
  refine Met.ofW (cc := b_Rec_readValue) (maxL := 4) (ret := some (.long)) (by decide) rfl ?_
  intro p e s m args below meth c s₁ B hml hv
  obtain ⟨rfl, ⟨hsz, hW0, hK, hN⟩, hE⟩ := hv
  have hx := B.exec
  have hb := B.bytes
  have hr := B.returns
  have hts := atoms_spec B.pre
  have hT : ∀ w ∈ TG, w.before _ s = true := fun w h => hts w (List.mem_cons_of_mem _ h)
  have hown : s.vm.findClass R_Rec = some m.cls := findClass_of_methodNamed B.named
  have hlocks := B.notSynchronized
  subst hsz
  have hW : Wd dC dI cI cB cJ cZ ad stC kcC NN (va_A (pic ad stC kcC NN cI cB cJ cZ x) s.heap.size) x s.heap := ⟨hW0.1, hW0.2.1.self (sz := s.heap.size), hW0.2.2⟩
  generalize hAe : va_A (pic ad stC kcC NN cI cB cJ cZ x) s.heap.size = A at hW hE ⊢
  have hA : ∀ q : Nat, s.heap.size ≤ q → A q := fun q h => by rw [← hAe]; exact Or.inr h
  have hS : va_S A s.heap s.heap [] := va_S.rf
  have hl := lv_entry ([.ref (ad o), .int l1]) (n := 4) (Nat.le_of_ble_eq_true rfl)
  rw [lg_entry_eq]
  generalize (lg_sl ([.ref (ad o), .int l1]) ++ List.replicate (4 - (lg_sl ([.ref (ad o), .int l1])).length) Slot.unset).toArray = ls at hl ⊢
  have hl : lv_has ls 4 [(0, .ref (ad o)), (1, .int l1)] := hl
  exact t_Rec_readValue_e hx hb hml hown hT hK hN hA (Nat.le_refl 0) (Nat.le_refl 0) (Nat.le_refl 7) (Nat.le_refl 264) hNN hE (fun r x H locs pc ls hd hp hW hS => W.lret (v := r) hx hb hr (fun t ht hM => ⟨⟨r, x, rfl, hp, Wd.back hW ht.symm (fun _ z => z)⟩, hS.F ht⟩) hS.2.2 hd hlocks)  o l1 x _ _ ls fo hw hW hS hl
set_option maxRecDepth 100000 in
set_option maxHeartbeats 4000000 in
set_option maxRecDepth 100000 in
theorem t_Rec_readGroup_234 {p : Program} {l : Launch} {e : Env} {R : Room} {s : State} {m : MethodId} {args : Array Value} {below : List Frame} {meth : Method} {c : Code} {cells slots : Nat} {Q : State → Prop} {dC : Nat → ClassId} {dI : Nat → Nat → Nat} {cI cB cJ cZ : ClassId} {A : Nat → Prop} {ad : Nat → Nat} {NN : Nat} {E : Heap} {tM tC : Nat} {kK kV : Nat → Nat} {post : St → Prop} {self_Rec_readGroup : (St → Prop) → Nat → Int32 → Int32 → Int32 → St → Prop} {self_Rec_readOne : (St → Prop) → Nat → Int32 → Int32 → Int32 → St → Prop} {self_Rec_readValues : (St → Prop) → Nat → Int32 → Int32 → Int32 → St → Prop} {fd ld : Nat} (hx : p.tables.exec = Jvm.exec) (hb : c.code = b_Rec_readGroup) (hml : c.maxLocals = 9) (hown : s.vm.findClass R_Rec = some m.cls) (hT : ∀ w ∈ TG, w.before args s = true) (hK : va_K (dC, dI) CL (TY cI cB cJ cZ) s) (hN : NW s) (hA : ∀ q : Nat, s.heap.size ≤ q → A q) (hRc : cells ≤ R.cells) (hRs : slots ≤ R.slots) (hRf : 8 ≤ R.frames) (hRl : 287 ≤ R.locals) (hNN : 152 ≤ NN) (hE : CE E tM tC kK kV A s) (hret : ∀ (x : St) (H : Heap) (locs : List Loc) (pc : Nat) (ls : Array Slot), decode b_Rec_readGroup pc = .ok (.return_, 1) → post x → Wd dC dI cI cB cJ cZ ad stC kcC NN A x H → va_S A s.heap H locs → W p l e R s m args below meth c H locs cells slots Q (F0 m pc ls [])) (hs_Rec_readGroup : ∀ (sz : Nat) (o : Nat) (l1 : Int32) (l2 : Int32) (l3 : Int32) (x : St), (o < NN ∧ kcC o = 4) → ∀ (post : St → Prop), self_Rec_readGroup post o l1 l2 l3 x → Met l y_Rec_readGroup (wsOf y_Rec_readGroup b_Rec_readGroup 9 (none)) ({ frames := fd, cells := 0, slots := 0, locals := ld }) (va_Pc [.ref (ad o), .int l1, .int l2, .int l3] (PVc dC dI cI cB cJ cZ ad stC kcC NN E tM tC kK kV sz x)) (va_Qv (fun (y : St) => post y) (fun y t => Wd dC dI cI cB cJ cZ ad stC kcC NN (va_A (pic ad stC kcC NN cI cB cJ cZ x) sz) y t.heap) (va_A (pic ad stC kcC NN cI cB cJ cZ x) sz)) 0 0 (va_A (pic ad stC kcC NN cI cB cJ cZ x) sz)) (hs_Rec_readOne : ∀ (sz : Nat) (o : Nat) (l1 : Int32) (l2 : Int32) (l3 : Int32) (x : St), (o < NN ∧ kcC o = 4) → ∀ (post : St → Prop), self_Rec_readOne post o l1 l2 l3 x → Met l y_Rec_readOne (wsOf y_Rec_readOne b_Rec_readOne 6 (none)) ({ frames := fd, cells := 0, slots := 0, locals := ld }) (va_Pc [.ref (ad o), .int l1, .int l2, .int l3] (PVc dC dI cI cB cJ cZ ad stC kcC NN E tM tC kK kV sz x)) (va_Qv (fun (y : St) => post y) (fun y t => Wd dC dI cI cB cJ cZ ad stC kcC NN (va_A (pic ad stC kcC NN cI cB cJ cZ x) sz) y t.heap) (va_A (pic ad stC kcC NN cI cB cJ cZ x) sz)) 0 0 (va_A (pic ad stC kcC NN cI cB cJ cZ x) sz)) (hs_Rec_readValues : ∀ (sz : Nat) (o : Nat) (l1 : Int32) (l2 : Int32) (l3 : Int32) (x : St), (o < NN ∧ kcC o = 4) → ∀ (post : St → Prop), self_Rec_readValues post o l1 l2 l3 x → Met l y_Rec_readValues (wsOf y_Rec_readValues b_Rec_readValues 7 (none)) ({ frames := fd, cells := 0, slots := 0, locals := ld }) (va_Pc [.ref (ad o), .int l1, .int l2, .int l3] (PVc dC dI cI cB cJ cZ ad stC kcC NN E tM tC kK kV sz x)) (va_Qv (fun (y : St) => post y) (fun y t => Wd dC dI cI cB cJ cZ ad stC kcC NN (va_A (pic ad stC kcC NN cI cB cJ cZ x) sz) y t.heap) (va_A (pic ad stC kcC NN cI cB cJ cZ x) sz)) 0 0 (va_A (pic ad stC kcC NN cI cB cJ cZ x) sz)) (hDf : fd + 1 ≤ R.frames) (hDl : 28 + ld ≤ R.locals)  : ∀ (o : Nat) (l1 : Int32) (l2 : Int32) (l3 : Int32) (l4 : Int32) (l5 : Int32) (l6 : Int32) (l7 : Int32) (x : St) (H : Heap) (locs : List Loc) (ls : Array Slot), (o < NN ∧ kcC o = 4) → j_Rec_readGroup_234 post self_Rec_readGroup self_Rec_readOne self_Rec_readValues o l1 l2 l3 l4 l5 l6 l7 x → Wd dC dI cI cB cJ cZ ad stC kcC NN A x H → va_S A s.heap H locs → lv_has ls 9 [(0, .ref (ad o)), (1, .int l1), (2, .int l2), (3, .int l3), (4, .int l4), (5, .int l5), (6, .int l6), (7, .int l7)] → W p l e R s m args below meth c H locs cells slots Q (F0 m 234 ls []) := by
  intro o l1 l2 l3 l4 l5 l6 l7 x H locs ls fo hw hW hS hl
  unfold j_Rec_readGroup_234 at hw
  refine lv_aload_n hx hb d_Rec_readGroup_234 rfl (lv_at hl 0 rfl) ?_
  obtain ⟨q1, hq1, hw⟩ := hw
  refine w_getr (q := q1) (k := 13) (t := 4) (C := R_Rec) (T := F_Rec) (N := 15) hx hb hT hown hK hW fo.1 fo.2 (by decide) in_Rec rfl rfl (by decide) rfl fr_Rec_13 w_2_8 d_Rec_readGroup_235 hq1 (fun aq1 bq1 => ?_)
  have fq1 : q1 < NN ∧ kcC q1 = 2 := ⟨aq1, bq1⟩
  refine lv_bipush (v := 125) hx hb d_Rec_readGroup_238 (by decide) ?_
  have hF := hW.free hS hA
  refine va_callv (va_runV (C := R_Scn) (As := [.int 125]) (rest := []) ⟨hx, hb, hml, hown, hT⟩ (k_Scn_needSign l dC dI cI cB cJ cZ ad NN E tM tC kK kV hNN H.size q1 125 x fq1 hw) ⟨callB_of 1 hT (gwt_in w_4_118) rfl rfl rfl (hT _ w_1_4) (hT _ w_5_28) (by decide +kernel) ⟨Nat.le_trans (Nat.le_of_ble_eq_true rfl) hRf, Nat.le_trans (Nat.le_of_ble_eq_true rfl) hRl⟩, hT _ w_4_116, hT _ w_4_117⟩ ⟨PVc.blind, va_recv hK hW.1 (ci := 2) (q0 := q1) rfl (pic_obj fq1.1 fq1.2 (by decide)), PVc.at _ hW hK hN hE hS hF⟩ rfl rfl hl.1 rfl (lv_room (Nat.le_of_ble_eq_true rfl)) d_Rec_readGroup_240 ⟨hRc, hRs⟩) hS (fun q _ h => hF q h) hF (fun  x2 t H locs ht hvm hw hB hz1 hk1 hS => ?_)
  have hW := Wd.back hB ht hF
  clear hB ht hF hz1 hk1 hvm
  refine lv_aload_n hx hb d_Rec_readGroup_243 rfl (lv_at hl 0 rfl) ?_
  obtain ⟨q3, hq3, hw⟩ := hw
  refine w_getr (q := q3) (k := 13) (t := 4) (C := R_Rec) (T := F_Rec) (N := 15) hx hb hT hown hK hW fo.1 fo.2 (by decide) in_Rec rfl rfl (by decide) rfl fr_Rec_13 w_2_8 d_Rec_readGroup_244 hq3 (fun aq3 bq3 => ?_)
  have fq3 : q3 < NN ∧ kcC q3 = 2 := ⟨aq3, bq3⟩
  have hF := hW.free hS hA
  refine va_calli (va_runV (C := R_Scn) (As := []) (rest := []) ⟨hx, hb, hml, hown, hT⟩ (k_Scn_good l dC dI cI cB cJ cZ ad NN E tM tC kK kV hNN H.size q3 x2 fq3 hw) ⟨callB_of 0 hT (gwt_in w_4_106) rfl rfl rfl (hT _ w_1_4) (hT _ w_5_31) (by decide +kernel) ⟨Nat.le_trans (Nat.le_of_ble_eq_true rfl) hRf, Nat.le_trans (Nat.le_of_ble_eq_true rfl) hRl⟩, hT _ w_4_104, hT _ w_4_105⟩ ⟨PVc.blind, va_recv hK hW.1 (ci := 2) (q0 := q3) rfl (pic_obj fq3.1 fq3.2 (by decide)), PVc.at _ hW hK hN hE hS hF⟩ rfl rfl hl.1 rfl (lv_room (Nat.le_of_ble_eq_true rfl)) d_Rec_readGroup_247 ⟨hRc, hRs⟩) hS (fun q _ h => hF q h) hF (fun r5 x4 t H locs ht hvm hw hB hz1 hk1 hS => ?_)
  have hW := Wd.back hB ht hF
  clear hB ht hF hz1 hk1 hvm
  refine lv_if_eq (tgt := 263) hx hb d_Rec_readGroup_250 (by decide) (fun c6 => ?_) (fun c6 => ?_)
  · have hw := hw.1 c6
    exact hret x4 H locs 263 ls d_Rec_readGroup_263 hw hW hS
  · have hw := hw.2 c6
    refine lv_aload_n hx hb d_Rec_readGroup_253 rfl (lv_at hl 0 rfl) ?_
    refine lv_iload hx hb d_Rec_readGroup_254 (lv_at hl 4 rfl) ?_
    refine lv_iload hx hb d_Rec_readGroup_256 (lv_at hl 5 rfl) ?_
    refine lv_iload_n hx hb d_Rec_readGroup_258 rfl (lv_at hl 2 rfl) ?_
    refine lv_iload_n hx hb d_Rec_readGroup_259 rfl (lv_at hl 1 rfl) ?_
    have hF := hW.free hS hA
    refine va_callv (va_runV (C := R_Rec) (As := [.int l4, .int l5, .int l2, .int l1]) (rest := []) ⟨hx, hb, hml, hown, hT⟩ (k_Rec_enterMissing l dC dI cI cB cJ cZ ad NN E tM tC kK kV hNN H.size o l4 l5 l2 l1 x4 fo hw) ⟨callB_of 4 hT (gwt_in w_5_42) rfl rfl rfl (hT _ w_1_6) (hT _ w_5_39) (by decide +kernel) ⟨Nat.le_trans (Nat.le_of_ble_eq_true rfl) hRf, Nat.le_trans (Nat.le_of_ble_eq_true rfl) hRl⟩, hT _ w_5_41, hT _ ws_8⟩ ⟨PVc.blind, va_recv hK hW.1 (ci := 4) (q0 := o) rfl (pic_obj fo.1 fo.2 (by decide)), PVc.at _ hW hK hN hE hS hF⟩ rfl rfl hl.1 rfl (lv_room (Nat.le_of_ble_eq_true rfl)) d_Rec_readGroup_260 ⟨hRc, hRs⟩) hS (fun q _ h => hF q h) hF (fun  x7 t H locs ht hvm hw hB hz1 hk1 hS => ?_)
    have hW := Wd.back hB ht hF
    clear hB ht hF hz1 hk1 hvm
    exact hret x7 H locs 263 ls d_Rec_readGroup_263 hw hW hS
set_option maxRecDepth 100000 in
set_option maxHeartbeats 4000000 in
set_option maxRecDepth 100000 in
theorem t_Rec_readGroup_190 {p : Program} {l : Launch} {e : Env} {R : Room} {s : State} {m : MethodId} {args : Array Value} {below : List Frame} {meth : Method} {c : Code} {cells slots : Nat} {Q : State → Prop} {dC : Nat → ClassId} {dI : Nat → Nat → Nat} {cI cB cJ cZ : ClassId} {A : Nat → Prop} {ad : Nat → Nat} {NN : Nat} {E : Heap} {tM tC : Nat} {kK kV : Nat → Nat} {post : St → Prop} {self_Rec_readGroup : (St → Prop) → Nat → Int32 → Int32 → Int32 → St → Prop} {self_Rec_readOne : (St → Prop) → Nat → Int32 → Int32 → Int32 → St → Prop} {self_Rec_readValues : (St → Prop) → Nat → Int32 → Int32 → Int32 → St → Prop} {fd ld : Nat} (hx : p.tables.exec = Jvm.exec) (hb : c.code = b_Rec_readGroup) (hml : c.maxLocals = 9) (hown : s.vm.findClass R_Rec = some m.cls) (hT : ∀ w ∈ TG, w.before args s = true) (hK : va_K (dC, dI) CL (TY cI cB cJ cZ) s) (hN : NW s) (hA : ∀ q : Nat, s.heap.size ≤ q → A q) (hRc : cells ≤ R.cells) (hRs : slots ≤ R.slots) (hRf : 8 ≤ R.frames) (hRl : 287 ≤ R.locals) (hNN : 152 ≤ NN) (hE : CE E tM tC kK kV A s) (hret : ∀ (x : St) (H : Heap) (locs : List Loc) (pc : Nat) (ls : Array Slot), decode b_Rec_readGroup pc = .ok (.return_, 1) → post x → Wd dC dI cI cB cJ cZ ad stC kcC NN A x H → va_S A s.heap H locs → W p l e R s m args below meth c H locs cells slots Q (F0 m pc ls [])) (hs_Rec_readGroup : ∀ (sz : Nat) (o : Nat) (l1 : Int32) (l2 : Int32) (l3 : Int32) (x : St), (o < NN ∧ kcC o = 4) → ∀ (post : St → Prop), self_Rec_readGroup post o l1 l2 l3 x → Met l y_Rec_readGroup (wsOf y_Rec_readGroup b_Rec_readGroup 9 (none)) ({ frames := fd, cells := 0, slots := 0, locals := ld }) (va_Pc [.ref (ad o), .int l1, .int l2, .int l3] (PVc dC dI cI cB cJ cZ ad stC kcC NN E tM tC kK kV sz x)) (va_Qv (fun (y : St) => post y) (fun y t => Wd dC dI cI cB cJ cZ ad stC kcC NN (va_A (pic ad stC kcC NN cI cB cJ cZ x) sz) y t.heap) (va_A (pic ad stC kcC NN cI cB cJ cZ x) sz)) 0 0 (va_A (pic ad stC kcC NN cI cB cJ cZ x) sz)) (hs_Rec_readOne : ∀ (sz : Nat) (o : Nat) (l1 : Int32) (l2 : Int32) (l3 : Int32) (x : St), (o < NN ∧ kcC o = 4) → ∀ (post : St → Prop), self_Rec_readOne post o l1 l2 l3 x → Met l y_Rec_readOne (wsOf y_Rec_readOne b_Rec_readOne 6 (none)) ({ frames := fd, cells := 0, slots := 0, locals := ld }) (va_Pc [.ref (ad o), .int l1, .int l2, .int l3] (PVc dC dI cI cB cJ cZ ad stC kcC NN E tM tC kK kV sz x)) (va_Qv (fun (y : St) => post y) (fun y t => Wd dC dI cI cB cJ cZ ad stC kcC NN (va_A (pic ad stC kcC NN cI cB cJ cZ x) sz) y t.heap) (va_A (pic ad stC kcC NN cI cB cJ cZ x) sz)) 0 0 (va_A (pic ad stC kcC NN cI cB cJ cZ x) sz)) (hs_Rec_readValues : ∀ (sz : Nat) (o : Nat) (l1 : Int32) (l2 : Int32) (l3 : Int32) (x : St), (o < NN ∧ kcC o = 4) → ∀ (post : St → Prop), self_Rec_readValues post o l1 l2 l3 x → Met l y_Rec_readValues (wsOf y_Rec_readValues b_Rec_readValues 7 (none)) ({ frames := fd, cells := 0, slots := 0, locals := ld }) (va_Pc [.ref (ad o), .int l1, .int l2, .int l3] (PVc dC dI cI cB cJ cZ ad stC kcC NN E tM tC kK kV sz x)) (va_Qv (fun (y : St) => post y) (fun y t => Wd dC dI cI cB cJ cZ ad stC kcC NN (va_A (pic ad stC kcC NN cI cB cJ cZ x) sz) y t.heap) (va_A (pic ad stC kcC NN cI cB cJ cZ x) sz)) 0 0 (va_A (pic ad stC kcC NN cI cB cJ cZ x) sz)) (hDf : fd + 1 ≤ R.frames) (hDl : 28 + ld ≤ R.locals)  : ∀ (o : Nat) (l1 : Int32) (l2 : Int32) (l3 : Int32) (l4 : Int32) (l5 : Int32) (l6 : Int32) (l7 : Int32) (x : St) (H : Heap) (locs : List Loc) (ls : Array Slot), (o < NN ∧ kcC o = 4) → j_Rec_readGroup_190 post self_Rec_readGroup self_Rec_readOne self_Rec_readValues o l1 l2 l3 l4 l5 l6 l7 x → Wd dC dI cI cB cJ cZ ad stC kcC NN A x H → va_S A s.heap H locs → lv_has ls 9 [(0, .ref (ad o)), (1, .int l1), (2, .int l2), (3, .int l3), (4, .int l4), (5, .int l5), (6, .int l6), (7, .int l7)] → W p l e R s m args below meth c H locs cells slots Q (F0 m 190 ls []) := by
  intro o l1 l2 l3 l4 l5 l6 l7 x H locs ls fo hw hW hS hl
  unfold j_Rec_readGroup_190 at hw
  refine lv_aload_n hx hb d_Rec_readGroup_190 rfl (lv_at hl 0 rfl) ?_
  obtain ⟨q8, hq8, hw⟩ := hw
  refine w_getr (q := q8) (k := 13) (t := 4) (C := R_Rec) (T := F_Rec) (N := 15) hx hb hT hown hK hW fo.1 fo.2 (by decide) in_Rec rfl rfl (by decide) rfl fr_Rec_13 w_2_8 d_Rec_readGroup_191 hq8 (fun aq8 bq8 => ?_)
  have fq8 : q8 < NN ∧ kcC q8 = 2 := ⟨aq8, bq8⟩
  have hF := hW.free hS hA
  refine va_calli (va_runV (C := R_Scn) (As := []) (rest := []) ⟨hx, hb, hml, hown, hT⟩ (k_Scn_good l dC dI cI cB cJ cZ ad NN E tM tC kK kV hNN H.size q8 x fq8 hw) ⟨callB_of 0 hT (gwt_in w_4_106) rfl rfl rfl (hT _ w_1_4) (hT _ w_5_31) (by decide +kernel) ⟨Nat.le_trans (Nat.le_of_ble_eq_true rfl) hRf, Nat.le_trans (Nat.le_of_ble_eq_true rfl) hRl⟩, hT _ w_4_104, hT _ w_4_105⟩ ⟨PVc.blind, va_recv hK hW.1 (ci := 2) (q0 := q8) rfl (pic_obj fq8.1 fq8.2 (by decide)), PVc.at _ hW hK hN hE hS hF⟩ rfl rfl hl.1 rfl (lv_room (Nat.le_of_ble_eq_true rfl)) d_Rec_readGroup_194 ⟨hRc, hRs⟩) hS (fun q _ h => hF q h) hF (fun r10 x9 t H locs ht hvm hw hB hz1 hk1 hS => ?_)
  have hW := Wd.back hB ht hF
  clear hB ht hF hz1 hk1 hvm
  refine lv_if_eq (tgt := 234) hx hb d_Rec_readGroup_197 (by decide) (fun c11 => ?_) (fun c11 => ?_)
  · have hw := hw.1 c11
    exact t_Rec_readGroup_234 hx hb hml hown hT hK hN hA hRc hRs hRf hRl hNN hE hret hs_Rec_readGroup hs_Rec_readOne hs_Rec_readValues hDf hDl  o l1 l2 l3 l4 l5 l6 l7 x9 H locs ls fo hw hW hS (lv_sub hl [0, 1, 2, 3, 4, 5, 6, 7] rfl)
  · have hw := hw.2 c11
    refine lv_aload_n hx hb d_Rec_readGroup_200 rfl (lv_at hl 0 rfl) ?_
    refine lv_iload hx hb d_Rec_readGroup_201 (lv_at hl 4 rfl) ?_
    refine lv_iload hx hb d_Rec_readGroup_203 (lv_at hl 5 rfl) ?_
    refine lv_iload_n hx hb d_Rec_readGroup_205 rfl (lv_at hl 1 rfl) ?_
    have hF := hW.free hS hA
    refine va_calli (va_runV (C := R_Rec) (As := [.int l4, .int l5, .int l1]) (rest := []) ⟨hx, hb, hml, hown, hT⟩ (k_Rec_someRequired l dC dI cI cB cJ cZ ad NN E tM tC kK kV hNN H.size o l4 l5 l1 x9 fo hw) ⟨callB_of 3 hT (gwt_in w_5_109) rfl rfl rfl (hT _ w_1_6) (hT _ w_5_106) (by decide +kernel) ⟨Nat.le_trans (Nat.le_of_ble_eq_true rfl) hRf, Nat.le_trans (Nat.le_of_ble_eq_true rfl) hRl⟩, hT _ w_5_108, hT _ ws_16⟩ ⟨PVc.blind, va_recv hK hW.1 (ci := 4) (q0 := o) rfl (pic_obj fo.1 fo.2 (by decide)), PVc.at _ hW hK hN hE hS hF⟩ rfl rfl hl.1 rfl (lv_room (Nat.le_of_ble_eq_true rfl)) d_Rec_readGroup_206 ⟨hRc, hRs⟩) hS (fun q _ h => hF q h) hF (fun r13 x12 t H locs ht hvm hw hB hz1 hk1 hS => ?_)
    have hW := Wd.back hB ht hF
    clear hB ht hF hz1 hk1 hvm
    refine lv_if_eq (tgt := 234) hx hb d_Rec_readGroup_209 (by decide) (fun c14 => ?_) (fun c14 => ?_)
    · have hw := hw.1 c14
      exact t_Rec_readGroup_234 hx hb hml hown hT hK hN hA hRc hRs hRf hRl hNN hE hret hs_Rec_readGroup hs_Rec_readOne hs_Rec_readValues hDf hDl  o l1 l2 l3 l4 l5 l6 l7 x12 H locs ls fo hw hW hS (lv_sub hl [0, 1, 2, 3, 4, 5, 6, 7] rfl)
    · have hw := hw.2 c14
      refine lv_aload_n hx hb d_Rec_readGroup_212 rfl (lv_at hl 0 rfl) ?_
      obtain ⟨q15, hq15, hw⟩ := hw
      refine w_getr (q := q15) (k := 13) (t := 4) (C := R_Rec) (T := F_Rec) (N := 15) hx hb hT hown hK hW fo.1 fo.2 (by decide) in_Rec rfl rfl (by decide) rfl fr_Rec_13 w_2_8 d_Rec_readGroup_213 hq15 (fun aq15 bq15 => ?_)
      have fq15 : q15 < NN ∧ kcC q15 = 2 := ⟨aq15, bq15⟩
      have hF := hW.free hS hA
      refine va_calli (va_runV (C := R_Scn) (As := []) (rest := []) ⟨hx, hb, hml, hown, hT⟩ (k_Scn_next l dC dI cI cB cJ cZ ad NN E tM tC kK kV hNN H.size q15 x12 fq15 hw) ⟨callB_of 0 hT (gwt_in w_4_110) rfl rfl rfl (hT _ w_1_4) (hT _ w_5_32) (by decide +kernel) ⟨Nat.le_trans (Nat.le_of_ble_eq_true rfl) hRf, Nat.le_trans (Nat.le_of_ble_eq_true rfl) hRl⟩, hT _ w_4_108, hT _ w_4_109⟩ ⟨PVc.blind, va_recv hK hW.1 (ci := 2) (q0 := q15) rfl (pic_obj fq15.1 fq15.2 (by decide)), PVc.at _ hW hK hN hE hS hF⟩ rfl rfl hl.1 rfl (lv_room (Nat.le_of_ble_eq_true rfl)) d_Rec_readGroup_216 ⟨hRc, hRs⟩) hS (fun q _ h => hF q h) hF (fun r17 x16 t H locs ht hvm hw hB hz1 hk1 hS => ?_)
      have hW := Wd.back hB ht hF
      clear hB ht hF hz1 hk1 hvm
      refine lv_pop hx hb d_Rec_readGroup_219 rfl ?_
      refine lv_aload_n hx hb d_Rec_readGroup_220 rfl (lv_at hl 0 rfl) ?_
      obtain ⟨q18, hq18, hw⟩ := hw
      refine w_getr (q := q18) (k := 13) (t := 4) (C := R_Rec) (T := F_Rec) (N := 15) hx hb hT hown hK hW fo.1 fo.2 (by decide) in_Rec rfl rfl (by decide) rfl fr_Rec_13 w_2_8 d_Rec_readGroup_221 hq18 (fun aq18 bq18 => ?_)
      have fq18 : q18 < NN ∧ kcC q18 = 2 := ⟨aq18, bq18⟩
      refine lv_aload_n hx hb d_Rec_readGroup_224 rfl (lv_at hl 0 rfl) ?_
      obtain ⟨q19, hq19, hw⟩ := hw
      refine w_getr (q := q19) (k := 13) (t := 4) (C := R_Rec) (T := F_Rec) (N := 15) hx hb hT hown hK hW fo.1 fo.2 (by decide) in_Rec rfl rfl (by decide) rfl fr_Rec_13 w_2_8 d_Rec_readGroup_225 hq19 (fun aq19 bq19 => ?_)
      have fq19 : q19 < NN ∧ kcC q19 = 2 := ⟨aq19, bq19⟩
      refine w_geti (k := 2) (t := 2) (C := R_Scn) (T := F_Scn) (N := 8) hx hb hT hown hK hW fq19.1 fq19.2 (by decide) in_Scn rfl rfl (by decide) rfl fr_Scn_2 w_1_87 d_Rec_readGroup_228 ?_
      have hF := hW.free hS hA
      refine va_callv (va_runV (C := R_Scn) (As := [.int (fI x16 q19 2)]) (rest := []) ⟨hx, hb, hml, hown, hT⟩ (k_Scn_refuse l dC dI cI cB cJ cZ ad NN E tM tC kK kV hNN H.size q18 (fI x16 q19 2) x16 fq18 hw) ⟨callB_of 1 hT (gwt_in w_4_128) rfl rfl rfl (hT _ w_1_4) (hT _ w_5_27) (by decide +kernel) ⟨Nat.le_trans (Nat.le_of_ble_eq_true rfl) hRf, Nat.le_trans (Nat.le_of_ble_eq_true rfl) hRl⟩, hT _ w_4_126, hT _ w_4_127⟩ ⟨PVc.blind, va_recv hK hW.1 (ci := 2) (q0 := q18) rfl (pic_obj fq18.1 fq18.2 (by decide)), PVc.at _ hW hK hN hE hS hF⟩ rfl rfl hl.1 rfl (lv_room (Nat.le_of_ble_eq_true rfl)) d_Rec_readGroup_231 ⟨hRc, hRs⟩) hS (fun q _ h => hF q h) hF (fun  x20 t H locs ht hvm hw hB hz1 hk1 hS => ?_)
      have hW := Wd.back hB ht hF
      clear hB ht hF hz1 hk1 hvm
      exact t_Rec_readGroup_234 hx hb hml hown hT hK hN hA hRc hRs hRf hRl hNN hE hret hs_Rec_readGroup hs_Rec_readOne hs_Rec_readValues hDf hDl  o l1 l2 l3 l4 l5 l6 l7 x20 H locs ls fo hw hW hS (lv_sub hl [0, 1, 2, 3, 4, 5, 6, 7] rfl)
set_option maxRecDepth 100000 in
set_option maxHeartbeats 4000000 in
set_option maxRecDepth 100000 in
theorem t_Rec_readGroup_182 {p : Program} {l : Launch} {e : Env} {R : Room} {s : State} {m : MethodId} {args : Array Value} {below : List Frame} {meth : Method} {c : Code} {cells slots : Nat} {Q : State → Prop} {dC : Nat → ClassId} {dI : Nat → Nat → Nat} {cI cB cJ cZ : ClassId} {A : Nat → Prop} {ad : Nat → Nat} {NN : Nat} {E : Heap} {tM tC : Nat} {kK kV : Nat → Nat} {post : St → Prop} {self_Rec_readGroup : (St → Prop) → Nat → Int32 → Int32 → Int32 → St → Prop} {self_Rec_readOne : (St → Prop) → Nat → Int32 → Int32 → Int32 → St → Prop} {self_Rec_readValues : (St → Prop) → Nat → Int32 → Int32 → Int32 → St → Prop} {fd ld : Nat} {rec81 : Nat → Int32 → Int32 → Int32 → Int32 → Int32 → Int32 → Int32 → St → Prop} (hx : p.tables.exec = Jvm.exec) (hb : c.code = b_Rec_readGroup) (hml : c.maxLocals = 9) (hown : s.vm.findClass R_Rec = some m.cls) (hT : ∀ w ∈ TG, w.before args s = true) (hK : va_K (dC, dI) CL (TY cI cB cJ cZ) s) (hN : NW s) (hA : ∀ q : Nat, s.heap.size ≤ q → A q) (hRc : cells ≤ R.cells) (hRs : slots ≤ R.slots) (hRf : 8 ≤ R.frames) (hRl : 287 ≤ R.locals) (hNN : 152 ≤ NN) (hE : CE E tM tC kK kV A s) (hret : ∀ (x : St) (H : Heap) (locs : List Loc) (pc : Nat) (ls : Array Slot), decode b_Rec_readGroup pc = .ok (.return_, 1) → post x → Wd dC dI cI cB cJ cZ ad stC kcC NN A x H → va_S A s.heap H locs → W p l e R s m args below meth c H locs cells slots Q (F0 m pc ls [])) (hs_Rec_readGroup : ∀ (sz : Nat) (o : Nat) (l1 : Int32) (l2 : Int32) (l3 : Int32) (x : St), (o < NN ∧ kcC o = 4) → ∀ (post : St → Prop), self_Rec_readGroup post o l1 l2 l3 x → Met l y_Rec_readGroup (wsOf y_Rec_readGroup b_Rec_readGroup 9 (none)) ({ frames := fd, cells := 0, slots := 0, locals := ld }) (va_Pc [.ref (ad o), .int l1, .int l2, .int l3] (PVc dC dI cI cB cJ cZ ad stC kcC NN E tM tC kK kV sz x)) (va_Qv (fun (y : St) => post y) (fun y t => Wd dC dI cI cB cJ cZ ad stC kcC NN (va_A (pic ad stC kcC NN cI cB cJ cZ x) sz) y t.heap) (va_A (pic ad stC kcC NN cI cB cJ cZ x) sz)) 0 0 (va_A (pic ad stC kcC NN cI cB cJ cZ x) sz)) (hs_Rec_readOne : ∀ (sz : Nat) (o : Nat) (l1 : Int32) (l2 : Int32) (l3 : Int32) (x : St), (o < NN ∧ kcC o = 4) → ∀ (post : St → Prop), self_Rec_readOne post o l1 l2 l3 x → Met l y_Rec_readOne (wsOf y_Rec_readOne b_Rec_readOne 6 (none)) ({ frames := fd, cells := 0, slots := 0, locals := ld }) (va_Pc [.ref (ad o), .int l1, .int l2, .int l3] (PVc dC dI cI cB cJ cZ ad stC kcC NN E tM tC kK kV sz x)) (va_Qv (fun (y : St) => post y) (fun y t => Wd dC dI cI cB cJ cZ ad stC kcC NN (va_A (pic ad stC kcC NN cI cB cJ cZ x) sz) y t.heap) (va_A (pic ad stC kcC NN cI cB cJ cZ x) sz)) 0 0 (va_A (pic ad stC kcC NN cI cB cJ cZ x) sz)) (hs_Rec_readValues : ∀ (sz : Nat) (o : Nat) (l1 : Int32) (l2 : Int32) (l3 : Int32) (x : St), (o < NN ∧ kcC o = 4) → ∀ (post : St → Prop), self_Rec_readValues post o l1 l2 l3 x → Met l y_Rec_readValues (wsOf y_Rec_readValues b_Rec_readValues 7 (none)) ({ frames := fd, cells := 0, slots := 0, locals := ld }) (va_Pc [.ref (ad o), .int l1, .int l2, .int l3] (PVc dC dI cI cB cJ cZ ad stC kcC NN E tM tC kK kV sz x)) (va_Qv (fun (y : St) => post y) (fun y t => Wd dC dI cI cB cJ cZ ad stC kcC NN (va_A (pic ad stC kcC NN cI cB cJ cZ x) sz) y t.heap) (va_A (pic ad stC kcC NN cI cB cJ cZ x) sz)) 0 0 (va_A (pic ad stC kcC NN cI cB cJ cZ x) sz)) (hDf : fd + 1 ≤ R.frames) (hDl : 28 + ld ≤ R.locals) (hrec81 : ∀ (o : Nat) (l1 : Int32) (l2 : Int32) (l3 : Int32) (l4 : Int32) (l5 : Int32) (l6 : Int32) (l7 : Int32) (x : St) (H : Heap) (locs : List Loc) (ls : Array Slot), (o < NN ∧ kcC o = 4) → rec81 o l1 l2 l3 l4 l5 l6 l7 x → Wd dC dI cI cB cJ cZ ad stC kcC NN A x H → va_S A s.heap H locs → lv_has ls 9 [(0, .ref (ad o)), (1, .int l1), (2, .int l2), (3, .int l3), (4, .int l4), (5, .int l5), (6, .int l6), (7, .int l7)] → W p l e R s m args below meth c H locs cells slots Q (F0 m 81 ls [])) : ∀ (o : Nat) (l1 : Int32) (l2 : Int32) (l3 : Int32) (l4 : Int32) (l5 : Int32) (l6 : Int32) (l7 : Int32) (l8 : Int32) (s0 : Int32) (x : St) (H : Heap) (locs : List Loc) (ls : Array Slot), (o < NN ∧ kcC o = 4) → j_Rec_readGroup_182 post self_Rec_readGroup self_Rec_readOne self_Rec_readValues rec81 o l1 l2 l3 l4 l5 l6 l7 l8 s0 x → Wd dC dI cI cB cJ cZ ad stC kcC NN A x H → va_S A s.heap H locs → lv_has ls 9 [(0, .ref (ad o)), (1, .int l1), (2, .int l2), (3, .int l3), (4, .int l4), (5, .int l5), (6, .int l6), (7, .int l7), (8, .int l8)] → W p l e R s m args below meth c H locs cells slots Q (F0 m 182 ls [.int s0]) := by
  intro o l1 l2 l3 l4 l5 l6 l7 l8 s0 x H locs ls fo hw hW hS hl
  unfold j_Rec_readGroup_182 at hw
  refine lv_istore (lv' := [(6, .int s0), (0, .ref (ad o)), (1, .int l1), (2, .int l2), (3, .int l3), (4, .int l4), (5, .int l5), (7, .int l7), (8, .int l8)]) hx hb d_Rec_readGroup_182 hl (by decide) rfl (fun ls hl => ?_)
  refine lv_iinc (v := (l7 + 1)) (lv' := [(7, .int (l7 + 1)), (6, .int s0), (0, .ref (ad o)), (1, .int l1), (2, .int l2), (3, .int l3), (4, .int l4), (5, .int l5), (8, .int l8)]) hx hb d_Rec_readGroup_184 hl (k := 7) rfl rfl (by decide) rfl (fun ls hl => ?_)
  refine lv_goto (tgt := 81) hx hb d_Rec_readGroup_187 (by decide) ?_
  exact hrec81 o l1 l2 l3 l4 l5 s0 (l7 + 1) x H locs ls fo hw hW hS (lv_sub hl [2, 3, 4, 5, 6, 7, 1, 0] rfl)
set_option maxRecDepth 100000 in
set_option maxHeartbeats 4000000 in
set_option maxRecDepth 100000 in
theorem t_Rec_readGroup_181 {p : Program} {l : Launch} {e : Env} {R : Room} {s : State} {m : MethodId} {args : Array Value} {below : List Frame} {meth : Method} {c : Code} {cells slots : Nat} {Q : State → Prop} {dC : Nat → ClassId} {dI : Nat → Nat → Nat} {cI cB cJ cZ : ClassId} {A : Nat → Prop} {ad : Nat → Nat} {NN : Nat} {E : Heap} {tM tC : Nat} {kK kV : Nat → Nat} {post : St → Prop} {self_Rec_readGroup : (St → Prop) → Nat → Int32 → Int32 → Int32 → St → Prop} {self_Rec_readOne : (St → Prop) → Nat → Int32 → Int32 → Int32 → St → Prop} {self_Rec_readValues : (St → Prop) → Nat → Int32 → Int32 → Int32 → St → Prop} {fd ld : Nat} {rec81 : Nat → Int32 → Int32 → Int32 → Int32 → Int32 → Int32 → Int32 → St → Prop} (hx : p.tables.exec = Jvm.exec) (hb : c.code = b_Rec_readGroup) (hml : c.maxLocals = 9) (hown : s.vm.findClass R_Rec = some m.cls) (hT : ∀ w ∈ TG, w.before args s = true) (hK : va_K (dC, dI) CL (TY cI cB cJ cZ) s) (hN : NW s) (hA : ∀ q : Nat, s.heap.size ≤ q → A q) (hRc : cells ≤ R.cells) (hRs : slots ≤ R.slots) (hRf : 8 ≤ R.frames) (hRl : 287 ≤ R.locals) (hNN : 152 ≤ NN) (hE : CE E tM tC kK kV A s) (hret : ∀ (x : St) (H : Heap) (locs : List Loc) (pc : Nat) (ls : Array Slot), decode b_Rec_readGroup pc = .ok (.return_, 1) → post x → Wd dC dI cI cB cJ cZ ad stC kcC NN A x H → va_S A s.heap H locs → W p l e R s m args below meth c H locs cells slots Q (F0 m pc ls [])) (hs_Rec_readGroup : ∀ (sz : Nat) (o : Nat) (l1 : Int32) (l2 : Int32) (l3 : Int32) (x : St), (o < NN ∧ kcC o = 4) → ∀ (post : St → Prop), self_Rec_readGroup post o l1 l2 l3 x → Met l y_Rec_readGroup (wsOf y_Rec_readGroup b_Rec_readGroup 9 (none)) ({ frames := fd, cells := 0, slots := 0, locals := ld }) (va_Pc [.ref (ad o), .int l1, .int l2, .int l3] (PVc dC dI cI cB cJ cZ ad stC kcC NN E tM tC kK kV sz x)) (va_Qv (fun (y : St) => post y) (fun y t => Wd dC dI cI cB cJ cZ ad stC kcC NN (va_A (pic ad stC kcC NN cI cB cJ cZ x) sz) y t.heap) (va_A (pic ad stC kcC NN cI cB cJ cZ x) sz)) 0 0 (va_A (pic ad stC kcC NN cI cB cJ cZ x) sz)) (hs_Rec_readOne : ∀ (sz : Nat) (o : Nat) (l1 : Int32) (l2 : Int32) (l3 : Int32) (x : St), (o < NN ∧ kcC o = 4) → ∀ (post : St → Prop), self_Rec_readOne post o l1 l2 l3 x → Met l y_Rec_readOne (wsOf y_Rec_readOne b_Rec_readOne 6 (none)) ({ frames := fd, cells := 0, slots := 0, locals := ld }) (va_Pc [.ref (ad o), .int l1, .int l2, .int l3] (PVc dC dI cI cB cJ cZ ad stC kcC NN E tM tC kK kV sz x)) (va_Qv (fun (y : St) => post y) (fun y t => Wd dC dI cI cB cJ cZ ad stC kcC NN (va_A (pic ad stC kcC NN cI cB cJ cZ x) sz) y t.heap) (va_A (pic ad stC kcC NN cI cB cJ cZ x) sz)) 0 0 (va_A (pic ad stC kcC NN cI cB cJ cZ x) sz)) (hs_Rec_readValues : ∀ (sz : Nat) (o : Nat) (l1 : Int32) (l2 : Int32) (l3 : Int32) (x : St), (o < NN ∧ kcC o = 4) → ∀ (post : St → Prop), self_Rec_readValues post o l1 l2 l3 x → Met l y_Rec_readValues (wsOf y_Rec_readValues b_Rec_readValues 7 (none)) ({ frames := fd, cells := 0, slots := 0, locals := ld }) (va_Pc [.ref (ad o), .int l1, .int l2, .int l3] (PVc dC dI cI cB cJ cZ ad stC kcC NN E tM tC kK kV sz x)) (va_Qv (fun (y : St) => post y) (fun y t => Wd dC dI cI cB cJ cZ ad stC kcC NN (va_A (pic ad stC kcC NN cI cB cJ cZ x) sz) y t.heap) (va_A (pic ad stC kcC NN cI cB cJ cZ x) sz)) 0 0 (va_A (pic ad stC kcC NN cI cB cJ cZ x) sz)) (hDf : fd + 1 ≤ R.frames) (hDl : 28 + ld ≤ R.locals) (hrec81 : ∀ (o : Nat) (l1 : Int32) (l2 : Int32) (l3 : Int32) (l4 : Int32) (l5 : Int32) (l6 : Int32) (l7 : Int32) (x : St) (H : Heap) (locs : List Loc) (ls : Array Slot), (o < NN ∧ kcC o = 4) → rec81 o l1 l2 l3 l4 l5 l6 l7 x → Wd dC dI cI cB cJ cZ ad stC kcC NN A x H → va_S A s.heap H locs → lv_has ls 9 [(0, .ref (ad o)), (1, .int l1), (2, .int l2), (3, .int l3), (4, .int l4), (5, .int l5), (6, .int l6), (7, .int l7)] → W p l e R s m args below meth c H locs cells slots Q (F0 m 81 ls [])) : ∀ (o : Nat) (l1 : Int32) (l2 : Int32) (l3 : Int32) (l4 : Int32) (l5 : Int32) (l6 : Int32) (l7 : Int32) (l8 : Int32) (x : St) (H : Heap) (locs : List Loc) (ls : Array Slot), (o < NN ∧ kcC o = 4) → j_Rec_readGroup_181 post self_Rec_readGroup self_Rec_readOne self_Rec_readValues rec81 o l1 l2 l3 l4 l5 l6 l7 l8 x → Wd dC dI cI cB cJ cZ ad stC kcC NN A x H → va_S A s.heap H locs → lv_has ls 9 [(0, .ref (ad o)), (1, .int l1), (2, .int l2), (3, .int l3), (4, .int l4), (5, .int l5), (6, .int l6), (7, .int l7), (8, .int l8)] → W p l e R s m args below meth c H locs cells slots Q (F0 m 181 ls []) := by
  intro o l1 l2 l3 l4 l5 l6 l7 l8 x H locs ls fo hw hW hS hl
  unfold j_Rec_readGroup_181 at hw
  refine lv_iconst (v := 0) hx hb d_Rec_readGroup_181 (by decide) ?_
  exact t_Rec_readGroup_182 hx hb hml hown hT hK hN hA hRc hRs hRf hRl hNN hE hret hs_Rec_readGroup hs_Rec_readOne hs_Rec_readValues hDf hDl hrec81 o l1 l2 l3 l4 l5 l6 l7 l8 0 x H locs ls fo hw hW hS (lv_sub hl [0, 1, 2, 3, 4, 5, 6, 7, 8] rfl)
set_option maxRecDepth 100000 in
set_option maxHeartbeats 4000000 in
set_option maxRecDepth 100000 in
theorem t_Rec_readGroup_81 {p : Program} {l : Launch} {e : Env} {R : Room} {s : State} {m : MethodId} {args : Array Value} {below : List Frame} {meth : Method} {c : Code} {cells slots : Nat} {Q : State → Prop} {dC : Nat → ClassId} {dI : Nat → Nat → Nat} {cI cB cJ cZ : ClassId} {A : Nat → Prop} {ad : Nat → Nat} {NN : Nat} {E : Heap} {tM tC : Nat} {kK kV : Nat → Nat} {post : St → Prop} {self_Rec_readGroup : (St → Prop) → Nat → Int32 → Int32 → Int32 → St → Prop} {self_Rec_readOne : (St → Prop) → Nat → Int32 → Int32 → Int32 → St → Prop} {self_Rec_readValues : (St → Prop) → Nat → Int32 → Int32 → Int32 → St → Prop} {fd ld : Nat} {rec81 : Nat → Int32 → Int32 → Int32 → Int32 → Int32 → Int32 → Int32 → St → Prop} (hx : p.tables.exec = Jvm.exec) (hb : c.code = b_Rec_readGroup) (hml : c.maxLocals = 9) (hown : s.vm.findClass R_Rec = some m.cls) (hT : ∀ w ∈ TG, w.before args s = true) (hK : va_K (dC, dI) CL (TY cI cB cJ cZ) s) (hN : NW s) (hA : ∀ q : Nat, s.heap.size ≤ q → A q) (hRc : cells ≤ R.cells) (hRs : slots ≤ R.slots) (hRf : 8 ≤ R.frames) (hRl : 287 ≤ R.locals) (hNN : 152 ≤ NN) (hE : CE E tM tC kK kV A s) (hret : ∀ (x : St) (H : Heap) (locs : List Loc) (pc : Nat) (ls : Array Slot), decode b_Rec_readGroup pc = .ok (.return_, 1) → post x → Wd dC dI cI cB cJ cZ ad stC kcC NN A x H → va_S A s.heap H locs → W p l e R s m args below meth c H locs cells slots Q (F0 m pc ls [])) (hs_Rec_readGroup : ∀ (sz : Nat) (o : Nat) (l1 : Int32) (l2 : Int32) (l3 : Int32) (x : St), (o < NN ∧ kcC o = 4) → ∀ (post : St → Prop), self_Rec_readGroup post o l1 l2 l3 x → Met l y_Rec_readGroup (wsOf y_Rec_readGroup b_Rec_readGroup 9 (none)) ({ frames := fd, cells := 0, slots := 0, locals := ld }) (va_Pc [.ref (ad o), .int l1, .int l2, .int l3] (PVc dC dI cI cB cJ cZ ad stC kcC NN E tM tC kK kV sz x)) (va_Qv (fun (y : St) => post y) (fun y t => Wd dC dI cI cB cJ cZ ad stC kcC NN (va_A (pic ad stC kcC NN cI cB cJ cZ x) sz) y t.heap) (va_A (pic ad stC kcC NN cI cB cJ cZ x) sz)) 0 0 (va_A (pic ad stC kcC NN cI cB cJ cZ x) sz)) (hs_Rec_readOne : ∀ (sz : Nat) (o : Nat) (l1 : Int32) (l2 : Int32) (l3 : Int32) (x : St), (o < NN ∧ kcC o = 4) → ∀ (post : St → Prop), self_Rec_readOne post o l1 l2 l3 x → Met l y_Rec_readOne (wsOf y_Rec_readOne b_Rec_readOne 6 (none)) ({ frames := fd, cells := 0, slots := 0, locals := ld }) (va_Pc [.ref (ad o), .int l1, .int l2, .int l3] (PVc dC dI cI cB cJ cZ ad stC kcC NN E tM tC kK kV sz x)) (va_Qv (fun (y : St) => post y) (fun y t => Wd dC dI cI cB cJ cZ ad stC kcC NN (va_A (pic ad stC kcC NN cI cB cJ cZ x) sz) y t.heap) (va_A (pic ad stC kcC NN cI cB cJ cZ x) sz)) 0 0 (va_A (pic ad stC kcC NN cI cB cJ cZ x) sz)) (hs_Rec_readValues : ∀ (sz : Nat) (o : Nat) (l1 : Int32) (l2 : Int32) (l3 : Int32) (x : St), (o < NN ∧ kcC o = 4) → ∀ (post : St → Prop), self_Rec_readValues post o l1 l2 l3 x → Met l y_Rec_readValues (wsOf y_Rec_readValues b_Rec_readValues 7 (none)) ({ frames := fd, cells := 0, slots := 0, locals := ld }) (va_Pc [.ref (ad o), .int l1, .int l2, .int l3] (PVc dC dI cI cB cJ cZ ad stC kcC NN E tM tC kK kV sz x)) (va_Qv (fun (y : St) => post y) (fun y t => Wd dC dI cI cB cJ cZ ad stC kcC NN (va_A (pic ad stC kcC NN cI cB cJ cZ x) sz) y t.heap) (va_A (pic ad stC kcC NN cI cB cJ cZ x) sz)) 0 0 (va_A (pic ad stC kcC NN cI cB cJ cZ x) sz)) (hDf : fd + 1 ≤ R.frames) (hDl : 28 + ld ≤ R.locals) (hrec81 : ∀ (o : Nat) (l1 : Int32) (l2 : Int32) (l3 : Int32) (l4 : Int32) (l5 : Int32) (l6 : Int32) (l7 : Int32) (x : St) (H : Heap) (locs : List Loc) (ls : Array Slot), (o < NN ∧ kcC o = 4) → rec81 o l1 l2 l3 l4 l5 l6 l7 x → Wd dC dI cI cB cJ cZ ad stC kcC NN A x H → va_S A s.heap H locs → lv_has ls 9 [(0, .ref (ad o)), (1, .int l1), (2, .int l2), (3, .int l3), (4, .int l4), (5, .int l5), (6, .int l6), (7, .int l7)] → W p l e R s m args below meth c H locs cells slots Q (F0 m 81 ls [])) : ∀ (o : Nat) (l1 : Int32) (l2 : Int32) (l3 : Int32) (l4 : Int32) (l5 : Int32) (l6 : Int32) (l7 : Int32) (x : St) (H : Heap) (locs : List Loc) (ls : Array Slot), (o < NN ∧ kcC o = 4) → j_Rec_readGroup_81 post self_Rec_readGroup self_Rec_readOne self_Rec_readValues rec81 o l1 l2 l3 l4 l5 l6 l7 x → Wd dC dI cI cB cJ cZ ad stC kcC NN A x H → va_S A s.heap H locs → lv_has ls 9 [(0, .ref (ad o)), (1, .int l1), (2, .int l2), (3, .int l3), (4, .int l4), (5, .int l5), (6, .int l6), (7, .int l7)] → W p l e R s m args below meth c H locs cells slots Q (F0 m 81 ls []) := by
  intro o l1 l2 l3 l4 l5 l6 l7 x H locs ls fo hw hW hS hl
  unfold j_Rec_readGroup_81 at hw
  refine lv_iload hx hb d_Rec_readGroup_81 (lv_at hl 7 rfl) ?_
  refine lv_sipush (v := 128) hx hb d_Rec_readGroup_83 (by decide) ?_
  refine lv_icmp_gt (tgt := 190) hx hb d_Rec_readGroup_86 (by decide) (fun c21 => ?_) (fun c21 => ?_)
  · have hw := hw.1 c21
    exact t_Rec_readGroup_190 hx hb hml hown hT hK hN hA hRc hRs hRf hRl hNN hE hret hs_Rec_readGroup hs_Rec_readOne hs_Rec_readValues hDf hDl  o l1 l2 l3 l4 l5 l6 l7 x H locs ls fo hw hW hS (lv_sub hl [0, 1, 2, 3, 4, 5, 6, 7] rfl)
  · have hw := hw.2 c21
    refine lv_iload hx hb d_Rec_readGroup_89 (lv_at hl 6 rfl) ?_
    refine lv_if_eq (tgt := 190) hx hb d_Rec_readGroup_91 (by decide) (fun c22 => ?_) (fun c22 => ?_)
    · have hw := hw.1 c22
      exact t_Rec_readGroup_190 hx hb hml hown hT hK hN hA hRc hRs hRf hRl hNN hE hret hs_Rec_readGroup hs_Rec_readOne hs_Rec_readValues hDf hDl  o l1 l2 l3 l4 l5 l6 l7 x H locs ls fo hw hW hS (lv_sub hl [0, 1, 2, 3, 4, 5, 6, 7] rfl)
    · have hw := hw.2 c22
      refine lv_aload_n hx hb d_Rec_readGroup_94 rfl (lv_at hl 0 rfl) ?_
      refine lv_iload hx hb d_Rec_readGroup_95 (lv_at hl 4 rfl) ?_
      refine lv_iload hx hb d_Rec_readGroup_97 (lv_at hl 5 rfl) ?_
      refine lv_iload_n hx hb d_Rec_readGroup_99 rfl (lv_at hl 1 rfl) ?_
      have hF := hW.free hS hA
      refine va_calli (va_runV (C := R_Rec) (As := [.int l4, .int l5, .int l1]) (rest := []) ⟨hx, hb, hml, hown, hT⟩ (k_Rec_readName l dC dI cI cB cJ cZ ad NN E tM tC kK kV hNN H.size o l4 l5 l1 x fo hw) ⟨callB_of 3 hT (gwt_in w_5_36) rfl rfl rfl (hT _ w_1_6) (hT _ w_5_33) (by decide +kernel) ⟨Nat.le_trans (Nat.le_of_ble_eq_true rfl) hRf, Nat.le_trans (Nat.le_of_ble_eq_true rfl) hRl⟩, hT _ w_5_35, hT _ ws_7⟩ ⟨PVc.blind, va_recv hK hW.1 (ci := 4) (q0 := o) rfl (pic_obj fo.1 fo.2 (by decide)), PVc.at _ hW hK hN hE hS hF⟩ rfl rfl hl.1 rfl (lv_room (Nat.le_of_ble_eq_true rfl)) d_Rec_readGroup_100 ⟨hRc, hRs⟩) hS (fun q _ h => hF q h) hF (fun r24 x23 t H locs ht hvm hw hB hz1 hk1 hS => ?_)
      have hW := Wd.back hB ht hF
      clear hB ht hF hz1 hk1 hvm
      refine lv_istore (lv' := [(8, .int r24), (0, .ref (ad o)), (1, .int l1), (2, .int l2), (3, .int l3), (4, .int l4), (5, .int l5), (6, .int l6), (7, .int l7)]) hx hb d_Rec_readGroup_103 hl (by decide) rfl (fun ls hl => ?_)
      refine lv_aload_n hx hb d_Rec_readGroup_105 rfl (lv_at hl 1 rfl) ?_
      obtain ⟨q25, hq25, hw⟩ := hw
      refine w_getr (q := q25) (k := 13) (t := 4) (C := R_Rec) (T := F_Rec) (N := 15) hx hb hT hown hK hW fo.1 fo.2 (by decide) in_Rec rfl rfl (by decide) rfl fr_Rec_13 w_2_8 d_Rec_readGroup_106 hq25 (fun aq25 bq25 => ?_)
      have fq25 : q25 < NN ∧ kcC q25 = 2 := ⟨aq25, bq25⟩
      refine lv_bipush (v := 58) hx hb d_Rec_readGroup_109 (by decide) ?_
      have hF := hW.free hS hA
      refine va_callv (va_runV (C := R_Scn) (As := [.int 58]) (rest := []) ⟨hx, hb, hml, hown, hT⟩ (k_Scn_needSign l dC dI cI cB cJ cZ ad NN E tM tC kK kV hNN H.size q25 58 x23 fq25 hw) ⟨callB_of 1 hT (gwt_in w_4_118) rfl rfl rfl (hT _ w_1_4) (hT _ w_5_28) (by decide +kernel) ⟨Nat.le_trans (Nat.le_of_ble_eq_true rfl) hRf, Nat.le_trans (Nat.le_of_ble_eq_true rfl) hRl⟩, hT _ w_4_116, hT _ w_4_117⟩ ⟨PVc.blind, va_recv hK hW.1 (ci := 2) (q0 := q25) rfl (pic_obj fq25.1 fq25.2 (by decide)), PVc.at _ hW hK hN hE hS hF⟩ rfl rfl hl.1 rfl (lv_room (Nat.le_of_ble_eq_true rfl)) d_Rec_readGroup_111 ⟨hRc, hRs⟩) hS (fun q _ h => hF q h) hF (fun  x26 t H locs ht hvm hw hB hz1 hk1 hS => ?_)
      have hW := Wd.back hB ht hF
      clear hB ht hF hz1 hk1 hvm
      refine lv_aload_n hx hb d_Rec_readGroup_114 rfl (lv_at hl 1 rfl) ?_
      obtain ⟨q27, hq27, hw⟩ := hw
      refine w_getr (q := q27) (k := 13) (t := 4) (C := R_Rec) (T := F_Rec) (N := 15) hx hb hT hown hK hW fo.1 fo.2 (by decide) in_Rec rfl rfl (by decide) rfl fr_Rec_13 w_2_8 d_Rec_readGroup_115 hq27 (fun aq27 bq27 => ?_)
      have fq27 : q27 < NN ∧ kcC q27 = 2 := ⟨aq27, bq27⟩
      have hF := hW.free hS hA
      refine va_calli (va_runV (C := R_Scn) (As := []) (rest := []) ⟨hx, hb, hml, hown, hT⟩ (k_Scn_good l dC dI cI cB cJ cZ ad NN E tM tC kK kV hNN H.size q27 x26 fq27 hw) ⟨callB_of 0 hT (gwt_in w_4_106) rfl rfl rfl (hT _ w_1_4) (hT _ w_5_31) (by decide +kernel) ⟨Nat.le_trans (Nat.le_of_ble_eq_true rfl) hRf, Nat.le_trans (Nat.le_of_ble_eq_true rfl) hRl⟩, hT _ w_4_104, hT _ w_4_105⟩ ⟨PVc.blind, va_recv hK hW.1 (ci := 2) (q0 := q27) rfl (pic_obj fq27.1 fq27.2 (by decide)), PVc.at _ hW hK hN hE hS hF⟩ rfl rfl hl.1 rfl (lv_room (Nat.le_of_ble_eq_true rfl)) d_Rec_readGroup_118 ⟨hRc, hRs⟩) hS (fun q _ h => hF q h) hF (fun r29 x28 t H locs ht hvm hw hB hz1 hk1 hS => ?_)
      have hW := Wd.back hB ht hF
      clear hB ht hF hz1 hk1 hvm
      refine lv_if_ne (tgt := 125) hx hb d_Rec_readGroup_121 (by decide) (fun c30 => ?_) (fun c30 => ?_)
      · have hw := hw.1 c30
        refine lv_aload_n hx hb d_Rec_readGroup_125 rfl (lv_at hl 1 rfl) ?_
        refine lv_iload hx hb d_Rec_readGroup_126 (lv_at hl 5 rfl) ?_
        refine lv_iload hx hb d_Rec_readGroup_128 (lv_at hl 0 rfl) ?_
        refine lv_iload_n hx hb d_Rec_readGroup_130 rfl (lv_at hl 3 rfl) ?_
        refine lv_iload_n hx hb d_Rec_readGroup_131 rfl (lv_at hl 2 rfl) ?_
        have hF := hW.free hS hA
        refine va_callv (va_runV (C := R_Rec) (As := [.int l4, .int r24, .int l2, .int l1]) (rest := []) ⟨hx, hb, hml, hown, hT⟩ (k_Rec_enterMissing l dC dI cI cB cJ cZ ad NN E tM tC kK kV hNN H.size o l4 r24 l2 l1 x28 fo hw) ⟨callB_of 4 hT (gwt_in w_5_42) rfl rfl rfl (hT _ w_1_6) (hT _ w_5_39) (by decide +kernel) ⟨Nat.le_trans (Nat.le_of_ble_eq_true rfl) hRf, Nat.le_trans (Nat.le_of_ble_eq_true rfl) hRl⟩, hT _ w_5_41, hT _ ws_8⟩ ⟨PVc.blind, va_recv hK hW.1 (ci := 4) (q0 := o) rfl (pic_obj fo.1 fo.2 (by decide)), PVc.at _ hW hK hN hE hS hF⟩ rfl rfl hl.1 rfl (lv_room (Nat.le_of_ble_eq_true rfl)) d_Rec_readGroup_132 ⟨hRc, hRs⟩) hS (fun q _ h => hF q h) hF (fun  x31 t H locs ht hvm hw hB hz1 hk1 hS => ?_)
        have hW := Wd.back hB ht hF
        clear hB ht hF hz1 hk1 hvm
        refine lv_aload_n hx hb d_Rec_readGroup_135 rfl (lv_at hl 1 rfl) ?_
        refine lv_iload hx hb d_Rec_readGroup_136 (lv_at hl 0 rfl) ?_
        refine lv_iload_n hx hb d_Rec_readGroup_138 rfl (lv_at hl 3 rfl) ?_
        refine lv_iload_n hx hb d_Rec_readGroup_139 rfl (lv_at hl 4 rfl) ?_
        have hF := hW.free hS hA
        refine va_callv (va_runV (C := R_Rec) (As := [.int r24, .int l2, .int l3]) (rest := []) ⟨hx, hb, hml, hown, hT⟩ (hs_Rec_readValues H.size o r24 l2 l3 x31 fo _ hw) ⟨callB_of 3 hT (gwt_in w_5_55) rfl rfl rfl (hT _ w_1_6) (hT _ w_5_52) (by decide +kernel) ⟨hDf, Nat.le_trans (Nat.add_le_add_right (by decide) _) hDl⟩, hT _ w_5_54, hT _ ws_10⟩ ⟨PVc.blind, va_recv hK hW.1 (ci := 4) (q0 := o) rfl (pic_obj fo.1 fo.2 (by decide)), PVc.at _ hW hK hN hE hS hF⟩ rfl rfl hl.1 rfl (lv_room (Nat.le_of_ble_eq_true rfl)) d_Rec_readGroup_140 ⟨hRc, hRs⟩) hS (fun q _ h => hF q h) hF (fun  x32 t H locs ht hvm hw hB hz1 hk1 hS => ?_)
        have hW := Wd.back hB ht hF
        clear hB ht hF hz1 hk1 hvm
        refine lv_aload_n hx hb d_Rec_readGroup_143 rfl (lv_at hl 1 rfl) ?_
        obtain ⟨q33, hq33, hw⟩ := hw
        refine w_getr (q := q33) (k := 14) (t := 4) (C := R_Rec) (T := F_Rec) (N := 15) hx hb hT hown hK hW fo.1 fo.2 (by decide) in_Rec rfl rfl (by decide) rfl fr_Rec_14 w_2_9 d_Rec_readGroup_144 hq33 (fun aq33 bq33 => ?_)
        have fq33 : q33 < NN ∧ kcC q33 = 3 := ⟨aq33, bq33⟩
        refine w_getf (q := (stC q33 8)) (k := 8) (t := 3) (C := R_Sch) (T := F_Sch) (N := 13) hx hb hT hown hK hW fq33.1 fq33.2 (by decide) in_Sch rfl rfl (by decide) rfl fr_Sch_8 w_1_172 d_Rec_readGroup_147 rfl ?_
        refine lv_iload hx hb d_Rec_readGroup_150 (lv_at hl 0 rfl) ?_
        obtain ⟨hi, hw⟩ := hw
        refine w_iald (o := (stC q33 8)) hx hb hK hW (st_ty hNN fq33.1 fq33.2 rfl).1 (st_ty hNN fq33.1 fq33.2 rfl).2 hi d_Rec_readGroup_152 ?_
        refine lv_topi (fun v34 ev34 => ?_)
        have hw := hw v34 ev34
        refine lv_istore (lv' := [(4, .int v34), (8, .int r24), (0, .ref (ad o)), (1, .int l1), (2, .int l2), (3, .int l3), (5, .int l5), (6, .int l6), (7, .int l7)]) hx hb d_Rec_readGroup_153 hl (by decide) rfl (fun ls hl => ?_)
        refine lv_aload_n hx hb d_Rec_readGroup_155 rfl (lv_at hl 2 rfl) ?_
        obtain ⟨q35, hq35, hw⟩ := hw
        refine w_getr (q := q35) (k := 13) (t := 4) (C := R_Rec) (T := F_Rec) (N := 15) hx hb hT hown hK hW fo.1 fo.2 (by decide) in_Rec rfl rfl (by decide) rfl fr_Rec_13 w_2_8 d_Rec_readGroup_156 hq35 (fun aq35 bq35 => ?_)
        have fq35 : q35 < NN ∧ kcC q35 = 2 := ⟨aq35, bq35⟩
        have hF := hW.free hS hA
        refine va_calli (va_runV (C := R_Scn) (As := []) (rest := []) ⟨hx, hb, hml, hown, hT⟩ (k_Scn_good l dC dI cI cB cJ cZ ad NN E tM tC kK kV hNN H.size q35 x32 fq35 hw) ⟨callB_of 0 hT (gwt_in w_4_106) rfl rfl rfl (hT _ w_1_4) (hT _ w_5_31) (by decide +kernel) ⟨Nat.le_trans (Nat.le_of_ble_eq_true rfl) hRf, Nat.le_trans (Nat.le_of_ble_eq_true rfl) hRl⟩, hT _ w_4_104, hT _ w_4_105⟩ ⟨PVc.blind, va_recv hK hW.1 (ci := 2) (q0 := q35) rfl (pic_obj fq35.1 fq35.2 (by decide)), PVc.at _ hW hK hN hE hS hF⟩ rfl rfl hl.1 rfl (lv_room (Nat.le_of_ble_eq_true rfl)) d_Rec_readGroup_159 ⟨hRc, hRs⟩) hS (fun q _ h => hF q h) hF (fun r37 x36 t H locs ht hvm hw hB hz1 hk1 hS => ?_)
        have hW := Wd.back hB ht hF
        clear hB ht hF hz1 hk1 hvm
        refine lv_if_eq (tgt := 181) hx hb d_Rec_readGroup_162 (by decide) (fun c38 => ?_) (fun c38 => ?_)
        · have hw := hw.1 c38
          exact t_Rec_readGroup_181 hx hb hml hown hT hK hN hA hRc hRs hRf hRl hNN hE hret hs_Rec_readGroup hs_Rec_readOne hs_Rec_readValues hDf hDl hrec81 o l1 l2 l3 v34 l5 l6 l7 r24 x36 H locs ls fo hw hW hS (lv_sub hl [2, 3, 4, 5, 0, 6, 7, 8, 1] rfl)
        · have hw := hw.2 c38
          refine lv_aload_n hx hb d_Rec_readGroup_165 rfl (lv_at hl 2 rfl) ?_
          obtain ⟨q39, hq39, hw⟩ := hw
          refine w_getr (q := q39) (k := 13) (t := 4) (C := R_Rec) (T := F_Rec) (N := 15) hx hb hT hown hK hW fo.1 fo.2 (by decide) in_Rec rfl rfl (by decide) rfl fr_Rec_13 w_2_8 d_Rec_readGroup_166 hq39 (fun aq39 bq39 => ?_)
          have fq39 : q39 < NN ∧ kcC q39 = 2 := ⟨aq39, bq39⟩
          refine lv_bipush (v := 44) hx hb d_Rec_readGroup_169 (by decide) ?_
          have hF := hW.free hS hA
          refine va_calli (va_runV (C := R_Scn) (As := [.int 44]) (rest := []) ⟨hx, hb, hml, hown, hT⟩ (k_Scn_takeSign l dC dI cI cB cJ cZ ad NN E tM tC kK kV hNN H.size q39 44 x36 fq39 hw) ⟨callB_of 1 hT (gwt_in w_4_123) rfl rfl rfl (hT _ w_1_4) (hT _ w_5_105) (by decide +kernel) ⟨Nat.le_trans (Nat.le_of_ble_eq_true rfl) hRf, Nat.le_trans (Nat.le_of_ble_eq_true rfl) hRl⟩, hT _ w_4_121, hT _ w_4_122⟩ ⟨PVc.blind, va_recv hK hW.1 (ci := 2) (q0 := q39) rfl (pic_obj fq39.1 fq39.2 (by decide)), PVc.at _ hW hK hN hE hS hF⟩ rfl rfl hl.1 rfl (lv_room (Nat.le_of_ble_eq_true rfl)) d_Rec_readGroup_171 ⟨hRc, hRs⟩) hS (fun q _ h => hF q h) hF (fun r41 x40 t H locs ht hvm hw hB hz1 hk1 hS => ?_)
          have hW := Wd.back hB ht hF
          clear hB ht hF hz1 hk1 hvm
          refine lv_if_eq (tgt := 181) hx hb d_Rec_readGroup_174 (by decide) (fun c42 => ?_) (fun c42 => ?_)
          · have hw := hw.1 c42
            exact t_Rec_readGroup_181 hx hb hml hown hT hK hN hA hRc hRs hRf hRl hNN hE hret hs_Rec_readGroup hs_Rec_readOne hs_Rec_readValues hDf hDl hrec81 o l1 l2 l3 v34 l5 l6 l7 r24 x40 H locs ls fo hw hW hS (lv_sub hl [2, 3, 4, 5, 0, 6, 7, 8, 1] rfl)
          · have hw := hw.2 c42
            refine lv_iconst (v := 1) hx hb d_Rec_readGroup_177 (by decide) ?_
            refine lv_goto (tgt := 182) hx hb d_Rec_readGroup_178 (by decide) ?_
            exact t_Rec_readGroup_182 hx hb hml hown hT hK hN hA hRc hRs hRf hRl hNN hE hret hs_Rec_readGroup hs_Rec_readOne hs_Rec_readValues hDf hDl hrec81 o l1 l2 l3 v34 l5 l6 l7 r24 1 x40 H locs ls fo hw hW hS (lv_sub hl [2, 3, 4, 5, 0, 6, 7, 8, 1] rfl)
      · have hw := hw.2 c30
        exact hret x28 H locs 124 ls d_Rec_readGroup_124 hw hW hS
set_option maxHeartbeats 4000000 in
set_option maxRecDepth 100000 in
theorem tl_Rec_readGroup_81 {p : Program} {l : Launch} {e : Env} {R : Room} {s : State} {m : MethodId} {args : Array Value} {below : List Frame} {meth : Method} {c : Code} {cells slots : Nat} {Q : State → Prop} {dC : Nat → ClassId} {dI : Nat → Nat → Nat} {cI cB cJ cZ : ClassId} {A : Nat → Prop} {ad : Nat → Nat} {NN : Nat} {E : Heap} {tM tC : Nat} {kK kV : Nat → Nat} {post : St → Prop} {self_Rec_readGroup : (St → Prop) → Nat → Int32 → Int32 → Int32 → St → Prop} {self_Rec_readOne : (St → Prop) → Nat → Int32 → Int32 → Int32 → St → Prop} {self_Rec_readValues : (St → Prop) → Nat → Int32 → Int32 → Int32 → St → Prop} {fd ld : Nat} (hx : p.tables.exec = Jvm.exec) (hb : c.code = b_Rec_readGroup) (hml : c.maxLocals = 9) (hown : s.vm.findClass R_Rec = some m.cls) (hT : ∀ w ∈ TG, w.before args s = true) (hK : va_K (dC, dI) CL (TY cI cB cJ cZ) s) (hN : NW s) (hA : ∀ q : Nat, s.heap.size ≤ q → A q) (hRc : cells ≤ R.cells) (hRs : slots ≤ R.slots) (hRf : 8 ≤ R.frames) (hRl : 287 ≤ R.locals) (hNN : 152 ≤ NN) (hE : CE E tM tC kK kV A s) (hret : ∀ (x : St) (H : Heap) (locs : List Loc) (pc : Nat) (ls : Array Slot), decode b_Rec_readGroup pc = .ok (.return_, 1) → post x → Wd dC dI cI cB cJ cZ ad stC kcC NN A x H → va_S A s.heap H locs → W p l e R s m args below meth c H locs cells slots Q (F0 m pc ls [])) (hs_Rec_readGroup : ∀ (sz : Nat) (o : Nat) (l1 : Int32) (l2 : Int32) (l3 : Int32) (x : St), (o < NN ∧ kcC o = 4) → ∀ (post : St → Prop), self_Rec_readGroup post o l1 l2 l3 x → Met l y_Rec_readGroup (wsOf y_Rec_readGroup b_Rec_readGroup 9 (none)) ({ frames := fd, cells := 0, slots := 0, locals := ld }) (va_Pc [.ref (ad o), .int l1, .int l2, .int l3] (PVc dC dI cI cB cJ cZ ad stC kcC NN E tM tC kK kV sz x)) (va_Qv (fun (y : St) => post y) (fun y t => Wd dC dI cI cB cJ cZ ad stC kcC NN (va_A (pic ad stC kcC NN cI cB cJ cZ x) sz) y t.heap) (va_A (pic ad stC kcC NN cI cB cJ cZ x) sz)) 0 0 (va_A (pic ad stC kcC NN cI cB cJ cZ x) sz)) (hs_Rec_readOne : ∀ (sz : Nat) (o : Nat) (l1 : Int32) (l2 : Int32) (l3 : Int32) (x : St), (o < NN ∧ kcC o = 4) → ∀ (post : St → Prop), self_Rec_readOne post o l1 l2 l3 x → Met l y_Rec_readOne (wsOf y_Rec_readOne b_Rec_readOne 6 (none)) ({ frames := fd, cells := 0, slots := 0, locals := ld }) (va_Pc [.ref (ad o), .int l1, .int l2, .int l3] (PVc dC dI cI cB cJ cZ ad stC kcC NN E tM tC kK kV sz x)) (va_Qv (fun (y : St) => post y) (fun y t => Wd dC dI cI cB cJ cZ ad stC kcC NN (va_A (pic ad stC kcC NN cI cB cJ cZ x) sz) y t.heap) (va_A (pic ad stC kcC NN cI cB cJ cZ x) sz)) 0 0 (va_A (pic ad stC kcC NN cI cB cJ cZ x) sz)) (hs_Rec_readValues : ∀ (sz : Nat) (o : Nat) (l1 : Int32) (l2 : Int32) (l3 : Int32) (x : St), (o < NN ∧ kcC o = 4) → ∀ (post : St → Prop), self_Rec_readValues post o l1 l2 l3 x → Met l y_Rec_readValues (wsOf y_Rec_readValues b_Rec_readValues 7 (none)) ({ frames := fd, cells := 0, slots := 0, locals := ld }) (va_Pc [.ref (ad o), .int l1, .int l2, .int l3] (PVc dC dI cI cB cJ cZ ad stC kcC NN E tM tC kK kV sz x)) (va_Qv (fun (y : St) => post y) (fun y t => Wd dC dI cI cB cJ cZ ad stC kcC NN (va_A (pic ad stC kcC NN cI cB cJ cZ x) sz) y t.heap) (va_A (pic ad stC kcC NN cI cB cJ cZ x) sz)) 0 0 (va_A (pic ad stC kcC NN cI cB cJ cZ x) sz)) (hDf : fd + 1 ≤ R.frames) (hDl : 28 + ld ≤ R.locals)  : ∀ n : Nat, ∀ (o : Nat) (l1 : Int32) (l2 : Int32) (l3 : Int32) (l4 : Int32) (l5 : Int32) (l6 : Int32) (l7 : Int32) (x : St) (H : Heap) (locs : List Loc) (ls : Array Slot), (o < NN ∧ kcC o = 4) → wl_Rec_readGroup_81 post self_Rec_readGroup self_Rec_readOne self_Rec_readValues n o l1 l2 l3 l4 l5 l6 l7 x → Wd dC dI cI cB cJ cZ ad stC kcC NN A x H → va_S A s.heap H locs → lv_has ls 9 [(0, .ref (ad o)), (1, .int l1), (2, .int l2), (3, .int l3), (4, .int l4), (5, .int l5), (6, .int l6), (7, .int l7)] → W p l e R s m args below meth c H locs cells slots Q (F0 m 81 ls []) := by
  intro n
  induction n with
  | zero => intro o l1 l2 l3 l4 l5 l6 l7 x H locs ls fo hw; exact hw.elim
  | succ n ih => intro o l1 l2 l3 l4 l5 l6 l7 x H locs ls fo hw hW hS hl; exact t_Rec_readGroup_81 hx hb hml hown hT hK hN hA hRc hRs hRf hRl hNN hE hret hs_Rec_readGroup hs_Rec_readOne hs_Rec_readValues hDf hDl  ih o l1 l2 l3 l4 l5 l6 l7 x H locs ls fo hw hW hS hl
set_option maxRecDepth 100000 in
set_option maxHeartbeats 4000000 in
set_option maxRecDepth 100000 in
theorem t_Rec_readGroup_76 {p : Program} {l : Launch} {e : Env} {R : Room} {s : State} {m : MethodId} {args : Array Value} {below : List Frame} {meth : Method} {c : Code} {cells slots : Nat} {Q : State → Prop} {dC : Nat → ClassId} {dI : Nat → Nat → Nat} {cI cB cJ cZ : ClassId} {A : Nat → Prop} {ad : Nat → Nat} {NN : Nat} {E : Heap} {tM tC : Nat} {kK kV : Nat → Nat} {post : St → Prop} {self_Rec_readGroup : (St → Prop) → Nat → Int32 → Int32 → Int32 → St → Prop} {self_Rec_readOne : (St → Prop) → Nat → Int32 → Int32 → Int32 → St → Prop} {self_Rec_readValues : (St → Prop) → Nat → Int32 → Int32 → Int32 → St → Prop} {fd ld : Nat} (hx : p.tables.exec = Jvm.exec) (hb : c.code = b_Rec_readGroup) (hml : c.maxLocals = 9) (hown : s.vm.findClass R_Rec = some m.cls) (hT : ∀ w ∈ TG, w.before args s = true) (hK : va_K (dC, dI) CL (TY cI cB cJ cZ) s) (hN : NW s) (hA : ∀ q : Nat, s.heap.size ≤ q → A q) (hRc : cells ≤ R.cells) (hRs : slots ≤ R.slots) (hRf : 8 ≤ R.frames) (hRl : 287 ≤ R.locals) (hNN : 152 ≤ NN) (hE : CE E tM tC kK kV A s) (hret : ∀ (x : St) (H : Heap) (locs : List Loc) (pc : Nat) (ls : Array Slot), decode b_Rec_readGroup pc = .ok (.return_, 1) → post x → Wd dC dI cI cB cJ cZ ad stC kcC NN A x H → va_S A s.heap H locs → W p l e R s m args below meth c H locs cells slots Q (F0 m pc ls [])) (hs_Rec_readGroup : ∀ (sz : Nat) (o : Nat) (l1 : Int32) (l2 : Int32) (l3 : Int32) (x : St), (o < NN ∧ kcC o = 4) → ∀ (post : St → Prop), self_Rec_readGroup post o l1 l2 l3 x → Met l y_Rec_readGroup (wsOf y_Rec_readGroup b_Rec_readGroup 9 (none)) ({ frames := fd, cells := 0, slots := 0, locals := ld }) (va_Pc [.ref (ad o), .int l1, .int l2, .int l3] (PVc dC dI cI cB cJ cZ ad stC kcC NN E tM tC kK kV sz x)) (va_Qv (fun (y : St) => post y) (fun y t => Wd dC dI cI cB cJ cZ ad stC kcC NN (va_A (pic ad stC kcC NN cI cB cJ cZ x) sz) y t.heap) (va_A (pic ad stC kcC NN cI cB cJ cZ x) sz)) 0 0 (va_A (pic ad stC kcC NN cI cB cJ cZ x) sz)) (hs_Rec_readOne : ∀ (sz : Nat) (o : Nat) (l1 : Int32) (l2 : Int32) (l3 : Int32) (x : St), (o < NN ∧ kcC o = 4) → ∀ (post : St → Prop), self_Rec_readOne post o l1 l2 l3 x → Met l y_Rec_readOne (wsOf y_Rec_readOne b_Rec_readOne 6 (none)) ({ frames := fd, cells := 0, slots := 0, locals := ld }) (va_Pc [.ref (ad o), .int l1, .int l2, .int l3] (PVc dC dI cI cB cJ cZ ad stC kcC NN E tM tC kK kV sz x)) (va_Qv (fun (y : St) => post y) (fun y t => Wd dC dI cI cB cJ cZ ad stC kcC NN (va_A (pic ad stC kcC NN cI cB cJ cZ x) sz) y t.heap) (va_A (pic ad stC kcC NN cI cB cJ cZ x) sz)) 0 0 (va_A (pic ad stC kcC NN cI cB cJ cZ x) sz)) (hs_Rec_readValues : ∀ (sz : Nat) (o : Nat) (l1 : Int32) (l2 : Int32) (l3 : Int32) (x : St), (o < NN ∧ kcC o = 4) → ∀ (post : St → Prop), self_Rec_readValues post o l1 l2 l3 x → Met l y_Rec_readValues (wsOf y_Rec_readValues b_Rec_readValues 7 (none)) ({ frames := fd, cells := 0, slots := 0, locals := ld }) (va_Pc [.ref (ad o), .int l1, .int l2, .int l3] (PVc dC dI cI cB cJ cZ ad stC kcC NN E tM tC kK kV sz x)) (va_Qv (fun (y : St) => post y) (fun y t => Wd dC dI cI cB cJ cZ ad stC kcC NN (va_A (pic ad stC kcC NN cI cB cJ cZ x) sz) y t.heap) (va_A (pic ad stC kcC NN cI cB cJ cZ x) sz)) 0 0 (va_A (pic ad stC kcC NN cI cB cJ cZ x) sz)) (hDf : fd + 1 ≤ R.frames) (hDl : 28 + ld ≤ R.locals)  : ∀ (o : Nat) (l1 : Int32) (l2 : Int32) (l3 : Int32) (l4 : Int32) (l5 : Int32) (s0 : Int32) (x : St) (H : Heap) (locs : List Loc) (ls : Array Slot), (o < NN ∧ kcC o = 4) → j_Rec_readGroup_76 post self_Rec_readGroup self_Rec_readOne self_Rec_readValues o l1 l2 l3 l4 l5 s0 x → Wd dC dI cI cB cJ cZ ad stC kcC NN A x H → va_S A s.heap H locs → lv_has ls 9 [(0, .ref (ad o)), (1, .int l1), (2, .int l2), (3, .int l3), (4, .int l4), (5, .int l5)] → W p l e R s m args below meth c H locs cells slots Q (F0 m 76 ls [.int s0]) := by
  intro o l1 l2 l3 l4 l5 s0 x H locs ls fo hw hW hS hl
  unfold j_Rec_readGroup_76 at hw
  refine lv_istore (lv' := [(6, .int s0), (0, .ref (ad o)), (1, .int l1), (2, .int l2), (3, .int l3), (4, .int l4), (5, .int l5)]) hx hb d_Rec_readGroup_76 hl (by decide) rfl (fun ls hl => ?_)
  refine lv_iconst (v := 0) hx hb d_Rec_readGroup_78 (by decide) ?_
  refine lv_istore (lv' := [(7, .int 0), (6, .int s0), (0, .ref (ad o)), (1, .int l1), (2, .int l2), (3, .int l3), (4, .int l4), (5, .int l5)]) hx hb d_Rec_readGroup_79 hl (by decide) rfl (fun ls hl => ?_)
  obtain ⟨n, hw⟩ := hw
  exact tl_Rec_readGroup_81 hx hb hml hown hT hK hN hA hRc hRs hRf hRl hNN hE hret hs_Rec_readGroup hs_Rec_readOne hs_Rec_readValues hDf hDl  n o l1 l2 l3 l4 l5 s0 0 x H locs ls fo hw hW hS (lv_sub hl [2, 3, 4, 5, 6, 7, 1, 0] rfl)
set_option maxRecDepth 100000 in
set_option maxHeartbeats 4000000 in
set_option maxRecDepth 100000 in
theorem t_Rec_readGroup_75 {p : Program} {l : Launch} {e : Env} {R : Room} {s : State} {m : MethodId} {args : Array Value} {below : List Frame} {meth : Method} {c : Code} {cells slots : Nat} {Q : State → Prop} {dC : Nat → ClassId} {dI : Nat → Nat → Nat} {cI cB cJ cZ : ClassId} {A : Nat → Prop} {ad : Nat → Nat} {NN : Nat} {E : Heap} {tM tC : Nat} {kK kV : Nat → Nat} {post : St → Prop} {self_Rec_readGroup : (St → Prop) → Nat → Int32 → Int32 → Int32 → St → Prop} {self_Rec_readOne : (St → Prop) → Nat → Int32 → Int32 → Int32 → St → Prop} {self_Rec_readValues : (St → Prop) → Nat → Int32 → Int32 → Int32 → St → Prop} {fd ld : Nat} (hx : p.tables.exec = Jvm.exec) (hb : c.code = b_Rec_readGroup) (hml : c.maxLocals = 9) (hown : s.vm.findClass R_Rec = some m.cls) (hT : ∀ w ∈ TG, w.before args s = true) (hK : va_K (dC, dI) CL (TY cI cB cJ cZ) s) (hN : NW s) (hA : ∀ q : Nat, s.heap.size ≤ q → A q) (hRc : cells ≤ R.cells) (hRs : slots ≤ R.slots) (hRf : 8 ≤ R.frames) (hRl : 287 ≤ R.locals) (hNN : 152 ≤ NN) (hE : CE E tM tC kK kV A s) (hret : ∀ (x : St) (H : Heap) (locs : List Loc) (pc : Nat) (ls : Array Slot), decode b_Rec_readGroup pc = .ok (.return_, 1) → post x → Wd dC dI cI cB cJ cZ ad stC kcC NN A x H → va_S A s.heap H locs → W p l e R s m args below meth c H locs cells slots Q (F0 m pc ls [])) (hs_Rec_readGroup : ∀ (sz : Nat) (o : Nat) (l1 : Int32) (l2 : Int32) (l3 : Int32) (x : St), (o < NN ∧ kcC o = 4) → ∀ (post : St → Prop), self_Rec_readGroup post o l1 l2 l3 x → Met l y_Rec_readGroup (wsOf y_Rec_readGroup b_Rec_readGroup 9 (none)) ({ frames := fd, cells := 0, slots := 0, locals := ld }) (va_Pc [.ref (ad o), .int l1, .int l2, .int l3] (PVc dC dI cI cB cJ cZ ad stC kcC NN E tM tC kK kV sz x)) (va_Qv (fun (y : St) => post y) (fun y t => Wd dC dI cI cB cJ cZ ad stC kcC NN (va_A (pic ad stC kcC NN cI cB cJ cZ x) sz) y t.heap) (va_A (pic ad stC kcC NN cI cB cJ cZ x) sz)) 0 0 (va_A (pic ad stC kcC NN cI cB cJ cZ x) sz)) (hs_Rec_readOne : ∀ (sz : Nat) (o : Nat) (l1 : Int32) (l2 : Int32) (l3 : Int32) (x : St), (o < NN ∧ kcC o = 4) → ∀ (post : St → Prop), self_Rec_readOne post o l1 l2 l3 x → Met l y_Rec_readOne (wsOf y_Rec_readOne b_Rec_readOne 6 (none)) ({ frames := fd, cells := 0, slots := 0, locals := ld }) (va_Pc [.ref (ad o), .int l1, .int l2, .int l3] (PVc dC dI cI cB cJ cZ ad stC kcC NN E tM tC kK kV sz x)) (va_Qv (fun (y : St) => post y) (fun y t => Wd dC dI cI cB cJ cZ ad stC kcC NN (va_A (pic ad stC kcC NN cI cB cJ cZ x) sz) y t.heap) (va_A (pic ad stC kcC NN cI cB cJ cZ x) sz)) 0 0 (va_A (pic ad stC kcC NN cI cB cJ cZ x) sz)) (hs_Rec_readValues : ∀ (sz : Nat) (o : Nat) (l1 : Int32) (l2 : Int32) (l3 : Int32) (x : St), (o < NN ∧ kcC o = 4) → ∀ (post : St → Prop), self_Rec_readValues post o l1 l2 l3 x → Met l y_Rec_readValues (wsOf y_Rec_readValues b_Rec_readValues 7 (none)) ({ frames := fd, cells := 0, slots := 0, locals := ld }) (va_Pc [.ref (ad o), .int l1, .int l2, .int l3] (PVc dC dI cI cB cJ cZ ad stC kcC NN E tM tC kK kV sz x)) (va_Qv (fun (y : St) => post y) (fun y t => Wd dC dI cI cB cJ cZ ad stC kcC NN (va_A (pic ad stC kcC NN cI cB cJ cZ x) sz) y t.heap) (va_A (pic ad stC kcC NN cI cB cJ cZ x) sz)) 0 0 (va_A (pic ad stC kcC NN cI cB cJ cZ x) sz)) (hDf : fd + 1 ≤ R.frames) (hDl : 28 + ld ≤ R.locals)  : ∀ (o : Nat) (l1 : Int32) (l2 : Int32) (l3 : Int32) (l4 : Int32) (l5 : Int32) (x : St) (H : Heap) (locs : List Loc) (ls : Array Slot), (o < NN ∧ kcC o = 4) → j_Rec_readGroup_75 post self_Rec_readGroup self_Rec_readOne self_Rec_readValues o l1 l2 l3 l4 l5 x → Wd dC dI cI cB cJ cZ ad stC kcC NN A x H → va_S A s.heap H locs → lv_has ls 9 [(0, .ref (ad o)), (1, .int l1), (2, .int l2), (3, .int l3), (4, .int l4), (5, .int l5)] → W p l e R s m args below meth c H locs cells slots Q (F0 m 75 ls []) := by
  intro o l1 l2 l3 l4 l5 x H locs ls fo hw hW hS hl
  unfold j_Rec_readGroup_75 at hw
  refine lv_iconst (v := 0) hx hb d_Rec_readGroup_75 (by decide) ?_
  exact t_Rec_readGroup_76 hx hb hml hown hT hK hN hA hRc hRs hRf hRl hNN hE hret hs_Rec_readGroup hs_Rec_readOne hs_Rec_readValues hDf hDl  o l1 l2 l3 l4 l5 0 x H locs ls fo hw hW hS (lv_sub hl [0, 1, 2, 3, 4, 5] rfl)
set_option maxRecDepth 100000 in
set_option maxHeartbeats 4000000 in
set_option maxRecDepth 100000 in
theorem t_Rec_readGroup_20 {p : Program} {l : Launch} {e : Env} {R : Room} {s : State} {m : MethodId} {args : Array Value} {below : List Frame} {meth : Method} {c : Code} {cells slots : Nat} {Q : State → Prop} {dC : Nat → ClassId} {dI : Nat → Nat → Nat} {cI cB cJ cZ : ClassId} {A : Nat → Prop} {ad : Nat → Nat} {NN : Nat} {E : Heap} {tM tC : Nat} {kK kV : Nat → Nat} {post : St → Prop} {self_Rec_readGroup : (St → Prop) → Nat → Int32 → Int32 → Int32 → St → Prop} {self_Rec_readOne : (St → Prop) → Nat → Int32 → Int32 → Int32 → St → Prop} {self_Rec_readValues : (St → Prop) → Nat → Int32 → Int32 → Int32 → St → Prop} {fd ld : Nat} (hx : p.tables.exec = Jvm.exec) (hb : c.code = b_Rec_readGroup) (hml : c.maxLocals = 9) (hown : s.vm.findClass R_Rec = some m.cls) (hT : ∀ w ∈ TG, w.before args s = true) (hK : va_K (dC, dI) CL (TY cI cB cJ cZ) s) (hN : NW s) (hA : ∀ q : Nat, s.heap.size ≤ q → A q) (hRc : cells ≤ R.cells) (hRs : slots ≤ R.slots) (hRf : 8 ≤ R.frames) (hRl : 287 ≤ R.locals) (hNN : 152 ≤ NN) (hE : CE E tM tC kK kV A s) (hret : ∀ (x : St) (H : Heap) (locs : List Loc) (pc : Nat) (ls : Array Slot), decode b_Rec_readGroup pc = .ok (.return_, 1) → post x → Wd dC dI cI cB cJ cZ ad stC kcC NN A x H → va_S A s.heap H locs → W p l e R s m args below meth c H locs cells slots Q (F0 m pc ls [])) (hs_Rec_readGroup : ∀ (sz : Nat) (o : Nat) (l1 : Int32) (l2 : Int32) (l3 : Int32) (x : St), (o < NN ∧ kcC o = 4) → ∀ (post : St → Prop), self_Rec_readGroup post o l1 l2 l3 x → Met l y_Rec_readGroup (wsOf y_Rec_readGroup b_Rec_readGroup 9 (none)) ({ frames := fd, cells := 0, slots := 0, locals := ld }) (va_Pc [.ref (ad o), .int l1, .int l2, .int l3] (PVc dC dI cI cB cJ cZ ad stC kcC NN E tM tC kK kV sz x)) (va_Qv (fun (y : St) => post y) (fun y t => Wd dC dI cI cB cJ cZ ad stC kcC NN (va_A (pic ad stC kcC NN cI cB cJ cZ x) sz) y t.heap) (va_A (pic ad stC kcC NN cI cB cJ cZ x) sz)) 0 0 (va_A (pic ad stC kcC NN cI cB cJ cZ x) sz)) (hs_Rec_readOne : ∀ (sz : Nat) (o : Nat) (l1 : Int32) (l2 : Int32) (l3 : Int32) (x : St), (o < NN ∧ kcC o = 4) → ∀ (post : St → Prop), self_Rec_readOne post o l1 l2 l3 x → Met l y_Rec_readOne (wsOf y_Rec_readOne b_Rec_readOne 6 (none)) ({ frames := fd, cells := 0, slots := 0, locals := ld }) (va_Pc [.ref (ad o), .int l1, .int l2, .int l3] (PVc dC dI cI cB cJ cZ ad stC kcC NN E tM tC kK kV sz x)) (va_Qv (fun (y : St) => post y) (fun y t => Wd dC dI cI cB cJ cZ ad stC kcC NN (va_A (pic ad stC kcC NN cI cB cJ cZ x) sz) y t.heap) (va_A (pic ad stC kcC NN cI cB cJ cZ x) sz)) 0 0 (va_A (pic ad stC kcC NN cI cB cJ cZ x) sz)) (hs_Rec_readValues : ∀ (sz : Nat) (o : Nat) (l1 : Int32) (l2 : Int32) (l3 : Int32) (x : St), (o < NN ∧ kcC o = 4) → ∀ (post : St → Prop), self_Rec_readValues post o l1 l2 l3 x → Met l y_Rec_readValues (wsOf y_Rec_readValues b_Rec_readValues 7 (none)) ({ frames := fd, cells := 0, slots := 0, locals := ld }) (va_Pc [.ref (ad o), .int l1, .int l2, .int l3] (PVc dC dI cI cB cJ cZ ad stC kcC NN E tM tC kK kV sz x)) (va_Qv (fun (y : St) => post y) (fun y t => Wd dC dI cI cB cJ cZ ad stC kcC NN (va_A (pic ad stC kcC NN cI cB cJ cZ x) sz) y t.heap) (va_A (pic ad stC kcC NN cI cB cJ cZ x) sz)) 0 0 (va_A (pic ad stC kcC NN cI cB cJ cZ x) sz)) (hDf : fd + 1 ≤ R.frames) (hDl : 28 + ld ≤ R.locals)  : ∀ (o : Nat) (l1 : Int32) (l2 : Int32) (l3 : Int32) (x : St) (H : Heap) (locs : List Loc) (ls : Array Slot), (o < NN ∧ kcC o = 4) → j_Rec_readGroup_20 post self_Rec_readGroup self_Rec_readOne self_Rec_readValues o l1 l2 l3 x → Wd dC dI cI cB cJ cZ ad stC kcC NN A x H → va_S A s.heap H locs → lv_has ls 9 [(0, .ref (ad o)), (1, .int l1), (2, .int l2), (3, .int l3)] → W p l e R s m args below meth c H locs cells slots Q (F0 m 20 ls []) := by
  intro o l1 l2 l3 x H locs ls fo hw hW hS hl
  unfold j_Rec_readGroup_20 at hw
  refine lv_aload_n hx hb d_Rec_readGroup_20 rfl (lv_at hl 0 rfl) ?_
  obtain ⟨q43, hq43, hw⟩ := hw
  refine w_getr (q := q43) (k := 13) (t := 4) (C := R_Rec) (T := F_Rec) (N := 15) hx hb hT hown hK hW fo.1 fo.2 (by decide) in_Rec rfl rfl (by decide) rfl fr_Rec_13 w_2_8 d_Rec_readGroup_21 hq43 (fun aq43 bq43 => ?_)
  have fq43 : q43 < NN ∧ kcC q43 = 2 := ⟨aq43, bq43⟩
  refine lv_bipush (v := 123) hx hb d_Rec_readGroup_24 (by decide) ?_
  have hF := hW.free hS hA
  refine va_callv (va_runV (C := R_Scn) (As := [.int 123]) (rest := []) ⟨hx, hb, hml, hown, hT⟩ (k_Scn_needSign l dC dI cI cB cJ cZ ad NN E tM tC kK kV hNN H.size q43 123 x fq43 hw) ⟨callB_of 1 hT (gwt_in w_4_118) rfl rfl rfl (hT _ w_1_4) (hT _ w_5_28) (by decide +kernel) ⟨Nat.le_trans (Nat.le_of_ble_eq_true rfl) hRf, Nat.le_trans (Nat.le_of_ble_eq_true rfl) hRl⟩, hT _ w_4_116, hT _ w_4_117⟩ ⟨PVc.blind, va_recv hK hW.1 (ci := 2) (q0 := q43) rfl (pic_obj fq43.1 fq43.2 (by decide)), PVc.at _ hW hK hN hE hS hF⟩ rfl rfl hl.1 rfl (lv_room (Nat.le_of_ble_eq_true rfl)) d_Rec_readGroup_26 ⟨hRc, hRs⟩) hS (fun q _ h => hF q h) hF (fun  x44 t H locs ht hvm hw hB hz1 hk1 hS => ?_)
  have hW := Wd.back hB ht hF
  clear hB ht hF hz1 hk1 hvm
  refine lv_aload_n hx hb d_Rec_readGroup_29 rfl (lv_at hl 0 rfl) ?_
  obtain ⟨q45, hq45, hw⟩ := hw
  refine w_getr (q := q45) (k := 14) (t := 4) (C := R_Rec) (T := F_Rec) (N := 15) hx hb hT hown hK hW fo.1 fo.2 (by decide) in_Rec rfl rfl (by decide) rfl fr_Rec_14 w_2_9 d_Rec_readGroup_30 hq45 (fun aq45 bq45 => ?_)
  have fq45 : q45 < NN ∧ kcC q45 = 3 := ⟨aq45, bq45⟩
  refine lv_iload_n hx hb d_Rec_readGroup_33 rfl (lv_at hl 1 rfl) ?_
  have hF := hW.free hS hA
  refine va_calli (va_runV (C := R_Sch) (As := [.int l1]) (rest := []) ⟨hx, hb, hml, hown, hT⟩ (k_Sch_firstIn l dC dI cI cB cJ cZ ad NN E tM tC kK kV hNN H.size q45 l1 x44 fq45 hw) ⟨callB_of 1 hT (gwt_in w_4_237) rfl rfl rfl (hT _ w_1_5) (hT _ w_5_29) (by decide +kernel) ⟨Nat.le_trans (Nat.le_of_ble_eq_true rfl) hRf, Nat.le_trans (Nat.le_of_ble_eq_true rfl) hRl⟩, hT _ w_4_235, hT _ w_4_236⟩ ⟨PVc.blind, va_recv hK hW.1 (ci := 3) (q0 := q45) rfl (pic_obj fq45.1 fq45.2 (by decide)), PVc.at _ hW hK hN hE hS hF⟩ rfl rfl hl.1 rfl (lv_room (Nat.le_of_ble_eq_true rfl)) d_Rec_readGroup_34 ⟨hRc, hRs⟩) hS (fun q _ h => hF q h) hF (fun r47 x46 t H locs ht hvm hw hB hz1 hk1 hS => ?_)
  have hW := Wd.back hB ht hF
  clear hB ht hF hz1 hk1 hvm
  refine lv_istore (lv' := [(4, .int r47), (0, .ref (ad o)), (1, .int l1), (2, .int l2), (3, .int l3)]) hx hb d_Rec_readGroup_37 hl (by decide) rfl (fun ls hl => ?_)
  refine lv_aload_n hx hb d_Rec_readGroup_39 rfl (lv_at hl 1 rfl) ?_
  obtain ⟨q48, hq48, hw⟩ := hw
  refine w_getr (q := q48) (k := 14) (t := 4) (C := R_Rec) (T := F_Rec) (N := 15) hx hb hT hown hK hW fo.1 fo.2 (by decide) in_Rec rfl rfl (by decide) rfl fr_Rec_14 w_2_9 d_Rec_readGroup_40 hq48 (fun aq48 bq48 => ?_)
  have fq48 : q48 < NN ∧ kcC q48 = 3 := ⟨aq48, bq48⟩
  refine lv_iload_n hx hb d_Rec_readGroup_43 rfl (lv_at hl 2 rfl) ?_
  have hF := hW.free hS hA
  refine va_calli (va_runV (C := R_Sch) (As := [.int l1]) (rest := []) ⟨hx, hb, hml, hown, hT⟩ (k_Sch_pastOf l dC dI cI cB cJ cZ ad NN E tM tC kK kV hNN H.size q48 l1 x46 fq48 hw) ⟨callB_of 1 hT (gwt_in w_4_233) rfl rfl rfl (hT _ w_1_5) (hT _ w_5_30) (by decide +kernel) ⟨Nat.le_trans (Nat.le_of_ble_eq_true rfl) hRf, Nat.le_trans (Nat.le_of_ble_eq_true rfl) hRl⟩, hT _ w_4_231, hT _ w_4_232⟩ ⟨PVc.blind, va_recv hK hW.1 (ci := 3) (q0 := q48) rfl (pic_obj fq48.1 fq48.2 (by decide)), PVc.at _ hW hK hN hE hS hF⟩ rfl rfl hl.1 rfl (lv_room (Nat.le_of_ble_eq_true rfl)) d_Rec_readGroup_44 ⟨hRc, hRs⟩) hS (fun q _ h => hF q h) hF (fun r50 x49 t H locs ht hvm hw hB hz1 hk1 hS => ?_)
  have hW := Wd.back hB ht hF
  clear hB ht hF hz1 hk1 hvm
  refine lv_istore (lv' := [(5, .int r50), (4, .int r47), (0, .ref (ad o)), (1, .int l1), (2, .int l2), (3, .int l3)]) hx hb d_Rec_readGroup_47 hl (by decide) rfl (fun ls hl => ?_)
  refine lv_aload_n hx hb d_Rec_readGroup_49 rfl (lv_at hl 2 rfl) ?_
  obtain ⟨q51, hq51, hw⟩ := hw
  refine w_getr (q := q51) (k := 13) (t := 4) (C := R_Rec) (T := F_Rec) (N := 15) hx hb hT hown hK hW fo.1 fo.2 (by decide) in_Rec rfl rfl (by decide) rfl fr_Rec_13 w_2_8 d_Rec_readGroup_50 hq51 (fun aq51 bq51 => ?_)
  have fq51 : q51 < NN ∧ kcC q51 = 2 := ⟨aq51, bq51⟩
  have hF := hW.free hS hA
  refine va_calli (va_runV (C := R_Scn) (As := []) (rest := []) ⟨hx, hb, hml, hown, hT⟩ (k_Scn_good l dC dI cI cB cJ cZ ad NN E tM tC kK kV hNN H.size q51 x49 fq51 hw) ⟨callB_of 0 hT (gwt_in w_4_106) rfl rfl rfl (hT _ w_1_4) (hT _ w_5_31) (by decide +kernel) ⟨Nat.le_trans (Nat.le_of_ble_eq_true rfl) hRf, Nat.le_trans (Nat.le_of_ble_eq_true rfl) hRl⟩, hT _ w_4_104, hT _ w_4_105⟩ ⟨PVc.blind, va_recv hK hW.1 (ci := 2) (q0 := q51) rfl (pic_obj fq51.1 fq51.2 (by decide)), PVc.at _ hW hK hN hE hS hF⟩ rfl rfl hl.1 rfl (lv_room (Nat.le_of_ble_eq_true rfl)) d_Rec_readGroup_53 ⟨hRc, hRs⟩) hS (fun q _ h => hF q h) hF (fun r53 x52 t H locs ht hvm hw hB hz1 hk1 hS => ?_)
  have hW := Wd.back hB ht hF
  clear hB ht hF hz1 hk1 hvm
  refine lv_if_eq (tgt := 75) hx hb d_Rec_readGroup_56 (by decide) (fun c54 => ?_) (fun c54 => ?_)
  · have hw := hw.1 c54
    exact t_Rec_readGroup_75 hx hb hml hown hT hK hN hA hRc hRs hRf hRl hNN hE hret hs_Rec_readGroup hs_Rec_readOne hs_Rec_readValues hDf hDl  o l1 l2 l3 r47 r50 x52 H locs ls fo hw hW hS (lv_sub hl [2, 3, 4, 5, 1, 0] rfl)
  · have hw := hw.2 c54
    refine lv_aload_n hx hb d_Rec_readGroup_59 rfl (lv_at hl 2 rfl) ?_
    obtain ⟨q55, hq55, hw⟩ := hw
    refine w_getr (q := q55) (k := 13) (t := 4) (C := R_Rec) (T := F_Rec) (N := 15) hx hb hT hown hK hW fo.1 fo.2 (by decide) in_Rec rfl rfl (by decide) rfl fr_Rec_13 w_2_8 d_Rec_readGroup_60 hq55 (fun aq55 bq55 => ?_)
    have fq55 : q55 < NN ∧ kcC q55 = 2 := ⟨aq55, bq55⟩
    have hF := hW.free hS hA
    refine va_calli (va_runV (C := R_Scn) (As := []) (rest := []) ⟨hx, hb, hml, hown, hT⟩ (k_Scn_next l dC dI cI cB cJ cZ ad NN E tM tC kK kV hNN H.size q55 x52 fq55 hw) ⟨callB_of 0 hT (gwt_in w_4_110) rfl rfl rfl (hT _ w_1_4) (hT _ w_5_32) (by decide +kernel) ⟨Nat.le_trans (Nat.le_of_ble_eq_true rfl) hRf, Nat.le_trans (Nat.le_of_ble_eq_true rfl) hRl⟩, hT _ w_4_108, hT _ w_4_109⟩ ⟨PVc.blind, va_recv hK hW.1 (ci := 2) (q0 := q55) rfl (pic_obj fq55.1 fq55.2 (by decide)), PVc.at _ hW hK hN hE hS hF⟩ rfl rfl hl.1 rfl (lv_room (Nat.le_of_ble_eq_true rfl)) d_Rec_readGroup_63 ⟨hRc, hRs⟩) hS (fun q _ h => hF q h) hF (fun r57 x56 t H locs ht hvm hw hB hz1 hk1 hS => ?_)
    have hW := Wd.back hB ht hF
    clear hB ht hF hz1 hk1 hvm
    refine lv_bipush (v := 125) hx hb d_Rec_readGroup_66 (by decide) ?_
    refine lv_icmp_eq (tgt := 75) hx hb d_Rec_readGroup_68 (by decide) (fun c58 => ?_) (fun c58 => ?_)
    · have hw := hw.1 c58
      exact t_Rec_readGroup_75 hx hb hml hown hT hK hN hA hRc hRs hRf hRl hNN hE hret hs_Rec_readGroup hs_Rec_readOne hs_Rec_readValues hDf hDl  o l1 l2 l3 r47 r50 x56 H locs ls fo hw hW hS (lv_sub hl [2, 3, 4, 5, 1, 0] rfl)
    · have hw := hw.2 c58
      refine lv_iconst (v := 1) hx hb d_Rec_readGroup_71 (by decide) ?_
      refine lv_goto (tgt := 76) hx hb d_Rec_readGroup_72 (by decide) ?_
      exact t_Rec_readGroup_76 hx hb hml hown hT hK hN hA hRc hRs hRf hRl hNN hE hret hs_Rec_readGroup hs_Rec_readOne hs_Rec_readValues hDf hDl  o l1 l2 l3 r47 r50 1 x56 H locs ls fo hw hW hS (lv_sub hl [2, 3, 4, 5, 1, 0] rfl)
set_option maxRecDepth 100000 in
set_option maxHeartbeats 4000000 in
set_option maxRecDepth 100000 in
theorem t_Rec_readGroup_e {p : Program} {l : Launch} {e : Env} {R : Room} {s : State} {m : MethodId} {args : Array Value} {below : List Frame} {meth : Method} {c : Code} {cells slots : Nat} {Q : State → Prop} {dC : Nat → ClassId} {dI : Nat → Nat → Nat} {cI cB cJ cZ : ClassId} {A : Nat → Prop} {ad : Nat → Nat} {NN : Nat} {E : Heap} {tM tC : Nat} {kK kV : Nat → Nat} {post : St → Prop} {self_Rec_readGroup : (St → Prop) → Nat → Int32 → Int32 → Int32 → St → Prop} {self_Rec_readOne : (St → Prop) → Nat → Int32 → Int32 → Int32 → St → Prop} {self_Rec_readValues : (St → Prop) → Nat → Int32 → Int32 → Int32 → St → Prop} {fd ld : Nat} (hx : p.tables.exec = Jvm.exec) (hb : c.code = b_Rec_readGroup) (hml : c.maxLocals = 9) (hown : s.vm.findClass R_Rec = some m.cls) (hT : ∀ w ∈ TG, w.before args s = true) (hK : va_K (dC, dI) CL (TY cI cB cJ cZ) s) (hN : NW s) (hA : ∀ q : Nat, s.heap.size ≤ q → A q) (hRc : cells ≤ R.cells) (hRs : slots ≤ R.slots) (hRf : 8 ≤ R.frames) (hRl : 287 ≤ R.locals) (hNN : 152 ≤ NN) (hE : CE E tM tC kK kV A s) (hret : ∀ (x : St) (H : Heap) (locs : List Loc) (pc : Nat) (ls : Array Slot), decode b_Rec_readGroup pc = .ok (.return_, 1) → post x → Wd dC dI cI cB cJ cZ ad stC kcC NN A x H → va_S A s.heap H locs → W p l e R s m args below meth c H locs cells slots Q (F0 m pc ls [])) (hs_Rec_readGroup : ∀ (sz : Nat) (o : Nat) (l1 : Int32) (l2 : Int32) (l3 : Int32) (x : St), (o < NN ∧ kcC o = 4) → ∀ (post : St → Prop), self_Rec_readGroup post o l1 l2 l3 x → Met l y_Rec_readGroup (wsOf y_Rec_readGroup b_Rec_readGroup 9 (none)) ({ frames := fd, cells := 0, slots := 0, locals := ld }) (va_Pc [.ref (ad o), .int l1, .int l2, .int l3] (PVc dC dI cI cB cJ cZ ad stC kcC NN E tM tC kK kV sz x)) (va_Qv (fun (y : St) => post y) (fun y t => Wd dC dI cI cB cJ cZ ad stC kcC NN (va_A (pic ad stC kcC NN cI cB cJ cZ x) sz) y t.heap) (va_A (pic ad stC kcC NN cI cB cJ cZ x) sz)) 0 0 (va_A (pic ad stC kcC NN cI cB cJ cZ x) sz)) (hs_Rec_readOne : ∀ (sz : Nat) (o : Nat) (l1 : Int32) (l2 : Int32) (l3 : Int32) (x : St), (o < NN ∧ kcC o = 4) → ∀ (post : St → Prop), self_Rec_readOne post o l1 l2 l3 x → Met l y_Rec_readOne (wsOf y_Rec_readOne b_Rec_readOne 6 (none)) ({ frames := fd, cells := 0, slots := 0, locals := ld }) (va_Pc [.ref (ad o), .int l1, .int l2, .int l3] (PVc dC dI cI cB cJ cZ ad stC kcC NN E tM tC kK kV sz x)) (va_Qv (fun (y : St) => post y) (fun y t => Wd dC dI cI cB cJ cZ ad stC kcC NN (va_A (pic ad stC kcC NN cI cB cJ cZ x) sz) y t.heap) (va_A (pic ad stC kcC NN cI cB cJ cZ x) sz)) 0 0 (va_A (pic ad stC kcC NN cI cB cJ cZ x) sz)) (hs_Rec_readValues : ∀ (sz : Nat) (o : Nat) (l1 : Int32) (l2 : Int32) (l3 : Int32) (x : St), (o < NN ∧ kcC o = 4) → ∀ (post : St → Prop), self_Rec_readValues post o l1 l2 l3 x → Met l y_Rec_readValues (wsOf y_Rec_readValues b_Rec_readValues 7 (none)) ({ frames := fd, cells := 0, slots := 0, locals := ld }) (va_Pc [.ref (ad o), .int l1, .int l2, .int l3] (PVc dC dI cI cB cJ cZ ad stC kcC NN E tM tC kK kV sz x)) (va_Qv (fun (y : St) => post y) (fun y t => Wd dC dI cI cB cJ cZ ad stC kcC NN (va_A (pic ad stC kcC NN cI cB cJ cZ x) sz) y t.heap) (va_A (pic ad stC kcC NN cI cB cJ cZ x) sz)) 0 0 (va_A (pic ad stC kcC NN cI cB cJ cZ x) sz)) (hDf : fd + 1 ≤ R.frames) (hDl : 28 + ld ≤ R.locals) : ∀ (o : Nat) (l1 : Int32) (l2 : Int32) (l3 : Int32) (x : St) (H : Heap) (locs : List Loc) (ls : Array Slot), (o < NN ∧ kcC o = 4) → wb_Rec_readGroup post self_Rec_readGroup self_Rec_readOne self_Rec_readValues o l1 l2 l3 x → Wd dC dI cI cB cJ cZ ad stC kcC NN A x H → va_S A s.heap H locs → lv_has ls 9 [(0, .ref (ad o)), (1, .int l1), (2, .int l2), (3, .int l3)] → W p l e R s m args below meth c H locs cells slots Q (F0 m 0 ls []) := by
  intro o l1 l2 l3 x H locs ls fo hw hW hS hl
  unfold wb_Rec_readGroup at hw
  refine lv_iload_n hx hb d_Rec_readGroup_0 rfl (lv_at hl 3 rfl) ?_
  refine lv_bipush (v := 16) hx hb d_Rec_readGroup_1 (by decide) ?_
  refine lv_icmp_le (tgt := 20) hx hb d_Rec_readGroup_3 (by decide) (fun c59 => ?_) (fun c59 => ?_)
  · have hw := hw.1 c59
    exact t_Rec_readGroup_20 hx hb hml hown hT hK hN hA hRc hRs hRf hRl hNN hE hret hs_Rec_readGroup hs_Rec_readOne hs_Rec_readValues hDf hDl  o l1 l2 l3 x H locs ls fo hw hW hS (lv_sub hl [0, 1, 2, 3] rfl)
  · have hw := hw.2 c59
    refine lv_aload_n hx hb d_Rec_readGroup_6 rfl (lv_at hl 0 rfl) ?_
    obtain ⟨q60, hq60, hw⟩ := hw
    refine w_getr (q := q60) (k := 13) (t := 4) (C := R_Rec) (T := F_Rec) (N := 15) hx hb hT hown hK hW fo.1 fo.2 (by decide) in_Rec rfl rfl (by decide) rfl fr_Rec_13 w_2_8 d_Rec_readGroup_7 hq60 (fun aq60 bq60 => ?_)
    have fq60 : q60 < NN ∧ kcC q60 = 2 := ⟨aq60, bq60⟩
    refine lv_aload_n hx hb d_Rec_readGroup_10 rfl (lv_at hl 0 rfl) ?_
    obtain ⟨q61, hq61, hw⟩ := hw
    refine w_getr (q := q61) (k := 13) (t := 4) (C := R_Rec) (T := F_Rec) (N := 15) hx hb hT hown hK hW fo.1 fo.2 (by decide) in_Rec rfl rfl (by decide) rfl fr_Rec_13 w_2_8 d_Rec_readGroup_11 hq61 (fun aq61 bq61 => ?_)
    have fq61 : q61 < NN ∧ kcC q61 = 2 := ⟨aq61, bq61⟩
    refine w_geti (k := 2) (t := 2) (C := R_Scn) (T := F_Scn) (N := 8) hx hb hT hown hK hW fq61.1 fq61.2 (by decide) in_Scn rfl rfl (by decide) rfl fr_Scn_2 w_1_87 d_Rec_readGroup_14 ?_
    have hF := hW.free hS hA
    refine va_callv (va_runV (C := R_Scn) (As := [.int (fI x q61 2)]) (rest := []) ⟨hx, hb, hml, hown, hT⟩ (k_Scn_refuse l dC dI cI cB cJ cZ ad NN E tM tC kK kV hNN H.size q60 (fI x q61 2) x fq60 hw) ⟨callB_of 1 hT (gwt_in w_4_128) rfl rfl rfl (hT _ w_1_4) (hT _ w_5_27) (by decide +kernel) ⟨Nat.le_trans (Nat.le_of_ble_eq_true rfl) hRf, Nat.le_trans (Nat.le_of_ble_eq_true rfl) hRl⟩, hT _ w_4_126, hT _ w_4_127⟩ ⟨PVc.blind, va_recv hK hW.1 (ci := 2) (q0 := q60) rfl (pic_obj fq60.1 fq60.2 (by decide)), PVc.at _ hW hK hN hE hS hF⟩ rfl rfl hl.1 rfl (lv_room (Nat.le_of_ble_eq_true rfl)) d_Rec_readGroup_17 ⟨hRc, hRs⟩) hS (fun q _ h => hF q h) hF (fun  x62 t H locs ht hvm hw hB hz1 hk1 hS => ?_)
    have hW := Wd.back hB ht hF
    clear hB ht hF hz1 hk1 hvm
    exact t_Rec_readGroup_20 hx hb hml hown hT hK hN hA hRc hRs hRf hRl hNN hE hret hs_Rec_readGroup hs_Rec_readOne hs_Rec_readValues hDf hDl  o l1 l2 l3 x62 H locs ls fo hw hW hS (lv_sub hl [0, 1, 2, 3] rfl)
set_option maxRecDepth 100000 in
set_option maxHeartbeats 4000000 in
set_option maxRecDepth 100000 in
theorem t_Rec_readOne_e {p : Program} {l : Launch} {e : Env} {R : Room} {s : State} {m : MethodId} {args : Array Value} {below : List Frame} {meth : Method} {c : Code} {cells slots : Nat} {Q : State → Prop} {dC : Nat → ClassId} {dI : Nat → Nat → Nat} {cI cB cJ cZ : ClassId} {A : Nat → Prop} {ad : Nat → Nat} {NN : Nat} {E : Heap} {tM tC : Nat} {kK kV : Nat → Nat} {post : St → Prop} {self_Rec_readGroup : (St → Prop) → Nat → Int32 → Int32 → Int32 → St → Prop} {self_Rec_readOne : (St → Prop) → Nat → Int32 → Int32 → Int32 → St → Prop} {self_Rec_readValues : (St → Prop) → Nat → Int32 → Int32 → Int32 → St → Prop} {fd ld : Nat} (hx : p.tables.exec = Jvm.exec) (hb : c.code = b_Rec_readOne) (hml : c.maxLocals = 6) (hown : s.vm.findClass R_Rec = some m.cls) (hT : ∀ w ∈ TG, w.before args s = true) (hK : va_K (dC, dI) CL (TY cI cB cJ cZ) s) (hN : NW s) (hA : ∀ q : Nat, s.heap.size ≤ q → A q) (hRc : cells ≤ R.cells) (hRs : slots ≤ R.slots) (hRf : 8 ≤ R.frames) (hRl : 287 ≤ R.locals) (hNN : 152 ≤ NN) (hE : CE E tM tC kK kV A s) (hret : ∀ (x : St) (H : Heap) (locs : List Loc) (pc : Nat) (ls : Array Slot), decode b_Rec_readOne pc = .ok (.return_, 1) → post x → Wd dC dI cI cB cJ cZ ad stC kcC NN A x H → va_S A s.heap H locs → W p l e R s m args below meth c H locs cells slots Q (F0 m pc ls [])) (hs_Rec_readGroup : ∀ (sz : Nat) (o : Nat) (l1 : Int32) (l2 : Int32) (l3 : Int32) (x : St), (o < NN ∧ kcC o = 4) → ∀ (post : St → Prop), self_Rec_readGroup post o l1 l2 l3 x → Met l y_Rec_readGroup (wsOf y_Rec_readGroup b_Rec_readGroup 9 (none)) ({ frames := fd, cells := 0, slots := 0, locals := ld }) (va_Pc [.ref (ad o), .int l1, .int l2, .int l3] (PVc dC dI cI cB cJ cZ ad stC kcC NN E tM tC kK kV sz x)) (va_Qv (fun (y : St) => post y) (fun y t => Wd dC dI cI cB cJ cZ ad stC kcC NN (va_A (pic ad stC kcC NN cI cB cJ cZ x) sz) y t.heap) (va_A (pic ad stC kcC NN cI cB cJ cZ x) sz)) 0 0 (va_A (pic ad stC kcC NN cI cB cJ cZ x) sz)) (hs_Rec_readOne : ∀ (sz : Nat) (o : Nat) (l1 : Int32) (l2 : Int32) (l3 : Int32) (x : St), (o < NN ∧ kcC o = 4) → ∀ (post : St → Prop), self_Rec_readOne post o l1 l2 l3 x → Met l y_Rec_readOne (wsOf y_Rec_readOne b_Rec_readOne 6 (none)) ({ frames := fd, cells := 0, slots := 0, locals := ld }) (va_Pc [.ref (ad o), .int l1, .int l2, .int l3] (PVc dC dI cI cB cJ cZ ad stC kcC NN E tM tC kK kV sz x)) (va_Qv (fun (y : St) => post y) (fun y t => Wd dC dI cI cB cJ cZ ad stC kcC NN (va_A (pic ad stC kcC NN cI cB cJ cZ x) sz) y t.heap) (va_A (pic ad stC kcC NN cI cB cJ cZ x) sz)) 0 0 (va_A (pic ad stC kcC NN cI cB cJ cZ x) sz)) (hs_Rec_readValues : ∀ (sz : Nat) (o : Nat) (l1 : Int32) (l2 : Int32) (l3 : Int32) (x : St), (o < NN ∧ kcC o = 4) → ∀ (post : St → Prop), self_Rec_readValues post o l1 l2 l3 x → Met l y_Rec_readValues (wsOf y_Rec_readValues b_Rec_readValues 7 (none)) ({ frames := fd, cells := 0, slots := 0, locals := ld }) (va_Pc [.ref (ad o), .int l1, .int l2, .int l3] (PVc dC dI cI cB cJ cZ ad stC kcC NN E tM tC kK kV sz x)) (va_Qv (fun (y : St) => post y) (fun y t => Wd dC dI cI cB cJ cZ ad stC kcC NN (va_A (pic ad stC kcC NN cI cB cJ cZ x) sz) y t.heap) (va_A (pic ad stC kcC NN cI cB cJ cZ x) sz)) 0 0 (va_A (pic ad stC kcC NN cI cB cJ cZ x) sz)) (hDf : fd + 1 ≤ R.frames) (hDl : 28 + ld ≤ R.locals) : ∀ (o : Nat) (l1 : Int32) (l2 : Int32) (l3 : Int32) (x : St) (H : Heap) (locs : List Loc) (ls : Array Slot), (o < NN ∧ kcC o = 4) → wb_Rec_readOne post self_Rec_readGroup self_Rec_readOne self_Rec_readValues o l1 l2 l3 x → Wd dC dI cI cB cJ cZ ad stC kcC NN A x H → va_S A s.heap H locs → lv_has ls 6 [(0, .ref (ad o)), (1, .int l1), (2, .int l2), (3, .int l3)] → W p l e R s m args below meth c H locs cells slots Q (F0 m 0 ls []) := by
  intro o l1 l2 l3 x H locs ls fo hw hW hS hl
  unfold wb_Rec_readOne at hw
  refine lv_aload_n hx hb d_Rec_readOne_0 rfl (lv_at hl 0 rfl) ?_
  obtain ⟨q1, hq1, hw⟩ := hw
  refine w_getr (q := q1) (k := 14) (t := 4) (C := R_Rec) (T := F_Rec) (N := 15) hx hb hT hown hK hW fo.1 fo.2 (by decide) in_Rec rfl rfl (by decide) rfl fr_Rec_14 w_2_9 d_Rec_readOne_1 hq1 (fun aq1 bq1 => ?_)
  have fq1 : q1 < NN ∧ kcC q1 = 3 := ⟨aq1, bq1⟩
  refine w_getf (q := (stC q1 3)) (k := 3) (t := 3) (C := R_Sch) (T := F_Sch) (N := 13) hx hb hT hown hK hW fq1.1 fq1.2 (by decide) in_Sch rfl rfl (by decide) rfl fr_Sch_3 w_1_151 d_Rec_readOne_4 rfl ?_
  refine lv_iload_n hx hb d_Rec_readOne_7 rfl (lv_at hl 1 rfl) ?_
  obtain ⟨hi, hw⟩ := hw
  refine w_iald (o := (stC q1 3)) hx hb hK hW (st_ty hNN fq1.1 fq1.2 rfl).1 (st_ty hNN fq1.1 fq1.2 rfl).2 hi d_Rec_readOne_8 ?_
  refine lv_iconst (v := 4) hx hb d_Rec_readOne_9 (by decide) ?_
  refine lv_icmp_ne (tgt := 23) hx hb d_Rec_readOne_10 (by decide) (fun c2 => ?_) (fun c2 => ?_)
  · have hw := hw.1 c2
    refine lv_aload_n hx hb d_Rec_readOne_23 rfl (lv_at hl 0 rfl) ?_
    refine lv_aload_n hx hb d_Rec_readOne_24 rfl (lv_at hl 0 rfl) ?_
    obtain ⟨q3, hq3, hw⟩ := hw
    refine w_getr (q := q3) (k := 14) (t := 4) (C := R_Rec) (T := F_Rec) (N := 15) hx hb hT hown hK hW fo.1 fo.2 (by decide) in_Rec rfl rfl (by decide) rfl fr_Rec_14 w_2_9 d_Rec_readOne_25 hq3 (fun aq3 bq3 => ?_)
    have fq3 : q3 < NN ∧ kcC q3 = 3 := ⟨aq3, bq3⟩
    refine w_getf (q := (stC q3 3)) (k := 3) (t := 3) (C := R_Sch) (T := F_Sch) (N := 13) hx hb hT hown hK hW fq3.1 fq3.2 (by decide) in_Sch rfl rfl (by decide) rfl fr_Sch_3 w_1_151 d_Rec_readOne_28 rfl ?_
    refine lv_iload_n hx hb d_Rec_readOne_31 rfl (lv_at hl 1 rfl) ?_
    obtain ⟨hi, hw⟩ := hw
    refine w_iald (o := (stC q3 3)) hx hb hK hW (st_ty hNN fq3.1 fq3.2 rfl).1 (st_ty hNN fq3.1 fq3.2 rfl).2 hi d_Rec_readOne_32 ?_
    have hF := hW.free hS hA
    refine va_calll (va_runV (C := R_Rec) (As := [.int (rA x (stC q3 3) l1)]) (rest := []) ⟨hx, hb, hml, hown, hT⟩ (k_Rec_readValue l dC dI cI cB cJ cZ ad NN E tM tC kK kV hNN H.size o (rA x (stC q3 3) l1) x fo hw) ⟨callB_of 1 hT (gwt_in w_5_63) rfl rfl rfl (hT _ w_1_6) (hT _ w_5_60) (by decide +kernel) ⟨Nat.le_trans (Nat.le_of_ble_eq_true rfl) hRf, Nat.le_trans (Nat.le_of_ble_eq_true rfl) hRl⟩, hT _ w_5_62, hT _ ws_12⟩ ⟨PVc.blind, va_recv hK hW.1 (ci := 4) (q0 := o) rfl (pic_obj fo.1 fo.2 (by decide)), PVc.at _ hW hK hN hE hS hF⟩ rfl rfl hl.1 rfl (lv_room (Nat.le_of_ble_eq_true rfl)) d_Rec_readOne_33 ⟨hRc, hRs⟩) hS (fun q _ h => hF q h) hF (fun r5 x4 t H locs ht hvm hw hB hz1 hk1 hS => ?_)
    have hW := Wd.back hB ht hF
    clear hB ht hF hz1 hk1 hvm
    refine lv_lstore (lv' := [(4, .long r5), (0, .ref (ad o)), (1, .int l1), (2, .int l2), (3, .int l3)]) hx hb d_Rec_readOne_36 hl (by decide) rfl (fun ls hl => ?_)
    refine lv_aload_n hx hb d_Rec_readOne_38 rfl (lv_at hl 1 rfl) ?_
    obtain ⟨q6, hq6, hw⟩ := hw
    refine w_getr (q := q6) (k := 13) (t := 4) (C := R_Rec) (T := F_Rec) (N := 15) hx hb hT hown hK hW fo.1 fo.2 (by decide) in_Rec rfl rfl (by decide) rfl fr_Rec_13 w_2_8 d_Rec_readOne_39 hq6 (fun aq6 bq6 => ?_)
    have fq6 : q6 < NN ∧ kcC q6 = 2 := ⟨aq6, bq6⟩
    have hF := hW.free hS hA
    refine va_calli (va_runV (C := R_Scn) (As := []) (rest := []) ⟨hx, hb, hml, hown, hT⟩ (k_Scn_good l dC dI cI cB cJ cZ ad NN E tM tC kK kV hNN H.size q6 x4 fq6 hw) ⟨callB_of 0 hT (gwt_in w_4_106) rfl rfl rfl (hT _ w_1_4) (hT _ w_5_31) (by decide +kernel) ⟨Nat.le_trans (Nat.le_of_ble_eq_true rfl) hRf, Nat.le_trans (Nat.le_of_ble_eq_true rfl) hRl⟩, hT _ w_4_104, hT _ w_4_105⟩ ⟨PVc.blind, va_recv hK hW.1 (ci := 2) (q0 := q6) rfl (pic_obj fq6.1 fq6.2 (by decide)), PVc.at _ hW hK hN hE hS hF⟩ rfl rfl hl.1 rfl (lv_room (Nat.le_of_ble_eq_true rfl)) d_Rec_readOne_42 ⟨hRc, hRs⟩) hS (fun q _ h => hF q h) hF (fun r8 x7 t H locs ht hvm hw hB hz1 hk1 hS => ?_)
    have hW := Wd.back hB ht hF
    clear hB ht hF hz1 hk1 hvm
    refine lv_if_eq (tgt := 73) hx hb d_Rec_readOne_45 (by decide) (fun c9 => ?_) (fun c9 => ?_)
    · have hw := hw.1 c9
      exact hret x7 H locs 73 ls d_Rec_readOne_73 hw hW hS
    · have hw := hw.2 c9
      refine lv_aload_n hx hb d_Rec_readOne_48 rfl (lv_at hl 1 rfl) ?_
      refine lv_aload_n hx hb d_Rec_readOne_49 rfl (lv_at hl 1 rfl) ?_
      obtain ⟨q10, hq10, hw⟩ := hw
      refine w_getr (q := q10) (k := 14) (t := 4) (C := R_Rec) (T := F_Rec) (N := 15) hx hb hT hown hK hW fo.1 fo.2 (by decide) in_Rec rfl rfl (by decide) rfl fr_Rec_14 w_2_9 d_Rec_readOne_50 hq10 (fun aq10 bq10 => ?_)
      have fq10 : q10 < NN ∧ kcC q10 = 3 := ⟨aq10, bq10⟩
      refine w_getf (q := (stC q10 9)) (k := 9) (t := 3) (C := R_Sch) (T := F_Sch) (N := 13) hx hb hT hown hK hW fq10.1 fq10.2 (by decide) in_Sch rfl rfl (by decide) rfl fr_Sch_9 w_1_176 d_Rec_readOne_53 rfl ?_
      refine lv_iload_n hx hb d_Rec_readOne_56 rfl (lv_at hl 2 rfl) ?_
      obtain ⟨hi, hw⟩ := hw
      refine w_iald (o := (stC q10 9)) hx hb hK hW (st_ty hNN fq10.1 fq10.2 rfl).1 (st_ty hNN fq10.1 fq10.2 rfl).2 hi d_Rec_readOne_57 ?_
      refine lv_iload_n hx hb d_Rec_readOne_58 rfl (lv_at hl 3 rfl) ?_
      refine lv_aload_n hx hb d_Rec_readOne_59 rfl (lv_at hl 1 rfl) ?_
      obtain ⟨q11, hq11, hw⟩ := hw
      refine w_getr (q := q11) (k := 14) (t := 4) (C := R_Rec) (T := F_Rec) (N := 15) hx hb hT hown hK hW fo.1 fo.2 (by decide) in_Rec rfl rfl (by decide) rfl fr_Rec_14 w_2_9 d_Rec_readOne_60 hq11 (fun aq11 bq11 => ?_)
      have fq11 : q11 < NN ∧ kcC q11 = 3 := ⟨aq11, bq11⟩
      refine w_getf (q := (stC q11 6)) (k := 6) (t := 3) (C := R_Sch) (T := F_Sch) (N := 13) hx hb hT hown hK hW fq11.1 fq11.2 (by decide) in_Sch rfl rfl (by decide) rfl fr_Sch_6 w_1_166 d_Rec_readOne_63 rfl ?_
      refine lv_iload_n hx hb d_Rec_readOne_66 rfl (lv_at hl 2 rfl) ?_
      obtain ⟨hi, hw⟩ := hw
      refine w_iald (o := (stC q11 6)) hx hb hK hW (st_ty hNN fq11.1 fq11.2 rfl).1 (st_ty hNN fq11.1 fq11.2 rfl).2 hi d_Rec_readOne_67 ?_
      refine lv_lload hx hb d_Rec_readOne_68 (lv_at hl 0 rfl) ?_
      have hF := hW.free hS hA
      refine va_callv (va_runV (C := R_Rec) (As := [.int (rA x7 (stC q10 9) l1), .int l2, .int (rA x7 (stC q11 6) l1), .long r5]) (rest := []) ⟨hx, hb, hml, hown, hT⟩ (k_Rec_enter l dC dI cI cB cJ cZ ad NN E tM tC kK kV hNN H.size o (rA x7 (stC q10 9) l1) l2 (rA x7 (stC q11 6) l1) r5 x7 fo hw) ⟨callB_of 4 hT (gwt_in w_5_51) rfl rfl rfl (hT _ w_1_6) (hT _ w_5_48) (by decide +kernel) ⟨Nat.le_trans (Nat.le_of_ble_eq_true rfl) hRf, Nat.le_trans (Nat.le_of_ble_eq_true rfl) hRl⟩, hT _ w_5_50, hT _ ws_9⟩ ⟨PVc.blind, va_recv hK hW.1 (ci := 4) (q0 := o) rfl (pic_obj fo.1 fo.2 (by decide)), PVc.at _ hW hK hN hE hS hF⟩ rfl rfl hl.1 rfl (lv_room (Nat.le_of_ble_eq_true rfl)) d_Rec_readOne_70 ⟨hRc, hRs⟩) hS (fun q _ h => hF q h) hF (fun  x12 t H locs ht hvm hw hB hz1 hk1 hS => ?_)
      have hW := Wd.back hB ht hF
      clear hB ht hF hz1 hk1 hvm
      exact hret x12 H locs 73 ls d_Rec_readOne_73 hw hW hS
  · have hw := hw.2 c2
    refine lv_aload_n hx hb d_Rec_readOne_13 rfl (lv_at hl 0 rfl) ?_
    refine lv_iload_n hx hb d_Rec_readOne_14 rfl (lv_at hl 1 rfl) ?_
    refine lv_iload_n hx hb d_Rec_readOne_15 rfl (lv_at hl 2 rfl) ?_
    refine lv_iload_n hx hb d_Rec_readOne_16 rfl (lv_at hl 3 rfl) ?_
    refine lv_iconst (v := 1) hx hb d_Rec_readOne_17 (by decide) ?_
    refine lv_iadd hx hb d_Rec_readOne_18 ?_
    have hF := hW.free hS hA
    refine va_callv (va_runV (C := R_Rec) (As := [.int l1, .int l2, .int (l3 + 1)]) (rest := []) ⟨hx, hb, hml, hown, hT⟩ (hs_Rec_readGroup H.size o l1 l2 (l3 + 1) x fo _ hw) ⟨callB_of 3 hT (gwt_in w_5_26) rfl rfl rfl (hT _ w_1_6) (hT _ w_5_23) (by decide +kernel) ⟨hDf, Nat.le_trans (Nat.add_le_add_right (by decide) _) hDl⟩, hT _ w_5_25, hT _ ws_6⟩ ⟨PVc.blind, va_recv hK hW.1 (ci := 4) (q0 := o) rfl (pic_obj fo.1 fo.2 (by decide)), PVc.at _ hW hK hN hE hS hF⟩ rfl rfl hl.1 rfl (lv_room (Nat.le_of_ble_eq_true rfl)) d_Rec_readOne_19 ⟨hRc, hRs⟩) hS (fun q _ h => hF q h) hF (fun  x13 t H locs ht hvm hw hB hz1 hk1 hS => ?_)
    have hW := Wd.back hB ht hF
    clear hB ht hF hz1 hk1 hvm
    exact hret x13 H locs 22 ls d_Rec_readOne_22 hw hW hS
set_option maxRecDepth 100000 in
set_option maxHeartbeats 4000000 in
set_option maxRecDepth 100000 in
theorem t_Rec_readValues_158 {p : Program} {l : Launch} {e : Env} {R : Room} {s : State} {m : MethodId} {args : Array Value} {below : List Frame} {meth : Method} {c : Code} {cells slots : Nat} {Q : State → Prop} {dC : Nat → ClassId} {dI : Nat → Nat → Nat} {cI cB cJ cZ : ClassId} {A : Nat → Prop} {ad : Nat → Nat} {NN : Nat} {E : Heap} {tM tC : Nat} {kK kV : Nat → Nat} {post : St → Prop} {self_Rec_readGroup : (St → Prop) → Nat → Int32 → Int32 → Int32 → St → Prop} {self_Rec_readOne : (St → Prop) → Nat → Int32 → Int32 → Int32 → St → Prop} {self_Rec_readValues : (St → Prop) → Nat → Int32 → Int32 → Int32 → St → Prop} {fd ld : Nat} (hx : p.tables.exec = Jvm.exec) (hb : c.code = b_Rec_readValues) (hml : c.maxLocals = 7) (hown : s.vm.findClass R_Rec = some m.cls) (hT : ∀ w ∈ TG, w.before args s = true) (hK : va_K (dC, dI) CL (TY cI cB cJ cZ) s) (hN : NW s) (hA : ∀ q : Nat, s.heap.size ≤ q → A q) (hRc : cells ≤ R.cells) (hRs : slots ≤ R.slots) (hRf : 8 ≤ R.frames) (hRl : 287 ≤ R.locals) (hNN : 152 ≤ NN) (hE : CE E tM tC kK kV A s) (hret : ∀ (x : St) (H : Heap) (locs : List Loc) (pc : Nat) (ls : Array Slot), decode b_Rec_readValues pc = .ok (.return_, 1) → post x → Wd dC dI cI cB cJ cZ ad stC kcC NN A x H → va_S A s.heap H locs → W p l e R s m args below meth c H locs cells slots Q (F0 m pc ls [])) (hs_Rec_readGroup : ∀ (sz : Nat) (o : Nat) (l1 : Int32) (l2 : Int32) (l3 : Int32) (x : St), (o < NN ∧ kcC o = 4) → ∀ (post : St → Prop), self_Rec_readGroup post o l1 l2 l3 x → Met l y_Rec_readGroup (wsOf y_Rec_readGroup b_Rec_readGroup 9 (none)) ({ frames := fd, cells := 0, slots := 0, locals := ld }) (va_Pc [.ref (ad o), .int l1, .int l2, .int l3] (PVc dC dI cI cB cJ cZ ad stC kcC NN E tM tC kK kV sz x)) (va_Qv (fun (y : St) => post y) (fun y t => Wd dC dI cI cB cJ cZ ad stC kcC NN (va_A (pic ad stC kcC NN cI cB cJ cZ x) sz) y t.heap) (va_A (pic ad stC kcC NN cI cB cJ cZ x) sz)) 0 0 (va_A (pic ad stC kcC NN cI cB cJ cZ x) sz)) (hs_Rec_readOne : ∀ (sz : Nat) (o : Nat) (l1 : Int32) (l2 : Int32) (l3 : Int32) (x : St), (o < NN ∧ kcC o = 4) → ∀ (post : St → Prop), self_Rec_readOne post o l1 l2 l3 x → Met l y_Rec_readOne (wsOf y_Rec_readOne b_Rec_readOne 6 (none)) ({ frames := fd, cells := 0, slots := 0, locals := ld }) (va_Pc [.ref (ad o), .int l1, .int l2, .int l3] (PVc dC dI cI cB cJ cZ ad stC kcC NN E tM tC kK kV sz x)) (va_Qv (fun (y : St) => post y) (fun y t => Wd dC dI cI cB cJ cZ ad stC kcC NN (va_A (pic ad stC kcC NN cI cB cJ cZ x) sz) y t.heap) (va_A (pic ad stC kcC NN cI cB cJ cZ x) sz)) 0 0 (va_A (pic ad stC kcC NN cI cB cJ cZ x) sz)) (hs_Rec_readValues : ∀ (sz : Nat) (o : Nat) (l1 : Int32) (l2 : Int32) (l3 : Int32) (x : St), (o < NN ∧ kcC o = 4) → ∀ (post : St → Prop), self_Rec_readValues post o l1 l2 l3 x → Met l y_Rec_readValues (wsOf y_Rec_readValues b_Rec_readValues 7 (none)) ({ frames := fd, cells := 0, slots := 0, locals := ld }) (va_Pc [.ref (ad o), .int l1, .int l2, .int l3] (PVc dC dI cI cB cJ cZ ad stC kcC NN E tM tC kK kV sz x)) (va_Qv (fun (y : St) => post y) (fun y t => Wd dC dI cI cB cJ cZ ad stC kcC NN (va_A (pic ad stC kcC NN cI cB cJ cZ x) sz) y t.heap) (va_A (pic ad stC kcC NN cI cB cJ cZ x) sz)) 0 0 (va_A (pic ad stC kcC NN cI cB cJ cZ x) sz)) (hDf : fd + 1 ≤ R.frames) (hDl : 28 + ld ≤ R.locals)  : ∀ (o : Nat) (l1 : Int32) (l2 : Int32) (l3 : Int32) (l4 : Int32) (l5 : Int32) (l6 : Int32) (x : St) (H : Heap) (locs : List Loc) (ls : Array Slot), (o < NN ∧ kcC o = 4) → j_Rec_readValues_158 post self_Rec_readGroup self_Rec_readOne self_Rec_readValues o l1 l2 l3 l4 l5 l6 x → Wd dC dI cI cB cJ cZ ad stC kcC NN A x H → va_S A s.heap H locs → lv_has ls 7 [(0, .ref (ad o)), (1, .int l1), (2, .int l2), (3, .int l3), (4, .int l4), (5, .int l5), (6, .int l6)] → W p l e R s m args below meth c H locs cells slots Q (F0 m 158 ls []) := by
  intro o l1 l2 l3 l4 l5 l6 x H locs ls fo hw hW hS hl
  unfold j_Rec_readValues_158 at hw
  refine lv_aload_n hx hb d_Rec_readValues_158 rfl (lv_at hl 0 rfl) ?_
  obtain ⟨q1, hq1, hw⟩ := hw
  refine w_getr (q := q1) (k := 13) (t := 4) (C := R_Rec) (T := F_Rec) (N := 15) hx hb hT hown hK hW fo.1 fo.2 (by decide) in_Rec rfl rfl (by decide) rfl fr_Rec_13 w_2_8 d_Rec_readValues_159 hq1 (fun aq1 bq1 => ?_)
  have fq1 : q1 < NN ∧ kcC q1 = 2 := ⟨aq1, bq1⟩
  refine lv_bipush (v := 93) hx hb d_Rec_readValues_162 (by decide) ?_
  have hF := hW.free hS hA
  refine va_callv (va_runV (C := R_Scn) (As := [.int 93]) (rest := []) ⟨hx, hb, hml, hown, hT⟩ (k_Scn_needSign l dC dI cI cB cJ cZ ad NN E tM tC kK kV hNN H.size q1 93 x fq1 hw) ⟨callB_of 1 hT (gwt_in w_4_118) rfl rfl rfl (hT _ w_1_4) (hT _ w_5_28) (by decide +kernel) ⟨Nat.le_trans (Nat.le_of_ble_eq_true rfl) hRf, Nat.le_trans (Nat.le_of_ble_eq_true rfl) hRl⟩, hT _ w_4_116, hT _ w_4_117⟩ ⟨PVc.blind, va_recv hK hW.1 (ci := 2) (q0 := q1) rfl (pic_obj fq1.1 fq1.2 (by decide)), PVc.at _ hW hK hN hE hS hF⟩ rfl rfl hl.1 rfl (lv_room (Nat.le_of_ble_eq_true rfl)) d_Rec_readValues_164 ⟨hRc, hRs⟩) hS (fun q _ h => hF q h) hF (fun  x2 t H locs ht hvm hw hB hz1 hk1 hS => ?_)
  have hW := Wd.back hB ht hF
  clear hB ht hF hz1 hk1 hvm
  exact hret x2 H locs 167 ls d_Rec_readValues_167 hw hW hS
set_option maxRecDepth 100000 in
set_option maxHeartbeats 4000000 in
set_option maxRecDepth 100000 in
theorem t_Rec_readValues_150 {p : Program} {l : Launch} {e : Env} {R : Room} {s : State} {m : MethodId} {args : Array Value} {below : List Frame} {meth : Method} {c : Code} {cells slots : Nat} {Q : State → Prop} {dC : Nat → ClassId} {dI : Nat → Nat → Nat} {cI cB cJ cZ : ClassId} {A : Nat → Prop} {ad : Nat → Nat} {NN : Nat} {E : Heap} {tM tC : Nat} {kK kV : Nat → Nat} {post : St → Prop} {self_Rec_readGroup : (St → Prop) → Nat → Int32 → Int32 → Int32 → St → Prop} {self_Rec_readOne : (St → Prop) → Nat → Int32 → Int32 → Int32 → St → Prop} {self_Rec_readValues : (St → Prop) → Nat → Int32 → Int32 → Int32 → St → Prop} {fd ld : Nat} {rec87 : Nat → Int32 → Int32 → Int32 → Int32 → Int32 → Int32 → St → Prop} (hx : p.tables.exec = Jvm.exec) (hb : c.code = b_Rec_readValues) (hml : c.maxLocals = 7) (hown : s.vm.findClass R_Rec = some m.cls) (hT : ∀ w ∈ TG, w.before args s = true) (hK : va_K (dC, dI) CL (TY cI cB cJ cZ) s) (hN : NW s) (hA : ∀ q : Nat, s.heap.size ≤ q → A q) (hRc : cells ≤ R.cells) (hRs : slots ≤ R.slots) (hRf : 8 ≤ R.frames) (hRl : 287 ≤ R.locals) (hNN : 152 ≤ NN) (hE : CE E tM tC kK kV A s) (hret : ∀ (x : St) (H : Heap) (locs : List Loc) (pc : Nat) (ls : Array Slot), decode b_Rec_readValues pc = .ok (.return_, 1) → post x → Wd dC dI cI cB cJ cZ ad stC kcC NN A x H → va_S A s.heap H locs → W p l e R s m args below meth c H locs cells slots Q (F0 m pc ls [])) (hs_Rec_readGroup : ∀ (sz : Nat) (o : Nat) (l1 : Int32) (l2 : Int32) (l3 : Int32) (x : St), (o < NN ∧ kcC o = 4) → ∀ (post : St → Prop), self_Rec_readGroup post o l1 l2 l3 x → Met l y_Rec_readGroup (wsOf y_Rec_readGroup b_Rec_readGroup 9 (none)) ({ frames := fd, cells := 0, slots := 0, locals := ld }) (va_Pc [.ref (ad o), .int l1, .int l2, .int l3] (PVc dC dI cI cB cJ cZ ad stC kcC NN E tM tC kK kV sz x)) (va_Qv (fun (y : St) => post y) (fun y t => Wd dC dI cI cB cJ cZ ad stC kcC NN (va_A (pic ad stC kcC NN cI cB cJ cZ x) sz) y t.heap) (va_A (pic ad stC kcC NN cI cB cJ cZ x) sz)) 0 0 (va_A (pic ad stC kcC NN cI cB cJ cZ x) sz)) (hs_Rec_readOne : ∀ (sz : Nat) (o : Nat) (l1 : Int32) (l2 : Int32) (l3 : Int32) (x : St), (o < NN ∧ kcC o = 4) → ∀ (post : St → Prop), self_Rec_readOne post o l1 l2 l3 x → Met l y_Rec_readOne (wsOf y_Rec_readOne b_Rec_readOne 6 (none)) ({ frames := fd, cells := 0, slots := 0, locals := ld }) (va_Pc [.ref (ad o), .int l1, .int l2, .int l3] (PVc dC dI cI cB cJ cZ ad stC kcC NN E tM tC kK kV sz x)) (va_Qv (fun (y : St) => post y) (fun y t => Wd dC dI cI cB cJ cZ ad stC kcC NN (va_A (pic ad stC kcC NN cI cB cJ cZ x) sz) y t.heap) (va_A (pic ad stC kcC NN cI cB cJ cZ x) sz)) 0 0 (va_A (pic ad stC kcC NN cI cB cJ cZ x) sz)) (hs_Rec_readValues : ∀ (sz : Nat) (o : Nat) (l1 : Int32) (l2 : Int32) (l3 : Int32) (x : St), (o < NN ∧ kcC o = 4) → ∀ (post : St → Prop), self_Rec_readValues post o l1 l2 l3 x → Met l y_Rec_readValues (wsOf y_Rec_readValues b_Rec_readValues 7 (none)) ({ frames := fd, cells := 0, slots := 0, locals := ld }) (va_Pc [.ref (ad o), .int l1, .int l2, .int l3] (PVc dC dI cI cB cJ cZ ad stC kcC NN E tM tC kK kV sz x)) (va_Qv (fun (y : St) => post y) (fun y t => Wd dC dI cI cB cJ cZ ad stC kcC NN (va_A (pic ad stC kcC NN cI cB cJ cZ x) sz) y t.heap) (va_A (pic ad stC kcC NN cI cB cJ cZ x) sz)) 0 0 (va_A (pic ad stC kcC NN cI cB cJ cZ x) sz)) (hDf : fd + 1 ≤ R.frames) (hDl : 28 + ld ≤ R.locals) (hrec87 : ∀ (o : Nat) (l1 : Int32) (l2 : Int32) (l3 : Int32) (l4 : Int32) (l5 : Int32) (l6 : Int32) (x : St) (H : Heap) (locs : List Loc) (ls : Array Slot), (o < NN ∧ kcC o = 4) → rec87 o l1 l2 l3 l4 l5 l6 x → Wd dC dI cI cB cJ cZ ad stC kcC NN A x H → va_S A s.heap H locs → lv_has ls 7 [(0, .ref (ad o)), (1, .int l1), (2, .int l2), (3, .int l3), (4, .int l4), (5, .int l5), (6, .int l6)] → W p l e R s m args below meth c H locs cells slots Q (F0 m 87 ls [])) : ∀ (o : Nat) (l1 : Int32) (l2 : Int32) (l3 : Int32) (l4 : Int32) (l5 : Int32) (l6 : Int32) (s0 : Int32) (x : St) (H : Heap) (locs : List Loc) (ls : Array Slot), (o < NN ∧ kcC o = 4) → j_Rec_readValues_150 post self_Rec_readGroup self_Rec_readOne self_Rec_readValues rec87 o l1 l2 l3 l4 l5 l6 s0 x → Wd dC dI cI cB cJ cZ ad stC kcC NN A x H → va_S A s.heap H locs → lv_has ls 7 [(0, .ref (ad o)), (1, .int l1), (2, .int l2), (3, .int l3), (4, .int l4), (5, .int l5), (6, .int l6)] → W p l e R s m args below meth c H locs cells slots Q (F0 m 150 ls [.int s0]) := by
  intro o l1 l2 l3 l4 l5 l6 s0 x H locs ls fo hw hW hS hl
  unfold j_Rec_readValues_150 at hw
  refine lv_istore (lv' := [(5, .int s0), (0, .ref (ad o)), (1, .int l1), (2, .int l2), (3, .int l3), (4, .int l4), (6, .int l6)]) hx hb d_Rec_readValues_150 hl (by decide) rfl (fun ls hl => ?_)
  refine lv_iinc (v := (l6 + 1)) (lv' := [(6, .int (l6 + 1)), (5, .int s0), (0, .ref (ad o)), (1, .int l1), (2, .int l2), (3, .int l3), (4, .int l4)]) hx hb d_Rec_readValues_152 hl (k := 6) rfl rfl (by decide) rfl (fun ls hl => ?_)
  refine lv_goto (tgt := 87) hx hb d_Rec_readValues_155 (by decide) ?_
  exact hrec87 o l1 l2 l3 l4 s0 (l6 + 1) x H locs ls fo hw hW hS (lv_sub hl [2, 3, 4, 5, 6, 1, 0] rfl)
set_option maxRecDepth 100000 in
set_option maxHeartbeats 4000000 in
set_option maxRecDepth 100000 in
theorem t_Rec_readValues_149 {p : Program} {l : Launch} {e : Env} {R : Room} {s : State} {m : MethodId} {args : Array Value} {below : List Frame} {meth : Method} {c : Code} {cells slots : Nat} {Q : State → Prop} {dC : Nat → ClassId} {dI : Nat → Nat → Nat} {cI cB cJ cZ : ClassId} {A : Nat → Prop} {ad : Nat → Nat} {NN : Nat} {E : Heap} {tM tC : Nat} {kK kV : Nat → Nat} {post : St → Prop} {self_Rec_readGroup : (St → Prop) → Nat → Int32 → Int32 → Int32 → St → Prop} {self_Rec_readOne : (St → Prop) → Nat → Int32 → Int32 → Int32 → St → Prop} {self_Rec_readValues : (St → Prop) → Nat → Int32 → Int32 → Int32 → St → Prop} {fd ld : Nat} {rec87 : Nat → Int32 → Int32 → Int32 → Int32 → Int32 → Int32 → St → Prop} (hx : p.tables.exec = Jvm.exec) (hb : c.code = b_Rec_readValues) (hml : c.maxLocals = 7) (hown : s.vm.findClass R_Rec = some m.cls) (hT : ∀ w ∈ TG, w.before args s = true) (hK : va_K (dC, dI) CL (TY cI cB cJ cZ) s) (hN : NW s) (hA : ∀ q : Nat, s.heap.size ≤ q → A q) (hRc : cells ≤ R.cells) (hRs : slots ≤ R.slots) (hRf : 8 ≤ R.frames) (hRl : 287 ≤ R.locals) (hNN : 152 ≤ NN) (hE : CE E tM tC kK kV A s) (hret : ∀ (x : St) (H : Heap) (locs : List Loc) (pc : Nat) (ls : Array Slot), decode b_Rec_readValues pc = .ok (.return_, 1) → post x → Wd dC dI cI cB cJ cZ ad stC kcC NN A x H → va_S A s.heap H locs → W p l e R s m args below meth c H locs cells slots Q (F0 m pc ls [])) (hs_Rec_readGroup : ∀ (sz : Nat) (o : Nat) (l1 : Int32) (l2 : Int32) (l3 : Int32) (x : St), (o < NN ∧ kcC o = 4) → ∀ (post : St → Prop), self_Rec_readGroup post o l1 l2 l3 x → Met l y_Rec_readGroup (wsOf y_Rec_readGroup b_Rec_readGroup 9 (none)) ({ frames := fd, cells := 0, slots := 0, locals := ld }) (va_Pc [.ref (ad o), .int l1, .int l2, .int l3] (PVc dC dI cI cB cJ cZ ad stC kcC NN E tM tC kK kV sz x)) (va_Qv (fun (y : St) => post y) (fun y t => Wd dC dI cI cB cJ cZ ad stC kcC NN (va_A (pic ad stC kcC NN cI cB cJ cZ x) sz) y t.heap) (va_A (pic ad stC kcC NN cI cB cJ cZ x) sz)) 0 0 (va_A (pic ad stC kcC NN cI cB cJ cZ x) sz)) (hs_Rec_readOne : ∀ (sz : Nat) (o : Nat) (l1 : Int32) (l2 : Int32) (l3 : Int32) (x : St), (o < NN ∧ kcC o = 4) → ∀ (post : St → Prop), self_Rec_readOne post o l1 l2 l3 x → Met l y_Rec_readOne (wsOf y_Rec_readOne b_Rec_readOne 6 (none)) ({ frames := fd, cells := 0, slots := 0, locals := ld }) (va_Pc [.ref (ad o), .int l1, .int l2, .int l3] (PVc dC dI cI cB cJ cZ ad stC kcC NN E tM tC kK kV sz x)) (va_Qv (fun (y : St) => post y) (fun y t => Wd dC dI cI cB cJ cZ ad stC kcC NN (va_A (pic ad stC kcC NN cI cB cJ cZ x) sz) y t.heap) (va_A (pic ad stC kcC NN cI cB cJ cZ x) sz)) 0 0 (va_A (pic ad stC kcC NN cI cB cJ cZ x) sz)) (hs_Rec_readValues : ∀ (sz : Nat) (o : Nat) (l1 : Int32) (l2 : Int32) (l3 : Int32) (x : St), (o < NN ∧ kcC o = 4) → ∀ (post : St → Prop), self_Rec_readValues post o l1 l2 l3 x → Met l y_Rec_readValues (wsOf y_Rec_readValues b_Rec_readValues 7 (none)) ({ frames := fd, cells := 0, slots := 0, locals := ld }) (va_Pc [.ref (ad o), .int l1, .int l2, .int l3] (PVc dC dI cI cB cJ cZ ad stC kcC NN E tM tC kK kV sz x)) (va_Qv (fun (y : St) => post y) (fun y t => Wd dC dI cI cB cJ cZ ad stC kcC NN (va_A (pic ad stC kcC NN cI cB cJ cZ x) sz) y t.heap) (va_A (pic ad stC kcC NN cI cB cJ cZ x) sz)) 0 0 (va_A (pic ad stC kcC NN cI cB cJ cZ x) sz)) (hDf : fd + 1 ≤ R.frames) (hDl : 28 + ld ≤ R.locals) (hrec87 : ∀ (o : Nat) (l1 : Int32) (l2 : Int32) (l3 : Int32) (l4 : Int32) (l5 : Int32) (l6 : Int32) (x : St) (H : Heap) (locs : List Loc) (ls : Array Slot), (o < NN ∧ kcC o = 4) → rec87 o l1 l2 l3 l4 l5 l6 x → Wd dC dI cI cB cJ cZ ad stC kcC NN A x H → va_S A s.heap H locs → lv_has ls 7 [(0, .ref (ad o)), (1, .int l1), (2, .int l2), (3, .int l3), (4, .int l4), (5, .int l5), (6, .int l6)] → W p l e R s m args below meth c H locs cells slots Q (F0 m 87 ls [])) : ∀ (o : Nat) (l1 : Int32) (l2 : Int32) (l3 : Int32) (l4 : Int32) (l5 : Int32) (l6 : Int32) (x : St) (H : Heap) (locs : List Loc) (ls : Array Slot), (o < NN ∧ kcC o = 4) → j_Rec_readValues_149 post self_Rec_readGroup self_Rec_readOne self_Rec_readValues rec87 o l1 l2 l3 l4 l5 l6 x → Wd dC dI cI cB cJ cZ ad stC kcC NN A x H → va_S A s.heap H locs → lv_has ls 7 [(0, .ref (ad o)), (1, .int l1), (2, .int l2), (3, .int l3), (4, .int l4), (5, .int l5), (6, .int l6)] → W p l e R s m args below meth c H locs cells slots Q (F0 m 149 ls []) := by
  intro o l1 l2 l3 l4 l5 l6 x H locs ls fo hw hW hS hl
  unfold j_Rec_readValues_149 at hw
  refine lv_iconst (v := 0) hx hb d_Rec_readValues_149 (by decide) ?_
  exact t_Rec_readValues_150 hx hb hml hown hT hK hN hA hRc hRs hRf hRl hNN hE hret hs_Rec_readGroup hs_Rec_readOne hs_Rec_readValues hDf hDl hrec87 o l1 l2 l3 l4 l5 l6 0 x H locs ls fo hw hW hS (lv_sub hl [0, 1, 2, 3, 4, 5, 6] rfl)
set_option maxRecDepth 100000 in
set_option maxHeartbeats 4000000 in
set_option maxRecDepth 100000 in
theorem t_Rec_readValues_87 {p : Program} {l : Launch} {e : Env} {R : Room} {s : State} {m : MethodId} {args : Array Value} {below : List Frame} {meth : Method} {c : Code} {cells slots : Nat} {Q : State → Prop} {dC : Nat → ClassId} {dI : Nat → Nat → Nat} {cI cB cJ cZ : ClassId} {A : Nat → Prop} {ad : Nat → Nat} {NN : Nat} {E : Heap} {tM tC : Nat} {kK kV : Nat → Nat} {post : St → Prop} {self_Rec_readGroup : (St → Prop) → Nat → Int32 → Int32 → Int32 → St → Prop} {self_Rec_readOne : (St → Prop) → Nat → Int32 → Int32 → Int32 → St → Prop} {self_Rec_readValues : (St → Prop) → Nat → Int32 → Int32 → Int32 → St → Prop} {fd ld : Nat} {rec87 : Nat → Int32 → Int32 → Int32 → Int32 → Int32 → Int32 → St → Prop} (hx : p.tables.exec = Jvm.exec) (hb : c.code = b_Rec_readValues) (hml : c.maxLocals = 7) (hown : s.vm.findClass R_Rec = some m.cls) (hT : ∀ w ∈ TG, w.before args s = true) (hK : va_K (dC, dI) CL (TY cI cB cJ cZ) s) (hN : NW s) (hA : ∀ q : Nat, s.heap.size ≤ q → A q) (hRc : cells ≤ R.cells) (hRs : slots ≤ R.slots) (hRf : 8 ≤ R.frames) (hRl : 287 ≤ R.locals) (hNN : 152 ≤ NN) (hE : CE E tM tC kK kV A s) (hret : ∀ (x : St) (H : Heap) (locs : List Loc) (pc : Nat) (ls : Array Slot), decode b_Rec_readValues pc = .ok (.return_, 1) → post x → Wd dC dI cI cB cJ cZ ad stC kcC NN A x H → va_S A s.heap H locs → W p l e R s m args below meth c H locs cells slots Q (F0 m pc ls [])) (hs_Rec_readGroup : ∀ (sz : Nat) (o : Nat) (l1 : Int32) (l2 : Int32) (l3 : Int32) (x : St), (o < NN ∧ kcC o = 4) → ∀ (post : St → Prop), self_Rec_readGroup post o l1 l2 l3 x → Met l y_Rec_readGroup (wsOf y_Rec_readGroup b_Rec_readGroup 9 (none)) ({ frames := fd, cells := 0, slots := 0, locals := ld }) (va_Pc [.ref (ad o), .int l1, .int l2, .int l3] (PVc dC dI cI cB cJ cZ ad stC kcC NN E tM tC kK kV sz x)) (va_Qv (fun (y : St) => post y) (fun y t => Wd dC dI cI cB cJ cZ ad stC kcC NN (va_A (pic ad stC kcC NN cI cB cJ cZ x) sz) y t.heap) (va_A (pic ad stC kcC NN cI cB cJ cZ x) sz)) 0 0 (va_A (pic ad stC kcC NN cI cB cJ cZ x) sz)) (hs_Rec_readOne : ∀ (sz : Nat) (o : Nat) (l1 : Int32) (l2 : Int32) (l3 : Int32) (x : St), (o < NN ∧ kcC o = 4) → ∀ (post : St → Prop), self_Rec_readOne post o l1 l2 l3 x → Met l y_Rec_readOne (wsOf y_Rec_readOne b_Rec_readOne 6 (none)) ({ frames := fd, cells := 0, slots := 0, locals := ld }) (va_Pc [.ref (ad o), .int l1, .int l2, .int l3] (PVc dC dI cI cB cJ cZ ad stC kcC NN E tM tC kK kV sz x)) (va_Qv (fun (y : St) => post y) (fun y t => Wd dC dI cI cB cJ cZ ad stC kcC NN (va_A (pic ad stC kcC NN cI cB cJ cZ x) sz) y t.heap) (va_A (pic ad stC kcC NN cI cB cJ cZ x) sz)) 0 0 (va_A (pic ad stC kcC NN cI cB cJ cZ x) sz)) (hs_Rec_readValues : ∀ (sz : Nat) (o : Nat) (l1 : Int32) (l2 : Int32) (l3 : Int32) (x : St), (o < NN ∧ kcC o = 4) → ∀ (post : St → Prop), self_Rec_readValues post o l1 l2 l3 x → Met l y_Rec_readValues (wsOf y_Rec_readValues b_Rec_readValues 7 (none)) ({ frames := fd, cells := 0, slots := 0, locals := ld }) (va_Pc [.ref (ad o), .int l1, .int l2, .int l3] (PVc dC dI cI cB cJ cZ ad stC kcC NN E tM tC kK kV sz x)) (va_Qv (fun (y : St) => post y) (fun y t => Wd dC dI cI cB cJ cZ ad stC kcC NN (va_A (pic ad stC kcC NN cI cB cJ cZ x) sz) y t.heap) (va_A (pic ad stC kcC NN cI cB cJ cZ x) sz)) 0 0 (va_A (pic ad stC kcC NN cI cB cJ cZ x) sz)) (hDf : fd + 1 ≤ R.frames) (hDl : 28 + ld ≤ R.locals) (hrec87 : ∀ (o : Nat) (l1 : Int32) (l2 : Int32) (l3 : Int32) (l4 : Int32) (l5 : Int32) (l6 : Int32) (x : St) (H : Heap) (locs : List Loc) (ls : Array Slot), (o < NN ∧ kcC o = 4) → rec87 o l1 l2 l3 l4 l5 l6 x → Wd dC dI cI cB cJ cZ ad stC kcC NN A x H → va_S A s.heap H locs → lv_has ls 7 [(0, .ref (ad o)), (1, .int l1), (2, .int l2), (3, .int l3), (4, .int l4), (5, .int l5), (6, .int l6)] → W p l e R s m args below meth c H locs cells slots Q (F0 m 87 ls [])) : ∀ (o : Nat) (l1 : Int32) (l2 : Int32) (l3 : Int32) (l4 : Int32) (l5 : Int32) (l6 : Int32) (x : St) (H : Heap) (locs : List Loc) (ls : Array Slot), (o < NN ∧ kcC o = 4) → j_Rec_readValues_87 post self_Rec_readGroup self_Rec_readOne self_Rec_readValues rec87 o l1 l2 l3 l4 l5 l6 x → Wd dC dI cI cB cJ cZ ad stC kcC NN A x H → va_S A s.heap H locs → lv_has ls 7 [(0, .ref (ad o)), (1, .int l1), (2, .int l2), (3, .int l3), (4, .int l4), (5, .int l5), (6, .int l6)] → W p l e R s m args below meth c H locs cells slots Q (F0 m 87 ls []) := by
  intro o l1 l2 l3 l4 l5 l6 x H locs ls fo hw hW hS hl
  unfold j_Rec_readValues_87 at hw
  refine lv_iload hx hb d_Rec_readValues_87 (lv_at hl 6 rfl) ?_
  refine lv_aload_n hx hb d_Rec_readValues_89 rfl (lv_at hl 0 rfl) ?_
  obtain ⟨q3, hq3, hw⟩ := hw
  refine w_getr (q := q3) (k := 13) (t := 4) (C := R_Rec) (T := F_Rec) (N := 15) hx hb hT hown hK hW fo.1 fo.2 (by decide) in_Rec rfl rfl (by decide) rfl fr_Rec_13 w_2_8 d_Rec_readValues_90 hq3 (fun aq3 bq3 => ?_)
  have fq3 : q3 < NN ∧ kcC q3 = 2 := ⟨aq3, bq3⟩
  refine w_geti (k := 1) (t := 2) (C := R_Scn) (T := F_Scn) (N := 8) hx hb hT hown hK hW fq3.1 fq3.2 (by decide) in_Scn rfl rfl (by decide) rfl fr_Scn_1 w_1_83 d_Rec_readValues_93 ?_
  refine lv_icmp_gt (tgt := 158) hx hb d_Rec_readValues_96 (by decide) (fun c4 => ?_) (fun c4 => ?_)
  · have hw := hw.1 c4
    exact t_Rec_readValues_158 hx hb hml hown hT hK hN hA hRc hRs hRf hRl hNN hE hret hs_Rec_readGroup hs_Rec_readOne hs_Rec_readValues hDf hDl  o l1 l2 l3 l4 l5 l6 x H locs ls fo hw hW hS (lv_sub hl [0, 1, 2, 3, 4, 5, 6] rfl)
  · have hw := hw.2 c4
    refine lv_iload hx hb d_Rec_readValues_99 (lv_at hl 5 rfl) ?_
    refine lv_if_eq (tgt := 158) hx hb d_Rec_readValues_101 (by decide) (fun c5 => ?_) (fun c5 => ?_)
    · have hw := hw.1 c5
      exact t_Rec_readValues_158 hx hb hml hown hT hK hN hA hRc hRs hRf hRl hNN hE hret hs_Rec_readGroup hs_Rec_readOne hs_Rec_readValues hDf hDl  o l1 l2 l3 l4 l5 l6 x H locs ls fo hw hW hS (lv_sub hl [0, 1, 2, 3, 4, 5, 6] rfl)
    · have hw := hw.2 c5
      refine lv_aload_n hx hb d_Rec_readValues_104 rfl (lv_at hl 0 rfl) ?_
      refine lv_iload_n hx hb d_Rec_readValues_105 rfl (lv_at hl 1 rfl) ?_
      refine lv_iload hx hb d_Rec_readValues_106 (lv_at hl 4 rfl) ?_
      refine lv_iload_n hx hb d_Rec_readValues_108 rfl (lv_at hl 3 rfl) ?_
      have hF := hW.free hS hA
      refine va_callv (va_runV (C := R_Rec) (As := [.int l1, .int l4, .int l3]) (rest := []) ⟨hx, hb, hml, hown, hT⟩ (hs_Rec_readOne H.size o l1 l4 l3 x fo _ hw) ⟨callB_of 3 hT (gwt_in w_5_59) rfl rfl rfl (hT _ w_1_6) (hT _ w_5_56) (by decide +kernel) ⟨hDf, Nat.le_trans (Nat.add_le_add_right (by decide) _) hDl⟩, hT _ w_5_58, hT _ ws_11⟩ ⟨PVc.blind, va_recv hK hW.1 (ci := 4) (q0 := o) rfl (pic_obj fo.1 fo.2 (by decide)), PVc.at _ hW hK hN hE hS hF⟩ rfl rfl hl.1 rfl (lv_room (Nat.le_of_ble_eq_true rfl)) d_Rec_readValues_109 ⟨hRc, hRs⟩) hS (fun q _ h => hF q h) hF (fun  x6 t H locs ht hvm hw hB hz1 hk1 hS => ?_)
      have hW := Wd.back hB ht hF
      clear hB ht hF hz1 hk1 hvm
      refine lv_aload_n hx hb d_Rec_readValues_112 rfl (lv_at hl 0 rfl) ?_
      obtain ⟨q7, hq7, hw⟩ := hw
      refine w_getr (q := q7) (k := 14) (t := 4) (C := R_Rec) (T := F_Rec) (N := 15) hx hb hT hown hK hW fo.1 fo.2 (by decide) in_Rec rfl rfl (by decide) rfl fr_Rec_14 w_2_9 d_Rec_readValues_113 hq7 (fun aq7 bq7 => ?_)
      have fq7 : q7 < NN ∧ kcC q7 = 3 := ⟨aq7, bq7⟩
      refine w_getf (q := (stC q7 5)) (k := 5) (t := 3) (C := R_Sch) (T := F_Sch) (N := 13) hx hb hT hown hK hW fq7.1 fq7.2 (by decide) in_Sch rfl rfl (by decide) rfl fr_Sch_5 w_1_160 d_Rec_readValues_116 rfl ?_
      refine lv_iload_n hx hb d_Rec_readValues_119 rfl (lv_at hl 1 rfl) ?_
      obtain ⟨hi, hw⟩ := hw
      refine w_iald (o := (stC q7 5)) hx hb hK hW (st_ty hNN fq7.1 fq7.2 rfl).1 (st_ty hNN fq7.1 fq7.2 rfl).2 hi d_Rec_readValues_120 ?_
      refine lv_topi (fun v8 ev8 => ?_)
      have hw := hw v8 ev8
      refine lv_istore (lv' := [(4, .int v8), (0, .ref (ad o)), (1, .int l1), (2, .int l2), (3, .int l3), (5, .int l5), (6, .int l6)]) hx hb d_Rec_readValues_121 hl (by decide) rfl (fun ls hl => ?_)
      refine lv_aload_n hx hb d_Rec_readValues_123 rfl (lv_at hl 1 rfl) ?_
      obtain ⟨q9, hq9, hw⟩ := hw
      refine w_getr (q := q9) (k := 13) (t := 4) (C := R_Rec) (T := F_Rec) (N := 15) hx hb hT hown hK hW fo.1 fo.2 (by decide) in_Rec rfl rfl (by decide) rfl fr_Rec_13 w_2_8 d_Rec_readValues_124 hq9 (fun aq9 bq9 => ?_)
      have fq9 : q9 < NN ∧ kcC q9 = 2 := ⟨aq9, bq9⟩
      have hF := hW.free hS hA
      refine va_calli (va_runV (C := R_Scn) (As := []) (rest := []) ⟨hx, hb, hml, hown, hT⟩ (k_Scn_good l dC dI cI cB cJ cZ ad NN E tM tC kK kV hNN H.size q9 x6 fq9 hw) ⟨callB_of 0 hT (gwt_in w_4_106) rfl rfl rfl (hT _ w_1_4) (hT _ w_5_31) (by decide +kernel) ⟨Nat.le_trans (Nat.le_of_ble_eq_true rfl) hRf, Nat.le_trans (Nat.le_of_ble_eq_true rfl) hRl⟩, hT _ w_4_104, hT _ w_4_105⟩ ⟨PVc.blind, va_recv hK hW.1 (ci := 2) (q0 := q9) rfl (pic_obj fq9.1 fq9.2 (by decide)), PVc.at _ hW hK hN hE hS hF⟩ rfl rfl hl.1 rfl (lv_room (Nat.le_of_ble_eq_true rfl)) d_Rec_readValues_127 ⟨hRc, hRs⟩) hS (fun q _ h => hF q h) hF (fun r11 x10 t H locs ht hvm hw hB hz1 hk1 hS => ?_)
      have hW := Wd.back hB ht hF
      clear hB ht hF hz1 hk1 hvm
      refine lv_if_eq (tgt := 149) hx hb d_Rec_readValues_130 (by decide) (fun c12 => ?_) (fun c12 => ?_)
      · have hw := hw.1 c12
        exact t_Rec_readValues_149 hx hb hml hown hT hK hN hA hRc hRs hRf hRl hNN hE hret hs_Rec_readGroup hs_Rec_readOne hs_Rec_readValues hDf hDl hrec87 o l1 l2 l3 v8 l5 l6 x10 H locs ls fo hw hW hS (lv_sub hl [1, 2, 3, 4, 0, 5, 6] rfl)
      · have hw := hw.2 c12
        refine lv_aload_n hx hb d_Rec_readValues_133 rfl (lv_at hl 1 rfl) ?_
        obtain ⟨q13, hq13, hw⟩ := hw
        refine w_getr (q := q13) (k := 13) (t := 4) (C := R_Rec) (T := F_Rec) (N := 15) hx hb hT hown hK hW fo.1 fo.2 (by decide) in_Rec rfl rfl (by decide) rfl fr_Rec_13 w_2_8 d_Rec_readValues_134 hq13 (fun aq13 bq13 => ?_)
        have fq13 : q13 < NN ∧ kcC q13 = 2 := ⟨aq13, bq13⟩
        refine lv_bipush (v := 44) hx hb d_Rec_readValues_137 (by decide) ?_
        have hF := hW.free hS hA
        refine va_calli (va_runV (C := R_Scn) (As := [.int 44]) (rest := []) ⟨hx, hb, hml, hown, hT⟩ (k_Scn_takeSign l dC dI cI cB cJ cZ ad NN E tM tC kK kV hNN H.size q13 44 x10 fq13 hw) ⟨callB_of 1 hT (gwt_in w_4_123) rfl rfl rfl (hT _ w_1_4) (hT _ w_5_105) (by decide +kernel) ⟨Nat.le_trans (Nat.le_of_ble_eq_true rfl) hRf, Nat.le_trans (Nat.le_of_ble_eq_true rfl) hRl⟩, hT _ w_4_121, hT _ w_4_122⟩ ⟨PVc.blind, va_recv hK hW.1 (ci := 2) (q0 := q13) rfl (pic_obj fq13.1 fq13.2 (by decide)), PVc.at _ hW hK hN hE hS hF⟩ rfl rfl hl.1 rfl (lv_room (Nat.le_of_ble_eq_true rfl)) d_Rec_readValues_139 ⟨hRc, hRs⟩) hS (fun q _ h => hF q h) hF (fun r15 x14 t H locs ht hvm hw hB hz1 hk1 hS => ?_)
        have hW := Wd.back hB ht hF
        clear hB ht hF hz1 hk1 hvm
        refine lv_if_eq (tgt := 149) hx hb d_Rec_readValues_142 (by decide) (fun c16 => ?_) (fun c16 => ?_)
        · have hw := hw.1 c16
          exact t_Rec_readValues_149 hx hb hml hown hT hK hN hA hRc hRs hRf hRl hNN hE hret hs_Rec_readGroup hs_Rec_readOne hs_Rec_readValues hDf hDl hrec87 o l1 l2 l3 v8 l5 l6 x14 H locs ls fo hw hW hS (lv_sub hl [1, 2, 3, 4, 0, 5, 6] rfl)
        · have hw := hw.2 c16
          refine lv_iconst (v := 1) hx hb d_Rec_readValues_145 (by decide) ?_
          refine lv_goto (tgt := 150) hx hb d_Rec_readValues_146 (by decide) ?_
          exact t_Rec_readValues_150 hx hb hml hown hT hK hN hA hRc hRs hRf hRl hNN hE hret hs_Rec_readGroup hs_Rec_readOne hs_Rec_readValues hDf hDl hrec87 o l1 l2 l3 v8 l5 l6 1 x14 H locs ls fo hw hW hS (lv_sub hl [1, 2, 3, 4, 0, 5, 6] rfl)
set_option maxHeartbeats 4000000 in
set_option maxRecDepth 100000 in
theorem tl_Rec_readValues_87 {p : Program} {l : Launch} {e : Env} {R : Room} {s : State} {m : MethodId} {args : Array Value} {below : List Frame} {meth : Method} {c : Code} {cells slots : Nat} {Q : State → Prop} {dC : Nat → ClassId} {dI : Nat → Nat → Nat} {cI cB cJ cZ : ClassId} {A : Nat → Prop} {ad : Nat → Nat} {NN : Nat} {E : Heap} {tM tC : Nat} {kK kV : Nat → Nat} {post : St → Prop} {self_Rec_readGroup : (St → Prop) → Nat → Int32 → Int32 → Int32 → St → Prop} {self_Rec_readOne : (St → Prop) → Nat → Int32 → Int32 → Int32 → St → Prop} {self_Rec_readValues : (St → Prop) → Nat → Int32 → Int32 → Int32 → St → Prop} {fd ld : Nat} (hx : p.tables.exec = Jvm.exec) (hb : c.code = b_Rec_readValues) (hml : c.maxLocals = 7) (hown : s.vm.findClass R_Rec = some m.cls) (hT : ∀ w ∈ TG, w.before args s = true) (hK : va_K (dC, dI) CL (TY cI cB cJ cZ) s) (hN : NW s) (hA : ∀ q : Nat, s.heap.size ≤ q → A q) (hRc : cells ≤ R.cells) (hRs : slots ≤ R.slots) (hRf : 8 ≤ R.frames) (hRl : 287 ≤ R.locals) (hNN : 152 ≤ NN) (hE : CE E tM tC kK kV A s) (hret : ∀ (x : St) (H : Heap) (locs : List Loc) (pc : Nat) (ls : Array Slot), decode b_Rec_readValues pc = .ok (.return_, 1) → post x → Wd dC dI cI cB cJ cZ ad stC kcC NN A x H → va_S A s.heap H locs → W p l e R s m args below meth c H locs cells slots Q (F0 m pc ls [])) (hs_Rec_readGroup : ∀ (sz : Nat) (o : Nat) (l1 : Int32) (l2 : Int32) (l3 : Int32) (x : St), (o < NN ∧ kcC o = 4) → ∀ (post : St → Prop), self_Rec_readGroup post o l1 l2 l3 x → Met l y_Rec_readGroup (wsOf y_Rec_readGroup b_Rec_readGroup 9 (none)) ({ frames := fd, cells := 0, slots := 0, locals := ld }) (va_Pc [.ref (ad o), .int l1, .int l2, .int l3] (PVc dC dI cI cB cJ cZ ad stC kcC NN E tM tC kK kV sz x)) (va_Qv (fun (y : St) => post y) (fun y t => Wd dC dI cI cB cJ cZ ad stC kcC NN (va_A (pic ad stC kcC NN cI cB cJ cZ x) sz) y t.heap) (va_A (pic ad stC kcC NN cI cB cJ cZ x) sz)) 0 0 (va_A (pic ad stC kcC NN cI cB cJ cZ x) sz)) (hs_Rec_readOne : ∀ (sz : Nat) (o : Nat) (l1 : Int32) (l2 : Int32) (l3 : Int32) (x : St), (o < NN ∧ kcC o = 4) → ∀ (post : St → Prop), self_Rec_readOne post o l1 l2 l3 x → Met l y_Rec_readOne (wsOf y_Rec_readOne b_Rec_readOne 6 (none)) ({ frames := fd, cells := 0, slots := 0, locals := ld }) (va_Pc [.ref (ad o), .int l1, .int l2, .int l3] (PVc dC dI cI cB cJ cZ ad stC kcC NN E tM tC kK kV sz x)) (va_Qv (fun (y : St) => post y) (fun y t => Wd dC dI cI cB cJ cZ ad stC kcC NN (va_A (pic ad stC kcC NN cI cB cJ cZ x) sz) y t.heap) (va_A (pic ad stC kcC NN cI cB cJ cZ x) sz)) 0 0 (va_A (pic ad stC kcC NN cI cB cJ cZ x) sz)) (hs_Rec_readValues : ∀ (sz : Nat) (o : Nat) (l1 : Int32) (l2 : Int32) (l3 : Int32) (x : St), (o < NN ∧ kcC o = 4) → ∀ (post : St → Prop), self_Rec_readValues post o l1 l2 l3 x → Met l y_Rec_readValues (wsOf y_Rec_readValues b_Rec_readValues 7 (none)) ({ frames := fd, cells := 0, slots := 0, locals := ld }) (va_Pc [.ref (ad o), .int l1, .int l2, .int l3] (PVc dC dI cI cB cJ cZ ad stC kcC NN E tM tC kK kV sz x)) (va_Qv (fun (y : St) => post y) (fun y t => Wd dC dI cI cB cJ cZ ad stC kcC NN (va_A (pic ad stC kcC NN cI cB cJ cZ x) sz) y t.heap) (va_A (pic ad stC kcC NN cI cB cJ cZ x) sz)) 0 0 (va_A (pic ad stC kcC NN cI cB cJ cZ x) sz)) (hDf : fd + 1 ≤ R.frames) (hDl : 28 + ld ≤ R.locals)  : ∀ n : Nat, ∀ (o : Nat) (l1 : Int32) (l2 : Int32) (l3 : Int32) (l4 : Int32) (l5 : Int32) (l6 : Int32) (x : St) (H : Heap) (locs : List Loc) (ls : Array Slot), (o < NN ∧ kcC o = 4) → wl_Rec_readValues_87 post self_Rec_readGroup self_Rec_readOne self_Rec_readValues n o l1 l2 l3 l4 l5 l6 x → Wd dC dI cI cB cJ cZ ad stC kcC NN A x H → va_S A s.heap H locs → lv_has ls 7 [(0, .ref (ad o)), (1, .int l1), (2, .int l2), (3, .int l3), (4, .int l4), (5, .int l5), (6, .int l6)] → W p l e R s m args below meth c H locs cells slots Q (F0 m 87 ls []) := by
  intro n
  induction n with
  | zero => intro o l1 l2 l3 l4 l5 l6 x H locs ls fo hw; exact hw.elim
  | succ n ih => intro o l1 l2 l3 l4 l5 l6 x H locs ls fo hw hW hS hl; exact t_Rec_readValues_87 hx hb hml hown hT hK hN hA hRc hRs hRf hRl hNN hE hret hs_Rec_readGroup hs_Rec_readOne hs_Rec_readValues hDf hDl  ih o l1 l2 l3 l4 l5 l6 x H locs ls fo hw hW hS hl
set_option maxRecDepth 100000 in
set_option maxHeartbeats 4000000 in
set_option maxRecDepth 100000 in
theorem t_Rec_readValues_e {p : Program} {l : Launch} {e : Env} {R : Room} {s : State} {m : MethodId} {args : Array Value} {below : List Frame} {meth : Method} {c : Code} {cells slots : Nat} {Q : State → Prop} {dC : Nat → ClassId} {dI : Nat → Nat → Nat} {cI cB cJ cZ : ClassId} {A : Nat → Prop} {ad : Nat → Nat} {NN : Nat} {E : Heap} {tM tC : Nat} {kK kV : Nat → Nat} {post : St → Prop} {self_Rec_readGroup : (St → Prop) → Nat → Int32 → Int32 → Int32 → St → Prop} {self_Rec_readOne : (St → Prop) → Nat → Int32 → Int32 → Int32 → St → Prop} {self_Rec_readValues : (St → Prop) → Nat → Int32 → Int32 → Int32 → St → Prop} {fd ld : Nat} (hx : p.tables.exec = Jvm.exec) (hb : c.code = b_Rec_readValues) (hml : c.maxLocals = 7) (hown : s.vm.findClass R_Rec = some m.cls) (hT : ∀ w ∈ TG, w.before args s = true) (hK : va_K (dC, dI) CL (TY cI cB cJ cZ) s) (hN : NW s) (hA : ∀ q : Nat, s.heap.size ≤ q → A q) (hRc : cells ≤ R.cells) (hRs : slots ≤ R.slots) (hRf : 8 ≤ R.frames) (hRl : 287 ≤ R.locals) (hNN : 152 ≤ NN) (hE : CE E tM tC kK kV A s) (hret : ∀ (x : St) (H : Heap) (locs : List Loc) (pc : Nat) (ls : Array Slot), decode b_Rec_readValues pc = .ok (.return_, 1) → post x → Wd dC dI cI cB cJ cZ ad stC kcC NN A x H → va_S A s.heap H locs → W p l e R s m args below meth c H locs cells slots Q (F0 m pc ls [])) (hs_Rec_readGroup : ∀ (sz : Nat) (o : Nat) (l1 : Int32) (l2 : Int32) (l3 : Int32) (x : St), (o < NN ∧ kcC o = 4) → ∀ (post : St → Prop), self_Rec_readGroup post o l1 l2 l3 x → Met l y_Rec_readGroup (wsOf y_Rec_readGroup b_Rec_readGroup 9 (none)) ({ frames := fd, cells := 0, slots := 0, locals := ld }) (va_Pc [.ref (ad o), .int l1, .int l2, .int l3] (PVc dC dI cI cB cJ cZ ad stC kcC NN E tM tC kK kV sz x)) (va_Qv (fun (y : St) => post y) (fun y t => Wd dC dI cI cB cJ cZ ad stC kcC NN (va_A (pic ad stC kcC NN cI cB cJ cZ x) sz) y t.heap) (va_A (pic ad stC kcC NN cI cB cJ cZ x) sz)) 0 0 (va_A (pic ad stC kcC NN cI cB cJ cZ x) sz)) (hs_Rec_readOne : ∀ (sz : Nat) (o : Nat) (l1 : Int32) (l2 : Int32) (l3 : Int32) (x : St), (o < NN ∧ kcC o = 4) → ∀ (post : St → Prop), self_Rec_readOne post o l1 l2 l3 x → Met l y_Rec_readOne (wsOf y_Rec_readOne b_Rec_readOne 6 (none)) ({ frames := fd, cells := 0, slots := 0, locals := ld }) (va_Pc [.ref (ad o), .int l1, .int l2, .int l3] (PVc dC dI cI cB cJ cZ ad stC kcC NN E tM tC kK kV sz x)) (va_Qv (fun (y : St) => post y) (fun y t => Wd dC dI cI cB cJ cZ ad stC kcC NN (va_A (pic ad stC kcC NN cI cB cJ cZ x) sz) y t.heap) (va_A (pic ad stC kcC NN cI cB cJ cZ x) sz)) 0 0 (va_A (pic ad stC kcC NN cI cB cJ cZ x) sz)) (hs_Rec_readValues : ∀ (sz : Nat) (o : Nat) (l1 : Int32) (l2 : Int32) (l3 : Int32) (x : St), (o < NN ∧ kcC o = 4) → ∀ (post : St → Prop), self_Rec_readValues post o l1 l2 l3 x → Met l y_Rec_readValues (wsOf y_Rec_readValues b_Rec_readValues 7 (none)) ({ frames := fd, cells := 0, slots := 0, locals := ld }) (va_Pc [.ref (ad o), .int l1, .int l2, .int l3] (PVc dC dI cI cB cJ cZ ad stC kcC NN E tM tC kK kV sz x)) (va_Qv (fun (y : St) => post y) (fun y t => Wd dC dI cI cB cJ cZ ad stC kcC NN (va_A (pic ad stC kcC NN cI cB cJ cZ x) sz) y t.heap) (va_A (pic ad stC kcC NN cI cB cJ cZ x) sz)) 0 0 (va_A (pic ad stC kcC NN cI cB cJ cZ x) sz)) (hDf : fd + 1 ≤ R.frames) (hDl : 28 + ld ≤ R.locals) : ∀ (o : Nat) (l1 : Int32) (l2 : Int32) (l3 : Int32) (x : St) (H : Heap) (locs : List Loc) (ls : Array Slot), (o < NN ∧ kcC o = 4) → wb_Rec_readValues post self_Rec_readGroup self_Rec_readOne self_Rec_readValues o l1 l2 l3 x → Wd dC dI cI cB cJ cZ ad stC kcC NN A x H → va_S A s.heap H locs → lv_has ls 7 [(0, .ref (ad o)), (1, .int l1), (2, .int l2), (3, .int l3)] → W p l e R s m args below meth c H locs cells slots Q (F0 m 0 ls []) := by
  intro o l1 l2 l3 x H locs ls fo hw hW hS hl
  unfold wb_Rec_readValues at hw
  refine lv_aload_n hx hb d_Rec_readValues_0 rfl (lv_at hl 0 rfl) ?_
  obtain ⟨q17, hq17, hw⟩ := hw
  refine w_getr (q := q17) (k := 14) (t := 4) (C := R_Rec) (T := F_Rec) (N := 15) hx hb hT hown hK hW fo.1 fo.2 (by decide) in_Rec rfl rfl (by decide) rfl fr_Rec_14 w_2_9 d_Rec_readValues_1 hq17 (fun aq17 bq17 => ?_)
  have fq17 : q17 < NN ∧ kcC q17 = 3 := ⟨aq17, bq17⟩
  refine w_getf (q := (stC q17 2)) (k := 2) (t := 3) (C := R_Sch) (T := F_Sch) (N := 13) hx hb hT hown hK hW fq17.1 fq17.2 (by decide) in_Sch rfl rfl (by decide) rfl fr_Sch_2 w_1_143 d_Rec_readValues_4 rfl ?_
  refine lv_iload_n hx hb d_Rec_readValues_7 rfl (lv_at hl 1 rfl) ?_
  obtain ⟨hi, hw⟩ := hw
  refine w_iald (o := (stC q17 2)) hx hb hK hW (st_ty hNN fq17.1 fq17.2 rfl).1 (st_ty hNN fq17.1 fq17.2 rfl).2 hi d_Rec_readValues_8 ?_
  refine lv_iconst (v := 2) hx hb d_Rec_readValues_9 (by decide) ?_
  refine lv_icmp_eq (tgt := 21) hx hb d_Rec_readValues_10 (by decide) (fun c18 => ?_) (fun c18 => ?_)
  · have hw := hw.1 c18
    refine lv_aload_n hx hb d_Rec_readValues_21 rfl (lv_at hl 0 rfl) ?_
    obtain ⟨q19, hq19, hw⟩ := hw
    refine w_getr (q := q19) (k := 13) (t := 4) (C := R_Rec) (T := F_Rec) (N := 15) hx hb hT hown hK hW fo.1 fo.2 (by decide) in_Rec rfl rfl (by decide) rfl fr_Rec_13 w_2_8 d_Rec_readValues_22 hq19 (fun aq19 bq19 => ?_)
    have fq19 : q19 < NN ∧ kcC q19 = 2 := ⟨aq19, bq19⟩
    refine lv_bipush (v := 91) hx hb d_Rec_readValues_25 (by decide) ?_
    have hF := hW.free hS hA
    refine va_callv (va_runV (C := R_Scn) (As := [.int 91]) (rest := []) ⟨hx, hb, hml, hown, hT⟩ (k_Scn_needSign l dC dI cI cB cJ cZ ad NN E tM tC kK kV hNN H.size q19 91 x fq19 hw) ⟨callB_of 1 hT (gwt_in w_4_118) rfl rfl rfl (hT _ w_1_4) (hT _ w_5_28) (by decide +kernel) ⟨Nat.le_trans (Nat.le_of_ble_eq_true rfl) hRf, Nat.le_trans (Nat.le_of_ble_eq_true rfl) hRl⟩, hT _ w_4_116, hT _ w_4_117⟩ ⟨PVc.blind, va_recv hK hW.1 (ci := 2) (q0 := q19) rfl (pic_obj fq19.1 fq19.2 (by decide)), PVc.at _ hW hK hN hE hS hF⟩ rfl rfl hl.1 rfl (lv_room (Nat.le_of_ble_eq_true rfl)) d_Rec_readValues_27 ⟨hRc, hRs⟩) hS (fun q _ h => hF q h) hF (fun  x20 t H locs ht hvm hw hB hz1 hk1 hS => ?_)
    have hW := Wd.back hB ht hF
    clear hB ht hF hz1 hk1 hvm
    refine lv_aload_n hx hb d_Rec_readValues_30 rfl (lv_at hl 0 rfl) ?_
    obtain ⟨q21, hq21, hw⟩ := hw
    refine w_getr (q := q21) (k := 13) (t := 4) (C := R_Rec) (T := F_Rec) (N := 15) hx hb hT hown hK hW fo.1 fo.2 (by decide) in_Rec rfl rfl (by decide) rfl fr_Rec_13 w_2_8 d_Rec_readValues_31 hq21 (fun aq21 bq21 => ?_)
    have fq21 : q21 < NN ∧ kcC q21 = 2 := ⟨aq21, bq21⟩
    have hF := hW.free hS hA
    refine va_calli (va_runV (C := R_Scn) (As := []) (rest := []) ⟨hx, hb, hml, hown, hT⟩ (k_Scn_good l dC dI cI cB cJ cZ ad NN E tM tC kK kV hNN H.size q21 x20 fq21 hw) ⟨callB_of 0 hT (gwt_in w_4_106) rfl rfl rfl (hT _ w_1_4) (hT _ w_5_31) (by decide +kernel) ⟨Nat.le_trans (Nat.le_of_ble_eq_true rfl) hRf, Nat.le_trans (Nat.le_of_ble_eq_true rfl) hRl⟩, hT _ w_4_104, hT _ w_4_105⟩ ⟨PVc.blind, va_recv hK hW.1 (ci := 2) (q0 := q21) rfl (pic_obj fq21.1 fq21.2 (by decide)), PVc.at _ hW hK hN hE hS hF⟩ rfl rfl hl.1 rfl (lv_room (Nat.le_of_ble_eq_true rfl)) d_Rec_readValues_34 ⟨hRc, hRs⟩) hS (fun q _ h => hF q h) hF (fun r23 x22 t H locs ht hvm hw hB hz1 hk1 hS => ?_)
    have hW := Wd.back hB ht hF
    clear hB ht hF hz1 hk1 hvm
    refine lv_if_ne (tgt := 41) hx hb d_Rec_readValues_37 (by decide) (fun c24 => ?_) (fun c24 => ?_)
    · have hw := hw.1 c24
      refine lv_aload_n hx hb d_Rec_readValues_41 rfl (lv_at hl 0 rfl) ?_
      obtain ⟨q25, hq25, hw⟩ := hw
      refine w_getr (q := q25) (k := 13) (t := 4) (C := R_Rec) (T := F_Rec) (N := 15) hx hb hT hown hK hW fo.1 fo.2 (by decide) in_Rec rfl rfl (by decide) rfl fr_Rec_13 w_2_8 d_Rec_readValues_42 hq25 (fun aq25 bq25 => ?_)
      have fq25 : q25 < NN ∧ kcC q25 = 2 := ⟨aq25, bq25⟩
      refine lv_bipush (v := 93) hx hb d_Rec_readValues_45 (by decide) ?_
      have hF := hW.free hS hA
      refine va_calli (va_runV (C := R_Scn) (As := [.int 93]) (rest := []) ⟨hx, hb, hml, hown, hT⟩ (k_Scn_takeSign l dC dI cI cB cJ cZ ad NN E tM tC kK kV hNN H.size q25 93 x22 fq25 hw) ⟨callB_of 1 hT (gwt_in w_4_123) rfl rfl rfl (hT _ w_1_4) (hT _ w_5_105) (by decide +kernel) ⟨Nat.le_trans (Nat.le_of_ble_eq_true rfl) hRf, Nat.le_trans (Nat.le_of_ble_eq_true rfl) hRl⟩, hT _ w_4_121, hT _ w_4_122⟩ ⟨PVc.blind, va_recv hK hW.1 (ci := 2) (q0 := q25) rfl (pic_obj fq25.1 fq25.2 (by decide)), PVc.at _ hW hK hN hE hS hF⟩ rfl rfl hl.1 rfl (lv_room (Nat.le_of_ble_eq_true rfl)) d_Rec_readValues_47 ⟨hRc, hRs⟩) hS (fun q _ h => hF q h) hF (fun r27 x26 t H locs ht hvm hw hB hz1 hk1 hS => ?_)
      have hW := Wd.back hB ht hF
      clear hB ht hF hz1 hk1 hvm
      refine lv_if_eq (tgt := 78) hx hb d_Rec_readValues_50 (by decide) (fun c28 => ?_) (fun c28 => ?_)
      · have hw := hw.1 c28
        refine lv_iload_n hx hb d_Rec_readValues_78 rfl (lv_at hl 2 rfl) ?_
        refine lv_istore (lv' := [(4, .int l2), (0, .ref (ad o)), (1, .int l1), (2, .int l2), (3, .int l3)]) hx hb d_Rec_readValues_79 hl (by decide) rfl (fun ls hl => ?_)
        refine lv_iconst (v := 1) hx hb d_Rec_readValues_81 (by decide) ?_
        refine lv_istore (lv' := [(5, .int 1), (4, .int l2), (0, .ref (ad o)), (1, .int l1), (2, .int l2), (3, .int l3)]) hx hb d_Rec_readValues_82 hl (by decide) rfl (fun ls hl => ?_)
        refine lv_iconst (v := 0) hx hb d_Rec_readValues_84 (by decide) ?_
        refine lv_istore (lv' := [(6, .int 0), (5, .int 1), (4, .int l2), (0, .ref (ad o)), (1, .int l1), (2, .int l2), (3, .int l3)]) hx hb d_Rec_readValues_85 hl (by decide) rfl (fun ls hl => ?_)
        obtain ⟨n, hw⟩ := hw
        exact tl_Rec_readValues_87 hx hb hml hown hT hK hN hA hRc hRs hRf hRl hNN hE hret hs_Rec_readGroup hs_Rec_readOne hs_Rec_readValues hDf hDl  n o l1 l2 l3 l2 1 0 x26 H locs ls fo hw hW hS (lv_sub hl [3, 4, 5, 6, 2, 1, 0] rfl)
      · have hw := hw.2 c28
        refine lv_aload_n hx hb d_Rec_readValues_53 rfl (lv_at hl 0 rfl) ?_
        refine lv_iload_n hx hb d_Rec_readValues_54 rfl (lv_at hl 1 rfl) ?_
        refine lv_aload_n hx hb d_Rec_readValues_55 rfl (lv_at hl 0 rfl) ?_
        obtain ⟨q29, hq29, hw⟩ := hw
        refine w_getr (q := q29) (k := 14) (t := 4) (C := R_Rec) (T := F_Rec) (N := 15) hx hb hT hown hK hW fo.1 fo.2 (by decide) in_Rec rfl rfl (by decide) rfl fr_Rec_14 w_2_9 d_Rec_readValues_56 hq29 (fun aq29 bq29 => ?_)
        have fq29 : q29 < NN ∧ kcC q29 = 3 := ⟨aq29, bq29⟩
        refine w_getf (q := (stC q29 8)) (k := 8) (t := 3) (C := R_Sch) (T := F_Sch) (N := 13) hx hb hT hown hK hW fq29.1 fq29.2 (by decide) in_Sch rfl rfl (by decide) rfl fr_Sch_8 w_1_172 d_Rec_readValues_59 rfl ?_
        refine lv_iload_n hx hb d_Rec_readValues_62 rfl (lv_at hl 1 rfl) ?_
        obtain ⟨hi, hw⟩ := hw
        refine w_iald (o := (stC q29 8)) hx hb hK hW (st_ty hNN fq29.1 fq29.2 rfl).1 (st_ty hNN fq29.1 fq29.2 rfl).2 hi d_Rec_readValues_63 ?_
        refine lv_iload_n hx hb d_Rec_readValues_64 rfl (lv_at hl 2 rfl) ?_
        refine lv_aload_n hx hb d_Rec_readValues_65 rfl (lv_at hl 0 rfl) ?_
        obtain ⟨q30, hq30, hw⟩ := hw
        refine w_getr (q := q30) (k := 14) (t := 4) (C := R_Rec) (T := F_Rec) (N := 15) hx hb hT hown hK hW fo.1 fo.2 (by decide) in_Rec rfl rfl (by decide) rfl fr_Rec_14 w_2_9 d_Rec_readValues_66 hq30 (fun aq30 bq30 => ?_)
        have fq30 : q30 < NN ∧ kcC q30 = 3 := ⟨aq30, bq30⟩
        refine w_getf (q := (stC q30 4)) (k := 4) (t := 3) (C := R_Sch) (T := F_Sch) (N := 13) hx hb hT hown hK hW fq30.1 fq30.2 (by decide) in_Sch rfl rfl (by decide) rfl fr_Sch_4 w_1_156 d_Rec_readValues_69 rfl ?_
        refine lv_iload_n hx hb d_Rec_readValues_72 rfl (lv_at hl 1 rfl) ?_
        obtain ⟨hi, hw⟩ := hw
        refine w_iald (o := (stC q30 4)) hx hb hK hW (st_ty hNN fq30.1 fq30.2 rfl).1 (st_ty hNN fq30.1 fq30.2 rfl).2 hi d_Rec_readValues_73 ?_
        have hF := hW.free hS hA
        refine va_callv (va_runV (C := R_Rec) (As := [.int l1, .int (rA x26 (stC q29 8) l1), .int l2, .int (rA x26 (stC q30 4) l1)]) (rest := []) ⟨hx, hb, hml, hown, hT⟩ (k_Rec_enterMissing l dC dI cI cB cJ cZ ad NN E tM tC kK kV hNN H.size o l1 (rA x26 (stC q29 8) l1) l2 (rA x26 (stC q30 4) l1) x26 fo hw) ⟨callB_of 4 hT (gwt_in w_5_42) rfl rfl rfl (hT _ w_1_6) (hT _ w_5_39) (by decide +kernel) ⟨Nat.le_trans (Nat.le_of_ble_eq_true rfl) hRf, Nat.le_trans (Nat.le_of_ble_eq_true rfl) hRl⟩, hT _ w_5_41, hT _ ws_8⟩ ⟨PVc.blind, va_recv hK hW.1 (ci := 4) (q0 := o) rfl (pic_obj fo.1 fo.2 (by decide)), PVc.at _ hW hK hN hE hS hF⟩ rfl rfl hl.1 rfl (lv_room (Nat.le_of_ble_eq_true rfl)) d_Rec_readValues_74 ⟨hRc, hRs⟩) hS (fun q _ h => hF q h) hF (fun  x31 t H locs ht hvm hw hB hz1 hk1 hS => ?_)
        have hW := Wd.back hB ht hF
        clear hB ht hF hz1 hk1 hvm
        exact hret x31 H locs 77 ls d_Rec_readValues_77 hw hW hS
    · have hw := hw.2 c24
      exact hret x22 H locs 40 ls d_Rec_readValues_40 hw hW hS
  · have hw := hw.2 c18
    refine lv_aload_n hx hb d_Rec_readValues_13 rfl (lv_at hl 0 rfl) ?_
    refine lv_iload_n hx hb d_Rec_readValues_14 rfl (lv_at hl 1 rfl) ?_
    refine lv_iload_n hx hb d_Rec_readValues_15 rfl (lv_at hl 2 rfl) ?_
    refine lv_iload_n hx hb d_Rec_readValues_16 rfl (lv_at hl 3 rfl) ?_
    have hF := hW.free hS hA
    refine va_callv (va_runV (C := R_Rec) (As := [.int l1, .int l2, .int l3]) (rest := []) ⟨hx, hb, hml, hown, hT⟩ (hs_Rec_readOne H.size o l1 l2 l3 x fo _ hw) ⟨callB_of 3 hT (gwt_in w_5_59) rfl rfl rfl (hT _ w_1_6) (hT _ w_5_56) (by decide +kernel) ⟨hDf, Nat.le_trans (Nat.add_le_add_right (by decide) _) hDl⟩, hT _ w_5_58, hT _ ws_11⟩ ⟨PVc.blind, va_recv hK hW.1 (ci := 4) (q0 := o) rfl (pic_obj fo.1 fo.2 (by decide)), PVc.at _ hW hK hN hE hS hF⟩ rfl rfl hl.1 rfl (lv_room (Nat.le_of_ble_eq_true rfl)) d_Rec_readValues_17 ⟨hRc, hRs⟩) hS (fun q _ h => hF q h) hF (fun  x32 t H locs ht hvm hw hB hz1 hk1 hS => ?_)
    have hW := Wd.back hB ht hF
    clear hB ht hF hz1 hk1 hvm
    exact hret x32 H locs 20 ls d_Rec_readValues_20 hw hW hS
set_option maxHeartbeats 4000000 in
set_option maxRecDepth 100000 in
theorem kr_Rec_readGroup (l : Launch) (dC : Nat → ClassId) (dI : Nat → Nat → Nat) (cI cB cJ cZ : ClassId) (ad : Nat → Nat) (NN : Nat) (E : Heap) (tM tC : Nat) (kK kV : Nat → Nat) (hNN : 152 ≤ NN) : ∀ d : Nat, (∀ (sz : Nat) (o : Nat) (l1 : Int32) (l2 : Int32) (l3 : Int32) (x : St), (o < NN ∧ kcC o = 4) → ∀ (post : St → Prop), ((wr_Rec_readGroup d)).1 post o l1 l2 l3 x → Met l y_Rec_readGroup (wsOf y_Rec_readGroup b_Rec_readGroup 9 (none)) ({ frames := 8 + d, cells := 0, slots := 0, locals := 287 + d * 28 }) (va_Pc [.ref (ad o), .int l1, .int l2, .int l3] (PVc dC dI cI cB cJ cZ ad stC kcC NN E tM tC kK kV sz x)) (va_Qv (fun (y : St) => post y) (fun y t => Wd dC dI cI cB cJ cZ ad stC kcC NN (va_A (pic ad stC kcC NN cI cB cJ cZ x) sz) y t.heap) (va_A (pic ad stC kcC NN cI cB cJ cZ x) sz)) 0 0 (va_A (pic ad stC kcC NN cI cB cJ cZ x) sz)) ∧ (∀ (sz : Nat) (o : Nat) (l1 : Int32) (l2 : Int32) (l3 : Int32) (x : St), (o < NN ∧ kcC o = 4) → ∀ (post : St → Prop), ((wr_Rec_readGroup d)).2.1 post o l1 l2 l3 x → Met l y_Rec_readOne (wsOf y_Rec_readOne b_Rec_readOne 6 (none)) ({ frames := 8 + d, cells := 0, slots := 0, locals := 287 + d * 28 }) (va_Pc [.ref (ad o), .int l1, .int l2, .int l3] (PVc dC dI cI cB cJ cZ ad stC kcC NN E tM tC kK kV sz x)) (va_Qv (fun (y : St) => post y) (fun y t => Wd dC dI cI cB cJ cZ ad stC kcC NN (va_A (pic ad stC kcC NN cI cB cJ cZ x) sz) y t.heap) (va_A (pic ad stC kcC NN cI cB cJ cZ x) sz)) 0 0 (va_A (pic ad stC kcC NN cI cB cJ cZ x) sz)) ∧ (∀ (sz : Nat) (o : Nat) (l1 : Int32) (l2 : Int32) (l3 : Int32) (x : St), (o < NN ∧ kcC o = 4) → ∀ (post : St → Prop), ((wr_Rec_readGroup d)).2.2 post o l1 l2 l3 x → Met l y_Rec_readValues (wsOf y_Rec_readValues b_Rec_readValues 7 (none)) ({ frames := 8 + d, cells := 0, slots := 0, locals := 287 + d * 28 }) (va_Pc [.ref (ad o), .int l1, .int l2, .int l3] (PVc dC dI cI cB cJ cZ ad stC kcC NN E tM tC kK kV sz x)) (va_Qv (fun (y : St) => post y) (fun y t => Wd dC dI cI cB cJ cZ ad stC kcC NN (va_A (pic ad stC kcC NN cI cB cJ cZ x) sz) y t.heap) (va_A (pic ad stC kcC NN cI cB cJ cZ x) sz)) 0 0 (va_A (pic ad stC kcC NN cI cB cJ cZ x) sz)) := by
  intro d
  induction d with
  | zero =>
    exact ⟨fun sz o l1 l2 l3 x fo post hw => hw.elim, fun sz o l1 l2 l3 x fo post hw => hw.elim, fun sz o l1 l2 l3 x fo post hw => hw.elim⟩
  | succ d ih =>
    refine ⟨?_, ?_, ?_⟩
    · intro sz o l1 l2 l3 x fo post hw
      have hw : wb_Rec_readGroup post ((wr_Rec_readGroup d)).1 ((wr_Rec_readGroup d)).2.1 ((wr_Rec_readGroup d)).2.2 o l1 l2 l3 x := hw
      refine Met.ofW (cc := b_Rec_readGroup) (maxL := 9) (ret := none) (by decide) rfl ?_
      intro p e s m args below meth c s₁ B hml hv
      obtain ⟨rfl, ⟨hsz, hW0, hK, hN⟩, hE⟩ := hv
      have hx := B.exec
      have hb := B.bytes
      have hr := B.returns
      have hts := atoms_spec B.pre
      have hT : ∀ w ∈ TG, w.before _ s = true := fun w h => hts w (List.mem_cons_of_mem _ h)
      have hown : s.vm.findClass R_Rec = some m.cls := findClass_of_methodNamed B.named
      have hlocks := B.notSynchronized
      subst hsz
      have hW : Wd dC dI cI cB cJ cZ ad stC kcC NN (va_A (pic ad stC kcC NN cI cB cJ cZ x) s.heap.size) x s.heap := ⟨hW0.1, hW0.2.1.self (sz := s.heap.size), hW0.2.2⟩
      generalize hAe : va_A (pic ad stC kcC NN cI cB cJ cZ x) s.heap.size = A at hW hE ⊢
      have hA : ∀ q : Nat, s.heap.size ≤ q → A q := fun q h => by rw [← hAe]; exact Or.inr h
      have hS : va_S A s.heap s.heap [] := va_S.rf
      have hl := lv_entry ([.ref (ad o), .int l1, .int l2, .int l3]) (n := 9) (Nat.le_of_ble_eq_true rfl)
      rw [lg_entry_eq]
      generalize (lg_sl ([.ref (ad o), .int l1, .int l2, .int l3]) ++ List.replicate (9 - (lg_sl ([.ref (ad o), .int l1, .int l2, .int l3])).length) Slot.unset).toArray = ls at hl ⊢
      have hl : lv_has ls 9 [(0, .ref (ad o)), (1, .int l1), (2, .int l2), (3, .int l3)] := hl
      exact t_Rec_readGroup_e hx hb hml hown hT hK hN hA (Nat.le_refl 0) (Nat.le_refl 0) (Nat.le_add_right 8 (d + 1)) (Nat.le_add_right 287 ((d + 1) * 28)) hNN hE (fun x H locs pc ls hd hp hW hS => W.vret hx hb hr (fun t ht hM => ⟨⟨x, rfl, hp, Wd.back hW ht.symm (fun _ z => z)⟩, hS.F ht⟩) hS.2.2 hd hlocks) (ih).1 (ih).2.1 (ih).2.2 (Nat.le_of_eq (Nat.add_assoc 8 d 1)) (by show 28 + (287 + d * 28) ≤ 287 + (d + 1) * 28; omega) o l1 l2 l3 x _ _ ls fo hw hW hS hl
    · intro sz o l1 l2 l3 x fo post hw
      have hw : wb_Rec_readOne post ((wr_Rec_readGroup d)).1 ((wr_Rec_readGroup d)).2.1 ((wr_Rec_readGroup d)).2.2 o l1 l2 l3 x := hw
      refine Met.ofW (cc := b_Rec_readOne) (maxL := 6) (ret := none) (by decide) rfl ?_
      intro p e s m args below meth c s₁ B hml hv
      obtain ⟨rfl, ⟨hsz, hW0, hK, hN⟩, hE⟩ := hv
      have hx := B.exec
      have hb := B.bytes
      have hr := B.returns
      have hts := atoms_spec B.pre
      have hT : ∀ w ∈ TG, w.before _ s = true := fun w h => hts w (List.mem_cons_of_mem _ h)
      have hown : s.vm.findClass R_Rec = some m.cls := findClass_of_methodNamed B.named
      have hlocks := B.notSynchronized
      subst hsz
      have hW : Wd dC dI cI cB cJ cZ ad stC kcC NN (va_A (pic ad stC kcC NN cI cB cJ cZ x) s.heap.size) x s.heap := ⟨hW0.1, hW0.2.1.self (sz := s.heap.size), hW0.2.2⟩
      generalize hAe : va_A (pic ad stC kcC NN cI cB cJ cZ x) s.heap.size = A at hW hE ⊢
      have hA : ∀ q : Nat, s.heap.size ≤ q → A q := fun q h => by rw [← hAe]; exact Or.inr h
      have hS : va_S A s.heap s.heap [] := va_S.rf
      have hl := lv_entry ([.ref (ad o), .int l1, .int l2, .int l3]) (n := 6) (Nat.le_of_ble_eq_true rfl)
      rw [lg_entry_eq]
      generalize (lg_sl ([.ref (ad o), .int l1, .int l2, .int l3]) ++ List.replicate (6 - (lg_sl ([.ref (ad o), .int l1, .int l2, .int l3])).length) Slot.unset).toArray = ls at hl ⊢
      have hl : lv_has ls 6 [(0, .ref (ad o)), (1, .int l1), (2, .int l2), (3, .int l3)] := hl
      exact t_Rec_readOne_e hx hb hml hown hT hK hN hA (Nat.le_refl 0) (Nat.le_refl 0) (Nat.le_add_right 8 (d + 1)) (Nat.le_add_right 287 ((d + 1) * 28)) hNN hE (fun x H locs pc ls hd hp hW hS => W.vret hx hb hr (fun t ht hM => ⟨⟨x, rfl, hp, Wd.back hW ht.symm (fun _ z => z)⟩, hS.F ht⟩) hS.2.2 hd hlocks) (ih).1 (ih).2.1 (ih).2.2 (Nat.le_of_eq (Nat.add_assoc 8 d 1)) (by show 28 + (287 + d * 28) ≤ 287 + (d + 1) * 28; omega) o l1 l2 l3 x _ _ ls fo hw hW hS hl
    · intro sz o l1 l2 l3 x fo post hw
      have hw : wb_Rec_readValues post ((wr_Rec_readGroup d)).1 ((wr_Rec_readGroup d)).2.1 ((wr_Rec_readGroup d)).2.2 o l1 l2 l3 x := hw
      refine Met.ofW (cc := b_Rec_readValues) (maxL := 7) (ret := none) (by decide) rfl ?_
      intro p e s m args below meth c s₁ B hml hv
      obtain ⟨rfl, ⟨hsz, hW0, hK, hN⟩, hE⟩ := hv
      have hx := B.exec
      have hb := B.bytes
      have hr := B.returns
      have hts := atoms_spec B.pre
      have hT : ∀ w ∈ TG, w.before _ s = true := fun w h => hts w (List.mem_cons_of_mem _ h)
      have hown : s.vm.findClass R_Rec = some m.cls := findClass_of_methodNamed B.named
      have hlocks := B.notSynchronized
      subst hsz
      have hW : Wd dC dI cI cB cJ cZ ad stC kcC NN (va_A (pic ad stC kcC NN cI cB cJ cZ x) s.heap.size) x s.heap := ⟨hW0.1, hW0.2.1.self (sz := s.heap.size), hW0.2.2⟩
      generalize hAe : va_A (pic ad stC kcC NN cI cB cJ cZ x) s.heap.size = A at hW hE ⊢
      have hA : ∀ q : Nat, s.heap.size ≤ q → A q := fun q h => by rw [← hAe]; exact Or.inr h
      have hS : va_S A s.heap s.heap [] := va_S.rf
      have hl := lv_entry ([.ref (ad o), .int l1, .int l2, .int l3]) (n := 7) (Nat.le_of_ble_eq_true rfl)
      rw [lg_entry_eq]
      generalize (lg_sl ([.ref (ad o), .int l1, .int l2, .int l3]) ++ List.replicate (7 - (lg_sl ([.ref (ad o), .int l1, .int l2, .int l3])).length) Slot.unset).toArray = ls at hl ⊢
      have hl : lv_has ls 7 [(0, .ref (ad o)), (1, .int l1), (2, .int l2), (3, .int l3)] := hl
      exact t_Rec_readValues_e hx hb hml hown hT hK hN hA (Nat.le_refl 0) (Nat.le_refl 0) (Nat.le_add_right 8 (d + 1)) (Nat.le_add_right 287 ((d + 1) * 28)) hNN hE (fun x H locs pc ls hd hp hW hS => W.vret hx hb hr (fun t ht hM => ⟨⟨x, rfl, hp, Wd.back hW ht.symm (fun _ z => z)⟩, hS.F ht⟩) hS.2.2 hd hlocks) (ih).1 (ih).2.1 (ih).2.2 (Nat.le_of_eq (Nat.add_assoc 8 d 1)) (by show 28 + (287 + d * 28) ≤ 287 + (d + 1) * 28; omega) o l1 l2 l3 x _ _ ls fo hw hW hS hl

theorem k_Rec_readGroup (l : Launch) (dC : Nat → ClassId) (dI : Nat → Nat → Nat) (cI cB cJ cZ : ClassId) (ad : Nat → Nat) (NN : Nat) (E : Heap) (tM tC : Nat) (kK kV : Nat → Nat) (hNN : 152 ≤ NN) (sz : Nat) (o : Nat) (l1 : Int32) (l2 : Int32) (l3 : Int32) (x : St) (fo : o < NN ∧ kcC o = 4) {post : St → Prop} (hw : wp_Rec_readGroup post o l1 l2 l3 x) : Met l y_Rec_readGroup (wsOf y_Rec_readGroup b_Rec_readGroup 9 (none)) ({ frames := 208, cells := 0, slots := 0, locals := 5887 }) (va_Pc [.ref (ad o), .int l1, .int l2, .int l3] (PVc dC dI cI cB cJ cZ ad stC kcC NN E tM tC kK kV sz x)) (va_Qv (fun (y : St) => post y) (fun y t => Wd dC dI cI cB cJ cZ ad stC kcC NN (va_A (pic ad stC kcC NN cI cB cJ cZ x) sz) y t.heap) (va_A (pic ad stC kcC NN cI cB cJ cZ x) sz)) 0 0 (va_A (pic ad stC kcC NN cI cB cJ cZ x) sz) := ((kr_Rec_readGroup l dC dI cI cB cJ cZ ad NN E tM tC kK kV hNN 200)).1 sz o l1 l2 l3 x fo post hw
theorem k_Rec_readOne (l : Launch) (dC : Nat → ClassId) (dI : Nat → Nat → Nat) (cI cB cJ cZ : ClassId) (ad : Nat → Nat) (NN : Nat) (E : Heap) (tM tC : Nat) (kK kV : Nat → Nat) (hNN : 152 ≤ NN) (sz : Nat) (o : Nat) (l1 : Int32) (l2 : Int32) (l3 : Int32) (x : St) (fo : o < NN ∧ kcC o = 4) {post : St → Prop} (hw : wp_Rec_readOne post o l1 l2 l3 x) : Met l y_Rec_readOne (wsOf y_Rec_readOne b_Rec_readOne 6 (none)) ({ frames := 208, cells := 0, slots := 0, locals := 5887 }) (va_Pc [.ref (ad o), .int l1, .int l2, .int l3] (PVc dC dI cI cB cJ cZ ad stC kcC NN E tM tC kK kV sz x)) (va_Qv (fun (y : St) => post y) (fun y t => Wd dC dI cI cB cJ cZ ad stC kcC NN (va_A (pic ad stC kcC NN cI cB cJ cZ x) sz) y t.heap) (va_A (pic ad stC kcC NN cI cB cJ cZ x) sz)) 0 0 (va_A (pic ad stC kcC NN cI cB cJ cZ x) sz) := ((kr_Rec_readGroup l dC dI cI cB cJ cZ ad NN E tM tC kK kV hNN 200)).2.1 sz o l1 l2 l3 x fo post hw
theorem k_Rec_readValues (l : Launch) (dC : Nat → ClassId) (dI : Nat → Nat → Nat) (cI cB cJ cZ : ClassId) (ad : Nat → Nat) (NN : Nat) (E : Heap) (tM tC : Nat) (kK kV : Nat → Nat) (hNN : 152 ≤ NN) (sz : Nat) (o : Nat) (l1 : Int32) (l2 : Int32) (l3 : Int32) (x : St) (fo : o < NN ∧ kcC o = 4) {post : St → Prop} (hw : wp_Rec_readValues post o l1 l2 l3 x) : Met l y_Rec_readValues (wsOf y_Rec_readValues b_Rec_readValues 7 (none)) ({ frames := 208, cells := 0, slots := 0, locals := 5887 }) (va_Pc [.ref (ad o), .int l1, .int l2, .int l3] (PVc dC dI cI cB cJ cZ ad stC kcC NN E tM tC kK kV sz x)) (va_Qv (fun (y : St) => post y) (fun y t => Wd dC dI cI cB cJ cZ ad stC kcC NN (va_A (pic ad stC kcC NN cI cB cJ cZ x) sz) y t.heap) (va_A (pic ad stC kcC NN cI cB cJ cZ x) sz)) 0 0 (va_A (pic ad stC kcC NN cI cB cJ cZ x) sz) := ((kr_Rec_readGroup l dC dI cI cB cJ cZ ad NN E tM tC kK kV hNN 200)).2.2 sz o l1 l2 l3 x fo post hw
end
