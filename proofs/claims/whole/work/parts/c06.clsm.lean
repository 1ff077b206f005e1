theorem fr_Rec_12 : F_Rec 12 = (R_Rec, "texts", "[B", true) := rfl
theorem fr_Rec_4 : F_Rec 4 = (R_Rec, "freshTextEnd", "I", false) := rfl
theorem w_1_101 : (Jvm.Cond.fieldLink "StripedVault$Records" (211 : Nat) "StripedVault$Scan" "number" "J") ∈ TG := tw_1 101 (by decide +kernel) (by decide +kernel)
theorem w_1_104 : (Jvm.Cond.fieldLink "StripedVault$Records" (197 : Nat) "StripedVault$Scan" "textSize" "I") ∈ TG := tw_1 104 (by decide +kernel) (by decide +kernel)
theorem w_1_151 : (Jvm.Cond.fieldLink "StripedVault$Records" (169 : Nat) "StripedVault$Schema" "type" "[I") ∈ TG := tw_1 151 (by decide +kernel) (by decide +kernel)
theorem w_1_160 : (Jvm.Cond.fieldLink "StripedVault$Records" (167 : Nat) "StripedVault$Schema" "rep" "[I") ∈ TG := tw_1 160 (by decide +kernel) (by decide +kernel)
theorem w_1_166 : (Jvm.Cond.fieldLink "StripedVault$Records" (179 : Nat) "StripedVault$Schema" "def" "[I") ∈ TG := tw_1 166 (by decide +kernel) (by decide +kernel)
theorem w_1_172 : (Jvm.Cond.fieldLink "StripedVault$Records" (130 : Nat) "StripedVault$Schema" "past" "[I") ∈ TG := tw_1 172 (by decide +kernel) (by decide +kernel)
theorem w_1_176 : (Jvm.Cond.fieldLink "StripedVault$Records" (176 : Nat) "StripedVault$Schema" "column" "[I") ∈ TG := tw_1 176 (by decide +kernel) (by decide +kernel)
theorem w_1_233 : (Jvm.Cond.fieldLink "StripedVault$Records" (66 : Nat) "StripedVault$Records" "freshTextEnd" "I") ∈ TG := tw_1 233 (by decide +kernel) (by decide +kernel)
theorem w_1_83 : (Jvm.Cond.fieldLink "StripedVault$Records" (166 : Nat) "StripedVault$Scan" "count" "I") ∈ TG := tw_1 83 (by decide +kernel) (by decide +kernel)
theorem w_2_6 : (Jvm.Cond.fieldLink "StripedVault$Records" (36 : Nat) "StripedVault$Records" "texts" "[B") ∈ TG := tw_2 6 (by decide +kernel) (by decide +kernel)
theorem w_5_101 : (Jvm.Cond.instanceMethod ({ cls := "StripedVault$Scan", name := "readDigits", desc := "()Z" } : Jvm.MethodName)) ∈ TG := tw_5 101 (by decide +kernel) (by decide +kernel)
theorem w_5_102 : (Jvm.Cond.code ({ cls := "StripedVault$Scan", name := "readDigits", desc := "()Z" } : Jvm.MethodName) prog_7_method_15_code (3 : Nat) (Option.some Jvm.ClassFile.FieldType.boolean)) ∈ TG := tw_5 102 (by decide +kernel) (by decide +kernel)
theorem w_5_105 : (Jvm.Cond.methodLink "StripedVault$Records" (133 : Nat) ({ cls := "StripedVault$Scan", name := "takeSign", desc := "(C)Z" } : Jvm.MethodName)) ∈ TG := tw_5 105 (by decide +kernel) (by decide +kernel)
theorem w_5_106 : (Jvm.Cond.methodLink "StripedVault$Records" (137 : Nat) ({ cls := "StripedVault$Records", name := "someRequired", desc := "(III)Z" } : Jvm.MethodName)) ∈ TG := tw_5 106 (by decide +kernel) (by decide +kernel)
theorem w_5_108 : (Jvm.Cond.instanceMethod ({ cls := "StripedVault$Records", name := "someRequired", desc := "(III)Z" } : Jvm.MethodName)) ∈ TG := tw_5 108 (by decide +kernel) (by decide +kernel)
theorem w_5_109 : (Jvm.Cond.code ({ cls := "StripedVault$Records", name := "someRequired", desc := "(III)Z" } : Jvm.MethodName) prog_6_method_8_code (5 : Nat) (Option.some Jvm.ClassFile.FieldType.boolean)) ∈ TG := tw_5 109 (by decide +kernel) (by decide +kernel)
theorem w_5_23 : (Jvm.Cond.methodLink "StripedVault$Records" (69 : Nat) ({ cls := "StripedVault$Records", name := "readGroup", desc := "(III)V" } : Jvm.MethodName)) ∈ TG := tw_5 23 (by decide +kernel) (by decide +kernel)
theorem w_5_25 : (Jvm.Cond.instanceMethod ({ cls := "StripedVault$Records", name := "readGroup", desc := "(III)V" } : Jvm.MethodName)) ∈ TG := tw_5 25 (by decide +kernel) (by decide +kernel)
theorem w_5_26 : (Jvm.Cond.code ({ cls := "StripedVault$Records", name := "readGroup", desc := "(III)V" } : Jvm.MethodName) prog_6_method_7_code (9 : Nat) (Option.none : Option Jvm.ClassFile.FieldType)) ∈ TG := tw_5 26 (by decide +kernel) (by decide +kernel)
theorem w_5_28 : (Jvm.Cond.methodLink "StripedVault$Records" (109 : Nat) ({ cls := "StripedVault$Scan", name := "needSign", desc := "(C)V" } : Jvm.MethodName)) ∈ TG := tw_5 28 (by decide +kernel) (by decide +kernel)
theorem w_5_29 : (Jvm.Cond.methodLink "StripedVault$Records" (113 : Nat) ({ cls := "StripedVault$Schema", name := "firstIn", desc := "(I)I" } : Jvm.MethodName)) ∈ TG := tw_5 29 (by decide +kernel) (by decide +kernel)
theorem w_5_30 : (Jvm.Cond.methodLink "StripedVault$Records" (116 : Nat) ({ cls := "StripedVault$Schema", name := "pastOf", desc := "(I)I" } : Jvm.MethodName)) ∈ TG := tw_5 30 (by decide +kernel) (by decide +kernel)
theorem w_5_31 : (Jvm.Cond.methodLink "StripedVault$Records" (73 : Nat) ({ cls := "StripedVault$Scan", name := "good", desc := "()Z" } : Jvm.MethodName)) ∈ TG := tw_5 31 (by decide +kernel) (by decide +kernel)
theorem w_5_32 : (Jvm.Cond.methodLink "StripedVault$Records" (79 : Nat) ({ cls := "StripedVault$Scan", name := "next", desc := "()I" } : Jvm.MethodName)) ∈ TG := tw_5 32 (by decide +kernel) (by decide +kernel)
theorem w_5_33 : (Jvm.Cond.methodLink "StripedVault$Records" (119 : Nat) ({ cls := "StripedVault$Records", name := "readName", desc := "(III)I" } : Jvm.MethodName)) ∈ TG := tw_5 33 (by decide +kernel) (by decide +kernel)
theorem w_5_35 : (Jvm.Cond.instanceMethod ({ cls := "StripedVault$Records", name := "readName", desc := "(III)I" } : Jvm.MethodName)) ∈ TG := tw_5 35 (by decide +kernel) (by decide +kernel)
theorem w_5_36 : (Jvm.Cond.code ({ cls := "StripedVault$Records", name := "readName", desc := "(III)I" } : Jvm.MethodName) prog_6_method_9_code (6 : Nat) (Option.some Jvm.ClassFile.FieldType.int)) ∈ TG := tw_5 36 (by decide +kernel) (by decide +kernel)
theorem w_5_39 : (Jvm.Cond.methodLink "StripedVault$Records" (123 : Nat) ({ cls := "StripedVault$Records", name := "enterMissing", desc := "(IIII)V" } : Jvm.MethodName)) ∈ TG := tw_5 39 (by decide +kernel) (by decide +kernel)
theorem w_5_41 : (Jvm.Cond.instanceMethod ({ cls := "StripedVault$Records", name := "enterMissing", desc := "(IIII)V" } : Jvm.MethodName)) ∈ TG := tw_5 41 (by decide +kernel) (by decide +kernel)
theorem w_5_42 : (Jvm.Cond.code ({ cls := "StripedVault$Records", name := "enterMissing", desc := "(IIII)V" } : Jvm.MethodName) prog_6_method_6_code (7 : Nat) (Option.none : Option Jvm.ClassFile.FieldType)) ∈ TG := tw_5 42 (by decide +kernel) (by decide +kernel)
theorem w_5_52 : (Jvm.Cond.methodLink "StripedVault$Records" (127 : Nat) ({ cls := "StripedVault$Records", name := "readValues", desc := "(III)V" } : Jvm.MethodName)) ∈ TG := tw_5 52 (by decide +kernel) (by decide +kernel)
theorem w_5_54 : (Jvm.Cond.instanceMethod ({ cls := "StripedVault$Records", name := "readValues", desc := "(III)V" } : Jvm.MethodName)) ∈ TG := tw_5 54 (by decide +kernel) (by decide +kernel)
theorem w_5_55 : (Jvm.Cond.code ({ cls := "StripedVault$Records", name := "readValues", desc := "(III)V" } : Jvm.MethodName) prog_6_method_10_code (7 : Nat) (Option.none : Option Jvm.ClassFile.FieldType)) ∈ TG := tw_5 55 (by decide +kernel) (by decide +kernel)
theorem w_5_56 : (Jvm.Cond.methodLink "StripedVault$Records" (163 : Nat) ({ cls := "StripedVault$Records", name := "readOne", desc := "(III)V" } : Jvm.MethodName)) ∈ TG := tw_5 56 (by decide +kernel) (by decide +kernel)
theorem w_5_58 : (Jvm.Cond.instanceMethod ({ cls := "StripedVault$Records", name := "readOne", desc := "(III)V" } : Jvm.MethodName)) ∈ TG := tw_5 58 (by decide +kernel) (by decide +kernel)
theorem w_5_59 : (Jvm.Cond.code ({ cls := "StripedVault$Records", name := "readOne", desc := "(III)V" } : Jvm.MethodName) prog_6_method_11_code (6 : Nat) (Option.none : Option Jvm.ClassFile.FieldType)) ∈ TG := tw_5 59 (by decide +kernel) (by decide +kernel)
theorem w_5_60 : (Jvm.Cond.methodLink "StripedVault$Records" (172 : Nat) ({ cls := "StripedVault$Records", name := "readValue", desc := "(I)J" } : Jvm.MethodName)) ∈ TG := tw_5 60 (by decide +kernel) (by decide +kernel)
theorem w_5_62 : (Jvm.Cond.instanceMethod ({ cls := "StripedVault$Records", name := "readValue", desc := "(I)J" } : Jvm.MethodName)) ∈ TG := tw_5 62 (by decide +kernel) (by decide +kernel)
theorem w_5_63 : (Jvm.Cond.code ({ cls := "StripedVault$Records", name := "readValue", desc := "(I)J" } : Jvm.MethodName) prog_6_method_12_code (4 : Nat) (Option.some Jvm.ClassFile.FieldType.long)) ∈ TG := tw_5 63 (by decide +kernel) (by decide +kernel)
theorem w_5_65 : (Jvm.Cond.methodLink "StripedVault$Records" (183 : Nat) ({ cls := "StripedVault$Scan", name := "takeWord", desc := "(Ljava/lang/String;)Z" } : Jvm.MethodName)) ∈ TG := tw_5 65 (by decide +kernel) (by decide +kernel)
theorem w_5_67 : (Jvm.Cond.methodLink "StripedVault$Records" (189 : Nat) ({ cls := "StripedVault$Scan", name := "needWord", desc := "(Ljava/lang/String;)V" } : Jvm.MethodName)) ∈ TG := tw_5 67 (by decide +kernel) (by decide +kernel)
theorem w_5_68 : (Jvm.Cond.methodLink "StripedVault$Records" (193 : Nat) ({ cls := "StripedVault$Scan", name := "readQuoted", desc := "([BI)V" } : Jvm.MethodName)) ∈ TG := tw_5 68 (by decide +kernel) (by decide +kernel)
theorem w_5_69 : (Jvm.Cond.instanceMethod ({ cls := "StripedVault$Scan", name := "readQuoted", desc := "([BI)V" } : Jvm.MethodName)) ∈ TG := tw_5 69 (by decide +kernel) (by decide +kernel)
theorem w_5_70 : (Jvm.Cond.selects "StripedVault$Scan" ({ cls := "StripedVault$Scan", name := "readQuoted", desc := "([BI)V" } : Jvm.MethodName) ({ cls := "StripedVault$Scan", name := "readQuoted", desc := "([BI)V" } : Jvm.MethodName)) ∈ TG := tw_5 70 (by decide +kernel) (by decide +kernel)
theorem w_5_71 : (Jvm.Cond.code ({ cls := "StripedVault$Scan", name := "readQuoted", desc := "([BI)V" } : Jvm.MethodName) prog_7_method_16_code (6 : Nat) (Option.none : Option Jvm.ClassFile.FieldType)) ∈ TG := tw_5 71 (by decide +kernel) (by decide +kernel)
theorem w_5_85 : (Jvm.Cond.static ({ cls := "StripedVault", name := "reference", desc := "(II)J" } : Jvm.MethodName)) ∈ TG := tw_5 85 (by decide +kernel) (by decide +kernel)
theorem w_5_86 : (Jvm.Cond.code ({ cls := "StripedVault", name := "reference", desc := "(II)J" } : Jvm.MethodName) prog_1_method_31_code (2 : Nat) (Option.some Jvm.ClassFile.FieldType.long)) ∈ TG := tw_5 86 (by decide +kernel) (by decide +kernel)
theorem w_5_88 : (Jvm.Cond.methodLink "StripedVault$Records" (204 : Nat) ({ cls := "StripedVault$Scan", name := "atNumber", desc := "()Z" } : Jvm.MethodName)) ∈ TG := tw_5 88 (by decide +kernel) (by decide +kernel)
theorem w_5_89 : (Jvm.Cond.instanceMethod ({ cls := "StripedVault$Scan", name := "atNumber", desc := "()Z" } : Jvm.MethodName)) ∈ TG := tw_5 89 (by decide +kernel) (by decide +kernel)
theorem w_5_90 : (Jvm.Cond.selects "StripedVault$Scan" ({ cls := "StripedVault$Scan", name := "atNumber", desc := "()Z" } : Jvm.MethodName) ({ cls := "StripedVault$Scan", name := "atNumber", desc := "()Z" } : Jvm.MethodName)) ∈ TG := tw_5 90 (by decide +kernel) (by decide +kernel)
theorem w_5_91 : (Jvm.Cond.code ({ cls := "StripedVault$Scan", name := "atNumber", desc := "()Z" } : Jvm.MethodName) prog_7_method_13_code (2 : Nat) (Option.some Jvm.ClassFile.FieldType.boolean)) ∈ TG := tw_5 91 (by decide +kernel) (by decide +kernel)
theorem w_5_95 : (Jvm.Cond.methodLink "StripedVault$Records" (207 : Nat) ({ cls := "StripedVault$Scan", name := "readNumber", desc := "(Z)V" } : Jvm.MethodName)) ∈ TG := tw_5 95 (by decide +kernel) (by decide +kernel)
theorem w_5_96 : (Jvm.Cond.instanceMethod ({ cls := "StripedVault$Scan", name := "readNumber", desc := "(Z)V" } : Jvm.MethodName)) ∈ TG := tw_5 96 (by decide +kernel) (by decide +kernel)
theorem w_5_97 : (Jvm.Cond.selects "StripedVault$Scan" ({ cls := "StripedVault$Scan", name := "readNumber", desc := "(Z)V" } : Jvm.MethodName) ({ cls := "StripedVault$Scan", name := "readNumber", desc := "(Z)V" } : Jvm.MethodName)) ∈ TG := tw_5 97 (by decide +kernel) (by decide +kernel)
theorem w_5_98 : (Jvm.Cond.code ({ cls := "StripedVault$Scan", name := "readNumber", desc := "(Z)V" } : Jvm.MethodName) prog_7_method_14_code (8 : Nat) (Option.none : Option Jvm.ClassFile.FieldType)) ∈ TG := tw_5 98 (by decide +kernel) (by decide +kernel)
theorem w_5_99 : (Jvm.Cond.methodLink "StripedVault$Scan" (86 : Nat) ({ cls := "StripedVault$Scan", name := "readDigits", desc := "()Z" } : Jvm.MethodName)) ∈ TG := tw_5 99 (by decide +kernel) (by decide +kernel)
theorem wn_5_84 : (Jvm.Cond.methodLinkNest "StripedVault$Records" (200 : Nat) ({ cls := "StripedVault", name := "reference", desc := "(II)J" } : Jvm.MethodName) "StripedVault") ∈ lw_tbl := tb_5 _ (List.mem_of_getElem? (i := 84) (by decide +kernel))
theorem ws_10 : Cond.selects R_Rec y_Rec_readValues y_Rec_readValues ∈ TG := tw_s 10 (by decide +kernel) (by decide +kernel)
theorem ws_11 : Cond.selects R_Rec y_Rec_readOne y_Rec_readOne ∈ TG := tw_s 11 (by decide +kernel) (by decide +kernel)
theorem ws_12 : Cond.selects R_Rec y_Rec_readValue y_Rec_readValue ∈ TG := tw_s 12 (by decide +kernel) (by decide +kernel)
theorem ws_15 : Cond.selects R_Scn y_Scn_readDigits y_Scn_readDigits ∈ TG := tw_s 15 (by decide +kernel) (by decide +kernel)
theorem ws_16 : Cond.selects R_Rec y_Rec_someRequired y_Rec_someRequired ∈ TG := tw_s 16 (by decide +kernel) (by decide +kernel)
theorem ws_6 : Cond.selects R_Rec y_Rec_readGroup y_Rec_readGroup ∈ TG := tw_s 6 (by decide +kernel) (by decide +kernel)
theorem ws_7 : Cond.selects R_Rec y_Rec_readName y_Rec_readName ∈ TG := tw_s 7 (by decide +kernel) (by decide +kernel)
theorem ws_8 : Cond.selects R_Rec y_Rec_enterMissing y_Rec_enterMissing ∈ TG := tw_s 8 (by decide +kernel) (by decide +kernel)
theorem d_Scn_readNumber_158 : decode b_Scn_readNumber 158 = .ok (.iload_n 1, 1) := by decide +kernel
theorem d_Scn_readNumber_159 : decode b_Scn_readNumber 159 = .ok (.ifCond .ne 22, 3) := by decide +kernel
theorem d_Scn_readNumber_181 : decode b_Scn_readNumber 181 = .ok (.return_, 1) := by decide +kernel
theorem d_Scn_readNumber_162 : decode b_Scn_readNumber 162 = .ok (.aload_n 0, 1) := by decide +kernel
theorem d_Scn_readNumber_163 : decode b_Scn_readNumber 163 = .ok (.getfield 89, 3) := by decide +kernel
theorem d_Scn_readNumber_166 : decode b_Scn_readNumber 166 = .ok (.aload_n 0, 1) := by decide +kernel
theorem d_Scn_readNumber_167 : decode b_Scn_readNumber 167 = .ok (.getfield 89, 3) := by decide +kernel
theorem d_Scn_readNumber_170 : decode b_Scn_readNumber 170 = .ok (.l2i, 1) := by decide +kernel
theorem d_Scn_readNumber_171 : decode b_Scn_readNumber 171 = .ok (.i2l, 1) := by decide +kernel
theorem d_Scn_readNumber_172 : decode b_Scn_readNumber 172 = .ok (.lcmp, 1) := by decide +kernel
theorem d_Scn_readNumber_173 : decode b_Scn_readNumber 173 = .ok (.ifCond .eq 8, 3) := by decide +kernel
theorem d_Scn_readNumber_176 : decode b_Scn_readNumber 176 = .ok (.aload_n 0, 1) := by decide +kernel
theorem d_Scn_readNumber_177 : decode b_Scn_readNumber 177 = .ok (.iload_n 2, 1) := by decide +kernel
theorem d_Scn_readNumber_178 : decode b_Scn_readNumber 178 = .ok (.invokevirtual 72, 3) := by decide +kernel
theorem d_Scn_readNumber_145 : decode b_Scn_readNumber 145 = .ok (.iload_n 3, 1) := by decide +kernel
theorem d_Scn_readNumber_146 : decode b_Scn_readNumber 146 = .ok (.ifCond .ne 12, 3) := by decide +kernel
theorem d_Scn_readNumber_149 : decode b_Scn_readNumber 149 = .ok (.aload_n 0, 1) := by decide +kernel
theorem d_Scn_readNumber_150 : decode b_Scn_readNumber 150 = .ok (.aload_n 0, 1) := by decide +kernel
theorem d_Scn_readNumber_151 : decode b_Scn_readNumber 151 = .ok (.getfield 89, 3) := by decide +kernel
theorem d_Scn_readNumber_154 : decode b_Scn_readNumber 154 = .ok (.lneg, 1) := by decide +kernel
theorem d_Scn_readNumber_155 : decode b_Scn_readNumber 155 = .ok (.putfield 89, 3) := by decide +kernel
theorem d_Scn_readNumber_139 : decode b_Scn_readNumber 139 = .ok (.aload_n 0, 1) := by decide +kernel
theorem d_Scn_readNumber_140 : decode b_Scn_readNumber 140 = .ok (.iload_n 2, 1) := by decide +kernel
theorem d_Scn_readNumber_141 : decode b_Scn_readNumber 141 = .ok (.invokevirtual 72, 3) := by decide +kernel
theorem d_Scn_readNumber_144 : decode b_Scn_readNumber 144 = .ok (.return_, 1) := by decide +kernel
theorem d_Scn_readNumber_112 : decode b_Scn_readNumber 112 = .ok (.istore 7, 2) := by decide +kernel
theorem d_Scn_readNumber_114 : decode b_Scn_readNumber 114 = .ok (.iload 7, 2) := by decide +kernel
theorem d_Scn_readNumber_116 : decode b_Scn_readNumber 116 = .ok (.ifCond .ne 23, 3) := by decide +kernel
theorem d_Scn_readNumber_119 : decode b_Scn_readNumber 119 = .ok (.iload 5, 2) := by decide +kernel
theorem d_Scn_readNumber_121 : decode b_Scn_readNumber 121 = .ok (.ifCond .eq 18, 3) := by decide +kernel
theorem d_Scn_readNumber_124 : decode b_Scn_readNumber 124 = .ok (.iload_n 3, 1) := by decide +kernel
theorem d_Scn_readNumber_125 : decode b_Scn_readNumber 125 = .ok (.ifCond .ne 20, 3) := by decide +kernel
theorem d_Scn_readNumber_128 : decode b_Scn_readNumber 128 = .ok (.aload_n 0, 1) := by decide +kernel
theorem d_Scn_readNumber_129 : decode b_Scn_readNumber 129 = .ok (.getfield 89, 3) := by decide +kernel
theorem d_Scn_readNumber_132 : decode b_Scn_readNumber 132 = .ok (.ldc2_w 93, 3) := by decide +kernel
theorem d_Scn_readNumber_135 : decode b_Scn_readNumber 135 = .ok (.lcmp, 1) := by decide +kernel
theorem d_Scn_readNumber_136 : decode b_Scn_readNumber 136 = .ok (.ifCond .ne 9, 3) := by decide +kernel
theorem d_Scn_readNumber_111 : decode b_Scn_readNumber 111 = .ok (.iconst 0, 1) := by decide +kernel
theorem d_Scn_readNumber_107 : decode b_Scn_readNumber 107 = .ok (.iconst 1, 1) := by decide +kernel
theorem d_Scn_readNumber_108 : decode b_Scn_readNumber 108 = .ok (.goto 4, 3) := by decide +kernel
theorem d_Scn_readNumber_82 : decode b_Scn_readNumber 82 = .ok (.invokevirtual 72, 3) := by decide +kernel
theorem d_Scn_readNumber_85 : decode b_Scn_readNumber 85 = .ok (.return_, 1) := by decide +kernel
theorem d_Scn_readNumber_38 : decode b_Scn_readNumber 38 = .ok (.aload_n 0, 1) := by decide +kernel
theorem d_Scn_readNumber_39 : decode b_Scn_readNumber 39 = .ok (.getfield 28, 3) := by decide +kernel
theorem d_Scn_readNumber_42 : decode b_Scn_readNumber 42 = .ok (.istore 4, 2) := by decide +kernel
theorem d_Scn_readNumber_44 : decode b_Scn_readNumber 44 = .ok (.aload_n 0, 1) := by decide +kernel
theorem d_Scn_readNumber_45 : decode b_Scn_readNumber 45 = .ok (.invokevirtual 86, 3) := by decide +kernel
theorem d_Scn_readNumber_48 : decode b_Scn_readNumber 48 = .ok (.istore 5, 2) := by decide +kernel
theorem d_Scn_readNumber_50 : decode b_Scn_readNumber 50 = .ok (.aload_n 0, 1) := by decide +kernel
theorem d_Scn_readNumber_51 : decode b_Scn_readNumber 51 = .ok (.getfield 28, 3) := by decide +kernel
theorem d_Scn_readNumber_54 : decode b_Scn_readNumber 54 = .ok (.iload 4, 2) := by decide +kernel
theorem d_Scn_readNumber_56 : decode b_Scn_readNumber 56 = .ok (.isub, 1) := by decide +kernel
theorem d_Scn_readNumber_57 : decode b_Scn_readNumber 57 = .ok (.istore 6, 2) := by decide +kernel
theorem d_Scn_readNumber_59 : decode b_Scn_readNumber 59 = .ok (.iload 6, 2) := by decide +kernel
theorem d_Scn_readNumber_61 : decode b_Scn_readNumber 61 = .ok (.ifCond .ne 25, 3) := by decide +kernel
theorem d_Scn_readNumber_86 : decode b_Scn_readNumber 86 = .ok (.aload_n 0, 1) := by decide +kernel
theorem d_Scn_readNumber_87 : decode b_Scn_readNumber 87 = .ok (.iload 4, 2) := by decide +kernel
theorem d_Scn_readNumber_89 : decode b_Scn_readNumber 89 = .ok (.invokevirtual 82, 3) := by decide +kernel
theorem d_Scn_readNumber_92 : decode b_Scn_readNumber 92 = .ok (.bipush 48, 2) := by decide +kernel
theorem d_Scn_readNumber_94 : decode b_Scn_readNumber 94 = .ok (.if_icmp .ne 17, 3) := by decide +kernel
theorem d_Scn_readNumber_97 : decode b_Scn_readNumber 97 = .ok (.iload_n 3, 1) := by decide +kernel
theorem d_Scn_readNumber_98 : decode b_Scn_readNumber 98 = .ok (.ifCond .ne 9, 3) := by decide +kernel
theorem d_Scn_readNumber_101 : decode b_Scn_readNumber 101 = .ok (.iload 6, 2) := by decide +kernel
theorem d_Scn_readNumber_103 : decode b_Scn_readNumber 103 = .ok (.iconst 1, 1) := by decide +kernel
theorem d_Scn_readNumber_104 : decode b_Scn_readNumber 104 = .ok (.if_icmp .le 7, 3) := by decide +kernel
theorem d_Scn_readNumber_64 : decode b_Scn_readNumber 64 = .ok (.aload_n 0, 1) := by decide +kernel
theorem d_Scn_readNumber_65 : decode b_Scn_readNumber 65 = .ok (.iload 4, 2) := by decide +kernel
theorem d_Scn_readNumber_67 : decode b_Scn_readNumber 67 = .ok (.aload_n 0, 1) := by decide +kernel
theorem d_Scn_readNumber_68 : decode b_Scn_readNumber 68 = .ok (.getfield 25, 3) := by decide +kernel
theorem d_Scn_readNumber_71 : decode b_Scn_readNumber 71 = .ok (.if_icmp .lt 10, 3) := by decide +kernel
theorem d_Scn_readNumber_81 : decode b_Scn_readNumber 81 = .ok (.iload_n 2, 1) := by decide +kernel
theorem d_Scn_readNumber_74 : decode b_Scn_readNumber 74 = .ok (.aload_n 0, 1) := by decide +kernel
theorem d_Scn_readNumber_75 : decode b_Scn_readNumber 75 = .ok (.getfield 25, 3) := by decide +kernel
theorem d_Scn_readNumber_78 : decode b_Scn_readNumber 78 = .ok (.goto 4, 3) := by decide +kernel
theorem d_Scn_readNumber_23 : decode b_Scn_readNumber 23 = .ok (.istore_n 3, 1) := by decide +kernel
theorem d_Scn_readNumber_24 : decode b_Scn_readNumber 24 = .ok (.iload_n 3, 1) := by decide +kernel
theorem d_Scn_readNumber_25 : decode b_Scn_readNumber 25 = .ok (.ifCond .eq 13, 3) := by decide +kernel
theorem d_Scn_readNumber_28 : decode b_Scn_readNumber 28 = .ok (.aload_n 0, 1) := by decide +kernel
theorem d_Scn_readNumber_29 : decode b_Scn_readNumber 29 = .ok (.dup, 1) := by decide +kernel
theorem d_Scn_readNumber_30 : decode b_Scn_readNumber 30 = .ok (.getfield 28, 3) := by decide +kernel
theorem d_Scn_readNumber_33 : decode b_Scn_readNumber 33 = .ok (.iconst 1, 1) := by decide +kernel
theorem d_Scn_readNumber_34 : decode b_Scn_readNumber 34 = .ok (.iadd, 1) := by decide +kernel
theorem d_Scn_readNumber_35 : decode b_Scn_readNumber 35 = .ok (.putfield 28, 3) := by decide +kernel
theorem d_Scn_readNumber_0 : decode b_Scn_readNumber 0 = .ok (.aload_n 0, 1) := by decide +kernel
theorem d_Scn_readNumber_1 : decode b_Scn_readNumber 1 = .ok (.getfield 28, 3) := by decide +kernel
theorem d_Scn_readNumber_4 : decode b_Scn_readNumber 4 = .ok (.istore_n 2, 1) := by decide +kernel
theorem d_Scn_readNumber_5 : decode b_Scn_readNumber 5 = .ok (.aload_n 0, 1) := by decide +kernel
theorem d_Scn_readNumber_6 : decode b_Scn_readNumber 6 = .ok (.aload_n 0, 1) := by decide +kernel
theorem d_Scn_readNumber_7 : decode b_Scn_readNumber 7 = .ok (.getfield 28, 3) := by decide +kernel
theorem d_Scn_readNumber_10 : decode b_Scn_readNumber 10 = .ok (.invokevirtual 82, 3) := by decide +kernel
theorem d_Scn_readNumber_13 : decode b_Scn_readNumber 13 = .ok (.bipush 45, 2) := by decide +kernel
theorem d_Scn_readNumber_15 : decode b_Scn_readNumber 15 = .ok (.if_icmp .ne 7, 3) := by decide +kernel
theorem d_Scn_readNumber_22 : decode b_Scn_readNumber 22 = .ok (.iconst 0, 1) := by decide +kernel
theorem d_Scn_readNumber_18 : decode b_Scn_readNumber 18 = .ok (.iconst 1, 1) := by decide +kernel
theorem d_Scn_readNumber_19 : decode b_Scn_readNumber 19 = .ok (.goto 4, 3) := by decide +kernel
theorem d_Rec_readValue_134 : decode b_Rec_readValue 134 = .ok (.aload_n 0, 1) := by decide +kernel
theorem d_Rec_readValue_135 : decode b_Rec_readValue 135 = .ok (.getfield 55, 3) := by decide +kernel
theorem d_Rec_readValue_138 : decode b_Rec_readValue 138 = .ok (.aload_n 0, 1) := by decide +kernel
theorem d_Rec_readValue_139 : decode b_Rec_readValue 139 = .ok (.getfield 55, 3) := by decide +kernel
theorem d_Rec_readValue_142 : decode b_Rec_readValue 142 = .ok (.getfield 82, 3) := by decide +kernel
theorem d_Rec_readValue_145 : decode b_Rec_readValue 145 = .ok (.invokevirtual 85, 3) := by decide +kernel
theorem d_Rec_readValue_148 : decode b_Rec_readValue 148 = .ok (.lconst 0, 1) := by decide +kernel
theorem d_Rec_readValue_149 : decode b_Rec_readValue 149 = .ok (.lreturn, 1) := by decide +kernel
theorem d_Rec_readValue_123 : decode b_Rec_readValue 123 = .ok (.invokevirtual 207, 3) := by decide +kernel
theorem d_Rec_readValue_126 : decode b_Rec_readValue 126 = .ok (.aload_n 0, 1) := by decide +kernel
theorem d_Rec_readValue_127 : decode b_Rec_readValue 127 = .ok (.getfield 55, 3) := by decide +kernel
theorem d_Rec_readValue_130 : decode b_Rec_readValue 130 = .ok (.getfield 211, 3) := by decide +kernel
theorem d_Rec_readValue_133 : decode b_Rec_readValue 133 = .ok (.lreturn, 1) := by decide +kernel
theorem d_Rec_readValue_94 : decode b_Rec_readValue 94 = .ok (.iload_n 1, 1) := by decide +kernel
theorem d_Rec_readValue_95 : decode b_Rec_readValue 95 = .ok (.iconst 3, 1) := by decide +kernel
theorem d_Rec_readValue_96 : decode b_Rec_readValue 96 = .ok (.if_icmp .eq 38, 3) := by decide +kernel
theorem d_Rec_readValue_99 : decode b_Rec_readValue 99 = .ok (.aload_n 0, 1) := by decide +kernel
theorem d_Rec_readValue_100 : decode b_Rec_readValue 100 = .ok (.getfield 55, 3) := by decide +kernel
theorem d_Rec_readValue_103 : decode b_Rec_readValue 103 = .ok (.invokevirtual 204, 3) := by decide +kernel
theorem d_Rec_readValue_106 : decode b_Rec_readValue 106 = .ok (.ifCond .eq 28, 3) := by decide +kernel
theorem d_Rec_readValue_109 : decode b_Rec_readValue 109 = .ok (.aload_n 0, 1) := by decide +kernel
theorem d_Rec_readValue_110 : decode b_Rec_readValue 110 = .ok (.getfield 55, 3) := by decide +kernel
theorem d_Rec_readValue_113 : decode b_Rec_readValue 113 = .ok (.iload_n 1, 1) := by decide +kernel
theorem d_Rec_readValue_114 : decode b_Rec_readValue 114 = .ok (.iconst 2, 1) := by decide +kernel
theorem d_Rec_readValue_115 : decode b_Rec_readValue 115 = .ok (.if_icmp .ne 7, 3) := by decide +kernel
theorem d_Rec_readValue_122 : decode b_Rec_readValue 122 = .ok (.iconst 0, 1) := by decide +kernel
theorem d_Rec_readValue_118 : decode b_Rec_readValue 118 = .ok (.iconst 1, 1) := by decide +kernel
theorem d_Rec_readValue_119 : decode b_Rec_readValue 119 = .ok (.goto 4, 3) := by decide +kernel
theorem d_Rec_readValue_0 : decode b_Rec_readValue 0 = .ok (.iload_n 1, 1) := by decide +kernel
theorem d_Rec_readValue_1 : decode b_Rec_readValue 1 = .ok (.ifCond .ne 28, 3) := by decide +kernel
theorem d_Rec_readValue_29 : decode b_Rec_readValue 29 = .ok (.iload_n 1, 1) := by decide +kernel
theorem d_Rec_readValue_30 : decode b_Rec_readValue 30 = .ok (.iconst 3, 1) := by decide +kernel
theorem d_Rec_readValue_31 : decode b_Rec_readValue 31 = .ok (.if_icmp .ne 63, 3) := by decide +kernel
theorem d_Rec_readValue_34 : decode b_Rec_readValue 34 = .ok (.aload_n 0, 1) := by decide +kernel
theorem d_Rec_readValue_35 : decode b_Rec_readValue 35 = .ok (.getfield 55, 3) := by decide +kernel
theorem d_Rec_readValue_38 : decode b_Rec_readValue 38 = .ok (.invokevirtual 79, 3) := by decide +kernel
theorem d_Rec_readValue_41 : decode b_Rec_readValue 41 = .ok (.bipush 39, 2) := by decide +kernel
theorem d_Rec_readValue_43 : decode b_Rec_readValue 43 = .ok (.if_icmp .ne 51, 3) := by decide +kernel
theorem d_Rec_readValue_46 : decode b_Rec_readValue 46 = .ok (.aload_n 0, 1) := by decide +kernel
theorem d_Rec_readValue_47 : decode b_Rec_readValue 47 = .ok (.getfield 55, 3) := by decide +kernel
theorem d_Rec_readValue_50 : decode b_Rec_readValue 50 = .ok (.aload_n 0, 1) := by decide +kernel
theorem d_Rec_readValue_51 : decode b_Rec_readValue 51 = .ok (.getfield 36, 3) := by decide +kernel
theorem d_Rec_readValue_54 : decode b_Rec_readValue 54 = .ok (.aload_n 0, 1) := by decide +kernel
theorem d_Rec_readValue_55 : decode b_Rec_readValue 55 = .ok (.getfield 66, 3) := by decide +kernel
theorem d_Rec_readValue_58 : decode b_Rec_readValue 58 = .ok (.invokevirtual 193, 3) := by decide +kernel
theorem d_Rec_readValue_61 : decode b_Rec_readValue 61 = .ok (.aload_n 0, 1) := by decide +kernel
theorem d_Rec_readValue_62 : decode b_Rec_readValue 62 = .ok (.getfield 66, 3) := by decide +kernel
theorem d_Rec_readValue_65 : decode b_Rec_readValue 65 = .ok (.aload_n 0, 1) := by decide +kernel
theorem d_Rec_readValue_66 : decode b_Rec_readValue 66 = .ok (.getfield 55, 3) := by decide +kernel
theorem d_Rec_readValue_69 : decode b_Rec_readValue 69 = .ok (.getfield 197, 3) := by decide +kernel
theorem d_Rec_readValue_72 : decode b_Rec_readValue 72 = .ok (.invokestatic 200, 3) := by decide +kernel
theorem d_Rec_readValue_75 : decode b_Rec_readValue 75 = .ok (.lstore_n 2, 1) := by decide +kernel
theorem d_Rec_readValue_76 : decode b_Rec_readValue 76 = .ok (.aload_n 0, 1) := by decide +kernel
theorem d_Rec_readValue_77 : decode b_Rec_readValue 77 = .ok (.dup, 1) := by decide +kernel
theorem d_Rec_readValue_78 : decode b_Rec_readValue 78 = .ok (.getfield 66, 3) := by decide +kernel
theorem d_Rec_readValue_81 : decode b_Rec_readValue 81 = .ok (.aload_n 0, 1) := by decide +kernel
theorem d_Rec_readValue_82 : decode b_Rec_readValue 82 = .ok (.getfield 55, 3) := by decide +kernel
theorem d_Rec_readValue_85 : decode b_Rec_readValue 85 = .ok (.getfield 197, 3) := by decide +kernel
theorem d_Rec_readValue_88 : decode b_Rec_readValue 88 = .ok (.iadd, 1) := by decide +kernel
theorem d_Rec_readValue_89 : decode b_Rec_readValue 89 = .ok (.putfield 66, 3) := by decide +kernel
theorem d_Rec_readValue_92 : decode b_Rec_readValue 92 = .ok (.lload_n 2, 1) := by decide +kernel
theorem d_Rec_readValue_93 : decode b_Rec_readValue 93 = .ok (.lreturn, 1) := by decide +kernel
theorem d_Rec_readValue_4 : decode b_Rec_readValue 4 = .ok (.aload_n 0, 1) := by decide +kernel
theorem d_Rec_readValue_5 : decode b_Rec_readValue 5 = .ok (.getfield 55, 3) := by decide +kernel
theorem d_Rec_readValue_8 : decode b_Rec_readValue 8 = .ok (.ldc 181, 2) := by decide +kernel
theorem d_Rec_readValue_10 : decode b_Rec_readValue 10 = .ok (.invokevirtual 183, 3) := by decide +kernel
theorem d_Rec_readValue_13 : decode b_Rec_readValue 13 = .ok (.ifCond .eq 5, 3) := by decide +kernel
theorem d_Rec_readValue_18 : decode b_Rec_readValue 18 = .ok (.aload_n 0, 1) := by decide +kernel
theorem d_Rec_readValue_19 : decode b_Rec_readValue 19 = .ok (.getfield 55, 3) := by decide +kernel
theorem d_Rec_readValue_22 : decode b_Rec_readValue 22 = .ok (.ldc 187, 2) := by decide +kernel
theorem d_Rec_readValue_24 : decode b_Rec_readValue 24 = .ok (.invokevirtual 189, 3) := by decide +kernel
theorem d_Rec_readValue_27 : decode b_Rec_readValue 27 = .ok (.lconst 0, 1) := by decide +kernel
theorem d_Rec_readValue_28 : decode b_Rec_readValue 28 = .ok (.lreturn, 1) := by decide +kernel
theorem d_Rec_readValue_16 : decode b_Rec_readValue 16 = .ok (.lconst 1, 1) := by decide +kernel
theorem d_Rec_readValue_17 : decode b_Rec_readValue 17 = .ok (.lreturn, 1) := by decide +kernel
theorem d_Rec_readGroup_234 : decode b_Rec_readGroup 234 = .ok (.aload_n 0, 1) := by decide +kernel
theorem d_Rec_readGroup_235 : decode b_Rec_readGroup 235 = .ok (.getfield 55, 3) := by decide +kernel
theorem d_Rec_readGroup_238 : decode b_Rec_readGroup 238 = .ok (.bipush 125, 2) := by decide +kernel
theorem d_Rec_readGroup_240 : decode b_Rec_readGroup 240 = .ok (.invokevirtual 109, 3) := by decide +kernel
theorem d_Rec_readGroup_243 : decode b_Rec_readGroup 243 = .ok (.aload_n 0, 1) := by decide +kernel
theorem d_Rec_readGroup_244 : decode b_Rec_readGroup 244 = .ok (.getfield 55, 3) := by decide +kernel
theorem d_Rec_readGroup_247 : decode b_Rec_readGroup 247 = .ok (.invokevirtual 73, 3) := by decide +kernel
theorem d_Rec_readGroup_250 : decode b_Rec_readGroup 250 = .ok (.ifCond .eq 13, 3) := by decide +kernel
theorem d_Rec_readGroup_263 : decode b_Rec_readGroup 263 = .ok (.return_, 1) := by decide +kernel
theorem d_Rec_readGroup_253 : decode b_Rec_readGroup 253 = .ok (.aload_n 0, 1) := by decide +kernel
theorem d_Rec_readGroup_254 : decode b_Rec_readGroup 254 = .ok (.iload 4, 2) := by decide +kernel
theorem d_Rec_readGroup_256 : decode b_Rec_readGroup 256 = .ok (.iload 5, 2) := by decide +kernel
theorem d_Rec_readGroup_258 : decode b_Rec_readGroup 258 = .ok (.iload_n 2, 1) := by decide +kernel
theorem d_Rec_readGroup_259 : decode b_Rec_readGroup 259 = .ok (.iload_n 1, 1) := by decide +kernel
theorem d_Rec_readGroup_260 : decode b_Rec_readGroup 260 = .ok (.invokevirtual 123, 3) := by decide +kernel
theorem d_Rec_readGroup_190 : decode b_Rec_readGroup 190 = .ok (.aload_n 0, 1) := by decide +kernel
theorem d_Rec_readGroup_191 : decode b_Rec_readGroup 191 = .ok (.getfield 55, 3) := by decide +kernel
theorem d_Rec_readGroup_194 : decode b_Rec_readGroup 194 = .ok (.invokevirtual 73, 3) := by decide +kernel
theorem d_Rec_readGroup_197 : decode b_Rec_readGroup 197 = .ok (.ifCond .eq 37, 3) := by decide +kernel
theorem d_Rec_readGroup_200 : decode b_Rec_readGroup 200 = .ok (.aload_n 0, 1) := by decide +kernel
theorem d_Rec_readGroup_201 : decode b_Rec_readGroup 201 = .ok (.iload 4, 2) := by decide +kernel
theorem d_Rec_readGroup_203 : decode b_Rec_readGroup 203 = .ok (.iload 5, 2) := by decide +kernel
theorem d_Rec_readGroup_205 : decode b_Rec_readGroup 205 = .ok (.iload_n 1, 1) := by decide +kernel
theorem d_Rec_readGroup_206 : decode b_Rec_readGroup 206 = .ok (.invokevirtual 137, 3) := by decide +kernel
theorem d_Rec_readGroup_209 : decode b_Rec_readGroup 209 = .ok (.ifCond .eq 25, 3) := by decide +kernel
theorem d_Rec_readGroup_212 : decode b_Rec_readGroup 212 = .ok (.aload_n 0, 1) := by decide +kernel
theorem d_Rec_readGroup_213 : decode b_Rec_readGroup 213 = .ok (.getfield 55, 3) := by decide +kernel
theorem d_Rec_readGroup_216 : decode b_Rec_readGroup 216 = .ok (.invokevirtual 79, 3) := by decide +kernel
theorem d_Rec_readGroup_219 : decode b_Rec_readGroup 219 = .ok (.pop, 1) := by decide +kernel
theorem d_Rec_readGroup_220 : decode b_Rec_readGroup 220 = .ok (.aload_n 0, 1) := by decide +kernel
theorem d_Rec_readGroup_221 : decode b_Rec_readGroup 221 = .ok (.getfield 55, 3) := by decide +kernel
theorem d_Rec_readGroup_224 : decode b_Rec_readGroup 224 = .ok (.aload_n 0, 1) := by decide +kernel
theorem d_Rec_readGroup_225 : decode b_Rec_readGroup 225 = .ok (.getfield 55, 3) := by decide +kernel
theorem d_Rec_readGroup_228 : decode b_Rec_readGroup 228 = .ok (.getfield 82, 3) := by decide +kernel
theorem d_Rec_readGroup_231 : decode b_Rec_readGroup 231 = .ok (.invokevirtual 85, 3) := by decide +kernel
theorem d_Rec_readGroup_182 : decode b_Rec_readGroup 182 = .ok (.istore 6, 2) := by decide +kernel
theorem d_Rec_readGroup_184 : decode b_Rec_readGroup 184 = .ok (.iinc 7 1, 3) := by decide +kernel
theorem d_Rec_readGroup_187 : decode b_Rec_readGroup 187 = .ok (.goto (-106), 3) := by decide +kernel
theorem d_Rec_readGroup_181 : decode b_Rec_readGroup 181 = .ok (.iconst 0, 1) := by decide +kernel
theorem d_Rec_readGroup_81 : decode b_Rec_readGroup 81 = .ok (.iload 7, 2) := by decide +kernel
theorem d_Rec_readGroup_83 : decode b_Rec_readGroup 83 = .ok (.sipush 128, 3) := by decide +kernel
theorem d_Rec_readGroup_86 : decode b_Rec_readGroup 86 = .ok (.if_icmp .gt 104, 3) := by decide +kernel
theorem d_Rec_readGroup_89 : decode b_Rec_readGroup 89 = .ok (.iload 6, 2) := by decide +kernel
theorem d_Rec_readGroup_91 : decode b_Rec_readGroup 91 = .ok (.ifCond .eq 99, 3) := by decide +kernel
theorem d_Rec_readGroup_94 : decode b_Rec_readGroup 94 = .ok (.aload_n 0, 1) := by decide +kernel
theorem d_Rec_readGroup_95 : decode b_Rec_readGroup 95 = .ok (.iload 4, 2) := by decide +kernel
theorem d_Rec_readGroup_97 : decode b_Rec_readGroup 97 = .ok (.iload 5, 2) := by decide +kernel
theorem d_Rec_readGroup_99 : decode b_Rec_readGroup 99 = .ok (.iload_n 1, 1) := by decide +kernel
theorem d_Rec_readGroup_100 : decode b_Rec_readGroup 100 = .ok (.invokevirtual 119, 3) := by decide +kernel
theorem d_Rec_readGroup_103 : decode b_Rec_readGroup 103 = .ok (.istore 8, 2) := by decide +kernel
theorem d_Rec_readGroup_105 : decode b_Rec_readGroup 105 = .ok (.aload_n 0, 1) := by decide +kernel
theorem d_Rec_readGroup_106 : decode b_Rec_readGroup 106 = .ok (.getfield 55, 3) := by decide +kernel
theorem d_Rec_readGroup_109 : decode b_Rec_readGroup 109 = .ok (.bipush 58, 2) := by decide +kernel
theorem d_Rec_readGroup_111 : decode b_Rec_readGroup 111 = .ok (.invokevirtual 109, 3) := by decide +kernel
theorem d_Rec_readGroup_114 : decode b_Rec_readGroup 114 = .ok (.aload_n 0, 1) := by decide +kernel
theorem d_Rec_readGroup_115 : decode b_Rec_readGroup 115 = .ok (.getfield 55, 3) := by decide +kernel
theorem d_Rec_readGroup_118 : decode b_Rec_readGroup 118 = .ok (.invokevirtual 73, 3) := by decide +kernel
theorem d_Rec_readGroup_121 : decode b_Rec_readGroup 121 = .ok (.ifCond .ne 4, 3) := by decide +kernel
theorem d_Rec_readGroup_125 : decode b_Rec_readGroup 125 = .ok (.aload_n 0, 1) := by decide +kernel
theorem d_Rec_readGroup_126 : decode b_Rec_readGroup 126 = .ok (.iload 4, 2) := by decide +kernel
theorem d_Rec_readGroup_128 : decode b_Rec_readGroup 128 = .ok (.iload 8, 2) := by decide +kernel
theorem d_Rec_readGroup_130 : decode b_Rec_readGroup 130 = .ok (.iload_n 2, 1) := by decide +kernel
theorem d_Rec_readGroup_131 : decode b_Rec_readGroup 131 = .ok (.iload_n 1, 1) := by decide +kernel
theorem d_Rec_readGroup_132 : decode b_Rec_readGroup 132 = .ok (.invokevirtual 123, 3) := by decide +kernel
theorem d_Rec_readGroup_135 : decode b_Rec_readGroup 135 = .ok (.aload_n 0, 1) := by decide +kernel
theorem d_Rec_readGroup_136 : decode b_Rec_readGroup 136 = .ok (.iload 8, 2) := by decide +kernel
theorem d_Rec_readGroup_138 : decode b_Rec_readGroup 138 = .ok (.iload_n 2, 1) := by decide +kernel
theorem d_Rec_readGroup_139 : decode b_Rec_readGroup 139 = .ok (.iload_n 3, 1) := by decide +kernel
theorem d_Rec_readGroup_140 : decode b_Rec_readGroup 140 = .ok (.invokevirtual 127, 3) := by decide +kernel
theorem d_Rec_readGroup_143 : decode b_Rec_readGroup 143 = .ok (.aload_n 0, 1) := by decide +kernel
theorem d_Rec_readGroup_144 : decode b_Rec_readGroup 144 = .ok (.getfield 59, 3) := by decide +kernel
theorem d_Rec_readGroup_147 : decode b_Rec_readGroup 147 = .ok (.getfield 130, 3) := by decide +kernel
theorem d_Rec_readGroup_150 : decode b_Rec_readGroup 150 = .ok (.iload 8, 2) := by decide +kernel
theorem d_Rec_readGroup_152 : decode b_Rec_readGroup 152 = .ok (.iaload, 1) := by decide +kernel
theorem d_Rec_readGroup_153 : decode b_Rec_readGroup 153 = .ok (.istore 4, 2) := by decide +kernel
theorem d_Rec_readGroup_155 : decode b_Rec_readGroup 155 = .ok (.aload_n 0, 1) := by decide +kernel
theorem d_Rec_readGroup_156 : decode b_Rec_readGroup 156 = .ok (.getfield 55, 3) := by decide +kernel
theorem d_Rec_readGroup_159 : decode b_Rec_readGroup 159 = .ok (.invokevirtual 73, 3) := by decide +kernel
theorem d_Rec_readGroup_162 : decode b_Rec_readGroup 162 = .ok (.ifCond .eq 19, 3) := by decide +kernel
theorem d_Rec_readGroup_165 : decode b_Rec_readGroup 165 = .ok (.aload_n 0, 1) := by decide +kernel
theorem d_Rec_readGroup_166 : decode b_Rec_readGroup 166 = .ok (.getfield 55, 3) := by decide +kernel
theorem d_Rec_readGroup_169 : decode b_Rec_readGroup 169 = .ok (.bipush 44, 2) := by decide +kernel
theorem d_Rec_readGroup_171 : decode b_Rec_readGroup 171 = .ok (.invokevirtual 133, 3) := by decide +kernel
theorem d_Rec_readGroup_174 : decode b_Rec_readGroup 174 = .ok (.ifCond .eq 7, 3) := by decide +kernel
theorem d_Rec_readGroup_177 : decode b_Rec_readGroup 177 = .ok (.iconst 1, 1) := by decide +kernel
theorem d_Rec_readGroup_178 : decode b_Rec_readGroup 178 = .ok (.goto 4, 3) := by decide +kernel
theorem d_Rec_readGroup_124 : decode b_Rec_readGroup 124 = .ok (.return_, 1) := by decide +kernel
theorem d_Rec_readGroup_76 : decode b_Rec_readGroup 76 = .ok (.istore 6, 2) := by decide +kernel
theorem d_Rec_readGroup_78 : decode b_Rec_readGroup 78 = .ok (.iconst 0, 1) := by decide +kernel
theorem d_Rec_readGroup_79 : decode b_Rec_readGroup 79 = .ok (.istore 7, 2) := by decide +kernel
theorem d_Rec_readGroup_75 : decode b_Rec_readGroup 75 = .ok (.iconst 0, 1) := by decide +kernel
theorem d_Rec_readGroup_20 : decode b_Rec_readGroup 20 = .ok (.aload_n 0, 1) := by decide +kernel
theorem d_Rec_readGroup_21 : decode b_Rec_readGroup 21 = .ok (.getfield 55, 3) := by decide +kernel
theorem d_Rec_readGroup_24 : decode b_Rec_readGroup 24 = .ok (.bipush 123, 2) := by decide +kernel
theorem d_Rec_readGroup_26 : decode b_Rec_readGroup 26 = .ok (.invokevirtual 109, 3) := by decide +kernel
theorem d_Rec_readGroup_29 : decode b_Rec_readGroup 29 = .ok (.aload_n 0, 1) := by decide +kernel
theorem d_Rec_readGroup_30 : decode b_Rec_readGroup 30 = .ok (.getfield 59, 3) := by decide +kernel
theorem d_Rec_readGroup_33 : decode b_Rec_readGroup 33 = .ok (.iload_n 1, 1) := by decide +kernel
theorem d_Rec_readGroup_34 : decode b_Rec_readGroup 34 = .ok (.invokevirtual 113, 3) := by decide +kernel
theorem d_Rec_readGroup_37 : decode b_Rec_readGroup 37 = .ok (.istore 4, 2) := by decide +kernel
theorem d_Rec_readGroup_39 : decode b_Rec_readGroup 39 = .ok (.aload_n 0, 1) := by decide +kernel
theorem d_Rec_readGroup_40 : decode b_Rec_readGroup 40 = .ok (.getfield 59, 3) := by decide +kernel
theorem d_Rec_readGroup_43 : decode b_Rec_readGroup 43 = .ok (.iload_n 1, 1) := by decide +kernel
theorem d_Rec_readGroup_44 : decode b_Rec_readGroup 44 = .ok (.invokevirtual 116, 3) := by decide +kernel
theorem d_Rec_readGroup_47 : decode b_Rec_readGroup 47 = .ok (.istore 5, 2) := by decide +kernel
theorem d_Rec_readGroup_49 : decode b_Rec_readGroup 49 = .ok (.aload_n 0, 1) := by decide +kernel
theorem d_Rec_readGroup_50 : decode b_Rec_readGroup 50 = .ok (.getfield 55, 3) := by decide +kernel
theorem d_Rec_readGroup_53 : decode b_Rec_readGroup 53 = .ok (.invokevirtual 73, 3) := by decide +kernel
theorem d_Rec_readGroup_56 : decode b_Rec_readGroup 56 = .ok (.ifCond .eq 19, 3) := by decide +kernel
theorem d_Rec_readGroup_59 : decode b_Rec_readGroup 59 = .ok (.aload_n 0, 1) := by decide +kernel
theorem d_Rec_readGroup_60 : decode b_Rec_readGroup 60 = .ok (.getfield 55, 3) := by decide +kernel
theorem d_Rec_readGroup_63 : decode b_Rec_readGroup 63 = .ok (.invokevirtual 79, 3) := by decide +kernel
theorem d_Rec_readGroup_66 : decode b_Rec_readGroup 66 = .ok (.bipush 125, 2) := by decide +kernel
theorem d_Rec_readGroup_68 : decode b_Rec_readGroup 68 = .ok (.if_icmp .eq 7, 3) := by decide +kernel
theorem d_Rec_readGroup_71 : decode b_Rec_readGroup 71 = .ok (.iconst 1, 1) := by decide +kernel
theorem d_Rec_readGroup_72 : decode b_Rec_readGroup 72 = .ok (.goto 4, 3) := by decide +kernel
theorem d_Rec_readGroup_0 : decode b_Rec_readGroup 0 = .ok (.iload_n 3, 1) := by decide +kernel
theorem d_Rec_readGroup_1 : decode b_Rec_readGroup 1 = .ok (.bipush 16, 2) := by decide +kernel
theorem d_Rec_readGroup_3 : decode b_Rec_readGroup 3 = .ok (.if_icmp .le 17, 3) := by decide +kernel
theorem d_Rec_readGroup_6 : decode b_Rec_readGroup 6 = .ok (.aload_n 0, 1) := by decide +kernel
theorem d_Rec_readGroup_7 : decode b_Rec_readGroup 7 = .ok (.getfield 55, 3) := by decide +kernel
theorem d_Rec_readGroup_10 : decode b_Rec_readGroup 10 = .ok (.aload_n 0, 1) := by decide +kernel
theorem d_Rec_readGroup_11 : decode b_Rec_readGroup 11 = .ok (.getfield 55, 3) := by decide +kernel
theorem d_Rec_readGroup_14 : decode b_Rec_readGroup 14 = .ok (.getfield 82, 3) := by decide +kernel
theorem d_Rec_readGroup_17 : decode b_Rec_readGroup 17 = .ok (.invokevirtual 85, 3) := by decide +kernel
theorem d_Rec_readOne_0 : decode b_Rec_readOne 0 = .ok (.aload_n 0, 1) := by decide +kernel
theorem d_Rec_readOne_1 : decode b_Rec_readOne 1 = .ok (.getfield 59, 3) := by decide +kernel
theorem d_Rec_readOne_4 : decode b_Rec_readOne 4 = .ok (.getfield 169, 3) := by decide +kernel
theorem d_Rec_readOne_7 : decode b_Rec_readOne 7 = .ok (.iload_n 1, 1) := by decide +kernel
theorem d_Rec_readOne_8 : decode b_Rec_readOne 8 = .ok (.iaload, 1) := by decide +kernel
theorem d_Rec_readOne_9 : decode b_Rec_readOne 9 = .ok (.iconst 4, 1) := by decide +kernel
theorem d_Rec_readOne_10 : decode b_Rec_readOne 10 = .ok (.if_icmp .ne 13, 3) := by decide +kernel
theorem d_Rec_readOne_23 : decode b_Rec_readOne 23 = .ok (.aload_n 0, 1) := by decide +kernel
theorem d_Rec_readOne_24 : decode b_Rec_readOne 24 = .ok (.aload_n 0, 1) := by decide +kernel
theorem d_Rec_readOne_25 : decode b_Rec_readOne 25 = .ok (.getfield 59, 3) := by decide +kernel
theorem d_Rec_readOne_28 : decode b_Rec_readOne 28 = .ok (.getfield 169, 3) := by decide +kernel
theorem d_Rec_readOne_31 : decode b_Rec_readOne 31 = .ok (.iload_n 1, 1) := by decide +kernel
theorem d_Rec_readOne_32 : decode b_Rec_readOne 32 = .ok (.iaload, 1) := by decide +kernel
theorem d_Rec_readOne_33 : decode b_Rec_readOne 33 = .ok (.invokevirtual 172, 3) := by decide +kernel
theorem d_Rec_readOne_36 : decode b_Rec_readOne 36 = .ok (.lstore 4, 2) := by decide +kernel
theorem d_Rec_readOne_38 : decode b_Rec_readOne 38 = .ok (.aload_n 0, 1) := by decide +kernel
theorem d_Rec_readOne_39 : decode b_Rec_readOne 39 = .ok (.getfield 55, 3) := by decide +kernel
theorem d_Rec_readOne_42 : decode b_Rec_readOne 42 = .ok (.invokevirtual 73, 3) := by decide +kernel
theorem d_Rec_readOne_45 : decode b_Rec_readOne 45 = .ok (.ifCond .eq 28, 3) := by decide +kernel
theorem d_Rec_readOne_73 : decode b_Rec_readOne 73 = .ok (.return_, 1) := by decide +kernel
theorem d_Rec_readOne_48 : decode b_Rec_readOne 48 = .ok (.aload_n 0, 1) := by decide +kernel
theorem d_Rec_readOne_49 : decode b_Rec_readOne 49 = .ok (.aload_n 0, 1) := by decide +kernel
theorem d_Rec_readOne_50 : decode b_Rec_readOne 50 = .ok (.getfield 59, 3) := by decide +kernel
theorem d_Rec_readOne_53 : decode b_Rec_readOne 53 = .ok (.getfield 176, 3) := by decide +kernel
theorem d_Rec_readOne_56 : decode b_Rec_readOne 56 = .ok (.iload_n 1, 1) := by decide +kernel
theorem d_Rec_readOne_57 : decode b_Rec_readOne 57 = .ok (.iaload, 1) := by decide +kernel
theorem d_Rec_readOne_58 : decode b_Rec_readOne 58 = .ok (.iload_n 2, 1) := by decide +kernel
theorem d_Rec_readOne_59 : decode b_Rec_readOne 59 = .ok (.aload_n 0, 1) := by decide +kernel
theorem d_Rec_readOne_60 : decode b_Rec_readOne 60 = .ok (.getfield 59, 3) := by decide +kernel
theorem d_Rec_readOne_63 : decode b_Rec_readOne 63 = .ok (.getfield 179, 3) := by decide +kernel
theorem d_Rec_readOne_66 : decode b_Rec_readOne 66 = .ok (.iload_n 1, 1) := by decide +kernel
theorem d_Rec_readOne_67 : decode b_Rec_readOne 67 = .ok (.iaload, 1) := by decide +kernel
theorem d_Rec_readOne_68 : decode b_Rec_readOne 68 = .ok (.lload 4, 2) := by decide +kernel
theorem d_Rec_readOne_70 : decode b_Rec_readOne 70 = .ok (.invokevirtual 105, 3) := by decide +kernel
theorem d_Rec_readOne_13 : decode b_Rec_readOne 13 = .ok (.aload_n 0, 1) := by decide +kernel
theorem d_Rec_readOne_14 : decode b_Rec_readOne 14 = .ok (.iload_n 1, 1) := by decide +kernel
theorem d_Rec_readOne_15 : decode b_Rec_readOne 15 = .ok (.iload_n 2, 1) := by decide +kernel
theorem d_Rec_readOne_16 : decode b_Rec_readOne 16 = .ok (.iload_n 3, 1) := by decide +kernel
theorem d_Rec_readOne_17 : decode b_Rec_readOne 17 = .ok (.iconst 1, 1) := by decide +kernel
theorem d_Rec_readOne_18 : decode b_Rec_readOne 18 = .ok (.iadd, 1) := by decide +kernel
theorem d_Rec_readOne_19 : decode b_Rec_readOne 19 = .ok (.invokevirtual 69, 3) := by decide +kernel
theorem d_Rec_readOne_22 : decode b_Rec_readOne 22 = .ok (.return_, 1) := by decide +kernel
theorem d_Rec_readValues_158 : decode b_Rec_readValues 158 = .ok (.aload_n 0, 1) := by decide +kernel
theorem d_Rec_readValues_159 : decode b_Rec_readValues 159 = .ok (.getfield 55, 3) := by decide +kernel
theorem d_Rec_readValues_162 : decode b_Rec_readValues 162 = .ok (.bipush 93, 2) := by decide +kernel
theorem d_Rec_readValues_164 : decode b_Rec_readValues 164 = .ok (.invokevirtual 109, 3) := by decide +kernel
theorem d_Rec_readValues_167 : decode b_Rec_readValues 167 = .ok (.return_, 1) := by decide +kernel
theorem d_Rec_readValues_150 : decode b_Rec_readValues 150 = .ok (.istore 5, 2) := by decide +kernel
theorem d_Rec_readValues_152 : decode b_Rec_readValues 152 = .ok (.iinc 6 1, 3) := by decide +kernel
theorem d_Rec_readValues_155 : decode b_Rec_readValues 155 = .ok (.goto (-68), 3) := by decide +kernel
theorem d_Rec_readValues_149 : decode b_Rec_readValues 149 = .ok (.iconst 0, 1) := by decide +kernel
theorem d_Rec_readValues_87 : decode b_Rec_readValues 87 = .ok (.iload 6, 2) := by decide +kernel
theorem d_Rec_readValues_89 : decode b_Rec_readValues 89 = .ok (.aload_n 0, 1) := by decide +kernel
theorem d_Rec_readValues_90 : decode b_Rec_readValues 90 = .ok (.getfield 55, 3) := by decide +kernel
theorem d_Rec_readValues_93 : decode b_Rec_readValues 93 = .ok (.getfield 166, 3) := by decide +kernel
theorem d_Rec_readValues_96 : decode b_Rec_readValues 96 = .ok (.if_icmp .gt 62, 3) := by decide +kernel
theorem d_Rec_readValues_99 : decode b_Rec_readValues 99 = .ok (.iload 5, 2) := by decide +kernel
theorem d_Rec_readValues_101 : decode b_Rec_readValues 101 = .ok (.ifCond .eq 57, 3) := by decide +kernel
theorem d_Rec_readValues_104 : decode b_Rec_readValues 104 = .ok (.aload_n 0, 1) := by decide +kernel
theorem d_Rec_readValues_105 : decode b_Rec_readValues 105 = .ok (.iload_n 1, 1) := by decide +kernel
theorem d_Rec_readValues_106 : decode b_Rec_readValues 106 = .ok (.iload 4, 2) := by decide +kernel
theorem d_Rec_readValues_108 : decode b_Rec_readValues 108 = .ok (.iload_n 3, 1) := by decide +kernel
theorem d_Rec_readValues_109 : decode b_Rec_readValues 109 = .ok (.invokevirtual 163, 3) := by decide +kernel
theorem d_Rec_readValues_112 : decode b_Rec_readValues 112 = .ok (.aload_n 0, 1) := by decide +kernel
theorem d_Rec_readValues_113 : decode b_Rec_readValues 113 = .ok (.getfield 59, 3) := by decide +kernel
theorem d_Rec_readValues_116 : decode b_Rec_readValues 116 = .ok (.getfield 167, 3) := by decide +kernel
theorem d_Rec_readValues_119 : decode b_Rec_readValues 119 = .ok (.iload_n 1, 1) := by decide +kernel
theorem d_Rec_readValues_120 : decode b_Rec_readValues 120 = .ok (.iaload, 1) := by decide +kernel
theorem d_Rec_readValues_121 : decode b_Rec_readValues 121 = .ok (.istore 4, 2) := by decide +kernel
theorem d_Rec_readValues_123 : decode b_Rec_readValues 123 = .ok (.aload_n 0, 1) := by decide +kernel
theorem d_Rec_readValues_124 : decode b_Rec_readValues 124 = .ok (.getfield 55, 3) := by decide +kernel
theorem d_Rec_readValues_127 : decode b_Rec_readValues 127 = .ok (.invokevirtual 73, 3) := by decide +kernel
theorem d_Rec_readValues_130 : decode b_Rec_readValues 130 = .ok (.ifCond .eq 19, 3) := by decide +kernel
theorem d_Rec_readValues_133 : decode b_Rec_readValues 133 = .ok (.aload_n 0, 1) := by decide +kernel
theorem d_Rec_readValues_134 : decode b_Rec_readValues 134 = .ok (.getfield 55, 3) := by decide +kernel
theorem d_Rec_readValues_137 : decode b_Rec_readValues 137 = .ok (.bipush 44, 2) := by decide +kernel
theorem d_Rec_readValues_139 : decode b_Rec_readValues 139 = .ok (.invokevirtual 133, 3) := by decide +kernel
theorem d_Rec_readValues_142 : decode b_Rec_readValues 142 = .ok (.ifCond .eq 7, 3) := by decide +kernel
theorem d_Rec_readValues_145 : decode b_Rec_readValues 145 = .ok (.iconst 1, 1) := by decide +kernel
theorem d_Rec_readValues_146 : decode b_Rec_readValues 146 = .ok (.goto 4, 3) := by decide +kernel
theorem d_Rec_readValues_0 : decode b_Rec_readValues 0 = .ok (.aload_n 0, 1) := by decide +kernel
theorem d_Rec_readValues_1 : decode b_Rec_readValues 1 = .ok (.getfield 59, 3) := by decide +kernel
theorem d_Rec_readValues_4 : decode b_Rec_readValues 4 = .ok (.getfield 144, 3) := by decide +kernel
theorem d_Rec_readValues_7 : decode b_Rec_readValues 7 = .ok (.iload_n 1, 1) := by decide +kernel
theorem d_Rec_readValues_8 : decode b_Rec_readValues 8 = .ok (.iaload, 1) := by decide +kernel
theorem d_Rec_readValues_9 : decode b_Rec_readValues 9 = .ok (.iconst 2, 1) := by decide +kernel
theorem d_Rec_readValues_10 : decode b_Rec_readValues 10 = .ok (.if_icmp .eq 11, 3) := by decide +kernel
theorem d_Rec_readValues_21 : decode b_Rec_readValues 21 = .ok (.aload_n 0, 1) := by decide +kernel
theorem d_Rec_readValues_22 : decode b_Rec_readValues 22 = .ok (.getfield 55, 3) := by decide +kernel
theorem d_Rec_readValues_25 : decode b_Rec_readValues 25 = .ok (.bipush 91, 2) := by decide +kernel
theorem d_Rec_readValues_27 : decode b_Rec_readValues 27 = .ok (.invokevirtual 109, 3) := by decide +kernel
theorem d_Rec_readValues_30 : decode b_Rec_readValues 30 = .ok (.aload_n 0, 1) := by decide +kernel
theorem d_Rec_readValues_31 : decode b_Rec_readValues 31 = .ok (.getfield 55, 3) := by decide +kernel
theorem d_Rec_readValues_34 : decode b_Rec_readValues 34 = .ok (.invokevirtual 73, 3) := by decide +kernel
theorem d_Rec_readValues_37 : decode b_Rec_readValues 37 = .ok (.ifCond .ne 4, 3) := by decide +kernel
theorem d_Rec_readValues_41 : decode b_Rec_readValues 41 = .ok (.aload_n 0, 1) := by decide +kernel
theorem d_Rec_readValues_42 : decode b_Rec_readValues 42 = .ok (.getfield 55, 3) := by decide +kernel
theorem d_Rec_readValues_45 : decode b_Rec_readValues 45 = .ok (.bipush 93, 2) := by decide +kernel
theorem d_Rec_readValues_47 : decode b_Rec_readValues 47 = .ok (.invokevirtual 133, 3) := by decide +kernel
theorem d_Rec_readValues_50 : decode b_Rec_readValues 50 = .ok (.ifCond .eq 28, 3) := by decide +kernel
theorem d_Rec_readValues_78 : decode b_Rec_readValues 78 = .ok (.iload_n 2, 1) := by decide +kernel
theorem d_Rec_readValues_79 : decode b_Rec_readValues 79 = .ok (.istore 4, 2) := by decide +kernel
theorem d_Rec_readValues_81 : decode b_Rec_readValues 81 = .ok (.iconst 1, 1) := by decide +kernel
theorem d_Rec_readValues_82 : decode b_Rec_readValues 82 = .ok (.istore 5, 2) := by decide +kernel
theorem d_Rec_readValues_84 : decode b_Rec_readValues 84 = .ok (.iconst 0, 1) := by decide +kernel
theorem d_Rec_readValues_85 : decode b_Rec_readValues 85 = .ok (.istore 6, 2) := by decide +kernel
theorem d_Rec_readValues_53 : decode b_Rec_readValues 53 = .ok (.aload_n 0, 1) := by decide +kernel
theorem d_Rec_readValues_54 : decode b_Rec_readValues 54 = .ok (.iload_n 1, 1) := by decide +kernel
theorem d_Rec_readValues_55 : decode b_Rec_readValues 55 = .ok (.aload_n 0, 1) := by decide +kernel
theorem d_Rec_readValues_56 : decode b_Rec_readValues 56 = .ok (.getfield 59, 3) := by decide +kernel
theorem d_Rec_readValues_59 : decode b_Rec_readValues 59 = .ok (.getfield 130, 3) := by decide +kernel
theorem d_Rec_readValues_62 : decode b_Rec_readValues 62 = .ok (.iload_n 1, 1) := by decide +kernel
theorem d_Rec_readValues_63 : decode b_Rec_readValues 63 = .ok (.iaload, 1) := by decide +kernel
theorem d_Rec_readValues_64 : decode b_Rec_readValues 64 = .ok (.iload_n 2, 1) := by decide +kernel
theorem d_Rec_readValues_65 : decode b_Rec_readValues 65 = .ok (.aload_n 0, 1) := by decide +kernel
theorem d_Rec_readValues_66 : decode b_Rec_readValues 66 = .ok (.getfield 59, 3) := by decide +kernel
theorem d_Rec_readValues_69 : decode b_Rec_readValues 69 = .ok (.getfield 141, 3) := by decide +kernel
theorem d_Rec_readValues_72 : decode b_Rec_readValues 72 = .ok (.iload_n 1, 1) := by decide +kernel
theorem d_Rec_readValues_73 : decode b_Rec_readValues 73 = .ok (.iaload, 1) := by decide +kernel
theorem d_Rec_readValues_74 : decode b_Rec_readValues 74 = .ok (.invokevirtual 123, 3) := by decide +kernel
theorem d_Rec_readValues_77 : decode b_Rec_readValues 77 = .ok (.return_, 1) := by decide +kernel
theorem d_Rec_readValues_40 : decode b_Rec_readValues 40 = .ok (.return_, 1) := by decide +kernel
theorem d_Rec_readValues_13 : decode b_Rec_readValues 13 = .ok (.aload_n 0, 1) := by decide +kernel
theorem d_Rec_readValues_14 : decode b_Rec_readValues 14 = .ok (.iload_n 1, 1) := by decide +kernel
theorem d_Rec_readValues_15 : decode b_Rec_readValues 15 = .ok (.iload_n 2, 1) := by decide +kernel
theorem d_Rec_readValues_16 : decode b_Rec_readValues 16 = .ok (.iload_n 3, 1) := by decide +kernel
theorem d_Rec_readValues_17 : decode b_Rec_readValues 17 = .ok (.invokevirtual 163, 3) := by decide +kernel
theorem d_Rec_readValues_20 : decode b_Rec_readValues 20 = .ok (.return_, 1) := by decide +kernel
section
variable (l : Launch) (dC : Nat → ClassId) (dI : Nat → Nat → Nat) (cI cB cJ cZ : ClassId)
set_option maxRecDepth 100000 in
def j_Scn_readNumber_158 (post : St → Prop) (o : Nat) (l1 : Int32) (l2 : Int32) (l3 : Int32) (l4 : Int32) (l5 : Int32) (l6 : Int32) (l7 : Int32) (x : St) : Prop := ((¬ l1 = 0 → post x) ∧ (l1 = 0 → (((lg_cmp (fJ x o 6) (((fJ x o 6) : Int64).toInt32 : Int32).toInt64) = 0 → post x) ∧ (¬ (lg_cmp (fJ x o 6) (((fJ x o 6) : Int64).toInt32 : Int32).toInt64) = 0 → wp_Scn_refuse (fun (x3061 : St) => post x3061) o l2 x))))
set_option maxHeartbeats 4000000 in
set_option maxRecDepth 100000 in
theorem t_Scn_readNumber_158 {p : Program} {l : Launch} {e : Env} {R : Room} {s : State} {m : MethodId} {args : Array Value} {below : List Frame} {meth : Method} {c : Code} {cells slots : Nat} {Q : State → Prop} {dC : Nat → ClassId} {dI : Nat → Nat → Nat} {cI cB cJ cZ : ClassId} {A : Nat → Prop} {ad : Nat → Nat} {NN : Nat} {E : Heap} {tM tC : Nat} {kK kV : Nat → Nat} {post : St → Prop} (hx : p.tables.exec = Jvm.exec) (hb : c.code = b_Scn_readNumber) (hml : c.maxLocals = 8) (hown : s.vm.findClass R_Scn = some m.cls) (hT : ∀ w ∈ TG, w.before args s = true) (hK : va_K (dC, dI) CL (TY cI cB cJ cZ) s) (hN : NW s) (hA : ∀ q : Nat, s.heap.size ≤ q → A q) (hRc : cells ≤ R.cells) (hRs : slots ≤ R.slots) (hRf : 2 ≤ R.frames) (hRl : 42 ≤ R.locals) (hNN : 152 ≤ NN) (hE : CE E tM tC kK kV A s) (hret : ∀ (x : St) (H : Heap) (locs : List Loc) (pc : Nat) (ls : Array Slot), decode b_Scn_readNumber pc = .ok (.return_, 1) → post x → Wd dC dI cI cB cJ cZ ad stC kcC NN A x H → va_S A s.heap H locs → W p l e R s m args below meth c H locs cells slots Q (F0 m pc ls []))  : ∀ (o : Nat) (l1 : Int32) (l2 : Int32) (l3 : Int32) (l4 : Int32) (l5 : Int32) (l6 : Int32) (l7 : Int32) (x : St) (H : Heap) (locs : List Loc) (ls : Array Slot), (o < NN ∧ kcC o = 2) → j_Scn_readNumber_158 post o l1 l2 l3 l4 l5 l6 l7 x → Wd dC dI cI cB cJ cZ ad stC kcC NN A x H → va_S A s.heap H locs → lv_has ls 8 [(0, .ref (ad o)), (1, .int l1), (2, .int l2), (3, .int l3), (4, .int l4), (5, .int l5), (6, .int l6), (7, .int l7)] → W p l e R s m args below meth c H locs cells slots Q (F0 m 158 ls []) := by
  intro o l1 l2 l3 l4 l5 l6 l7 x H locs ls fo hw hW hS hl
  unfold j_Scn_readNumber_158 at hw
  refine lv_iload_n hx hb d_Scn_readNumber_158 rfl (lv_at hl 1 rfl) ?_
  refine lv_if_ne (tgt := 181) hx hb d_Scn_readNumber_159 (by decide) (fun c3059 => ?_) (fun c3059 => ?_)
  · have hw := hw.1 c3059
    exact hret x H locs 181 ls d_Scn_readNumber_181 hw hW hS
  · have hw := hw.2 c3059
    refine lv_aload_n hx hb d_Scn_readNumber_162 rfl (lv_at hl 0 rfl) ?_
    refine w_getj (k := 6) (t := 2) (C := R_Scn) (T := F_Scn) (N := 8) hx hb hT hown hK hW fo.1 fo.2 (by decide) in_Scn rfl rfl (by decide) rfl fr_Scn_6 w_1_102 d_Scn_readNumber_163 ?_
    refine lv_aload_n hx hb d_Scn_readNumber_166 rfl (lv_at hl 0 rfl) ?_
    refine w_getj (k := 6) (t := 2) (C := R_Scn) (T := F_Scn) (N := 8) hx hb hT hown hK hW fo.1 fo.2 (by decide) in_Scn rfl rfl (by decide) rfl fr_Scn_6 w_1_102 d_Scn_readNumber_167 ?_
    refine lv_l2i hx hb d_Scn_readNumber_170 rfl ?_
    refine lv_i2l hx hb d_Scn_readNumber_171 rfl ?_
    refine W.lcmp hx hb d_Scn_readNumber_172 ?_
    refine lv_if_eq (tgt := 181) hx hb d_Scn_readNumber_173 (by decide) (fun c3060 => ?_) (fun c3060 => ?_)
    · have hw := hw.1 c3060
      exact hret x H locs 181 ls d_Scn_readNumber_181 hw hW hS
    · have hw := hw.2 c3060
      refine lv_aload_n hx hb d_Scn_readNumber_176 rfl (lv_at hl 0 rfl) ?_
      refine lv_iload_n hx hb d_Scn_readNumber_177 rfl (lv_at hl 2 rfl) ?_
      have hF := hW.free hS hA
      refine va_callv (va_runV (C := R_Scn) (As := [.int l2]) (rest := []) ⟨hx, hb, hml, hown, hT⟩ (k_Scn_refuse l dC dI cI cB cJ cZ ad NN E tM tC kK kV hNN H.size o l2 x fo hw) ⟨callB_of 1 hT (gw_in w_4_128) rfl rfl rfl (hT _ w_1_4) (hT _ w_4_125) (by decide +kernel) ⟨Nat.le_trans (by decide) hRf, Nat.le_trans (by decide) hRl⟩, hT _ w_4_126, hT _ w_4_127⟩ ⟨PV.blind, va_recv hK hW.1 (ci := 2) (q0 := o) rfl (pic_obj fo.1 fo.2 (by decide)), PV.at _ hW hK hN hE hS hF⟩ rfl rfl hl.1 rfl (lv_room (Nat.le_of_ble_eq_true rfl)) d_Scn_readNumber_178 ⟨hRc, hRs⟩) hS (fun q _ h => hF q h) hF (fun  x3061 t H locs ht hvm hw hB hz1 hk1 hS => ?_)
      have hW := Wd.back hB ht hF
      clear hB ht hF hz1 hk1 hvm
      exact hret x3061 H locs 181 ls d_Scn_readNumber_181 hw hW hS
set_option maxRecDepth 100000 in
def j_Scn_readNumber_145 (post : St → Prop) (o : Nat) (l1 : Int32) (l2 : Int32) (l3 : Int32) (l4 : Int32) (l5 : Int32) (l6 : Int32) (l7 : Int32) (x : St) : Prop := ((¬ l3 = 0 → j_Scn_readNumber_158 post o l1 l2 l3 l4 l5 l6 l7 x) ∧ (l3 = 0 → (∀ x3063 : St, x3063 = setJ x o 6 (-(fJ x o 6)) → j_Scn_readNumber_158 post o l1 l2 l3 l4 l5 l6 l7 x3063)))
set_option maxHeartbeats 4000000 in
set_option maxRecDepth 100000 in
theorem t_Scn_readNumber_145 {p : Program} {l : Launch} {e : Env} {R : Room} {s : State} {m : MethodId} {args : Array Value} {below : List Frame} {meth : Method} {c : Code} {cells slots : Nat} {Q : State → Prop} {dC : Nat → ClassId} {dI : Nat → Nat → Nat} {cI cB cJ cZ : ClassId} {A : Nat → Prop} {ad : Nat → Nat} {NN : Nat} {E : Heap} {tM tC : Nat} {kK kV : Nat → Nat} {post : St → Prop} (hx : p.tables.exec = Jvm.exec) (hb : c.code = b_Scn_readNumber) (hml : c.maxLocals = 8) (hown : s.vm.findClass R_Scn = some m.cls) (hT : ∀ w ∈ TG, w.before args s = true) (hK : va_K (dC, dI) CL (TY cI cB cJ cZ) s) (hN : NW s) (hA : ∀ q : Nat, s.heap.size ≤ q → A q) (hRc : cells ≤ R.cells) (hRs : slots ≤ R.slots) (hRf : 2 ≤ R.frames) (hRl : 42 ≤ R.locals) (hNN : 152 ≤ NN) (hE : CE E tM tC kK kV A s) (hret : ∀ (x : St) (H : Heap) (locs : List Loc) (pc : Nat) (ls : Array Slot), decode b_Scn_readNumber pc = .ok (.return_, 1) → post x → Wd dC dI cI cB cJ cZ ad stC kcC NN A x H → va_S A s.heap H locs → W p l e R s m args below meth c H locs cells slots Q (F0 m pc ls []))  : ∀ (o : Nat) (l1 : Int32) (l2 : Int32) (l3 : Int32) (l4 : Int32) (l5 : Int32) (l6 : Int32) (l7 : Int32) (x : St) (H : Heap) (locs : List Loc) (ls : Array Slot), (o < NN ∧ kcC o = 2) → j_Scn_readNumber_145 post o l1 l2 l3 l4 l5 l6 l7 x → Wd dC dI cI cB cJ cZ ad stC kcC NN A x H → va_S A s.heap H locs → lv_has ls 8 [(0, .ref (ad o)), (1, .int l1), (2, .int l2), (3, .int l3), (4, .int l4), (5, .int l5), (6, .int l6), (7, .int l7)] → W p l e R s m args below meth c H locs cells slots Q (F0 m 145 ls []) := by
  intro o l1 l2 l3 l4 l5 l6 l7 x H locs ls fo hw hW hS hl
  unfold j_Scn_readNumber_145 at hw
  refine lv_iload_n hx hb d_Scn_readNumber_145 rfl (lv_at hl 3 rfl) ?_
  refine lv_if_ne (tgt := 158) hx hb d_Scn_readNumber_146 (by decide) (fun c3062 => ?_) (fun c3062 => ?_)
  · have hw := hw.1 c3062
    exact t_Scn_readNumber_158 hx hb hml hown hT hK hN hA hRc hRs hRf hRl hNN hE hret  o l1 l2 l3 l4 l5 l6 l7 x H locs ls fo hw hW hS (lv_sub hl [0, 1, 2, 3, 4, 5, 6, 7] rfl)
  · have hw := hw.2 c3062
    refine lv_aload_n hx hb d_Scn_readNumber_149 rfl (lv_at hl 0 rfl) ?_
    refine lv_aload_n hx hb d_Scn_readNumber_150 rfl (lv_at hl 0 rfl) ?_
    refine w_getj (k := 6) (t := 2) (C := R_Scn) (T := F_Scn) (N := 8) hx hb hT hown hK hW fo.1 fo.2 (by decide) in_Scn rfl rfl (by decide) rfl fr_Scn_6 w_1_102 d_Scn_readNumber_151 ?_
    refine lv_lneg hx hb d_Scn_readNumber_154 ?_
    refine w_putj (k := 6) (t := 2) (C := R_Scn) (T := F_Scn) (N := 8) hx hb hT hown hK hW hS fo.1 fo.2 (by decide) in_Scn t_Scn t_Scn_ok n_Scn rfl rfl (by decide) rfl fr_Scn_6 w_1_102 (by decide +kernel) d_Scn_readNumber_155 (fun H locs hW hS => ?_)
    obtain ⟨x3063, ex3063⟩ : ∃ y : St, y = setJ x o 6 (-(fJ x o 6)) := ⟨_, rfl⟩
    rw [← ex3063] at hW
    have hw := hw x3063 ex3063
    exact t_Scn_readNumber_158 hx hb hml hown hT hK hN hA hRc hRs hRf hRl hNN hE hret  o l1 l2 l3 l4 l5 l6 l7 x3063 H locs ls fo hw hW hS (lv_sub hl [0, 1, 2, 3, 4, 5, 6, 7] rfl)
set_option maxRecDepth 100000 in
def j_Scn_readNumber_139 (post : St → Prop) (o : Nat) (l1 : Int32) (l2 : Int32) (l3 : Int32) (l4 : Int32) (l5 : Int32) (l6 : Int32) (l7 : Int32) (x : St) : Prop := wp_Scn_refuse (fun (x3064 : St) => post x3064) o l2 x
set_option maxHeartbeats 4000000 in
set_option maxRecDepth 100000 in
theorem t_Scn_readNumber_139 {p : Program} {l : Launch} {e : Env} {R : Room} {s : State} {m : MethodId} {args : Array Value} {below : List Frame} {meth : Method} {c : Code} {cells slots : Nat} {Q : State → Prop} {dC : Nat → ClassId} {dI : Nat → Nat → Nat} {cI cB cJ cZ : ClassId} {A : Nat → Prop} {ad : Nat → Nat} {NN : Nat} {E : Heap} {tM tC : Nat} {kK kV : Nat → Nat} {post : St → Prop} (hx : p.tables.exec = Jvm.exec) (hb : c.code = b_Scn_readNumber) (hml : c.maxLocals = 8) (hown : s.vm.findClass R_Scn = some m.cls) (hT : ∀ w ∈ TG, w.before args s = true) (hK : va_K (dC, dI) CL (TY cI cB cJ cZ) s) (hN : NW s) (hA : ∀ q : Nat, s.heap.size ≤ q → A q) (hRc : cells ≤ R.cells) (hRs : slots ≤ R.slots) (hRf : 2 ≤ R.frames) (hRl : 42 ≤ R.locals) (hNN : 152 ≤ NN) (hE : CE E tM tC kK kV A s) (hret : ∀ (x : St) (H : Heap) (locs : List Loc) (pc : Nat) (ls : Array Slot), decode b_Scn_readNumber pc = .ok (.return_, 1) → post x → Wd dC dI cI cB cJ cZ ad stC kcC NN A x H → va_S A s.heap H locs → W p l e R s m args below meth c H locs cells slots Q (F0 m pc ls []))  : ∀ (o : Nat) (l1 : Int32) (l2 : Int32) (l3 : Int32) (l4 : Int32) (l5 : Int32) (l6 : Int32) (l7 : Int32) (x : St) (H : Heap) (locs : List Loc) (ls : Array Slot), (o < NN ∧ kcC o = 2) → j_Scn_readNumber_139 post o l1 l2 l3 l4 l5 l6 l7 x → Wd dC dI cI cB cJ cZ ad stC kcC NN A x H → va_S A s.heap H locs → lv_has ls 8 [(0, .ref (ad o)), (1, .int l1), (2, .int l2), (3, .int l3), (4, .int l4), (5, .int l5), (6, .int l6), (7, .int l7)] → W p l e R s m args below meth c H locs cells slots Q (F0 m 139 ls []) := by
  intro o l1 l2 l3 l4 l5 l6 l7 x H locs ls fo hw hW hS hl
  unfold j_Scn_readNumber_139 at hw
  refine lv_aload_n hx hb d_Scn_readNumber_139 rfl (lv_at hl 0 rfl) ?_
  refine lv_iload_n hx hb d_Scn_readNumber_140 rfl (lv_at hl 2 rfl) ?_
  have hF := hW.free hS hA
  refine va_callv (va_runV (C := R_Scn) (As := [.int l2]) (rest := []) ⟨hx, hb, hml, hown, hT⟩ (k_Scn_refuse l dC dI cI cB cJ cZ ad NN E tM tC kK kV hNN H.size o l2 x fo hw) ⟨callB_of 1 hT (gw_in w_4_128) rfl rfl rfl (hT _ w_1_4) (hT _ w_4_125) (by decide +kernel) ⟨Nat.le_trans (by decide) hRf, Nat.le_trans (by decide) hRl⟩, hT _ w_4_126, hT _ w_4_127⟩ ⟨PV.blind, va_recv hK hW.1 (ci := 2) (q0 := o) rfl (pic_obj fo.1 fo.2 (by decide)), PV.at _ hW hK hN hE hS hF⟩ rfl rfl hl.1 rfl (lv_room (Nat.le_of_ble_eq_true rfl)) d_Scn_readNumber_141 ⟨hRc, hRs⟩) hS (fun q _ h => hF q h) hF (fun  x3064 t H locs ht hvm hw hB hz1 hk1 hS => ?_)
  have hW := Wd.back hB ht hF
  clear hB ht hF hz1 hk1 hvm
  exact hret x3064 H locs 144 ls d_Scn_readNumber_144 hw hW hS
set_option maxRecDepth 100000 in
def j_Scn_readNumber_112 (post : St → Prop) (o : Nat) (l1 : Int32) (l2 : Int32) (l3 : Int32) (l4 : Int32) (l5 : Int32) (l6 : Int32) (s0 : Int32) (x : St) : Prop := ((¬ s0 = 0 → j_Scn_readNumber_139 post o l1 l2 l3 l4 l5 l6 s0 x) ∧ (s0 = 0 → ((l5 = 0 → j_Scn_readNumber_139 post o l1 l2 l3 l4 l5 l6 s0 x) ∧ (¬ l5 = 0 → ((¬ l3 = 0 → j_Scn_readNumber_145 post o l1 l2 l3 l4 l5 l6 s0 x) ∧ (l3 = 0 → ((¬ (lg_cmp (fJ x o 6) (-9223372036854775808)) = 0 → j_Scn_readNumber_145 post o l1 l2 l3 l4 l5 l6 s0 x) ∧ ((lg_cmp (fJ x o 6) (-9223372036854775808)) = 0 → j_Scn_readNumber_139 post o l1 l2 l3 l4 l5 l6 s0 x))))))))
set_option maxHeartbeats 4000000 in
set_option maxRecDepth 100000 in
theorem t_Scn_readNumber_112 {p : Program} {l : Launch} {e : Env} {R : Room} {s : State} {m : MethodId} {args : Array Value} {below : List Frame} {meth : Method} {c : Code} {cells slots : Nat} {Q : State → Prop} {dC : Nat → ClassId} {dI : Nat → Nat → Nat} {cI cB cJ cZ : ClassId} {A : Nat → Prop} {ad : Nat → Nat} {NN : Nat} {E : Heap} {tM tC : Nat} {kK kV : Nat → Nat} {post : St → Prop} (hx : p.tables.exec = Jvm.exec) (hb : c.code = b_Scn_readNumber) (hml : c.maxLocals = 8) (hown : s.vm.findClass R_Scn = some m.cls) (hT : ∀ w ∈ TG, w.before args s = true) (hK : va_K (dC, dI) CL (TY cI cB cJ cZ) s) (hN : NW s) (hA : ∀ q : Nat, s.heap.size ≤ q → A q) (hRc : cells ≤ R.cells) (hRs : slots ≤ R.slots) (hRf : 2 ≤ R.frames) (hRl : 42 ≤ R.locals) (hNN : 152 ≤ NN) (hE : CE E tM tC kK kV A s) (hret : ∀ (x : St) (H : Heap) (locs : List Loc) (pc : Nat) (ls : Array Slot), decode b_Scn_readNumber pc = .ok (.return_, 1) → post x → Wd dC dI cI cB cJ cZ ad stC kcC NN A x H → va_S A s.heap H locs → W p l e R s m args below meth c H locs cells slots Q (F0 m pc ls []))  : ∀ (o : Nat) (l1 : Int32) (l2 : Int32) (l3 : Int32) (l4 : Int32) (l5 : Int32) (l6 : Int32) (s0 : Int32) (x : St) (H : Heap) (locs : List Loc) (ls : Array Slot), (o < NN ∧ kcC o = 2) → j_Scn_readNumber_112 post o l1 l2 l3 l4 l5 l6 s0 x → Wd dC dI cI cB cJ cZ ad stC kcC NN A x H → va_S A s.heap H locs → lv_has ls 8 [(0, .ref (ad o)), (1, .int l1), (2, .int l2), (3, .int l3), (4, .int l4), (5, .int l5), (6, .int l6)] → W p l e R s m args below meth c H locs cells slots Q (F0 m 112 ls [.int s0]) := by
  intro o l1 l2 l3 l4 l5 l6 s0 x H locs ls fo hw hW hS hl
  unfold j_Scn_readNumber_112 at hw
  refine lv_istore (lv' := [(7, .int s0), (0, .ref (ad o)), (1, .int l1), (2, .int l2), (3, .int l3), (4, .int l4), (5, .int l5), (6, .int l6)]) hx hb d_Scn_readNumber_112 hl (by decide) rfl (fun ls hl => ?_)
  refine lv_iload hx hb d_Scn_readNumber_114 (lv_at hl 0 rfl) ?_
  refine lv_if_ne (tgt := 139) hx hb d_Scn_readNumber_116 (by decide) (fun c3065 => ?_) (fun c3065 => ?_)
  · have hw := hw.1 c3065
    exact t_Scn_readNumber_139 hx hb hml hown hT hK hN hA hRc hRs hRf hRl hNN hE hret  o l1 l2 l3 l4 l5 l6 s0 x H locs ls fo hw hW hS (lv_sub hl [1, 2, 3, 4, 5, 6, 7, 0] rfl)
  · have hw := hw.2 c3065
    refine lv_iload hx hb d_Scn_readNumber_119 (lv_at hl 6 rfl) ?_
    refine lv_if_eq (tgt := 139) hx hb d_Scn_readNumber_121 (by decide) (fun c3066 => ?_) (fun c3066 => ?_)
    · have hw := hw.1 c3066
      exact t_Scn_readNumber_139 hx hb hml hown hT hK hN hA hRc hRs hRf hRl hNN hE hret  o l1 l2 l3 l4 l5 l6 s0 x H locs ls fo hw hW hS (lv_sub hl [1, 2, 3, 4, 5, 6, 7, 0] rfl)
    · have hw := hw.2 c3066
      refine lv_iload_n hx hb d_Scn_readNumber_124 rfl (lv_at hl 4 rfl) ?_
      refine lv_if_ne (tgt := 145) hx hb d_Scn_readNumber_125 (by decide) (fun c3067 => ?_) (fun c3067 => ?_)
      · have hw := hw.1 c3067
        exact t_Scn_readNumber_145 hx hb hml hown hT hK hN hA hRc hRs hRf hRl hNN hE hret  o l1 l2 l3 l4 l5 l6 s0 x H locs ls fo hw hW hS (lv_sub hl [1, 2, 3, 4, 5, 6, 7, 0] rfl)
      · have hw := hw.2 c3067
        refine lv_aload_n hx hb d_Scn_readNumber_128 rfl (lv_at hl 1 rfl) ?_
        refine w_getj (k := 6) (t := 2) (C := R_Scn) (T := F_Scn) (N := 8) hx hb hT hown hK hW fo.1 fo.2 (by decide) in_Scn rfl rfl (by decide) rfl fr_Scn_6 w_1_102 d_Scn_readNumber_129 ?_
        refine lv_ldc2 hx hb hown (hT _ w_5_103) d_Scn_readNumber_132 ?_
        refine W.lcmp hx hb d_Scn_readNumber_135 ?_
        refine lv_if_ne (tgt := 145) hx hb d_Scn_readNumber_136 (by decide) (fun c3068 => ?_) (fun c3068 => ?_)
        · have hw := hw.1 c3068
          exact t_Scn_readNumber_145 hx hb hml hown hT hK hN hA hRc hRs hRf hRl hNN hE hret  o l1 l2 l3 l4 l5 l6 s0 x H locs ls fo hw hW hS (lv_sub hl [1, 2, 3, 4, 5, 6, 7, 0] rfl)
        · have hw := hw.2 c3068
          exact t_Scn_readNumber_139 hx hb hml hown hT hK hN hA hRc hRs hRf hRl hNN hE hret  o l1 l2 l3 l4 l5 l6 s0 x H locs ls fo hw hW hS (lv_sub hl [1, 2, 3, 4, 5, 6, 7, 0] rfl)
set_option maxRecDepth 100000 in
def j_Scn_readNumber_111 (post : St → Prop) (o : Nat) (l1 : Int32) (l2 : Int32) (l3 : Int32) (l4 : Int32) (l5 : Int32) (l6 : Int32) (x : St) : Prop := j_Scn_readNumber_112 post o l1 l2 l3 l4 l5 l6 0 x
set_option maxHeartbeats 4000000 in
set_option maxRecDepth 100000 in
theorem t_Scn_readNumber_111 {p : Program} {l : Launch} {e : Env} {R : Room} {s : State} {m : MethodId} {args : Array Value} {below : List Frame} {meth : Method} {c : Code} {cells slots : Nat} {Q : State → Prop} {dC : Nat → ClassId} {dI : Nat → Nat → Nat} {cI cB cJ cZ : ClassId} {A : Nat → Prop} {ad : Nat → Nat} {NN : Nat} {E : Heap} {tM tC : Nat} {kK kV : Nat → Nat} {post : St → Prop} (hx : p.tables.exec = Jvm.exec) (hb : c.code = b_Scn_readNumber) (hml : c.maxLocals = 8) (hown : s.vm.findClass R_Scn = some m.cls) (hT : ∀ w ∈ TG, w.before args s = true) (hK : va_K (dC, dI) CL (TY cI cB cJ cZ) s) (hN : NW s) (hA : ∀ q : Nat, s.heap.size ≤ q → A q) (hRc : cells ≤ R.cells) (hRs : slots ≤ R.slots) (hRf : 2 ≤ R.frames) (hRl : 42 ≤ R.locals) (hNN : 152 ≤ NN) (hE : CE E tM tC kK kV A s) (hret : ∀ (x : St) (H : Heap) (locs : List Loc) (pc : Nat) (ls : Array Slot), decode b_Scn_readNumber pc = .ok (.return_, 1) → post x → Wd dC dI cI cB cJ cZ ad stC kcC NN A x H → va_S A s.heap H locs → W p l e R s m args below meth c H locs cells slots Q (F0 m pc ls []))  : ∀ (o : Nat) (l1 : Int32) (l2 : Int32) (l3 : Int32) (l4 : Int32) (l5 : Int32) (l6 : Int32) (x : St) (H : Heap) (locs : List Loc) (ls : Array Slot), (o < NN ∧ kcC o = 2) → j_Scn_readNumber_111 post o l1 l2 l3 l4 l5 l6 x → Wd dC dI cI cB cJ cZ ad stC kcC NN A x H → va_S A s.heap H locs → lv_has ls 8 [(0, .ref (ad o)), (1, .int l1), (2, .int l2), (3, .int l3), (4, .int l4), (5, .int l5), (6, .int l6)] → W p l e R s m args below meth c H locs cells slots Q (F0 m 111 ls []) := by
  intro o l1 l2 l3 l4 l5 l6 x H locs ls fo hw hW hS hl
  unfold j_Scn_readNumber_111 at hw
  refine lv_iconst (v := 0) hx hb d_Scn_readNumber_111 (by decide) ?_
  exact t_Scn_readNumber_112 hx hb hml hown hT hK hN hA hRc hRs hRf hRl hNN hE hret  o l1 l2 l3 l4 l5 l6 0 x H locs ls fo hw hW hS (lv_sub hl [0, 1, 2, 3, 4, 5, 6] rfl)
set_option maxRecDepth 100000 in
def j_Scn_readNumber_107 (post : St → Prop) (o : Nat) (l1 : Int32) (l2 : Int32) (l3 : Int32) (l4 : Int32) (l5 : Int32) (l6 : Int32) (x : St) : Prop := j_Scn_readNumber_112 post o l1 l2 l3 l4 l5 l6 1 x
set_option maxHeartbeats 4000000 in
set_option maxRecDepth 100000 in
theorem t_Scn_readNumber_107 {p : Program} {l : Launch} {e : Env} {R : Room} {s : State} {m : MethodId} {args : Array Value} {below : List Frame} {meth : Method} {c : Code} {cells slots : Nat} {Q : State → Prop} {dC : Nat → ClassId} {dI : Nat → Nat → Nat} {cI cB cJ cZ : ClassId} {A : Nat → Prop} {ad : Nat → Nat} {NN : Nat} {E : Heap} {tM tC : Nat} {kK kV : Nat → Nat} {post : St → Prop} (hx : p.tables.exec = Jvm.exec) (hb : c.code = b_Scn_readNumber) (hml : c.maxLocals = 8) (hown : s.vm.findClass R_Scn = some m.cls) (hT : ∀ w ∈ TG, w.before args s = true) (hK : va_K (dC, dI) CL (TY cI cB cJ cZ) s) (hN : NW s) (hA : ∀ q : Nat, s.heap.size ≤ q → A q) (hRc : cells ≤ R.cells) (hRs : slots ≤ R.slots) (hRf : 2 ≤ R.frames) (hRl : 42 ≤ R.locals) (hNN : 152 ≤ NN) (hE : CE E tM tC kK kV A s) (hret : ∀ (x : St) (H : Heap) (locs : List Loc) (pc : Nat) (ls : Array Slot), decode b_Scn_readNumber pc = .ok (.return_, 1) → post x → Wd dC dI cI cB cJ cZ ad stC kcC NN A x H → va_S A s.heap H locs → W p l e R s m args below meth c H locs cells slots Q (F0 m pc ls []))  : ∀ (o : Nat) (l1 : Int32) (l2 : Int32) (l3 : Int32) (l4 : Int32) (l5 : Int32) (l6 : Int32) (x : St) (H : Heap) (locs : List Loc) (ls : Array Slot), (o < NN ∧ kcC o = 2) → j_Scn_readNumber_107 post o l1 l2 l3 l4 l5 l6 x → Wd dC dI cI cB cJ cZ ad stC kcC NN A x H → va_S A s.heap H locs → lv_has ls 8 [(0, .ref (ad o)), (1, .int l1), (2, .int l2), (3, .int l3), (4, .int l4), (5, .int l5), (6, .int l6)] → W p l e R s m args below meth c H locs cells slots Q (F0 m 107 ls []) := by
  intro o l1 l2 l3 l4 l5 l6 x H locs ls fo hw hW hS hl
  unfold j_Scn_readNumber_107 at hw
  refine lv_iconst (v := 1) hx hb d_Scn_readNumber_107 (by decide) ?_
  refine lv_goto (tgt := 112) hx hb d_Scn_readNumber_108 (by decide) ?_
  exact t_Scn_readNumber_112 hx hb hml hown hT hK hN hA hRc hRs hRf hRl hNN hE hret  o l1 l2 l3 l4 l5 l6 1 x H locs ls fo hw hW hS (lv_sub hl [0, 1, 2, 3, 4, 5, 6] rfl)
set_option maxRecDepth 100000 in
def j_Scn_readNumber_82 (post : St → Prop) (o : Nat) (l1 : Int32) (l2 : Int32) (l3 : Int32) (l4 : Int32) (l5 : Int32) (l6 : Int32) (s0 : Int32) (s1 : Nat) (x : St) : Prop := wp_Scn_refuse (fun (x3069 : St) => post x3069) s1 s0 x
set_option maxHeartbeats 4000000 in
set_option maxRecDepth 100000 in
theorem t_Scn_readNumber_82 {p : Program} {l : Launch} {e : Env} {R : Room} {s : State} {m : MethodId} {args : Array Value} {below : List Frame} {meth : Method} {c : Code} {cells slots : Nat} {Q : State → Prop} {dC : Nat → ClassId} {dI : Nat → Nat → Nat} {cI cB cJ cZ : ClassId} {A : Nat → Prop} {ad : Nat → Nat} {NN : Nat} {E : Heap} {tM tC : Nat} {kK kV : Nat → Nat} {post : St → Prop} (hx : p.tables.exec = Jvm.exec) (hb : c.code = b_Scn_readNumber) (hml : c.maxLocals = 8) (hown : s.vm.findClass R_Scn = some m.cls) (hT : ∀ w ∈ TG, w.before args s = true) (hK : va_K (dC, dI) CL (TY cI cB cJ cZ) s) (hN : NW s) (hA : ∀ q : Nat, s.heap.size ≤ q → A q) (hRc : cells ≤ R.cells) (hRs : slots ≤ R.slots) (hRf : 2 ≤ R.frames) (hRl : 42 ≤ R.locals) (hNN : 152 ≤ NN) (hE : CE E tM tC kK kV A s) (hret : ∀ (x : St) (H : Heap) (locs : List Loc) (pc : Nat) (ls : Array Slot), decode b_Scn_readNumber pc = .ok (.return_, 1) → post x → Wd dC dI cI cB cJ cZ ad stC kcC NN A x H → va_S A s.heap H locs → W p l e R s m args below meth c H locs cells slots Q (F0 m pc ls []))  : ∀ (o : Nat) (l1 : Int32) (l2 : Int32) (l3 : Int32) (l4 : Int32) (l5 : Int32) (l6 : Int32) (s0 : Int32) (s1 : Nat) (x : St) (H : Heap) (locs : List Loc) (ls : Array Slot), (o < NN ∧ kcC o = 2) → (s1 < NN ∧ kcC s1 = 2) → j_Scn_readNumber_82 post o l1 l2 l3 l4 l5 l6 s0 s1 x → Wd dC dI cI cB cJ cZ ad stC kcC NN A x H → va_S A s.heap H locs → lv_has ls 8 [(0, .ref (ad o)), (1, .int l1), (2, .int l2), (3, .int l3), (4, .int l4), (5, .int l5), (6, .int l6)] → W p l e R s m args below meth c H locs cells slots Q (F0 m 82 ls [.int s0, .ref (ad s1)]) := by
  intro o l1 l2 l3 l4 l5 l6 s0 s1 x H locs ls fo fs1 hw hW hS hl
  unfold j_Scn_readNumber_82 at hw
  have hF := hW.free hS hA
  refine va_callv (va_runV (C := R_Scn) (As := [.int s0]) (rest := []) ⟨hx, hb, hml, hown, hT⟩ (k_Scn_refuse l dC dI cI cB cJ cZ ad NN E tM tC kK kV hNN H.size s1 s0 x fs1 hw) ⟨callB_of 1 hT (gw_in w_4_128) rfl rfl rfl (hT _ w_1_4) (hT _ w_4_125) (by decide +kernel) ⟨Nat.le_trans (by decide) hRf, Nat.le_trans (by decide) hRl⟩, hT _ w_4_126, hT _ w_4_127⟩ ⟨PV.blind, va_recv hK hW.1 (ci := 2) (q0 := s1) rfl (pic_obj fs1.1 fs1.2 (by decide)), PV.at _ hW hK hN hE hS hF⟩ rfl rfl hl.1 rfl (lv_room (Nat.le_of_ble_eq_true rfl)) d_Scn_readNumber_82 ⟨hRc, hRs⟩) hS (fun q _ h => hF q h) hF (fun  x3069 t H locs ht hvm hw hB hz1 hk1 hS => ?_)
  have hW := Wd.back hB ht hF
  clear hB ht hF hz1 hk1 hvm
  exact hret x3069 H locs 85 ls d_Scn_readNumber_85 hw hW hS
set_option maxRecDepth 100000 in
def j_Scn_readNumber_38 (post : St → Prop) (o : Nat) (l1 : Int32) (l2 : Int32) (l3 : Int32) (x : St) : Prop := (∀ v3070 : Int32, v3070 = (fI x o 2) → wp_Scn_readDigits (fun (r3072 : Int32) (x3071 : St) => (∀ v3073 : Int32, v3073 = ((fI x3071 o 2) - v3070) → ((¬ v3073 = 0 → wp_Scn_byteAt (fun (r3076 : Int32) (x3075 : St) => ((¬ r3076 = 48 → j_Scn_readNumber_111 post o l1 l2 l3 v3070 r3072 v3073 x3075) ∧ (r3076 = 48 → ((¬ l3 = 0 → j_Scn_readNumber_107 post o l1 l2 l3 v3070 r3072 v3073 x3075) ∧ (l3 = 0 → ((v3073 ≤ 1 → j_Scn_readNumber_111 post o l1 l2 l3 v3070 r3072 v3073 x3075) ∧ (¬ v3073 ≤ 1 → j_Scn_readNumber_107 post o l1 l2 l3 v3070 r3072 v3073 x3075))))))) o v3070 x3071) ∧ (v3073 = 0 → ((v3070 < (fI x3071 o 1) → j_Scn_readNumber_82 post o l1 l2 l3 v3070 r3072 v3073 l2 o x3071) ∧ (¬ v3070 < (fI x3071 o 1) → j_Scn_readNumber_82 post o l1 l2 l3 v3070 r3072 v3073 (fI x3071 o 1) o x3071)))))) o x)
set_option maxHeartbeats 4000000 in
set_option maxRecDepth 100000 in
theorem t_Scn_readNumber_38 {p : Program} {l : Launch} {e : Env} {R : Room} {s : State} {m : MethodId} {args : Array Value} {below : List Frame} {meth : Method} {c : Code} {cells slots : Nat} {Q : State → Prop} {dC : Nat → ClassId} {dI : Nat → Nat → Nat} {cI cB cJ cZ : ClassId} {A : Nat → Prop} {ad : Nat → Nat} {NN : Nat} {E : Heap} {tM tC : Nat} {kK kV : Nat → Nat} {post : St → Prop} (hx : p.tables.exec = Jvm.exec) (hb : c.code = b_Scn_readNumber) (hml : c.maxLocals = 8) (hown : s.vm.findClass R_Scn = some m.cls) (hT : ∀ w ∈ TG, w.before args s = true) (hK : va_K (dC, dI) CL (TY cI cB cJ cZ) s) (hN : NW s) (hA : ∀ q : Nat, s.heap.size ≤ q → A q) (hRc : cells ≤ R.cells) (hRs : slots ≤ R.slots) (hRf : 2 ≤ R.frames) (hRl : 42 ≤ R.locals) (hNN : 152 ≤ NN) (hE : CE E tM tC kK kV A s) (hret : ∀ (x : St) (H : Heap) (locs : List Loc) (pc : Nat) (ls : Array Slot), decode b_Scn_readNumber pc = .ok (.return_, 1) → post x → Wd dC dI cI cB cJ cZ ad stC kcC NN A x H → va_S A s.heap H locs → W p l e R s m args below meth c H locs cells slots Q (F0 m pc ls []))  : ∀ (o : Nat) (l1 : Int32) (l2 : Int32) (l3 : Int32) (x : St) (H : Heap) (locs : List Loc) (ls : Array Slot), (o < NN ∧ kcC o = 2) → j_Scn_readNumber_38 post o l1 l2 l3 x → Wd dC dI cI cB cJ cZ ad stC kcC NN A x H → va_S A s.heap H locs → lv_has ls 8 [(0, .ref (ad o)), (1, .int l1), (2, .int l2), (3, .int l3)] → W p l e R s m args below meth c H locs cells slots Q (F0 m 38 ls []) := by
  intro o l1 l2 l3 x H locs ls fo hw hW hS hl
  unfold j_Scn_readNumber_38 at hw
  refine lv_aload_n hx hb d_Scn_readNumber_38 rfl (lv_at hl 0 rfl) ?_
  refine w_geti (k := 2) (t := 2) (C := R_Scn) (T := F_Scn) (N := 8) hx hb hT hown hK hW fo.1 fo.2 (by decide) in_Scn rfl rfl (by decide) rfl fr_Scn_2 w_1_85 d_Scn_readNumber_39 ?_
  refine lv_topi (fun v3070 ev3070 => ?_)
  have hw := hw v3070 ev3070
  refine lv_istore (lv' := [(4, .int v3070), (0, .ref (ad o)), (1, .int l1), (2, .int l2), (3, .int l3)]) hx hb d_Scn_readNumber_42 hl (by decide) rfl (fun ls hl => ?_)
  refine lv_aload_n hx hb d_Scn_readNumber_44 rfl (lv_at hl 1 rfl) ?_
  have hF := hW.free hS hA
  refine va_calli (va_runV (C := R_Scn) (As := []) (rest := []) ⟨hx, hb, hml, hown, hT⟩ (k_Scn_readDigits l dC dI cI cB cJ cZ ad NN E tM tC kK kV hNN H.size o x fo hw) ⟨callB_of 0 hT (gw_in w_5_102) rfl rfl rfl (hT _ w_1_4) (hT _ w_5_99) (by decide +kernel) ⟨Nat.le_trans (by decide) hRf, Nat.le_trans (by decide) hRl⟩, hT _ w_5_101, hT _ ws_15⟩ ⟨PV.blind, va_recv hK hW.1 (ci := 2) (q0 := o) rfl (pic_obj fo.1 fo.2 (by decide)), PV.at _ hW hK hN hE hS hF⟩ rfl rfl hl.1 rfl (lv_room (Nat.le_of_ble_eq_true rfl)) d_Scn_readNumber_45 ⟨hRc, hRs⟩) hS (fun q _ h => hF q h) hF (fun r3072 x3071 t H locs ht hvm hw hB hz1 hk1 hS => ?_)
  have hW := Wd.back hB ht hF
  clear hB ht hF hz1 hk1 hvm
  refine lv_istore (lv' := [(5, .int r3072), (4, .int v3070), (0, .ref (ad o)), (1, .int l1), (2, .int l2), (3, .int l3)]) hx hb d_Scn_readNumber_48 hl (by decide) rfl (fun ls hl => ?_)
  refine lv_aload_n hx hb d_Scn_readNumber_50 rfl (lv_at hl 2 rfl) ?_
  refine w_geti (k := 2) (t := 2) (C := R_Scn) (T := F_Scn) (N := 8) hx hb hT hown hK hW fo.1 fo.2 (by decide) in_Scn rfl rfl (by decide) rfl fr_Scn_2 w_1_85 d_Scn_readNumber_51 ?_
  refine lv_iload hx hb d_Scn_readNumber_54 (lv_at hl 1 rfl) ?_
  refine lv_isub hx hb d_Scn_readNumber_56 ?_
  refine lv_topi (fun v3073 ev3073 => ?_)
  have hw := hw v3073 ev3073
  refine lv_istore (lv' := [(6, .int v3073), (5, .int r3072), (4, .int v3070), (0, .ref (ad o)), (1, .int l1), (2, .int l2), (3, .int l3)]) hx hb d_Scn_readNumber_57 hl (by decide) rfl (fun ls hl => ?_)
  refine lv_iload hx hb d_Scn_readNumber_59 (lv_at hl 0 rfl) ?_
  refine lv_if_ne (tgt := 86) hx hb d_Scn_readNumber_61 (by decide) (fun c3074 => ?_) (fun c3074 => ?_)
  · have hw := hw.1 c3074
    refine lv_aload_n hx hb d_Scn_readNumber_86 rfl (lv_at hl 3 rfl) ?_
    refine lv_iload hx hb d_Scn_readNumber_87 (lv_at hl 2 rfl) ?_
    have hF := hW.free hS hA
    refine va_calli (va_runV (C := R_Scn) (As := [.int v3070]) (rest := []) ⟨hx, hb, hml, hown, hT⟩ (k_Scn_byteAt l dC dI cI cB cJ cZ ad NN E tM tC kK kV hNN H.size o v3070 x3071 fo hw) ⟨callB_of 1 hT (gw_in w_5_75) rfl rfl rfl (hT _ w_1_4) (hT _ w_5_72) (by decide +kernel) ⟨Nat.le_trans (by decide) hRf, Nat.le_trans (by decide) hRl⟩, hT _ w_5_73, hT _ w_5_74⟩ ⟨PV.blind, va_recv hK hW.1 (ci := 2) (q0 := o) rfl (pic_obj fo.1 fo.2 (by decide)), PV.at _ hW hK hN hE hS hF⟩ rfl rfl hl.1 rfl (lv_room (Nat.le_of_ble_eq_true rfl)) d_Scn_readNumber_89 ⟨hRc, hRs⟩) hS (fun q _ h => hF q h) hF (fun r3076 x3075 t H locs ht hvm hw hB hz1 hk1 hS => ?_)
    have hW := Wd.back hB ht hF
    clear hB ht hF hz1 hk1 hvm
    refine lv_bipush (v := 48) hx hb d_Scn_readNumber_92 (by decide) ?_
    refine lv_icmp_ne (tgt := 111) hx hb d_Scn_readNumber_94 (by decide) (fun c3077 => ?_) (fun c3077 => ?_)
    · have hw := hw.1 c3077
      exact t_Scn_readNumber_111 hx hb hml hown hT hK hN hA hRc hRs hRf hRl hNN hE hret  o l1 l2 l3 v3070 r3072 v3073 x3075 H locs ls fo hw hW hS (lv_sub hl [3, 4, 5, 6, 2, 1, 0] rfl)
    · have hw := hw.2 c3077
      refine lv_iload_n hx hb d_Scn_readNumber_97 rfl (lv_at hl 6 rfl) ?_
      refine lv_if_ne (tgt := 107) hx hb d_Scn_readNumber_98 (by decide) (fun c3078 => ?_) (fun c3078 => ?_)
      · have hw := hw.1 c3078
        exact t_Scn_readNumber_107 hx hb hml hown hT hK hN hA hRc hRs hRf hRl hNN hE hret  o l1 l2 l3 v3070 r3072 v3073 x3075 H locs ls fo hw hW hS (lv_sub hl [3, 4, 5, 6, 2, 1, 0] rfl)
      · have hw := hw.2 c3078
        refine lv_iload hx hb d_Scn_readNumber_101 (lv_at hl 0 rfl) ?_
        refine lv_iconst (v := 1) hx hb d_Scn_readNumber_103 (by decide) ?_
        refine lv_icmp_le (tgt := 111) hx hb d_Scn_readNumber_104 (by decide) (fun c3079 => ?_) (fun c3079 => ?_)
        · have hw := hw.1 c3079
          exact t_Scn_readNumber_111 hx hb hml hown hT hK hN hA hRc hRs hRf hRl hNN hE hret  o l1 l2 l3 v3070 r3072 v3073 x3075 H locs ls fo hw hW hS (lv_sub hl [3, 4, 5, 6, 2, 1, 0] rfl)
        · have hw := hw.2 c3079
          exact t_Scn_readNumber_107 hx hb hml hown hT hK hN hA hRc hRs hRf hRl hNN hE hret  o l1 l2 l3 v3070 r3072 v3073 x3075 H locs ls fo hw hW hS (lv_sub hl [3, 4, 5, 6, 2, 1, 0] rfl)
  · have hw := hw.2 c3074
    refine lv_aload_n hx hb d_Scn_readNumber_64 rfl (lv_at hl 3 rfl) ?_
    refine lv_iload hx hb d_Scn_readNumber_65 (lv_at hl 2 rfl) ?_
    refine lv_aload_n hx hb d_Scn_readNumber_67 rfl (lv_at hl 3 rfl) ?_
    refine w_geti (k := 1) (t := 2) (C := R_Scn) (T := F_Scn) (N := 8) hx hb hT hown hK hW fo.1 fo.2 (by decide) in_Scn rfl rfl (by decide) rfl fr_Scn_1 w_1_81 d_Scn_readNumber_68 ?_
    refine lv_icmp_lt (tgt := 81) hx hb d_Scn_readNumber_71 (by decide) (fun c3080 => ?_) (fun c3080 => ?_)
    · have hw := hw.1 c3080
      refine lv_iload_n hx hb d_Scn_readNumber_81 rfl (lv_at hl 5 rfl) ?_
      exact t_Scn_readNumber_82 hx hb hml hown hT hK hN hA hRc hRs hRf hRl hNN hE hret  o l1 l2 l3 v3070 r3072 v3073 l2 o x3071 H locs ls fo fo hw hW hS (lv_sub hl [3, 4, 5, 6, 2, 1, 0] rfl)
    · have hw := hw.2 c3080
      refine lv_aload_n hx hb d_Scn_readNumber_74 rfl (lv_at hl 3 rfl) ?_
      refine w_geti (k := 1) (t := 2) (C := R_Scn) (T := F_Scn) (N := 8) hx hb hT hown hK hW fo.1 fo.2 (by decide) in_Scn rfl rfl (by decide) rfl fr_Scn_1 w_1_81 d_Scn_readNumber_75 ?_
      refine lv_goto (tgt := 82) hx hb d_Scn_readNumber_78 (by decide) ?_
      exact t_Scn_readNumber_82 hx hb hml hown hT hK hN hA hRc hRs hRf hRl hNN hE hret  o l1 l2 l3 v3070 r3072 v3073 (fI x3071 o 1) o x3071 H locs ls fo fo hw hW hS (lv_sub hl [3, 4, 5, 6, 2, 1, 0] rfl)
set_option maxRecDepth 100000 in
def j_Scn_readNumber_23 (post : St → Prop) (o : Nat) (l1 : Int32) (l2 : Int32) (s0 : Int32) (x : St) : Prop := ((s0 = 0 → j_Scn_readNumber_38 post o l1 l2 s0 x) ∧ (¬ s0 = 0 → (∀ x3082 : St, x3082 = setI x o 2 ((fI x o 2) + 1) → j_Scn_readNumber_38 post o l1 l2 s0 x3082)))
set_option maxHeartbeats 4000000 in
set_option maxRecDepth 100000 in
theorem t_Scn_readNumber_23 {p : Program} {l : Launch} {e : Env} {R : Room} {s : State} {m : MethodId} {args : Array Value} {below : List Frame} {meth : Method} {c : Code} {cells slots : Nat} {Q : State → Prop} {dC : Nat → ClassId} {dI : Nat → Nat → Nat} {cI cB cJ cZ : ClassId} {A : Nat → Prop} {ad : Nat → Nat} {NN : Nat} {E : Heap} {tM tC : Nat} {kK kV : Nat → Nat} {post : St → Prop} (hx : p.tables.exec = Jvm.exec) (hb : c.code = b_Scn_readNumber) (hml : c.maxLocals = 8) (hown : s.vm.findClass R_Scn = some m.cls) (hT : ∀ w ∈ TG, w.before args s = true) (hK : va_K (dC, dI) CL (TY cI cB cJ cZ) s) (hN : NW s) (hA : ∀ q : Nat, s.heap.size ≤ q → A q) (hRc : cells ≤ R.cells) (hRs : slots ≤ R.slots) (hRf : 2 ≤ R.frames) (hRl : 42 ≤ R.locals) (hNN : 152 ≤ NN) (hE : CE E tM tC kK kV A s) (hret : ∀ (x : St) (H : Heap) (locs : List Loc) (pc : Nat) (ls : Array Slot), decode b_Scn_readNumber pc = .ok (.return_, 1) → post x → Wd dC dI cI cB cJ cZ ad stC kcC NN A x H → va_S A s.heap H locs → W p l e R s m args below meth c H locs cells slots Q (F0 m pc ls []))  : ∀ (o : Nat) (l1 : Int32) (l2 : Int32) (s0 : Int32) (x : St) (H : Heap) (locs : List Loc) (ls : Array Slot), (o < NN ∧ kcC o = 2) → j_Scn_readNumber_23 post o l1 l2 s0 x → Wd dC dI cI cB cJ cZ ad stC kcC NN A x H → va_S A s.heap H locs → lv_has ls 8 [(0, .ref (ad o)), (1, .int l1), (2, .int l2)] → W p l e R s m args below meth c H locs cells slots Q (F0 m 23 ls [.int s0]) := by
  intro o l1 l2 s0 x H locs ls fo hw hW hS hl
  unfold j_Scn_readNumber_23 at hw
  refine lv_istore_n (lv' := [(3, .int s0), (0, .ref (ad o)), (1, .int l1), (2, .int l2)]) hx hb d_Scn_readNumber_23 rfl hl (by decide) rfl (fun ls hl => ?_)
  refine lv_iload_n hx hb d_Scn_readNumber_24 rfl (lv_at hl 0 rfl) ?_
  refine lv_if_eq (tgt := 38) hx hb d_Scn_readNumber_25 (by decide) (fun c3081 => ?_) (fun c3081 => ?_)
  · have hw := hw.1 c3081
    exact t_Scn_readNumber_38 hx hb hml hown hT hK hN hA hRc hRs hRf hRl hNN hE hret  o l1 l2 s0 x H locs ls fo hw hW hS (lv_sub hl [1, 2, 3, 0] rfl)
  · have hw := hw.2 c3081
    refine lv_aload_n hx hb d_Scn_readNumber_28 rfl (lv_at hl 1 rfl) ?_
    refine lv_dup hx hb d_Scn_readNumber_29 rfl ?_
    refine w_geti (k := 2) (t := 2) (C := R_Scn) (T := F_Scn) (N := 8) hx hb hT hown hK hW fo.1 fo.2 (by decide) in_Scn rfl rfl (by decide) rfl fr_Scn_2 w_1_85 d_Scn_readNumber_30 ?_
    refine lv_iconst (v := 1) hx hb d_Scn_readNumber_33 (by decide) ?_
    refine lv_iadd hx hb d_Scn_readNumber_34 ?_
    refine w_puti (ty := .int) (k := 2) (t := 2) (C := R_Scn) (T := F_Scn) (N := 8) hx hb hT hown hK hW hS fo.1 fo.2 (by decide) in_Scn t_Scn t_Scn_ok n_Scn rfl rfl (by decide) rfl fr_Scn_2 w_1_85 (by decide +kernel) rfl rfl d_Scn_readNumber_35 (fun H locs hW hS => ?_)
    obtain ⟨x3082, ex3082⟩ : ∃ y : St, y = setI x o 2 ((fI x o 2) + 1) := ⟨_, rfl⟩
    rw [← ex3082] at hW
    have hw := hw x3082 ex3082
    exact t_Scn_readNumber_38 hx hb hml hown hT hK hN hA hRc hRs hRf hRl hNN hE hret  o l1 l2 s0 x3082 H locs ls fo hw hW hS (lv_sub hl [1, 2, 3, 0] rfl)
set_option maxRecDepth 100000 in
def wp_Scn_readNumber (post : St → Prop) (o : Nat) (l1 : Int32) (x : St) : Prop := (∀ v3083 : Int32, v3083 = (fI x o 2) → wp_Scn_byteAt (fun (r3085 : Int32) (x3084 : St) => ((¬ r3085 = 45 → j_Scn_readNumber_23 post o l1 v3083 0 x3084) ∧ (r3085 = 45 → j_Scn_readNumber_23 post o l1 v3083 1 x3084))) o (fI x o 2) x)
set_option maxHeartbeats 4000000 in
set_option maxRecDepth 100000 in
theorem t_Scn_readNumber_e {p : Program} {l : Launch} {e : Env} {R : Room} {s : State} {m : MethodId} {args : Array Value} {below : List Frame} {meth : Method} {c : Code} {cells slots : Nat} {Q : State → Prop} {dC : Nat → ClassId} {dI : Nat → Nat → Nat} {cI cB cJ cZ : ClassId} {A : Nat → Prop} {ad : Nat → Nat} {NN : Nat} {E : Heap} {tM tC : Nat} {kK kV : Nat → Nat} {post : St → Prop} (hx : p.tables.exec = Jvm.exec) (hb : c.code = b_Scn_readNumber) (hml : c.maxLocals = 8) (hown : s.vm.findClass R_Scn = some m.cls) (hT : ∀ w ∈ TG, w.before args s = true) (hK : va_K (dC, dI) CL (TY cI cB cJ cZ) s) (hN : NW s) (hA : ∀ q : Nat, s.heap.size ≤ q → A q) (hRc : cells ≤ R.cells) (hRs : slots ≤ R.slots) (hRf : 2 ≤ R.frames) (hRl : 42 ≤ R.locals) (hNN : 152 ≤ NN) (hE : CE E tM tC kK kV A s) (hret : ∀ (x : St) (H : Heap) (locs : List Loc) (pc : Nat) (ls : Array Slot), decode b_Scn_readNumber pc = .ok (.return_, 1) → post x → Wd dC dI cI cB cJ cZ ad stC kcC NN A x H → va_S A s.heap H locs → W p l e R s m args below meth c H locs cells slots Q (F0 m pc ls [])) : ∀ (o : Nat) (l1 : Int32) (x : St) (H : Heap) (locs : List Loc) (ls : Array Slot), (o < NN ∧ kcC o = 2) → wp_Scn_readNumber post o l1 x → Wd dC dI cI cB cJ cZ ad stC kcC NN A x H → va_S A s.heap H locs → lv_has ls 8 [(0, .ref (ad o)), (1, .int l1)] → W p l e R s m args below meth c H locs cells slots Q (F0 m 0 ls []) := by
  intro o l1 x H locs ls fo hw hW hS hl
  unfold wp_Scn_readNumber at hw
  refine lv_aload_n hx hb d_Scn_readNumber_0 rfl (lv_at hl 0 rfl) ?_
  refine w_geti (k := 2) (t := 2) (C := R_Scn) (T := F_Scn) (N := 8) hx hb hT hown hK hW fo.1 fo.2 (by decide) in_Scn rfl rfl (by decide) rfl fr_Scn_2 w_1_85 d_Scn_readNumber_1 ?_
  refine lv_topi (fun v3083 ev3083 => ?_)
  have hw := hw v3083 ev3083
  refine lv_istore_n (lv' := [(2, .int v3083), (0, .ref (ad o)), (1, .int l1)]) hx hb d_Scn_readNumber_4 rfl hl (by decide) rfl (fun ls hl => ?_)
  refine lv_aload_n hx hb d_Scn_readNumber_5 rfl (lv_at hl 1 rfl) ?_
  refine lv_aload_n hx hb d_Scn_readNumber_6 rfl (lv_at hl 1 rfl) ?_
  refine w_geti (k := 2) (t := 2) (C := R_Scn) (T := F_Scn) (N := 8) hx hb hT hown hK hW fo.1 fo.2 (by decide) in_Scn rfl rfl (by decide) rfl fr_Scn_2 w_1_85 d_Scn_readNumber_7 ?_
  have hF := hW.free hS hA
  refine va_calli (va_runV (C := R_Scn) (As := [.int (fI x o 2)]) (rest := []) ⟨hx, hb, hml, hown, hT⟩ (k_Scn_byteAt l dC dI cI cB cJ cZ ad NN E tM tC kK kV hNN H.size o (fI x o 2) x fo hw) ⟨callB_of 1 hT (gw_in w_5_75) rfl rfl rfl (hT _ w_1_4) (hT _ w_5_72) (by decide +kernel) ⟨Nat.le_trans (by decide) hRf, Nat.le_trans (by decide) hRl⟩, hT _ w_5_73, hT _ w_5_74⟩ ⟨PV.blind, va_recv hK hW.1 (ci := 2) (q0 := o) rfl (pic_obj fo.1 fo.2 (by decide)), PV.at _ hW hK hN hE hS hF⟩ rfl rfl hl.1 rfl (lv_room (Nat.le_of_ble_eq_true rfl)) d_Scn_readNumber_10 ⟨hRc, hRs⟩) hS (fun q _ h => hF q h) hF (fun r3085 x3084 t H locs ht hvm hw hB hz1 hk1 hS => ?_)
  have hW := Wd.back hB ht hF
  clear hB ht hF hz1 hk1 hvm
  refine lv_bipush (v := 45) hx hb d_Scn_readNumber_13 (by decide) ?_
  refine lv_icmp_ne (tgt := 22) hx hb d_Scn_readNumber_15 (by decide) (fun c3086 => ?_) (fun c3086 => ?_)
  · have hw := hw.1 c3086
    refine lv_iconst (v := 0) hx hb d_Scn_readNumber_22 (by decide) ?_
    exact t_Scn_readNumber_23 hx hb hml hown hT hK hN hA hRc hRs hRf hRl hNN hE hret  o l1 v3083 0 x3084 H locs ls fo hw hW hS (lv_sub hl [1, 2, 0] rfl)
  · have hw := hw.2 c3086
    refine lv_iconst (v := 1) hx hb d_Scn_readNumber_18 (by decide) ?_
    refine lv_goto (tgt := 23) hx hb d_Scn_readNumber_19 (by decide) ?_
    exact t_Scn_readNumber_23 hx hb hml hown hT hK hN hA hRc hRs hRf hRl hNN hE hret  o l1 v3083 1 x3084 H locs ls fo hw hW hS (lv_sub hl [1, 2, 0] rfl)
set_option maxHeartbeats 4000000 in
set_option maxRecDepth 100000 in
theorem k_Scn_readNumber (l : Launch) (dC : Nat → ClassId) (dI : Nat → Nat → Nat) (cI cB cJ cZ : ClassId) (ad : Nat → Nat) (NN : Nat) (E : Heap) (tM tC : Nat) (kK kV : Nat → Nat) (hNN : 152 ≤ NN) (sz : Nat) (o : Nat) (l1 : Int32) (x : St) (fo : o < NN ∧ kcC o = 2) {post : St → Prop} (hw : wp_Scn_readNumber post o l1 x) : Met l y_Scn_readNumber (wsOf y_Scn_readNumber b_Scn_readNumber 8 (none)) ({ frames := 2, cells := 0, slots := 0, locals := 42 }) (va_Pc [.ref (ad o), .int l1] (PV dC dI cI cB cJ cZ ad stC kcC NN E tM tC kK kV sz x)) (va_Qv (fun (y : St) => post y) (fun y t => Wd dC dI cI cB cJ cZ ad stC kcC NN (va_A (pic ad stC kcC NN cI cB cJ cZ x) sz) y t.heap) (va_A (pic ad stC kcC NN cI cB cJ cZ x) sz)) 0 0 (va_A (pic ad stC kcC NN cI cB cJ cZ x) sz) := by
  refine Met.ofW (cc := b_Scn_readNumber) (maxL := 8) (ret := none) (by decide) rfl ?_
  intro p e s m args below meth c s₁ B hml hv
  obtain ⟨rfl, ⟨hsz, hW0, hK, hN⟩, hE⟩ := hv
  have hx := B.exec
  have hb := B.bytes
  have hr := B.returns
  have hts := atoms_spec B.pre
  have hT : ∀ w ∈ TG, w.before _ s = true := fun w h => hts w (List.mem_cons_of_mem _ h)
  have hown : s.vm.findClass R_Scn = some m.cls := findClass_of_methodNamed B.named
  have hlocks := B.notSynchronized
  subst hsz
  have hW : Wd dC dI cI cB cJ cZ ad stC kcC NN (va_A (pic ad stC kcC NN cI cB cJ cZ x) s.heap.size) x s.heap := ⟨hW0.1, hW0.2.1.self (sz := s.heap.size), hW0.2.2⟩
  generalize hAe : va_A (pic ad stC kcC NN cI cB cJ cZ x) s.heap.size = A at hW hE ⊢
  have hA : ∀ q : Nat, s.heap.size ≤ q → A q := fun q h => by rw [← hAe]; exact Or.inr h
  have hS : va_S A s.heap s.heap [] := va_S.rf
  have hl := lv_entry ([.ref (ad o), .int l1]) (n := 8) (Nat.le_of_ble_eq_true rfl)
  rw [lg_entry_eq]
  generalize (lg_sl ([.ref (ad o), .int l1]) ++ List.replicate (8 - (lg_sl ([.ref (ad o), .int l1])).length) Slot.unset).toArray = ls at hl ⊢
  have hl : lv_has ls 8 [(0, .ref (ad o)), (1, .int l1)] := hl
  exact t_Scn_readNumber_e hx hb hml hown hT hK hN hA (Nat.le_refl 0) (Nat.le_refl 0) (Nat.le_refl 2) (Nat.le_refl 42) hNN hE (fun x H locs pc ls hd hp hW hS => W.vret hx hb hr (fun t ht hM => ⟨⟨x, rfl, hp, Wd.back hW ht.symm (fun _ z => z)⟩, hS.F ht⟩) hS.2.2 hd hlocks)  o l1 x _ _ ls fo hw hW hS hl
set_option maxRecDepth 100000 in
def j_Rec_readValue_134 (post : Int64 → St → Prop) (o : Nat) (l1 : Int32) (x : St) : Prop := (∃ q3087 : Nat, fR x o 13 = some q3087 ∧ (∃ q3088 : Nat, fR x o 13 = some q3088 ∧ wp_Scn_refuse (fun (x3089 : St) => post 0 x3089) q3087 (fI x q3088 2) x))
set_option maxHeartbeats 4000000 in
set_option maxRecDepth 100000 in
theorem t_Rec_readValue_134 {p : Program} {l : Launch} {e : Env} {R : Room} {s : State} {m : MethodId} {args : Array Value} {below : List Frame} {meth : Method} {c : Code} {cells slots : Nat} {Q : State → Prop} {dC : Nat → ClassId} {dI : Nat → Nat → Nat} {cI cB cJ cZ : ClassId} {A : Nat → Prop} {ad : Nat → Nat} {NN : Nat} {E : Heap} {tM tC : Nat} {kK kV : Nat → Nat} {post : Int64 → St → Prop} (hx : p.tables.exec = Jvm.exec) (hb : c.code = b_Rec_readValue) (hml : c.maxLocals = 4) (hown : s.vm.findClass R_Rec = some m.cls) (hT : ∀ w ∈ TG, w.before args s = true) (hK : va_K (dC, dI) CL (TY cI cB cJ cZ) s) (hN : NW s) (hA : ∀ q : Nat, s.heap.size ≤ q → A q) (hRc : cells ≤ R.cells) (hRs : slots ≤ R.slots) (hRf : 7 ≤ R.frames) (hRl : 264 ≤ R.locals) (hNN : 152 ≤ NN) (hE : CE E tM tC kK kV A s) (hret : ∀ (r : Int64) (x : St) (H : Heap) (locs : List Loc) (pc : Nat) (ls : Array Slot), decode b_Rec_readValue pc = .ok (.lreturn, 1) → post r x → Wd dC dI cI cB cJ cZ ad stC kcC NN A x H → va_S A s.heap H locs → W p l e R s m args below meth c H locs cells slots Q (F0 m pc ls [.long r]))  : ∀ (o : Nat) (l1 : Int32) (x : St) (H : Heap) (locs : List Loc) (ls : Array Slot), (o < NN ∧ kcC o = 4) → j_Rec_readValue_134 post o l1 x → Wd dC dI cI cB cJ cZ ad stC kcC NN A x H → va_S A s.heap H locs → lv_has ls 4 [(0, .ref (ad o)), (1, .int l1)] → W p l e R s m args below meth c H locs cells slots Q (F0 m 134 ls []) := by
  intro o l1 x H locs ls fo hw hW hS hl
  unfold j_Rec_readValue_134 at hw
  refine lv_aload_n hx hb d_Rec_readValue_134 rfl (lv_at hl 0 rfl) ?_
  obtain ⟨q3087, hq3087, hw⟩ := hw
  refine w_getr (q := q3087) (k := 13) (t := 4) (C := R_Rec) (T := F_Rec) (N := 15) hx hb hT hown hK hW fo.1 fo.2 (by decide) in_Rec rfl rfl (by decide) rfl fr_Rec_13 w_2_8 d_Rec_readValue_135 hq3087 (fun aq3087 bq3087 => ?_)
  have fq3087 : q3087 < NN ∧ kcC q3087 = 2 := ⟨aq3087, bq3087⟩
  refine lv_aload_n hx hb d_Rec_readValue_138 rfl (lv_at hl 0 rfl) ?_
  obtain ⟨q3088, hq3088, hw⟩ := hw
  refine w_getr (q := q3088) (k := 13) (t := 4) (C := R_Rec) (T := F_Rec) (N := 15) hx hb hT hown hK hW fo.1 fo.2 (by decide) in_Rec rfl rfl (by decide) rfl fr_Rec_13 w_2_8 d_Rec_readValue_139 hq3088 (fun aq3088 bq3088 => ?_)
  have fq3088 : q3088 < NN ∧ kcC q3088 = 2 := ⟨aq3088, bq3088⟩
  refine w_geti (k := 2) (t := 2) (C := R_Scn) (T := F_Scn) (N := 8) hx hb hT hown hK hW fq3088.1 fq3088.2 (by decide) in_Scn rfl rfl (by decide) rfl fr_Scn_2 w_1_87 d_Rec_readValue_142 ?_
  have hF := hW.free hS hA
  refine va_callv (va_runV (C := R_Scn) (As := [.int (fI x q3088 2)]) (rest := []) ⟨hx, hb, hml, hown, hT⟩ (k_Scn_refuse l dC dI cI cB cJ cZ ad NN E tM tC kK kV hNN H.size q3087 (fI x q3088 2) x fq3087 hw) ⟨callB_of 1 hT (gw_in w_4_128) rfl rfl rfl (hT _ w_1_4) (hT _ w_5_27) (by decide +kernel) ⟨Nat.le_trans (by decide) hRf, Nat.le_trans (by decide) hRl⟩, hT _ w_4_126, hT _ w_4_127⟩ ⟨PV.blind, va_recv hK hW.1 (ci := 2) (q0 := q3087) rfl (pic_obj fq3087.1 fq3087.2 (by decide)), PV.at _ hW hK hN hE hS hF⟩ rfl rfl hl.1 rfl (lv_room (Nat.le_of_ble_eq_true rfl)) d_Rec_readValue_145 ⟨hRc, hRs⟩) hS (fun q _ h => hF q h) hF (fun  x3089 t H locs ht hvm hw hB hz1 hk1 hS => ?_)
  have hW := Wd.back hB ht hF
  clear hB ht hF hz1 hk1 hvm
  refine lv_lconst (v := 0) hx hb d_Rec_readValue_148 (by decide) ?_
  exact hret 0 x3089 H locs 149 ls d_Rec_readValue_149 hw hW hS
set_option maxRecDepth 100000 in
def j_Rec_readValue_123 (post : Int64 → St → Prop) (o : Nat) (l1 : Int32) (s0 : Int32) (s1 : Nat) (x : St) : Prop := wp_Scn_readNumber (fun (x3090 : St) => (∃ q3091 : Nat, fR x3090 o 13 = some q3091 ∧ post (fJ x3090 q3091 6) x3090)) s1 s0 x
set_option maxHeartbeats 4000000 in
set_option maxRecDepth 100000 in
theorem t_Rec_readValue_123 {p : Program} {l : Launch} {e : Env} {R : Room} {s : State} {m : MethodId} {args : Array Value} {below : List Frame} {meth : Method} {c : Code} {cells slots : Nat} {Q : State → Prop} {dC : Nat → ClassId} {dI : Nat → Nat → Nat} {cI cB cJ cZ : ClassId} {A : Nat → Prop} {ad : Nat → Nat} {NN : Nat} {E : Heap} {tM tC : Nat} {kK kV : Nat → Nat} {post : Int64 → St → Prop} (hx : p.tables.exec = Jvm.exec) (hb : c.code = b_Rec_readValue) (hml : c.maxLocals = 4) (hown : s.vm.findClass R_Rec = some m.cls) (hT : ∀ w ∈ TG, w.before args s = true) (hK : va_K (dC, dI) CL (TY cI cB cJ cZ) s) (hN : NW s) (hA : ∀ q : Nat, s.heap.size ≤ q → A q) (hRc : cells ≤ R.cells) (hRs : slots ≤ R.slots) (hRf : 7 ≤ R.frames) (hRl : 264 ≤ R.locals) (hNN : 152 ≤ NN) (hE : CE E tM tC kK kV A s) (hret : ∀ (r : Int64) (x : St) (H : Heap) (locs : List Loc) (pc : Nat) (ls : Array Slot), decode b_Rec_readValue pc = .ok (.lreturn, 1) → post r x → Wd dC dI cI cB cJ cZ ad stC kcC NN A x H → va_S A s.heap H locs → W p l e R s m args below meth c H locs cells slots Q (F0 m pc ls [.long r]))  : ∀ (o : Nat) (l1 : Int32) (s0 : Int32) (s1 : Nat) (x : St) (H : Heap) (locs : List Loc) (ls : Array Slot), (o < NN ∧ kcC o = 4) → (s1 < NN ∧ kcC s1 = 2) → j_Rec_readValue_123 post o l1 s0 s1 x → Wd dC dI cI cB cJ cZ ad stC kcC NN A x H → va_S A s.heap H locs → lv_has ls 4 [(0, .ref (ad o)), (1, .int l1)] → W p l e R s m args below meth c H locs cells slots Q (F0 m 123 ls [.int s0, .ref (ad s1)]) := by
  intro o l1 s0 s1 x H locs ls fo fs1 hw hW hS hl
  unfold j_Rec_readValue_123 at hw
  have hF := hW.free hS hA
  refine va_callv (va_runV (C := R_Scn) (As := [.int s0]) (rest := []) ⟨hx, hb, hml, hown, hT⟩ (k_Scn_readNumber l dC dI cI cB cJ cZ ad NN E tM tC kK kV hNN H.size s1 s0 x fs1 hw) ⟨callB_of 1 hT (gw_in w_5_98) rfl rfl rfl (hT _ w_1_4) (hT _ w_5_95) (by decide +kernel) ⟨Nat.le_trans (by decide) hRf, Nat.le_trans (by decide) hRl⟩, hT _ w_5_96, hT _ w_5_97⟩ ⟨PV.blind, va_recv hK hW.1 (ci := 2) (q0 := s1) rfl (pic_obj fs1.1 fs1.2 (by decide)), PV.at _ hW hK hN hE hS hF⟩ rfl rfl hl.1 rfl (lv_room (Nat.le_of_ble_eq_true rfl)) d_Rec_readValue_123 ⟨hRc, hRs⟩) hS (fun q _ h => hF q h) hF (fun  x3090 t H locs ht hvm hw hB hz1 hk1 hS => ?_)
  have hW := Wd.back hB ht hF
  clear hB ht hF hz1 hk1 hvm
  refine lv_aload_n hx hb d_Rec_readValue_126 rfl (lv_at hl 0 rfl) ?_
  obtain ⟨q3091, hq3091, hw⟩ := hw
  refine w_getr (q := q3091) (k := 13) (t := 4) (C := R_Rec) (T := F_Rec) (N := 15) hx hb hT hown hK hW fo.1 fo.2 (by decide) in_Rec rfl rfl (by decide) rfl fr_Rec_13 w_2_8 d_Rec_readValue_127 hq3091 (fun aq3091 bq3091 => ?_)
  have fq3091 : q3091 < NN ∧ kcC q3091 = 2 := ⟨aq3091, bq3091⟩
  refine w_getj (k := 6) (t := 2) (C := R_Scn) (T := F_Scn) (N := 8) hx hb hT hown hK hW fq3091.1 fq3091.2 (by decide) in_Scn rfl rfl (by decide) rfl fr_Scn_6 w_1_101 d_Rec_readValue_130 ?_
  exact hret (fJ x3090 q3091 6) x3090 H locs 133 ls d_Rec_readValue_133 hw hW hS
set_option maxRecDepth 100000 in
def j_Rec_readValue_94 (post : Int64 → St → Prop) (o : Nat) (l1 : Int32) (x : St) : Prop := ((l1 = 3 → j_Rec_readValue_134 post o l1 x) ∧ (¬ l1 = 3 → (∃ q3093 : Nat, fR x o 13 = some q3093 ∧ wp_Scn_atNumber (fun (r3095 : Int32) (x3094 : St) => ((r3095 = 0 → j_Rec_readValue_134 post o l1 x3094) ∧ (¬ r3095 = 0 → (∃ q3097 : Nat, fR x3094 o 13 = some q3097 ∧ ((¬ l1 = 2 → j_Rec_readValue_123 post o l1 0 q3097 x3094) ∧ (l1 = 2 → j_Rec_readValue_123 post o l1 1 q3097 x3094)))))) q3093 x)))
set_option maxHeartbeats 4000000 in
set_option maxRecDepth 100000 in
theorem t_Rec_readValue_94 {p : Program} {l : Launch} {e : Env} {R : Room} {s : State} {m : MethodId} {args : Array Value} {below : List Frame} {meth : Method} {c : Code} {cells slots : Nat} {Q : State → Prop} {dC : Nat → ClassId} {dI : Nat → Nat → Nat} {cI cB cJ cZ : ClassId} {A : Nat → Prop} {ad : Nat → Nat} {NN : Nat} {E : Heap} {tM tC : Nat} {kK kV : Nat → Nat} {post : Int64 → St → Prop} (hx : p.tables.exec = Jvm.exec) (hb : c.code = b_Rec_readValue) (hml : c.maxLocals = 4) (hown : s.vm.findClass R_Rec = some m.cls) (hT : ∀ w ∈ TG, w.before args s = true) (hK : va_K (dC, dI) CL (TY cI cB cJ cZ) s) (hN : NW s) (hA : ∀ q : Nat, s.heap.size ≤ q → A q) (hRc : cells ≤ R.cells) (hRs : slots ≤ R.slots) (hRf : 7 ≤ R.frames) (hRl : 264 ≤ R.locals) (hNN : 152 ≤ NN) (hE : CE E tM tC kK kV A s) (hret : ∀ (r : Int64) (x : St) (H : Heap) (locs : List Loc) (pc : Nat) (ls : Array Slot), decode b_Rec_readValue pc = .ok (.lreturn, 1) → post r x → Wd dC dI cI cB cJ cZ ad stC kcC NN A x H → va_S A s.heap H locs → W p l e R s m args below meth c H locs cells slots Q (F0 m pc ls [.long r]))  : ∀ (o : Nat) (l1 : Int32) (x : St) (H : Heap) (locs : List Loc) (ls : Array Slot), (o < NN ∧ kcC o = 4) → j_Rec_readValue_94 post o l1 x → Wd dC dI cI cB cJ cZ ad stC kcC NN A x H → va_S A s.heap H locs → lv_has ls 4 [(0, .ref (ad o)), (1, .int l1)] → W p l e R s m args below meth c H locs cells slots Q (F0 m 94 ls []) := by
  intro o l1 x H locs ls fo hw hW hS hl
  unfold j_Rec_readValue_94 at hw
  refine lv_iload_n hx hb d_Rec_readValue_94 rfl (lv_at hl 1 rfl) ?_
  refine lv_iconst (v := 3) hx hb d_Rec_readValue_95 (by decide) ?_
  refine lv_icmp_eq (tgt := 134) hx hb d_Rec_readValue_96 (by decide) (fun c3092 => ?_) (fun c3092 => ?_)
  · have hw := hw.1 c3092
    exact t_Rec_readValue_134 hx hb hml hown hT hK hN hA hRc hRs hRf hRl hNN hE hret  o l1 x H locs ls fo hw hW hS (lv_sub hl [0, 1] rfl)
  · have hw := hw.2 c3092
    refine lv_aload_n hx hb d_Rec_readValue_99 rfl (lv_at hl 0 rfl) ?_
    obtain ⟨q3093, hq3093, hw⟩ := hw
    refine w_getr (q := q3093) (k := 13) (t := 4) (C := R_Rec) (T := F_Rec) (N := 15) hx hb hT hown hK hW fo.1 fo.2 (by decide) in_Rec rfl rfl (by decide) rfl fr_Rec_13 w_2_8 d_Rec_readValue_100 hq3093 (fun aq3093 bq3093 => ?_)
    have fq3093 : q3093 < NN ∧ kcC q3093 = 2 := ⟨aq3093, bq3093⟩
    have hF := hW.free hS hA
    refine va_calli (va_runV (C := R_Scn) (As := []) (rest := []) ⟨hx, hb, hml, hown, hT⟩ (k_Scn_atNumber l dC dI cI cB cJ cZ ad NN E tM tC kK kV hNN H.size q3093 x fq3093 hw) ⟨callB_of 0 hT (gw_in w_5_91) rfl rfl rfl (hT _ w_1_4) (hT _ w_5_88) (by decide +kernel) ⟨Nat.le_trans (by decide) hRf, Nat.le_trans (by decide) hRl⟩, hT _ w_5_89, hT _ w_5_90⟩ ⟨PV.blind, va_recv hK hW.1 (ci := 2) (q0 := q3093) rfl (pic_obj fq3093.1 fq3093.2 (by decide)), PV.at _ hW hK hN hE hS hF⟩ rfl rfl hl.1 rfl (lv_room (Nat.le_of_ble_eq_true rfl)) d_Rec_readValue_103 ⟨hRc, hRs⟩) hS (fun q _ h => hF q h) hF (fun r3095 x3094 t H locs ht hvm hw hB hz1 hk1 hS => ?_)
    have hW := Wd.back hB ht hF
    clear hB ht hF hz1 hk1 hvm
    refine lv_if_eq (tgt := 134) hx hb d_Rec_readValue_106 (by decide) (fun c3096 => ?_) (fun c3096 => ?_)
    · have hw := hw.1 c3096
      exact t_Rec_readValue_134 hx hb hml hown hT hK hN hA hRc hRs hRf hRl hNN hE hret  o l1 x3094 H locs ls fo hw hW hS (lv_sub hl [0, 1] rfl)
    · have hw := hw.2 c3096
      refine lv_aload_n hx hb d_Rec_readValue_109 rfl (lv_at hl 0 rfl) ?_
      obtain ⟨q3097, hq3097, hw⟩ := hw
      refine w_getr (q := q3097) (k := 13) (t := 4) (C := R_Rec) (T := F_Rec) (N := 15) hx hb hT hown hK hW fo.1 fo.2 (by decide) in_Rec rfl rfl (by decide) rfl fr_Rec_13 w_2_8 d_Rec_readValue_110 hq3097 (fun aq3097 bq3097 => ?_)
      have fq3097 : q3097 < NN ∧ kcC q3097 = 2 := ⟨aq3097, bq3097⟩
      refine lv_iload_n hx hb d_Rec_readValue_113 rfl (lv_at hl 1 rfl) ?_
      refine lv_iconst (v := 2) hx hb d_Rec_readValue_114 (by decide) ?_
      refine lv_icmp_ne (tgt := 122) hx hb d_Rec_readValue_115 (by decide) (fun c3098 => ?_) (fun c3098 => ?_)
      · have hw := hw.1 c3098
        refine lv_iconst (v := 0) hx hb d_Rec_readValue_122 (by decide) ?_
        exact t_Rec_readValue_123 hx hb hml hown hT hK hN hA hRc hRs hRf hRl hNN hE hret  o l1 0 q3097 x3094 H locs ls fo fq3097 hw hW hS (lv_sub hl [0, 1] rfl)
      · have hw := hw.2 c3098
        refine lv_iconst (v := 1) hx hb d_Rec_readValue_118 (by decide) ?_
        refine lv_goto (tgt := 123) hx hb d_Rec_readValue_119 (by decide) ?_
        exact t_Rec_readValue_123 hx hb hml hown hT hK hN hA hRc hRs hRf hRl hNN hE hret  o l1 1 q3097 x3094 H locs ls fo fq3097 hw hW hS (lv_sub hl [0, 1] rfl)
set_option maxRecDepth 100000 in
def wp_Rec_readValue (post : Int64 → St → Prop) (o : Nat) (l1 : Int32) (x : St) : Prop := ((¬ l1 = 0 → ((¬ l1 = 3 → j_Rec_readValue_94 post o l1 x) ∧ (l1 = 3 → (∃ q3101 : Nat, fR x o 13 = some q3101 ∧ wp_Scn_next (fun (r3103 : Int32) (x3102 : St) => ((¬ r3103 = 39 → j_Rec_readValue_94 post o l1 x3102) ∧ (r3103 = 39 → (∃ q3105 : Nat, fR x3102 o 13 = some q3105 ∧ wp_Scn_readQuoted (fun (x3106 : St) => (∃ q3107 : Nat, fR x3106 o 13 = some q3107 ∧ wp_V_reference (fun (r3109 : Int64) (x3108 : St) => (∃ q3110 : Nat, fR x3108 o 13 = some q3110 ∧ (∀ x3111 : St, x3111 = setI x3108 o 4 ((fI x3108 o 4) + (fI x3108 q3110 7)) → post r3109 x3111))) (fI x3106 o 4) (fI x3106 q3107 7) x3106)) q3105 (stC o 12) (fI x3102 o 4) x3102)))) q3101 x)))) ∧ (l1 = 0 → (∃ q3112 : Nat, fR x o 13 = some q3112 ∧ wp_Scn_takeWord (fun (r3114 : Int32) (x3113 : St) => ((r3114 = 0 → (∃ q3116 : Nat, fR x3113 o 13 = some q3116 ∧ wp_Scn_needWord (fun (x3117 : St) => post 0 x3117) q3116 9 x3113)) ∧ (¬ r3114 = 0 → post 1 x3113))) q3112 8 x)))
set_option maxHeartbeats 4000000 in
set_option maxRecDepth 100000 in
theorem t_Rec_readValue_e {p : Program} {l : Launch} {e : Env} {R : Room} {s : State} {m : MethodId} {args : Array Value} {below : List Frame} {meth : Method} {c : Code} {cells slots : Nat} {Q : State → Prop} {dC : Nat → ClassId} {dI : Nat → Nat → Nat} {cI cB cJ cZ : ClassId} {A : Nat → Prop} {ad : Nat → Nat} {NN : Nat} {E : Heap} {tM tC : Nat} {kK kV : Nat → Nat} {post : Int64 → St → Prop} (hx : p.tables.exec = Jvm.exec) (hb : c.code = b_Rec_readValue) (hml : c.maxLocals = 4) (hown : s.vm.findClass R_Rec = some m.cls) (hT : ∀ w ∈ TG, w.before args s = true) (hK : va_K (dC, dI) CL (TY cI cB cJ cZ) s) (hN : NW s) (hA : ∀ q : Nat, s.heap.size ≤ q → A q) (hRc : cells ≤ R.cells) (hRs : slots ≤ R.slots) (hRf : 7 ≤ R.frames) (hRl : 264 ≤ R.locals) (hNN : 152 ≤ NN) (hE : CE E tM tC kK kV A s) (hret : ∀ (r : Int64) (x : St) (H : Heap) (locs : List Loc) (pc : Nat) (ls : Array Slot), decode b_Rec_readValue pc = .ok (.lreturn, 1) → post r x → Wd dC dI cI cB cJ cZ ad stC kcC NN A x H → va_S A s.heap H locs → W p l e R s m args below meth c H locs cells slots Q (F0 m pc ls [.long r])) : ∀ (o : Nat) (l1 : Int32) (x : St) (H : Heap) (locs : List Loc) (ls : Array Slot), (o < NN ∧ kcC o = 4) → wp_Rec_readValue post o l1 x → Wd dC dI cI cB cJ cZ ad stC kcC NN A x H → va_S A s.heap H locs → lv_has ls 4 [(0, .ref (ad o)), (1, .int l1)] → W p l e R s m args below meth c H locs cells slots Q (F0 m 0 ls []) := by
  intro o l1 x H locs ls fo hw hW hS hl
  unfold wp_Rec_readValue at hw
  refine lv_iload_n hx hb d_Rec_readValue_0 rfl (lv_at hl 1 rfl) ?_
  refine lv_if_ne (tgt := 29) hx hb d_Rec_readValue_1 (by decide) (fun c3099 => ?_) (fun c3099 => ?_)
  · have hw := hw.1 c3099
    refine lv_iload_n hx hb d_Rec_readValue_29 rfl (lv_at hl 1 rfl) ?_
    refine lv_iconst (v := 3) hx hb d_Rec_readValue_30 (by decide) ?_
    refine lv_icmp_ne (tgt := 94) hx hb d_Rec_readValue_31 (by decide) (fun c3100 => ?_) (fun c3100 => ?_)
    · have hw := hw.1 c3100
      exact t_Rec_readValue_94 hx hb hml hown hT hK hN hA hRc hRs hRf hRl hNN hE hret  o l1 x H locs ls fo hw hW hS (lv_sub hl [0, 1] rfl)
    · have hw := hw.2 c3100
      refine lv_aload_n hx hb d_Rec_readValue_34 rfl (lv_at hl 0 rfl) ?_
      obtain ⟨q3101, hq3101, hw⟩ := hw
      refine w_getr (q := q3101) (k := 13) (t := 4) (C := R_Rec) (T := F_Rec) (N := 15) hx hb hT hown hK hW fo.1 fo.2 (by decide) in_Rec rfl rfl (by decide) rfl fr_Rec_13 w_2_8 d_Rec_readValue_35 hq3101 (fun aq3101 bq3101 => ?_)
      have fq3101 : q3101 < NN ∧ kcC q3101 = 2 := ⟨aq3101, bq3101⟩
      have hF := hW.free hS hA
      refine va_calli (va_runV (C := R_Scn) (As := []) (rest := []) ⟨hx, hb, hml, hown, hT⟩ (k_Scn_next l dC dI cI cB cJ cZ ad NN E tM tC kK kV hNN H.size q3101 x fq3101 hw) ⟨callB_of 0 hT (gw_in w_4_110) rfl rfl rfl (hT _ w_1_4) (hT _ w_5_32) (by decide +kernel) ⟨Nat.le_trans (by decide) hRf, Nat.le_trans (by decide) hRl⟩, hT _ w_4_108, hT _ w_4_109⟩ ⟨PV.blind, va_recv hK hW.1 (ci := 2) (q0 := q3101) rfl (pic_obj fq3101.1 fq3101.2 (by decide)), PV.at _ hW hK hN hE hS hF⟩ rfl rfl hl.1 rfl (lv_room (Nat.le_of_ble_eq_true rfl)) d_Rec_readValue_38 ⟨hRc, hRs⟩) hS (fun q _ h => hF q h) hF (fun r3103 x3102 t H locs ht hvm hw hB hz1 hk1 hS => ?_)
      have hW := Wd.back hB ht hF
      clear hB ht hF hz1 hk1 hvm
      refine lv_bipush (v := 39) hx hb d_Rec_readValue_41 (by decide) ?_
      refine lv_icmp_ne (tgt := 94) hx hb d_Rec_readValue_43 (by decide) (fun c3104 => ?_) (fun c3104 => ?_)
      · have hw := hw.1 c3104
        exact t_Rec_readValue_94 hx hb hml hown hT hK hN hA hRc hRs hRf hRl hNN hE hret  o l1 x3102 H locs ls fo hw hW hS (lv_sub hl [0, 1] rfl)
      · have hw := hw.2 c3104
        refine lv_aload_n hx hb d_Rec_readValue_46 rfl (lv_at hl 0 rfl) ?_
        obtain ⟨q3105, hq3105, hw⟩ := hw
        refine w_getr (q := q3105) (k := 13) (t := 4) (C := R_Rec) (T := F_Rec) (N := 15) hx hb hT hown hK hW fo.1 fo.2 (by decide) in_Rec rfl rfl (by decide) rfl fr_Rec_13 w_2_8 d_Rec_readValue_47 hq3105 (fun aq3105 bq3105 => ?_)
        have fq3105 : q3105 < NN ∧ kcC q3105 = 2 := ⟨aq3105, bq3105⟩
        refine lv_aload_n hx hb d_Rec_readValue_50 rfl (lv_at hl 0 rfl) ?_
        refine w_getf (q := (stC o 12)) (k := 12) (t := 4) (C := R_Rec) (T := F_Rec) (N := 15) hx hb hT hown hK hW fo.1 fo.2 (by decide) in_Rec rfl rfl (by decide) rfl fr_Rec_12 w_2_6 d_Rec_readValue_51 rfl ?_
        refine lv_aload_n hx hb d_Rec_readValue_54 rfl (lv_at hl 0 rfl) ?_
        refine w_geti (k := 4) (t := 4) (C := R_Rec) (T := F_Rec) (N := 15) hx hb hT hown hK hW fo.1 fo.2 (by decide) in_Rec rfl rfl (by decide) rfl fr_Rec_4 w_1_233 d_Rec_readValue_55 ?_
        have hF := hW.free hS hA
        refine va_callv (va_runV (C := R_Scn) (As := [.ref (ad (stC o 12)), .int (fI x3102 o 4)]) (rest := []) ⟨hx, hb, hml, hown, hT⟩ (k_Scn_readQuoted l dC dI cI cB cJ cZ ad NN E tM tC kK kV hNN H.size q3105 (stC o 12) (fI x3102 o 4) x3102 fq3105 (st_ty hNN fo.1 fo.2 rfl) hw) ⟨callB_of 2 hT (gw_in w_5_71) rfl rfl rfl (hT _ w_1_4) (hT _ w_5_68) (by decide +kernel) ⟨Nat.le_trans (by decide) hRf, Nat.le_trans (by decide) hRl⟩, hT _ w_5_69, hT _ w_5_70⟩ ⟨PV.blind, va_recv hK hW.1 (ci := 2) (q0 := q3105) rfl (pic_obj fq3105.1 fq3105.2 (by decide)), PV.at _ hW hK hN hE hS hF⟩ rfl rfl hl.1 rfl (lv_room (Nat.le_of_ble_eq_true rfl)) d_Rec_readValue_58 ⟨hRc, hRs⟩) hS (fun q _ h => hF q h) hF (fun  x3106 t H locs ht hvm hw hB hz1 hk1 hS => ?_)
        have hW := Wd.back hB ht hF
        clear hB ht hF hz1 hk1 hvm
        refine lv_aload_n hx hb d_Rec_readValue_61 rfl (lv_at hl 0 rfl) ?_
        refine w_geti (k := 4) (t := 4) (C := R_Rec) (T := F_Rec) (N := 15) hx hb hT hown hK hW fo.1 fo.2 (by decide) in_Rec rfl rfl (by decide) rfl fr_Rec_4 w_1_233 d_Rec_readValue_62 ?_
        refine lv_aload_n hx hb d_Rec_readValue_65 rfl (lv_at hl 0 rfl) ?_
        obtain ⟨q3107, hq3107, hw⟩ := hw
        refine w_getr (q := q3107) (k := 13) (t := 4) (C := R_Rec) (T := F_Rec) (N := 15) hx hb hT hown hK hW fo.1 fo.2 (by decide) in_Rec rfl rfl (by decide) rfl fr_Rec_13 w_2_8 d_Rec_readValue_66 hq3107 (fun aq3107 bq3107 => ?_)
        have fq3107 : q3107 < NN ∧ kcC q3107 = 2 := ⟨aq3107, bq3107⟩
        refine w_geti (k := 7) (t := 2) (C := R_Scn) (T := F_Scn) (N := 8) hx hb hT hown hK hW fq3107.1 fq3107.2 (by decide) in_Scn rfl rfl (by decide) rfl fr_Scn_7 w_1_104 d_Rec_readValue_69 ?_
        have hF := hW.free hS hA
        refine va_calll (va_runSN (As := [.int (fI x3106 o 4), .int (fI x3106 q3107 7)]) (rest := []) ⟨hx, hb, hml, hown, hT⟩ (k_V_reference l dC dI cI cB cJ cZ ad NN E tM tC kK kV hNN H.size (fI x3106 o 4) (fI x3106 q3107 7) x3106  hw) ⟨va_cnB 2 hT (gw_in w_5_86) rfl rfl rfl (hN _ wn_5_84 rfl) (hT _ w_1_1) (by decide +kernel) ⟨Nat.le_trans (by decide) hRf, Nat.le_trans (by decide) hRl⟩, hT _ w_5_85, trivial⟩ ⟨PV.blind, PV.at _ hW hK hN hE hS hF⟩ rfl rfl hl.1 rfl (lv_room (Nat.le_of_ble_eq_true rfl)) d_Rec_readValue_72 ⟨hRc, hRs⟩) hS (fun q _ h => hF q h) hF (fun r3109 x3108 t H locs ht hvm hw hB hz1 hk1 hS => ?_)
        have hW := Wd.back hB ht hF
        clear hB ht hF hz1 hk1 hvm
        refine lv_lstore_n (lv' := [(2, .long r3109), (0, .ref (ad o)), (1, .int l1)]) hx hb d_Rec_readValue_75 rfl hl (by decide) rfl (fun ls hl => ?_)
        refine lv_aload_n hx hb d_Rec_readValue_76 rfl (lv_at hl 1 rfl) ?_
        refine lv_dup hx hb d_Rec_readValue_77 rfl ?_
        refine w_geti (k := 4) (t := 4) (C := R_Rec) (T := F_Rec) (N := 15) hx hb hT hown hK hW fo.1 fo.2 (by decide) in_Rec rfl rfl (by decide) rfl fr_Rec_4 w_1_233 d_Rec_readValue_78 ?_
        refine lv_aload_n hx hb d_Rec_readValue_81 rfl (lv_at hl 1 rfl) ?_
        obtain ⟨q3110, hq3110, hw⟩ := hw
        refine w_getr (q := q3110) (k := 13) (t := 4) (C := R_Rec) (T := F_Rec) (N := 15) hx hb hT hown hK hW fo.1 fo.2 (by decide) in_Rec rfl rfl (by decide) rfl fr_Rec_13 w_2_8 d_Rec_readValue_82 hq3110 (fun aq3110 bq3110 => ?_)
        have fq3110 : q3110 < NN ∧ kcC q3110 = 2 := ⟨aq3110, bq3110⟩
        refine w_geti (k := 7) (t := 2) (C := R_Scn) (T := F_Scn) (N := 8) hx hb hT hown hK hW fq3110.1 fq3110.2 (by decide) in_Scn rfl rfl (by decide) rfl fr_Scn_7 w_1_104 d_Rec_readValue_85 ?_
        refine lv_iadd hx hb d_Rec_readValue_88 ?_
        refine w_puti (ty := .int) (k := 4) (t := 4) (C := R_Rec) (T := F_Rec) (N := 15) hx hb hT hown hK hW hS fo.1 fo.2 (by decide) in_Rec t_Rec t_Rec_ok n_Rec rfl rfl (by decide) rfl fr_Rec_4 w_1_233 (by decide +kernel) rfl rfl d_Rec_readValue_89 (fun H locs hW hS => ?_)
        obtain ⟨x3111, ex3111⟩ : ∃ y : St, y = setI x3108 o 4 ((fI x3108 o 4) + (fI x3108 q3110 7)) := ⟨_, rfl⟩
        rw [← ex3111] at hW
        have hw := hw x3111 ex3111
        refine lv_lload_n hx hb d_Rec_readValue_92 rfl (lv_at hl 0 rfl) ?_
        exact hret r3109 x3111 H locs 93 ls d_Rec_readValue_93 hw hW hS
  · have hw := hw.2 c3099
    refine lv_aload_n hx hb d_Rec_readValue_4 rfl (lv_at hl 0 rfl) ?_
    obtain ⟨q3112, hq3112, hw⟩ := hw
    refine w_getr (q := q3112) (k := 13) (t := 4) (C := R_Rec) (T := F_Rec) (N := 15) hx hb hT hown hK hW fo.1 fo.2 (by decide) in_Rec rfl rfl (by decide) rfl fr_Rec_13 w_2_8 d_Rec_readValue_5 hq3112 (fun aq3112 bq3112 => ?_)
    have fq3112 : q3112 < NN ∧ kcC q3112 = 2 := ⟨aq3112, bq3112⟩
    refine va_ldcS hx hb hown (hE.str 8 (by decide)) d_Rec_readValue_8 ?_
    have hF := hW.free hS hA
    refine va_calli (va_runV (C := R_Scn) (As := [.ref (kK 8)]) (rest := []) ⟨hx, hb, hml, hown, hT⟩ (k_Scn_takeWord l dC dI cI cB cJ cZ ad NN E tM tC kK kV hNN H.size q3112 8 x fq3112 (by decide) hw) ⟨callB_of 1 hT (gw_in w_4_141) rfl rfl rfl (hT _ w_1_4) (hT _ w_5_65) (by decide +kernel) ⟨Nat.le_trans (by decide) hRf, Nat.le_trans (by decide) hRl⟩, hT _ w_4_139, hT _ w_4_140⟩ ⟨PV.blind, va_recv hK hW.1 (ci := 2) (q0 := q3112) rfl (pic_obj fq3112.1 fq3112.2 (by decide)), PV.at _ hW hK hN hE hS hF⟩ rfl rfl hl.1 rfl (lv_room (Nat.le_of_ble_eq_true rfl)) d_Rec_readValue_10 ⟨hRc, hRs⟩) hS (fun q _ h => hF q h) hF (fun r3114 x3113 t H locs ht hvm hw hB hz1 hk1 hS => ?_)
    have hW := Wd.back hB ht hF
    clear hB ht hF hz1 hk1 hvm
    refine lv_if_eq (tgt := 18) hx hb d_Rec_readValue_13 (by decide) (fun c3115 => ?_) (fun c3115 => ?_)
    · have hw := hw.1 c3115
      refine lv_aload_n hx hb d_Rec_readValue_18 rfl (lv_at hl 0 rfl) ?_
      obtain ⟨q3116, hq3116, hw⟩ := hw
      refine w_getr (q := q3116) (k := 13) (t := 4) (C := R_Rec) (T := F_Rec) (N := 15) hx hb hT hown hK hW fo.1 fo.2 (by decide) in_Rec rfl rfl (by decide) rfl fr_Rec_13 w_2_8 d_Rec_readValue_19 hq3116 (fun aq3116 bq3116 => ?_)
      have fq3116 : q3116 < NN ∧ kcC q3116 = 2 := ⟨aq3116, bq3116⟩
      refine va_ldcS hx hb hown (hE.str 9 (by decide)) d_Rec_readValue_22 ?_
      have hF := hW.free hS hA
      refine va_callv (va_runV (C := R_Scn) (As := [.ref (kK 9)]) (rest := []) ⟨hx, hb, hml, hown, hT⟩ (k_Scn_needWord l dC dI cI cB cJ cZ ad NN E tM tC kK kV hNN H.size q3116 9 x3113 fq3116 (by decide) hw) ⟨callB_of 1 hT (gw_in w_4_209) rfl rfl rfl (hT _ w_1_4) (hT _ w_5_67) (by decide +kernel) ⟨Nat.le_trans (by decide) hRf, Nat.le_trans (by decide) hRl⟩, hT _ w_4_207, hT _ w_4_208⟩ ⟨PV.blind, va_recv hK hW.1 (ci := 2) (q0 := q3116) rfl (pic_obj fq3116.1 fq3116.2 (by decide)), PV.at _ hW hK hN hE hS hF⟩ rfl rfl hl.1 rfl (lv_room (Nat.le_of_ble_eq_true rfl)) d_Rec_readValue_24 ⟨hRc, hRs⟩) hS (fun q _ h => hF q h) hF (fun  x3117 t H locs ht hvm hw hB hz1 hk1 hS => ?_)
      have hW := Wd.back hB ht hF
      clear hB ht hF hz1 hk1 hvm
      refine lv_lconst (v := 0) hx hb d_Rec_readValue_27 (by decide) ?_
      exact hret 0 x3117 H locs 28 ls d_Rec_readValue_28 hw hW hS
    · have hw := hw.2 c3115
      refine lv_lconst (v := 1) hx hb d_Rec_readValue_16 (by decide) ?_
      exact hret 1 x3113 H locs 17 ls d_Rec_readValue_17 hw hW hS
set_option maxHeartbeats 4000000 in
set_option maxRecDepth 100000 in
theorem k_Rec_readValue (l : Launch) (dC : Nat → ClassId) (dI : Nat → Nat → Nat) (cI cB cJ cZ : ClassId) (ad : Nat → Nat) (NN : Nat) (E : Heap) (tM tC : Nat) (kK kV : Nat → Nat) (hNN : 152 ≤ NN) (sz : Nat) (o : Nat) (l1 : Int32) (x : St) (fo : o < NN ∧ kcC o = 4) {post : Int64 → St → Prop} (hw : wp_Rec_readValue post o l1 x) : Met l y_Rec_readValue (wsOf y_Rec_readValue b_Rec_readValue 4 (some (.long))) ({ frames := 7, cells := 0, slots := 0, locals := 264 }) (va_Pc [.ref (ad o), .int l1] (PV dC dI cI cB cJ cZ ad stC kcC NN E tM tC kK kV sz x)) (va_Ql (fun (r : Int64) (y : St) => post r y) (fun y t => Wd dC dI cI cB cJ cZ ad stC kcC NN (va_A (pic ad stC kcC NN cI cB cJ cZ x) sz) y t.heap) (va_A (pic ad stC kcC NN cI cB cJ cZ x) sz)) 0 0 (va_A (pic ad stC kcC NN cI cB cJ cZ x) sz) := by
  refine Met.ofW (cc := b_Rec_readValue) (maxL := 4) (ret := some (.long)) (by decide) rfl ?_
  intro p e s m args below meth c s₁ B hml hv
  obtain ⟨rfl, ⟨hsz, hW0, hK, hN⟩, hE⟩ := hv
  have hx := B.exec
  have hb := B.bytes
  have hr := B.returns
  have hts := atoms_spec B.pre
  have hT : ∀ w ∈ TG, w.before _ s = true := fun w h => hts w (List.mem_cons_of_mem _ h)
  have hown : s.vm.findClass R_Rec = some m.cls := findClass_of_methodNamed B.named
  have hlocks := B.notSynchronized
  subst hsz
  have hW : Wd dC dI cI cB cJ cZ ad stC kcC NN (va_A (pic ad stC kcC NN cI cB cJ cZ x) s.heap.size) x s.heap := ⟨hW0.1, hW0.2.1.self (sz := s.heap.size), hW0.2.2⟩
  generalize hAe : va_A (pic ad stC kcC NN cI cB cJ cZ x) s.heap.size = A at hW hE ⊢
  have hA : ∀ q : Nat, s.heap.size ≤ q → A q := fun q h => by rw [← hAe]; exact Or.inr h
  have hS : va_S A s.heap s.heap [] := va_S.rf
  have hl := lv_entry ([.ref (ad o), .int l1]) (n := 4) (Nat.le_of_ble_eq_true rfl)
  rw [lg_entry_eq]
  generalize (lg_sl ([.ref (ad o), .int l1]) ++ List.replicate (4 - (lg_sl ([.ref (ad o), .int l1])).length) Slot.unset).toArray = ls at hl ⊢
  have hl : lv_has ls 4 [(0, .ref (ad o)), (1, .int l1)] := hl
  exact t_Rec_readValue_e hx hb hml hown hT hK hN hA (Nat.le_refl 0) (Nat.le_refl 0) (Nat.le_refl 7) (Nat.le_refl 264) hNN hE (fun r x H locs pc ls hd hp hW hS => W.lret (v := r) hx hb hr (fun t ht hM => ⟨⟨r, x, rfl, hp, Wd.back hW ht.symm (fun _ z => z)⟩, hS.F ht⟩) hS.2.2 hd hlocks)  o l1 x _ _ ls fo hw hW hS hl
set_option maxRecDepth 100000 in
def j_Rec_readGroup_234 (post : St → Prop) (self_Rec_readGroup : (St → Prop) → Nat → Int32 → Int32 → Int32 → St → Prop) (self_Rec_readOne : (St → Prop) → Nat → Int32 → Int32 → Int32 → St → Prop) (self_Rec_readValues : (St → Prop) → Nat → Int32 → Int32 → Int32 → St → Prop) (o : Nat) (l1 : Int32) (l2 : Int32) (l3 : Int32) (l4 : Int32) (l5 : Int32) (l6 : Int32) (l7 : Int32) (x : St) : Prop := (∃ q3118 : Nat, fR x o 13 = some q3118 ∧ wp_Scn_needSign (fun (x3119 : St) => (∃ q3120 : Nat, fR x3119 o 13 = some q3120 ∧ wp_Scn_good (fun (r3122 : Int32) (x3121 : St) => ((r3122 = 0 → post x3121) ∧ (¬ r3122 = 0 → wp_Rec_enterMissing (fun (x3124 : St) => post x3124) o l4 l5 l2 l1 x3121))) q3120 x3119)) q3118 125 x)
set_option maxHeartbeats 4000000 in
set_option maxRecDepth 100000 in
theorem t_Rec_readGroup_234 {p : Program} {l : Launch} {e : Env} {R : Room} {s : State} {m : MethodId} {args : Array Value} {below : List Frame} {meth : Method} {c : Code} {cells slots : Nat} {Q : State → Prop} {dC : Nat → ClassId} {dI : Nat → Nat → Nat} {cI cB cJ cZ : ClassId} {A : Nat → Prop} {ad : Nat → Nat} {NN : Nat} {E : Heap} {tM tC : Nat} {kK kV : Nat → Nat} {post : St → Prop} {self_Rec_readGroup : (St → Prop) → Nat → Int32 → Int32 → Int32 → St → Prop} {self_Rec_readOne : (St → Prop) → Nat → Int32 → Int32 → Int32 → St → Prop} {self_Rec_readValues : (St → Prop) → Nat → Int32 → Int32 → Int32 → St → Prop} {fd ld : Nat} (hx : p.tables.exec = Jvm.exec) (hb : c.code = b_Rec_readGroup) (hml : c.maxLocals = 9) (hown : s.vm.findClass R_Rec = some m.cls) (hT : ∀ w ∈ TG, w.before args s = true) (hK : va_K (dC, dI) CL (TY cI cB cJ cZ) s) (hN : NW s) (hA : ∀ q : Nat, s.heap.size ≤ q → A q) (hRc : cells ≤ R.cells) (hRs : slots ≤ R.slots) (hRf : 8 ≤ R.frames) (hRl : 287 ≤ R.locals) (hNN : 152 ≤ NN) (hE : CE E tM tC kK kV A s) (hret : ∀ (x : St) (H : Heap) (locs : List Loc) (pc : Nat) (ls : Array Slot), decode b_Rec_readGroup pc = .ok (.return_, 1) → post x → Wd dC dI cI cB cJ cZ ad stC kcC NN A x H → va_S A s.heap H locs → W p l e R s m args below meth c H locs cells slots Q (F0 m pc ls [])) (hs_Rec_readGroup : ∀ (sz : Nat) (o : Nat) (l1 : Int32) (l2 : Int32) (l3 : Int32) (x : St), (o < NN ∧ kcC o = 4) → ∀ (post : St → Prop), self_Rec_readGroup post o l1 l2 l3 x → Met l y_Rec_readGroup (wsOf y_Rec_readGroup b_Rec_readGroup 9 (none)) ({ frames := fd, cells := 0, slots := 0, locals := ld }) (va_Pc [.ref (ad o), .int l1, .int l2, .int l3] (PV dC dI cI cB cJ cZ ad stC kcC NN E tM tC kK kV sz x)) (va_Qv (fun (y : St) => post y) (fun y t => Wd dC dI cI cB cJ cZ ad stC kcC NN (va_A (pic ad stC kcC NN cI cB cJ cZ x) sz) y t.heap) (va_A (pic ad stC kcC NN cI cB cJ cZ x) sz)) 0 0 (va_A (pic ad stC kcC NN cI cB cJ cZ x) sz)) (hs_Rec_readOne : ∀ (sz : Nat) (o : Nat) (l1 : Int32) (l2 : Int32) (l3 : Int32) (x : St), (o < NN ∧ kcC o = 4) → ∀ (post : St → Prop), self_Rec_readOne post o l1 l2 l3 x → Met l y_Rec_readOne (wsOf y_Rec_readOne b_Rec_readOne 6 (none)) ({ frames := fd, cells := 0, slots := 0, locals := ld }) (va_Pc [.ref (ad o), .int l1, .int l2, .int l3] (PV dC dI cI cB cJ cZ ad stC kcC NN E tM tC kK kV sz x)) (va_Qv (fun (y : St) => post y) (fun y t => Wd dC dI cI cB cJ cZ ad stC kcC NN (va_A (pic ad stC kcC NN cI cB cJ cZ x) sz) y t.heap) (va_A (pic ad stC kcC NN cI cB cJ cZ x) sz)) 0 0 (va_A (pic ad stC kcC NN cI cB cJ cZ x) sz)) (hs_Rec_readValues : ∀ (sz : Nat) (o : Nat) (l1 : Int32) (l2 : Int32) (l3 : Int32) (x : St), (o < NN ∧ kcC o = 4) → ∀ (post : St → Prop), self_Rec_readValues post o l1 l2 l3 x → Met l y_Rec_readValues (wsOf y_Rec_readValues b_Rec_readValues 7 (none)) ({ frames := fd, cells := 0, slots := 0, locals := ld }) (va_Pc [.ref (ad o), .int l1, .int l2, .int l3] (PV dC dI cI cB cJ cZ ad stC kcC NN E tM tC kK kV sz x)) (va_Qv (fun (y : St) => post y) (fun y t => Wd dC dI cI cB cJ cZ ad stC kcC NN (va_A (pic ad stC kcC NN cI cB cJ cZ x) sz) y t.heap) (va_A (pic ad stC kcC NN cI cB cJ cZ x) sz)) 0 0 (va_A (pic ad stC kcC NN cI cB cJ cZ x) sz)) (hDf : fd + 1 ≤ R.frames) (hDl : 28 + ld ≤ R.locals)  : ∀ (o : Nat) (l1 : Int32) (l2 : Int32) (l3 : Int32) (l4 : Int32) (l5 : Int32) (l6 : Int32) (l7 : Int32) (x : St) (H : Heap) (locs : List Loc) (ls : Array Slot), (o < NN ∧ kcC o = 4) → j_Rec_readGroup_234 post self_Rec_readGroup self_Rec_readOne self_Rec_readValues o l1 l2 l3 l4 l5 l6 l7 x → Wd dC dI cI cB cJ cZ ad stC kcC NN A x H → va_S A s.heap H locs → lv_has ls 9 [(0, .ref (ad o)), (1, .int l1), (2, .int l2), (3, .int l3), (4, .int l4), (5, .int l5), (6, .int l6), (7, .int l7)] → W p l e R s m args below meth c H locs cells slots Q (F0 m 234 ls []) := by
  intro o l1 l2 l3 l4 l5 l6 l7 x H locs ls fo hw hW hS hl
  unfold j_Rec_readGroup_234 at hw
  refine lv_aload_n hx hb d_Rec_readGroup_234 rfl (lv_at hl 0 rfl) ?_
  obtain ⟨q3118, hq3118, hw⟩ := hw
  refine w_getr (q := q3118) (k := 13) (t := 4) (C := R_Rec) (T := F_Rec) (N := 15) hx hb hT hown hK hW fo.1 fo.2 (by decide) in_Rec rfl rfl (by decide) rfl fr_Rec_13 w_2_8 d_Rec_readGroup_235 hq3118 (fun aq3118 bq3118 => ?_)
  have fq3118 : q3118 < NN ∧ kcC q3118 = 2 := ⟨aq3118, bq3118⟩
  refine lv_bipush (v := 125) hx hb d_Rec_readGroup_238 (by decide) ?_
  have hF := hW.free hS hA
  refine va_callv (va_runV (C := R_Scn) (As := [.int 125]) (rest := []) ⟨hx, hb, hml, hown, hT⟩ (k_Scn_needSign l dC dI cI cB cJ cZ ad NN E tM tC kK kV hNN H.size q3118 125 x fq3118 hw) ⟨callB_of 1 hT (gw_in w_4_118) rfl rfl rfl (hT _ w_1_4) (hT _ w_5_28) (by decide +kernel) ⟨Nat.le_trans (by decide) hRf, Nat.le_trans (by decide) hRl⟩, hT _ w_4_116, hT _ w_4_117⟩ ⟨PV.blind, va_recv hK hW.1 (ci := 2) (q0 := q3118) rfl (pic_obj fq3118.1 fq3118.2 (by decide)), PV.at _ hW hK hN hE hS hF⟩ rfl rfl hl.1 rfl (lv_room (Nat.le_of_ble_eq_true rfl)) d_Rec_readGroup_240 ⟨hRc, hRs⟩) hS (fun q _ h => hF q h) hF (fun  x3119 t H locs ht hvm hw hB hz1 hk1 hS => ?_)
  have hW := Wd.back hB ht hF
  clear hB ht hF hz1 hk1 hvm
  refine lv_aload_n hx hb d_Rec_readGroup_243 rfl (lv_at hl 0 rfl) ?_
  obtain ⟨q3120, hq3120, hw⟩ := hw
  refine w_getr (q := q3120) (k := 13) (t := 4) (C := R_Rec) (T := F_Rec) (N := 15) hx hb hT hown hK hW fo.1 fo.2 (by decide) in_Rec rfl rfl (by decide) rfl fr_Rec_13 w_2_8 d_Rec_readGroup_244 hq3120 (fun aq3120 bq3120 => ?_)
  have fq3120 : q3120 < NN ∧ kcC q3120 = 2 := ⟨aq3120, bq3120⟩
  have hF := hW.free hS hA
  refine va_calli (va_runV (C := R_Scn) (As := []) (rest := []) ⟨hx, hb, hml, hown, hT⟩ (k_Scn_good l dC dI cI cB cJ cZ ad NN E tM tC kK kV hNN H.size q3120 x3119 fq3120 hw) ⟨callB_of 0 hT (gw_in w_4_106) rfl rfl rfl (hT _ w_1_4) (hT _ w_5_31) (by decide +kernel) ⟨Nat.le_trans (by decide) hRf, Nat.le_trans (by decide) hRl⟩, hT _ w_4_104, hT _ w_4_105⟩ ⟨PV.blind, va_recv hK hW.1 (ci := 2) (q0 := q3120) rfl (pic_obj fq3120.1 fq3120.2 (by decide)), PV.at _ hW hK hN hE hS hF⟩ rfl rfl hl.1 rfl (lv_room (Nat.le_of_ble_eq_true rfl)) d_Rec_readGroup_247 ⟨hRc, hRs⟩) hS (fun q _ h => hF q h) hF (fun r3122 x3121 t H locs ht hvm hw hB hz1 hk1 hS => ?_)
  have hW := Wd.back hB ht hF
  clear hB ht hF hz1 hk1 hvm
  refine lv_if_eq (tgt := 263) hx hb d_Rec_readGroup_250 (by decide) (fun c3123 => ?_) (fun c3123 => ?_)
  · have hw := hw.1 c3123
    exact hret x3121 H locs 263 ls d_Rec_readGroup_263 hw hW hS
  · have hw := hw.2 c3123
    refine lv_aload_n hx hb d_Rec_readGroup_253 rfl (lv_at hl 0 rfl) ?_
    refine lv_iload hx hb d_Rec_readGroup_254 (lv_at hl 4 rfl) ?_
    refine lv_iload hx hb d_Rec_readGroup_256 (lv_at hl 5 rfl) ?_
    refine lv_iload_n hx hb d_Rec_readGroup_258 rfl (lv_at hl 2 rfl) ?_
    refine lv_iload_n hx hb d_Rec_readGroup_259 rfl (lv_at hl 1 rfl) ?_
    have hF := hW.free hS hA
    refine va_callv (va_runV (C := R_Rec) (As := [.int l4, .int l5, .int l2, .int l1]) (rest := []) ⟨hx, hb, hml, hown, hT⟩ (k_Rec_enterMissing l dC dI cI cB cJ cZ ad NN E tM tC kK kV hNN H.size o l4 l5 l2 l1 x3121 fo hw) ⟨callB_of 4 hT (gw_in w_5_42) rfl rfl rfl (hT _ w_1_6) (hT _ w_5_39) (by decide +kernel) ⟨Nat.le_trans (by decide) hRf, Nat.le_trans (by decide) hRl⟩, hT _ w_5_41, hT _ ws_8⟩ ⟨PV.blind, va_recv hK hW.1 (ci := 4) (q0 := o) rfl (pic_obj fo.1 fo.2 (by decide)), PV.at _ hW hK hN hE hS hF⟩ rfl rfl hl.1 rfl (lv_room (Nat.le_of_ble_eq_true rfl)) d_Rec_readGroup_260 ⟨hRc, hRs⟩) hS (fun q _ h => hF q h) hF (fun  x3124 t H locs ht hvm hw hB hz1 hk1 hS => ?_)
    have hW := Wd.back hB ht hF
    clear hB ht hF hz1 hk1 hvm
    exact hret x3124 H locs 263 ls d_Rec_readGroup_263 hw hW hS
set_option maxRecDepth 100000 in
def j_Rec_readGroup_190 (post : St → Prop) (self_Rec_readGroup : (St → Prop) → Nat → Int32 → Int32 → Int32 → St → Prop) (self_Rec_readOne : (St → Prop) → Nat → Int32 → Int32 → Int32 → St → Prop) (self_Rec_readValues : (St → Prop) → Nat → Int32 → Int32 → Int32 → St → Prop) (o : Nat) (l1 : Int32) (l2 : Int32) (l3 : Int32) (l4 : Int32) (l5 : Int32) (l6 : Int32) (l7 : Int32) (x : St) : Prop := (∃ q3125 : Nat, fR x o 13 = some q3125 ∧ wp_Scn_good (fun (r3127 : Int32) (x3126 : St) => ((r3127 = 0 → j_Rec_readGroup_234 post self_Rec_readGroup self_Rec_readOne self_Rec_readValues o l1 l2 l3 l4 l5 l6 l7 x3126) ∧ (¬ r3127 = 0 → wp_Rec_someRequired (fun (r3130 : Int32) (x3129 : St) => ((r3130 = 0 → j_Rec_readGroup_234 post self_Rec_readGroup self_Rec_readOne self_Rec_readValues o l1 l2 l3 l4 l5 l6 l7 x3129) ∧ (¬ r3130 = 0 → (∃ q3132 : Nat, fR x3129 o 13 = some q3132 ∧ wp_Scn_next (fun (r3134 : Int32) (x3133 : St) => (∃ q3135 : Nat, fR x3133 o 13 = some q3135 ∧ (∃ q3136 : Nat, fR x3133 o 13 = some q3136 ∧ wp_Scn_refuse (fun (x3137 : St) => j_Rec_readGroup_234 post self_Rec_readGroup self_Rec_readOne self_Rec_readValues o l1 l2 l3 l4 l5 l6 l7 x3137) q3135 (fI x3133 q3136 2) x3133))) q3132 x3129)))) o l4 l5 l1 x3126))) q3125 x)
set_option maxHeartbeats 4000000 in
set_option maxRecDepth 100000 in
theorem t_Rec_readGroup_190 {p : Program} {l : Launch} {e : Env} {R : Room} {s : State} {m : MethodId} {args : Array Value} {below : List Frame} {meth : Method} {c : Code} {cells slots : Nat} {Q : State → Prop} {dC : Nat → ClassId} {dI : Nat → Nat → Nat} {cI cB cJ cZ : ClassId} {A : Nat → Prop} {ad : Nat → Nat} {NN : Nat} {E : Heap} {tM tC : Nat} {kK kV : Nat → Nat} {post : St → Prop} {self_Rec_readGroup : (St → Prop) → Nat → Int32 → Int32 → Int32 → St → Prop} {self_Rec_readOne : (St → Prop) → Nat → Int32 → Int32 → Int32 → St → Prop} {self_Rec_readValues : (St → Prop) → Nat → Int32 → Int32 → Int32 → St → Prop} {fd ld : Nat} (hx : p.tables.exec = Jvm.exec) (hb : c.code = b_Rec_readGroup) (hml : c.maxLocals = 9) (hown : s.vm.findClass R_Rec = some m.cls) (hT : ∀ w ∈ TG, w.before args s = true) (hK : va_K (dC, dI) CL (TY cI cB cJ cZ) s) (hN : NW s) (hA : ∀ q : Nat, s.heap.size ≤ q → A q) (hRc : cells ≤ R.cells) (hRs : slots ≤ R.slots) (hRf : 8 ≤ R.frames) (hRl : 287 ≤ R.locals) (hNN : 152 ≤ NN) (hE : CE E tM tC kK kV A s) (hret : ∀ (x : St) (H : Heap) (locs : List Loc) (pc : Nat) (ls : Array Slot), decode b_Rec_readGroup pc = .ok (.return_, 1) → post x → Wd dC dI cI cB cJ cZ ad stC kcC NN A x H → va_S A s.heap H locs → W p l e R s m args below meth c H locs cells slots Q (F0 m pc ls [])) (hs_Rec_readGroup : ∀ (sz : Nat) (o : Nat) (l1 : Int32) (l2 : Int32) (l3 : Int32) (x : St), (o < NN ∧ kcC o = 4) → ∀ (post : St → Prop), self_Rec_readGroup post o l1 l2 l3 x → Met l y_Rec_readGroup (wsOf y_Rec_readGroup b_Rec_readGroup 9 (none)) ({ frames := fd, cells := 0, slots := 0, locals := ld }) (va_Pc [.ref (ad o), .int l1, .int l2, .int l3] (PV dC dI cI cB cJ cZ ad stC kcC NN E tM tC kK kV sz x)) (va_Qv (fun (y : St) => post y) (fun y t => Wd dC dI cI cB cJ cZ ad stC kcC NN (va_A (pic ad stC kcC NN cI cB cJ cZ x) sz) y t.heap) (va_A (pic ad stC kcC NN cI cB cJ cZ x) sz)) 0 0 (va_A (pic ad stC kcC NN cI cB cJ cZ x) sz)) (hs_Rec_readOne : ∀ (sz : Nat) (o : Nat) (l1 : Int32) (l2 : Int32) (l3 : Int32) (x : St), (o < NN ∧ kcC o = 4) → ∀ (post : St → Prop), self_Rec_readOne post o l1 l2 l3 x → Met l y_Rec_readOne (wsOf y_Rec_readOne b_Rec_readOne 6 (none)) ({ frames := fd, cells := 0, slots := 0, locals := ld }) (va_Pc [.ref (ad o), .int l1, .int l2, .int l3] (PV dC dI cI cB cJ cZ ad stC kcC NN E tM tC kK kV sz x)) (va_Qv (fun (y : St) => post y) (fun y t => Wd dC dI cI cB cJ cZ ad stC kcC NN (va_A (pic ad stC kcC NN cI cB cJ cZ x) sz) y t.heap) (va_A (pic ad stC kcC NN cI cB cJ cZ x) sz)) 0 0 (va_A (pic ad stC kcC NN cI cB cJ cZ x) sz)) (hs_Rec_readValues : ∀ (sz : Nat) (o : Nat) (l1 : Int32) (l2 : Int32) (l3 : Int32) (x : St), (o < NN ∧ kcC o = 4) → ∀ (post : St → Prop), self_Rec_readValues post o l1 l2 l3 x → Met l y_Rec_readValues (wsOf y_Rec_readValues b_Rec_readValues 7 (none)) ({ frames := fd, cells := 0, slots := 0, locals := ld }) (va_Pc [.ref (ad o), .int l1, .int l2, .int l3] (PV dC dI cI cB cJ cZ ad stC kcC NN E tM tC kK kV sz x)) (va_Qv (fun (y : St) => post y) (fun y t => Wd dC dI cI cB cJ cZ ad stC kcC NN (va_A (pic ad stC kcC NN cI cB cJ cZ x) sz) y t.heap) (va_A (pic ad stC kcC NN cI cB cJ cZ x) sz)) 0 0 (va_A (pic ad stC kcC NN cI cB cJ cZ x) sz)) (hDf : fd + 1 ≤ R.frames) (hDl : 28 + ld ≤ R.locals)  : ∀ (o : Nat) (l1 : Int32) (l2 : Int32) (l3 : Int32) (l4 : Int32) (l5 : Int32) (l6 : Int32) (l7 : Int32) (x : St) (H : Heap) (locs : List Loc) (ls : Array Slot), (o < NN ∧ kcC o = 4) → j_Rec_readGroup_190 post self_Rec_readGroup self_Rec_readOne self_Rec_readValues o l1 l2 l3 l4 l5 l6 l7 x → Wd dC dI cI cB cJ cZ ad stC kcC NN A x H → va_S A s.heap H locs → lv_has ls 9 [(0, .ref (ad o)), (1, .int l1), (2, .int l2), (3, .int l3), (4, .int l4), (5, .int l5), (6, .int l6), (7, .int l7)] → W p l e R s m args below meth c H locs cells slots Q (F0 m 190 ls []) := by
  intro o l1 l2 l3 l4 l5 l6 l7 x H locs ls fo hw hW hS hl
  unfold j_Rec_readGroup_190 at hw
  refine lv_aload_n hx hb d_Rec_readGroup_190 rfl (lv_at hl 0 rfl) ?_
  obtain ⟨q3125, hq3125, hw⟩ := hw
  refine w_getr (q := q3125) (k := 13) (t := 4) (C := R_Rec) (T := F_Rec) (N := 15) hx hb hT hown hK hW fo.1 fo.2 (by decide) in_Rec rfl rfl (by decide) rfl fr_Rec_13 w_2_8 d_Rec_readGroup_191 hq3125 (fun aq3125 bq3125 => ?_)
  have fq3125 : q3125 < NN ∧ kcC q3125 = 2 := ⟨aq3125, bq3125⟩
  have hF := hW.free hS hA
  refine va_calli (va_runV (C := R_Scn) (As := []) (rest := []) ⟨hx, hb, hml, hown, hT⟩ (k_Scn_good l dC dI cI cB cJ cZ ad NN E tM tC kK kV hNN H.size q3125 x fq3125 hw) ⟨callB_of 0 hT (gw_in w_4_106) rfl rfl rfl (hT _ w_1_4) (hT _ w_5_31) (by decide +kernel) ⟨Nat.le_trans (by decide) hRf, Nat.le_trans (by decide) hRl⟩, hT _ w_4_104, hT _ w_4_105⟩ ⟨PV.blind, va_recv hK hW.1 (ci := 2) (q0 := q3125) rfl (pic_obj fq3125.1 fq3125.2 (by decide)), PV.at _ hW hK hN hE hS hF⟩ rfl rfl hl.1 rfl (lv_room (Nat.le_of_ble_eq_true rfl)) d_Rec_readGroup_194 ⟨hRc, hRs⟩) hS (fun q _ h => hF q h) hF (fun r3127 x3126 t H locs ht hvm hw hB hz1 hk1 hS => ?_)
  have hW := Wd.back hB ht hF
  clear hB ht hF hz1 hk1 hvm
  refine lv_if_eq (tgt := 234) hx hb d_Rec_readGroup_197 (by decide) (fun c3128 => ?_) (fun c3128 => ?_)
  · have hw := hw.1 c3128
    exact t_Rec_readGroup_234 hx hb hml hown hT hK hN hA hRc hRs hRf hRl hNN hE hret hs_Rec_readGroup hs_Rec_readOne hs_Rec_readValues hDf hDl  o l1 l2 l3 l4 l5 l6 l7 x3126 H locs ls fo hw hW hS (lv_sub hl [0, 1, 2, 3, 4, 5, 6, 7] rfl)
  · have hw := hw.2 c3128
    refine lv_aload_n hx hb d_Rec_readGroup_200 rfl (lv_at hl 0 rfl) ?_
    refine lv_iload hx hb d_Rec_readGroup_201 (lv_at hl 4 rfl) ?_
    refine lv_iload hx hb d_Rec_readGroup_203 (lv_at hl 5 rfl) ?_
    refine lv_iload_n hx hb d_Rec_readGroup_205 rfl (lv_at hl 1 rfl) ?_
    have hF := hW.free hS hA
    refine va_calli (va_runV (C := R_Rec) (As := [.int l4, .int l5, .int l1]) (rest := []) ⟨hx, hb, hml, hown, hT⟩ (k_Rec_someRequired l dC dI cI cB cJ cZ ad NN E tM tC kK kV hNN H.size o l4 l5 l1 x3126 fo hw) ⟨callB_of 3 hT (gw_in w_5_109) rfl rfl rfl (hT _ w_1_6) (hT _ w_5_106) (by decide +kernel) ⟨Nat.le_trans (by decide) hRf, Nat.le_trans (by decide) hRl⟩, hT _ w_5_108, hT _ ws_16⟩ ⟨PV.blind, va_recv hK hW.1 (ci := 4) (q0 := o) rfl (pic_obj fo.1 fo.2 (by decide)), PV.at _ hW hK hN hE hS hF⟩ rfl rfl hl.1 rfl (lv_room (Nat.le_of_ble_eq_true rfl)) d_Rec_readGroup_206 ⟨hRc, hRs⟩) hS (fun q _ h => hF q h) hF (fun r3130 x3129 t H locs ht hvm hw hB hz1 hk1 hS => ?_)
    have hW := Wd.back hB ht hF
    clear hB ht hF hz1 hk1 hvm
    refine lv_if_eq (tgt := 234) hx hb d_Rec_readGroup_209 (by decide) (fun c3131 => ?_) (fun c3131 => ?_)
    · have hw := hw.1 c3131
      exact t_Rec_readGroup_234 hx hb hml hown hT hK hN hA hRc hRs hRf hRl hNN hE hret hs_Rec_readGroup hs_Rec_readOne hs_Rec_readValues hDf hDl  o l1 l2 l3 l4 l5 l6 l7 x3129 H locs ls fo hw hW hS (lv_sub hl [0, 1, 2, 3, 4, 5, 6, 7] rfl)
    · have hw := hw.2 c3131
      refine lv_aload_n hx hb d_Rec_readGroup_212 rfl (lv_at hl 0 rfl) ?_
      obtain ⟨q3132, hq3132, hw⟩ := hw
      refine w_getr (q := q3132) (k := 13) (t := 4) (C := R_Rec) (T := F_Rec) (N := 15) hx hb hT hown hK hW fo.1 fo.2 (by decide) in_Rec rfl rfl (by decide) rfl fr_Rec_13 w_2_8 d_Rec_readGroup_213 hq3132 (fun aq3132 bq3132 => ?_)
      have fq3132 : q3132 < NN ∧ kcC q3132 = 2 := ⟨aq3132, bq3132⟩
      have hF := hW.free hS hA
      refine va_calli (va_runV (C := R_Scn) (As := []) (rest := []) ⟨hx, hb, hml, hown, hT⟩ (k_Scn_next l dC dI cI cB cJ cZ ad NN E tM tC kK kV hNN H.size q3132 x3129 fq3132 hw) ⟨callB_of 0 hT (gw_in w_4_110) rfl rfl rfl (hT _ w_1_4) (hT _ w_5_32) (by decide +kernel) ⟨Nat.le_trans (by decide) hRf, Nat.le_trans (by decide) hRl⟩, hT _ w_4_108, hT _ w_4_109⟩ ⟨PV.blind, va_recv hK hW.1 (ci := 2) (q0 := q3132) rfl (pic_obj fq3132.1 fq3132.2 (by decide)), PV.at _ hW hK hN hE hS hF⟩ rfl rfl hl.1 rfl (lv_room (Nat.le_of_ble_eq_true rfl)) d_Rec_readGroup_216 ⟨hRc, hRs⟩) hS (fun q _ h => hF q h) hF (fun r3134 x3133 t H locs ht hvm hw hB hz1 hk1 hS => ?_)
      have hW := Wd.back hB ht hF
      clear hB ht hF hz1 hk1 hvm
      refine lv_pop hx hb d_Rec_readGroup_219 rfl ?_
      refine lv_aload_n hx hb d_Rec_readGroup_220 rfl (lv_at hl 0 rfl) ?_
      obtain ⟨q3135, hq3135, hw⟩ := hw
      refine w_getr (q := q3135) (k := 13) (t := 4) (C := R_Rec) (T := F_Rec) (N := 15) hx hb hT hown hK hW fo.1 fo.2 (by decide) in_Rec rfl rfl (by decide) rfl fr_Rec_13 w_2_8 d_Rec_readGroup_221 hq3135 (fun aq3135 bq3135 => ?_)
      have fq3135 : q3135 < NN ∧ kcC q3135 = 2 := ⟨aq3135, bq3135⟩
      refine lv_aload_n hx hb d_Rec_readGroup_224 rfl (lv_at hl 0 rfl) ?_
      obtain ⟨q3136, hq3136, hw⟩ := hw
      refine w_getr (q := q3136) (k := 13) (t := 4) (C := R_Rec) (T := F_Rec) (N := 15) hx hb hT hown hK hW fo.1 fo.2 (by decide) in_Rec rfl rfl (by decide) rfl fr_Rec_13 w_2_8 d_Rec_readGroup_225 hq3136 (fun aq3136 bq3136 => ?_)
      have fq3136 : q3136 < NN ∧ kcC q3136 = 2 := ⟨aq3136, bq3136⟩
      refine w_geti (k := 2) (t := 2) (C := R_Scn) (T := F_Scn) (N := 8) hx hb hT hown hK hW fq3136.1 fq3136.2 (by decide) in_Scn rfl rfl (by decide) rfl fr_Scn_2 w_1_87 d_Rec_readGroup_228 ?_
      have hF := hW.free hS hA
      refine va_callv (va_runV (C := R_Scn) (As := [.int (fI x3133 q3136 2)]) (rest := []) ⟨hx, hb, hml, hown, hT⟩ (k_Scn_refuse l dC dI cI cB cJ cZ ad NN E tM tC kK kV hNN H.size q3135 (fI x3133 q3136 2) x3133 fq3135 hw) ⟨callB_of 1 hT (gw_in w_4_128) rfl rfl rfl (hT _ w_1_4) (hT _ w_5_27) (by decide +kernel) ⟨Nat.le_trans (by decide) hRf, Nat.le_trans (by decide) hRl⟩, hT _ w_4_126, hT _ w_4_127⟩ ⟨PV.blind, va_recv hK hW.1 (ci := 2) (q0 := q3135) rfl (pic_obj fq3135.1 fq3135.2 (by decide)), PV.at _ hW hK hN hE hS hF⟩ rfl rfl hl.1 rfl (lv_room (Nat.le_of_ble_eq_true rfl)) d_Rec_readGroup_231 ⟨hRc, hRs⟩) hS (fun q _ h => hF q h) hF (fun  x3137 t H locs ht hvm hw hB hz1 hk1 hS => ?_)
      have hW := Wd.back hB ht hF
      clear hB ht hF hz1 hk1 hvm
      exact t_Rec_readGroup_234 hx hb hml hown hT hK hN hA hRc hRs hRf hRl hNN hE hret hs_Rec_readGroup hs_Rec_readOne hs_Rec_readValues hDf hDl  o l1 l2 l3 l4 l5 l6 l7 x3137 H locs ls fo hw hW hS (lv_sub hl [0, 1, 2, 3, 4, 5, 6, 7] rfl)
set_option maxRecDepth 100000 in
def j_Rec_readGroup_182 (post : St → Prop) (self_Rec_readGroup : (St → Prop) → Nat → Int32 → Int32 → Int32 → St → Prop) (self_Rec_readOne : (St → Prop) → Nat → Int32 → Int32 → Int32 → St → Prop) (self_Rec_readValues : (St → Prop) → Nat → Int32 → Int32 → Int32 → St → Prop) (rec81 : Nat → Int32 → Int32 → Int32 → Int32 → Int32 → Int32 → Int32 → St → Prop) (o : Nat) (l1 : Int32) (l2 : Int32) (l3 : Int32) (l4 : Int32) (l5 : Int32) (l6 : Int32) (l7 : Int32) (l8 : Int32) (s0 : Int32) (x : St) : Prop := rec81 o l1 l2 l3 l4 l5 s0 (l7 + 1) x
set_option maxHeartbeats 4000000 in
set_option maxRecDepth 100000 in
theorem t_Rec_readGroup_182 {p : Program} {l : Launch} {e : Env} {R : Room} {s : State} {m : MethodId} {args : Array Value} {below : List Frame} {meth : Method} {c : Code} {cells slots : Nat} {Q : State → Prop} {dC : Nat → ClassId} {dI : Nat → Nat → Nat} {cI cB cJ cZ : ClassId} {A : Nat → Prop} {ad : Nat → Nat} {NN : Nat} {E : Heap} {tM tC : Nat} {kK kV : Nat → Nat} {post : St → Prop} {self_Rec_readGroup : (St → Prop) → Nat → Int32 → Int32 → Int32 → St → Prop} {self_Rec_readOne : (St → Prop) → Nat → Int32 → Int32 → Int32 → St → Prop} {self_Rec_readValues : (St → Prop) → Nat → Int32 → Int32 → Int32 → St → Prop} {fd ld : Nat} {rec81 : Nat → Int32 → Int32 → Int32 → Int32 → Int32 → Int32 → Int32 → St → Prop} (hx : p.tables.exec = Jvm.exec) (hb : c.code = b_Rec_readGroup) (hml : c.maxLocals = 9) (hown : s.vm.findClass R_Rec = some m.cls) (hT : ∀ w ∈ TG, w.before args s = true) (hK : va_K (dC, dI) CL (TY cI cB cJ cZ) s) (hN : NW s) (hA : ∀ q : Nat, s.heap.size ≤ q → A q) (hRc : cells ≤ R.cells) (hRs : slots ≤ R.slots) (hRf : 8 ≤ R.frames) (hRl : 287 ≤ R.locals) (hNN : 152 ≤ NN) (hE : CE E tM tC kK kV A s) (hret : ∀ (x : St) (H : Heap) (locs : List Loc) (pc : Nat) (ls : Array Slot), decode b_Rec_readGroup pc = .ok (.return_, 1) → post x → Wd dC dI cI cB cJ cZ ad stC kcC NN A x H → va_S A s.heap H locs → W p l e R s m args below meth c H locs cells slots Q (F0 m pc ls [])) (hs_Rec_readGroup : ∀ (sz : Nat) (o : Nat) (l1 : Int32) (l2 : Int32) (l3 : Int32) (x : St), (o < NN ∧ kcC o = 4) → ∀ (post : St → Prop), self_Rec_readGroup post o l1 l2 l3 x → Met l y_Rec_readGroup (wsOf y_Rec_readGroup b_Rec_readGroup 9 (none)) ({ frames := fd, cells := 0, slots := 0, locals := ld }) (va_Pc [.ref (ad o), .int l1, .int l2, .int l3] (PV dC dI cI cB cJ cZ ad stC kcC NN E tM tC kK kV sz x)) (va_Qv (fun (y : St) => post y) (fun y t => Wd dC dI cI cB cJ cZ ad stC kcC NN (va_A (pic ad stC kcC NN cI cB cJ cZ x) sz) y t.heap) (va_A (pic ad stC kcC NN cI cB cJ cZ x) sz)) 0 0 (va_A (pic ad stC kcC NN cI cB cJ cZ x) sz)) (hs_Rec_readOne : ∀ (sz : Nat) (o : Nat) (l1 : Int32) (l2 : Int32) (l3 : Int32) (x : St), (o < NN ∧ kcC o = 4) → ∀ (post : St → Prop), self_Rec_readOne post o l1 l2 l3 x → Met l y_Rec_readOne (wsOf y_Rec_readOne b_Rec_readOne 6 (none)) ({ frames := fd, cells := 0, slots := 0, locals := ld }) (va_Pc [.ref (ad o), .int l1, .int l2, .int l3] (PV dC dI cI cB cJ cZ ad stC kcC NN E tM tC kK kV sz x)) (va_Qv (fun (y : St) => post y) (fun y t => Wd dC dI cI cB cJ cZ ad stC kcC NN (va_A (pic ad stC kcC NN cI cB cJ cZ x) sz) y t.heap) (va_A (pic ad stC kcC NN cI cB cJ cZ x) sz)) 0 0 (va_A (pic ad stC kcC NN cI cB cJ cZ x) sz)) (hs_Rec_readValues : ∀ (sz : Nat) (o : Nat) (l1 : Int32) (l2 : Int32) (l3 : Int32) (x : St), (o < NN ∧ kcC o = 4) → ∀ (post : St → Prop), self_Rec_readValues post o l1 l2 l3 x → Met l y_Rec_readValues (wsOf y_Rec_readValues b_Rec_readValues 7 (none)) ({ frames := fd, cells := 0, slots := 0, locals := ld }) (va_Pc [.ref (ad o), .int l1, .int l2, .int l3] (PV dC dI cI cB cJ cZ ad stC kcC NN E tM tC kK kV sz x)) (va_Qv (fun (y : St) => post y) (fun y t => Wd dC dI cI cB cJ cZ ad stC kcC NN (va_A (pic ad stC kcC NN cI cB cJ cZ x) sz) y t.heap) (va_A (pic ad stC kcC NN cI cB cJ cZ x) sz)) 0 0 (va_A (pic ad stC kcC NN cI cB cJ cZ x) sz)) (hDf : fd + 1 ≤ R.frames) (hDl : 28 + ld ≤ R.locals) (hrec81 : ∀ (o : Nat) (l1 : Int32) (l2 : Int32) (l3 : Int32) (l4 : Int32) (l5 : Int32) (l6 : Int32) (l7 : Int32) (x : St) (H : Heap) (locs : List Loc) (ls : Array Slot), (o < NN ∧ kcC o = 4) → rec81 o l1 l2 l3 l4 l5 l6 l7 x → Wd dC dI cI cB cJ cZ ad stC kcC NN A x H → va_S A s.heap H locs → lv_has ls 9 [(0, .ref (ad o)), (1, .int l1), (2, .int l2), (3, .int l3), (4, .int l4), (5, .int l5), (6, .int l6), (7, .int l7)] → W p l e R s m args below meth c H locs cells slots Q (F0 m 81 ls [])) : ∀ (o : Nat) (l1 : Int32) (l2 : Int32) (l3 : Int32) (l4 : Int32) (l5 : Int32) (l6 : Int32) (l7 : Int32) (l8 : Int32) (s0 : Int32) (x : St) (H : Heap) (locs : List Loc) (ls : Array Slot), (o < NN ∧ kcC o = 4) → j_Rec_readGroup_182 post self_Rec_readGroup self_Rec_readOne self_Rec_readValues rec81 o l1 l2 l3 l4 l5 l6 l7 l8 s0 x → Wd dC dI cI cB cJ cZ ad stC kcC NN A x H → va_S A s.heap H locs → lv_has ls 9 [(0, .ref (ad o)), (1, .int l1), (2, .int l2), (3, .int l3), (4, .int l4), (5, .int l5), (6, .int l6), (7, .int l7), (8, .int l8)] → W p l e R s m args below meth c H locs cells slots Q (F0 m 182 ls [.int s0]) := by
  intro o l1 l2 l3 l4 l5 l6 l7 l8 s0 x H locs ls fo hw hW hS hl
  unfold j_Rec_readGroup_182 at hw
  refine lv_istore (lv' := [(6, .int s0), (0, .ref (ad o)), (1, .int l1), (2, .int l2), (3, .int l3), (4, .int l4), (5, .int l5), (7, .int l7), (8, .int l8)]) hx hb d_Rec_readGroup_182 hl (by decide) rfl (fun ls hl => ?_)
  refine lv_iinc (v := (l7 + 1)) (lv' := [(7, .int (l7 + 1)), (6, .int s0), (0, .ref (ad o)), (1, .int l1), (2, .int l2), (3, .int l3), (4, .int l4), (5, .int l5), (8, .int l8)]) hx hb d_Rec_readGroup_184 hl (k := 7) rfl rfl (by decide) rfl (fun ls hl => ?_)
  refine lv_goto (tgt := 81) hx hb d_Rec_readGroup_187 (by decide) ?_
  exact hrec81 o l1 l2 l3 l4 l5 s0 (l7 + 1) x H locs ls fo hw hW hS (lv_sub hl [2, 3, 4, 5, 6, 7, 1, 0] rfl)
set_option maxRecDepth 100000 in
def j_Rec_readGroup_181 (post : St → Prop) (self_Rec_readGroup : (St → Prop) → Nat → Int32 → Int32 → Int32 → St → Prop) (self_Rec_readOne : (St → Prop) → Nat → Int32 → Int32 → Int32 → St → Prop) (self_Rec_readValues : (St → Prop) → Nat → Int32 → Int32 → Int32 → St → Prop) (rec81 : Nat → Int32 → Int32 → Int32 → Int32 → Int32 → Int32 → Int32 → St → Prop) (o : Nat) (l1 : Int32) (l2 : Int32) (l3 : Int32) (l4 : Int32) (l5 : Int32) (l6 : Int32) (l7 : Int32) (l8 : Int32) (x : St) : Prop := j_Rec_readGroup_182 post self_Rec_readGroup self_Rec_readOne self_Rec_readValues rec81 o l1 l2 l3 l4 l5 l6 l7 l8 0 x
set_option maxHeartbeats 4000000 in
set_option maxRecDepth 100000 in
theorem t_Rec_readGroup_181 {p : Program} {l : Launch} {e : Env} {R : Room} {s : State} {m : MethodId} {args : Array Value} {below : List Frame} {meth : Method} {c : Code} {cells slots : Nat} {Q : State → Prop} {dC : Nat → ClassId} {dI : Nat → Nat → Nat} {cI cB cJ cZ : ClassId} {A : Nat → Prop} {ad : Nat → Nat} {NN : Nat} {E : Heap} {tM tC : Nat} {kK kV : Nat → Nat} {post : St → Prop} {self_Rec_readGroup : (St → Prop) → Nat → Int32 → Int32 → Int32 → St → Prop} {self_Rec_readOne : (St → Prop) → Nat → Int32 → Int32 → Int32 → St → Prop} {self_Rec_readValues : (St → Prop) → Nat → Int32 → Int32 → Int32 → St → Prop} {fd ld : Nat} {rec81 : Nat → Int32 → Int32 → Int32 → Int32 → Int32 → Int32 → Int32 → St → Prop} (hx : p.tables.exec = Jvm.exec) (hb : c.code = b_Rec_readGroup) (hml : c.maxLocals = 9) (hown : s.vm.findClass R_Rec = some m.cls) (hT : ∀ w ∈ TG, w.before args s = true) (hK : va_K (dC, dI) CL (TY cI cB cJ cZ) s) (hN : NW s) (hA : ∀ q : Nat, s.heap.size ≤ q → A q) (hRc : cells ≤ R.cells) (hRs : slots ≤ R.slots) (hRf : 8 ≤ R.frames) (hRl : 287 ≤ R.locals) (hNN : 152 ≤ NN) (hE : CE E tM tC kK kV A s) (hret : ∀ (x : St) (H : Heap) (locs : List Loc) (pc : Nat) (ls : Array Slot), decode b_Rec_readGroup pc = .ok (.return_, 1) → post x → Wd dC dI cI cB cJ cZ ad stC kcC NN A x H → va_S A s.heap H locs → W p l e R s m args below meth c H locs cells slots Q (F0 m pc ls [])) (hs_Rec_readGroup : ∀ (sz : Nat) (o : Nat) (l1 : Int32) (l2 : Int32) (l3 : Int32) (x : St), (o < NN ∧ kcC o = 4) → ∀ (post : St → Prop), self_Rec_readGroup post o l1 l2 l3 x → Met l y_Rec_readGroup (wsOf y_Rec_readGroup b_Rec_readGroup 9 (none)) ({ frames := fd, cells := 0, slots := 0, locals := ld }) (va_Pc [.ref (ad o), .int l1, .int l2, .int l3] (PV dC dI cI cB cJ cZ ad stC kcC NN E tM tC kK kV sz x)) (va_Qv (fun (y : St) => post y) (fun y t => Wd dC dI cI cB cJ cZ ad stC kcC NN (va_A (pic ad stC kcC NN cI cB cJ cZ x) sz) y t.heap) (va_A (pic ad stC kcC NN cI cB cJ cZ x) sz)) 0 0 (va_A (pic ad stC kcC NN cI cB cJ cZ x) sz)) (hs_Rec_readOne : ∀ (sz : Nat) (o : Nat) (l1 : Int32) (l2 : Int32) (l3 : Int32) (x : St), (o < NN ∧ kcC o = 4) → ∀ (post : St → Prop), self_Rec_readOne post o l1 l2 l3 x → Met l y_Rec_readOne (wsOf y_Rec_readOne b_Rec_readOne 6 (none)) ({ frames := fd, cells := 0, slots := 0, locals := ld }) (va_Pc [.ref (ad o), .int l1, .int l2, .int l3] (PV dC dI cI cB cJ cZ ad stC kcC NN E tM tC kK kV sz x)) (va_Qv (fun (y : St) => post y) (fun y t => Wd dC dI cI cB cJ cZ ad stC kcC NN (va_A (pic ad stC kcC NN cI cB cJ cZ x) sz) y t.heap) (va_A (pic ad stC kcC NN cI cB cJ cZ x) sz)) 0 0 (va_A (pic ad stC kcC NN cI cB cJ cZ x) sz)) (hs_Rec_readValues : ∀ (sz : Nat) (o : Nat) (l1 : Int32) (l2 : Int32) (l3 : Int32) (x : St), (o < NN ∧ kcC o = 4) → ∀ (post : St → Prop), self_Rec_readValues post o l1 l2 l3 x → Met l y_Rec_readValues (wsOf y_Rec_readValues b_Rec_readValues 7 (none)) ({ frames := fd, cells := 0, slots := 0, locals := ld }) (va_Pc [.ref (ad o), .int l1, .int l2, .int l3] (PV dC dI cI cB cJ cZ ad stC kcC NN E tM tC kK kV sz x)) (va_Qv (fun (y : St) => post y) (fun y t => Wd dC dI cI cB cJ cZ ad stC kcC NN (va_A (pic ad stC kcC NN cI cB cJ cZ x) sz) y t.heap) (va_A (pic ad stC kcC NN cI cB cJ cZ x) sz)) 0 0 (va_A (pic ad stC kcC NN cI cB cJ cZ x) sz)) (hDf : fd + 1 ≤ R.frames) (hDl : 28 + ld ≤ R.locals) (hrec81 : ∀ (o : Nat) (l1 : Int32) (l2 : Int32) (l3 : Int32) (l4 : Int32) (l5 : Int32) (l6 : Int32) (l7 : Int32) (x : St) (H : Heap) (locs : List Loc) (ls : Array Slot), (o < NN ∧ kcC o = 4) → rec81 o l1 l2 l3 l4 l5 l6 l7 x → Wd dC dI cI cB cJ cZ ad stC kcC NN A x H → va_S A s.heap H locs → lv_has ls 9 [(0, .ref (ad o)), (1, .int l1), (2, .int l2), (3, .int l3), (4, .int l4), (5, .int l5), (6, .int l6), (7, .int l7)] → W p l e R s m args below meth c H locs cells slots Q (F0 m 81 ls [])) : ∀ (o : Nat) (l1 : Int32) (l2 : Int32) (l3 : Int32) (l4 : Int32) (l5 : Int32) (l6 : Int32) (l7 : Int32) (l8 : Int32) (x : St) (H : Heap) (locs : List Loc) (ls : Array Slot), (o < NN ∧ kcC o = 4) → j_Rec_readGroup_181 post self_Rec_readGroup self_Rec_readOne self_Rec_readValues rec81 o l1 l2 l3 l4 l5 l6 l7 l8 x → Wd dC dI cI cB cJ cZ ad stC kcC NN A x H → va_S A s.heap H locs → lv_has ls 9 [(0, .ref (ad o)), (1, .int l1), (2, .int l2), (3, .int l3), (4, .int l4), (5, .int l5), (6, .int l6), (7, .int l7), (8, .int l8)] → W p l e R s m args below meth c H locs cells slots Q (F0 m 181 ls []) := by
  intro o l1 l2 l3 l4 l5 l6 l7 l8 x H locs ls fo hw hW hS hl
  unfold j_Rec_readGroup_181 at hw
  refine lv_iconst (v := 0) hx hb d_Rec_readGroup_181 (by decide) ?_
  exact t_Rec_readGroup_182 hx hb hml hown hT hK hN hA hRc hRs hRf hRl hNN hE hret hs_Rec_readGroup hs_Rec_readOne hs_Rec_readValues hDf hDl hrec81 o l1 l2 l3 l4 l5 l6 l7 l8 0 x H locs ls fo hw hW hS (lv_sub hl [0, 1, 2, 3, 4, 5, 6, 7, 8] rfl)
set_option maxRecDepth 100000 in
def j_Rec_readGroup_81 (post : St → Prop) (self_Rec_readGroup : (St → Prop) → Nat → Int32 → Int32 → Int32 → St → Prop) (self_Rec_readOne : (St → Prop) → Nat → Int32 → Int32 → Int32 → St → Prop) (self_Rec_readValues : (St → Prop) → Nat → Int32 → Int32 → Int32 → St → Prop) (rec81 : Nat → Int32 → Int32 → Int32 → Int32 → Int32 → Int32 → Int32 → St → Prop) (o : Nat) (l1 : Int32) (l2 : Int32) (l3 : Int32) (l4 : Int32) (l5 : Int32) (l6 : Int32) (l7 : Int32) (x : St) : Prop := ((128 < l7 → j_Rec_readGroup_190 post self_Rec_readGroup self_Rec_readOne self_Rec_readValues o l1 l2 l3 l4 l5 l6 l7 x) ∧ (¬ 128 < l7 → ((l6 = 0 → j_Rec_readGroup_190 post self_Rec_readGroup self_Rec_readOne self_Rec_readValues o l1 l2 l3 l4 l5 l6 l7 x) ∧ (¬ l6 = 0 → wp_Rec_readName (fun (r3141 : Int32) (x3140 : St) => (∃ q3142 : Nat, fR x3140 o 13 = some q3142 ∧ wp_Scn_needSign (fun (x3143 : St) => (∃ q3144 : Nat, fR x3143 o 13 = some q3144 ∧ wp_Scn_good (fun (r3146 : Int32) (x3145 : St) => ((¬ r3146 = 0 → wp_Rec_enterMissing (fun (x3148 : St) => self_Rec_readValues (fun (x3149 : St) => (∃ q3150 : Nat, fR x3149 o 14 = some q3150 ∧ (vp_in r3141 (fN x3149 (stC q3150 8)) ∧ (∀ v3151 : Int32, v3151 = (rA x3149 (stC q3150 8) r3141) → (∃ q3152 : Nat, fR x3149 o 13 = some q3152 ∧ wp_Scn_good (fun (r3154 : Int32) (x3153 : St) => ((r3154 = 0 → j_Rec_readGroup_181 post self_Rec_readGroup self_Rec_readOne self_Rec_readValues rec81 o l1 l2 l3 v3151 l5 l6 l7 r3141 x3153) ∧ (¬ r3154 = 0 → (∃ q3156 : Nat, fR x3153 o 13 = some q3156 ∧ wp_Scn_takeSign (fun (r3158 : Int32) (x3157 : St) => ((r3158 = 0 → j_Rec_readGroup_181 post self_Rec_readGroup self_Rec_readOne self_Rec_readValues rec81 o l1 l2 l3 v3151 l5 l6 l7 r3141 x3157) ∧ (¬ r3158 = 0 → j_Rec_readGroup_182 post self_Rec_readGroup self_Rec_readOne self_Rec_readValues rec81 o l1 l2 l3 v3151 l5 l6 l7 r3141 1 x3157))) q3156 44 x3153)))) q3152 x3149))))) o r3141 l2 l3 x3148) o l4 r3141 l2 l1 x3145) ∧ (r3146 = 0 → post x3145))) q3144 x3143)) q3142 58 x3140)) o l4 l5 l1 x))))
set_option maxHeartbeats 4000000 in
set_option maxRecDepth 100000 in
theorem t_Rec_readGroup_81 {p : Program} {l : Launch} {e : Env} {R : Room} {s : State} {m : MethodId} {args : Array Value} {below : List Frame} {meth : Method} {c : Code} {cells slots : Nat} {Q : State → Prop} {dC : Nat → ClassId} {dI : Nat → Nat → Nat} {cI cB cJ cZ : ClassId} {A : Nat → Prop} {ad : Nat → Nat} {NN : Nat} {E : Heap} {tM tC : Nat} {kK kV : Nat → Nat} {post : St → Prop} {self_Rec_readGroup : (St → Prop) → Nat → Int32 → Int32 → Int32 → St → Prop} {self_Rec_readOne : (St → Prop) → Nat → Int32 → Int32 → Int32 → St → Prop} {self_Rec_readValues : (St → Prop) → Nat → Int32 → Int32 → Int32 → St → Prop} {fd ld : Nat} {rec81 : Nat → Int32 → Int32 → Int32 → Int32 → Int32 → Int32 → Int32 → St → Prop} (hx : p.tables.exec = Jvm.exec) (hb : c.code = b_Rec_readGroup) (hml : c.maxLocals = 9) (hown : s.vm.findClass R_Rec = some m.cls) (hT : ∀ w ∈ TG, w.before args s = true) (hK : va_K (dC, dI) CL (TY cI cB cJ cZ) s) (hN : NW s) (hA : ∀ q : Nat, s.heap.size ≤ q → A q) (hRc : cells ≤ R.cells) (hRs : slots ≤ R.slots) (hRf : 8 ≤ R.frames) (hRl : 287 ≤ R.locals) (hNN : 152 ≤ NN) (hE : CE E tM tC kK kV A s) (hret : ∀ (x : St) (H : Heap) (locs : List Loc) (pc : Nat) (ls : Array Slot), decode b_Rec_readGroup pc = .ok (.return_, 1) → post x → Wd dC dI cI cB cJ cZ ad stC kcC NN A x H → va_S A s.heap H locs → W p l e R s m args below meth c H locs cells slots Q (F0 m pc ls [])) (hs_Rec_readGroup : ∀ (sz : Nat) (o : Nat) (l1 : Int32) (l2 : Int32) (l3 : Int32) (x : St), (o < NN ∧ kcC o = 4) → ∀ (post : St → Prop), self_Rec_readGroup post o l1 l2 l3 x → Met l y_Rec_readGroup (wsOf y_Rec_readGroup b_Rec_readGroup 9 (none)) ({ frames := fd, cells := 0, slots := 0, locals := ld }) (va_Pc [.ref (ad o), .int l1, .int l2, .int l3] (PV dC dI cI cB cJ cZ ad stC kcC NN E tM tC kK kV sz x)) (va_Qv (fun (y : St) => post y) (fun y t => Wd dC dI cI cB cJ cZ ad stC kcC NN (va_A (pic ad stC kcC NN cI cB cJ cZ x) sz) y t.heap) (va_A (pic ad stC kcC NN cI cB cJ cZ x) sz)) 0 0 (va_A (pic ad stC kcC NN cI cB cJ cZ x) sz)) (hs_Rec_readOne : ∀ (sz : Nat) (o : Nat) (l1 : Int32) (l2 : Int32) (l3 : Int32) (x : St), (o < NN ∧ kcC o = 4) → ∀ (post : St → Prop), self_Rec_readOne post o l1 l2 l3 x → Met l y_Rec_readOne (wsOf y_Rec_readOne b_Rec_readOne 6 (none)) ({ frames := fd, cells := 0, slots := 0, locals := ld }) (va_Pc [.ref (ad o), .int l1, .int l2, .int l3] (PV dC dI cI cB cJ cZ ad stC kcC NN E tM tC kK kV sz x)) (va_Qv (fun (y : St) => post y) (fun y t => Wd dC dI cI cB cJ cZ ad stC kcC NN (va_A (pic ad stC kcC NN cI cB cJ cZ x) sz) y t.heap) (va_A (pic ad stC kcC NN cI cB cJ cZ x) sz)) 0 0 (va_A (pic ad stC kcC NN cI cB cJ cZ x) sz)) (hs_Rec_readValues : ∀ (sz : Nat) (o : Nat) (l1 : Int32) (l2 : Int32) (l3 : Int32) (x : St), (o < NN ∧ kcC o = 4) → ∀ (post : St → Prop), self_Rec_readValues post o l1 l2 l3 x → Met l y_Rec_readValues (wsOf y_Rec_readValues b_Rec_readValues 7 (none)) ({ frames := fd, cells := 0, slots := 0, locals := ld }) (va_Pc [.ref (ad o), .int l1, .int l2, .int l3] (PV dC dI cI cB cJ cZ ad stC kcC NN E tM tC kK kV sz x)) (va_Qv (fun (y : St) => post y) (fun y t => Wd dC dI cI cB cJ cZ ad stC kcC NN (va_A (pic ad stC kcC NN cI cB cJ cZ x) sz) y t.heap) (va_A (pic ad stC kcC NN cI cB cJ cZ x) sz)) 0 0 (va_A (pic ad stC kcC NN cI cB cJ cZ x) sz)) (hDf : fd + 1 ≤ R.frames) (hDl : 28 + ld ≤ R.locals) (hrec81 : ∀ (o : Nat) (l1 : Int32) (l2 : Int32) (l3 : Int32) (l4 : Int32) (l5 : Int32) (l6 : Int32) (l7 : Int32) (x : St) (H : Heap) (locs : List Loc) (ls : Array Slot), (o < NN ∧ kcC o = 4) → rec81 o l1 l2 l3 l4 l5 l6 l7 x → Wd dC dI cI cB cJ cZ ad stC kcC NN A x H → va_S A s.heap H locs → lv_has ls 9 [(0, .ref (ad o)), (1, .int l1), (2, .int l2), (3, .int l3), (4, .int l4), (5, .int l5), (6, .int l6), (7, .int l7)] → W p l e R s m args below meth c H locs cells slots Q (F0 m 81 ls [])) : ∀ (o : Nat) (l1 : Int32) (l2 : Int32) (l3 : Int32) (l4 : Int32) (l5 : Int32) (l6 : Int32) (l7 : Int32) (x : St) (H : Heap) (locs : List Loc) (ls : Array Slot), (o < NN ∧ kcC o = 4) → j_Rec_readGroup_81 post self_Rec_readGroup self_Rec_readOne self_Rec_readValues rec81 o l1 l2 l3 l4 l5 l6 l7 x → Wd dC dI cI cB cJ cZ ad stC kcC NN A x H → va_S A s.heap H locs → lv_has ls 9 [(0, .ref (ad o)), (1, .int l1), (2, .int l2), (3, .int l3), (4, .int l4), (5, .int l5), (6, .int l6), (7, .int l7)] → W p l e R s m args below meth c H locs cells slots Q (F0 m 81 ls []) := by
  intro o l1 l2 l3 l4 l5 l6 l7 x H locs ls fo hw hW hS hl
  unfold j_Rec_readGroup_81 at hw
  refine lv_iload hx hb d_Rec_readGroup_81 (lv_at hl 7 rfl) ?_
  refine lv_sipush (v := 128) hx hb d_Rec_readGroup_83 (by decide) ?_
  refine lv_icmp_gt (tgt := 190) hx hb d_Rec_readGroup_86 (by decide) (fun c3138 => ?_) (fun c3138 => ?_)
  · have hw := hw.1 c3138
    exact t_Rec_readGroup_190 hx hb hml hown hT hK hN hA hRc hRs hRf hRl hNN hE hret hs_Rec_readGroup hs_Rec_readOne hs_Rec_readValues hDf hDl  o l1 l2 l3 l4 l5 l6 l7 x H locs ls fo hw hW hS (lv_sub hl [0, 1, 2, 3, 4, 5, 6, 7] rfl)
  · have hw := hw.2 c3138
    refine lv_iload hx hb d_Rec_readGroup_89 (lv_at hl 6 rfl) ?_
    refine lv_if_eq (tgt := 190) hx hb d_Rec_readGroup_91 (by decide) (fun c3139 => ?_) (fun c3139 => ?_)
    · have hw := hw.1 c3139
      exact t_Rec_readGroup_190 hx hb hml hown hT hK hN hA hRc hRs hRf hRl hNN hE hret hs_Rec_readGroup hs_Rec_readOne hs_Rec_readValues hDf hDl  o l1 l2 l3 l4 l5 l6 l7 x H locs ls fo hw hW hS (lv_sub hl [0, 1, 2, 3, 4, 5, 6, 7] rfl)
    · have hw := hw.2 c3139
      refine lv_aload_n hx hb d_Rec_readGroup_94 rfl (lv_at hl 0 rfl) ?_
      refine lv_iload hx hb d_Rec_readGroup_95 (lv_at hl 4 rfl) ?_
      refine lv_iload hx hb d_Rec_readGroup_97 (lv_at hl 5 rfl) ?_
      refine lv_iload_n hx hb d_Rec_readGroup_99 rfl (lv_at hl 1 rfl) ?_
      have hF := hW.free hS hA
      refine va_calli (va_runV (C := R_Rec) (As := [.int l4, .int l5, .int l1]) (rest := []) ⟨hx, hb, hml, hown, hT⟩ (k_Rec_readName l dC dI cI cB cJ cZ ad NN E tM tC kK kV hNN H.size o l4 l5 l1 x fo hw) ⟨callB_of 3 hT (gw_in w_5_36) rfl rfl rfl (hT _ w_1_6) (hT _ w_5_33) (by decide +kernel) ⟨Nat.le_trans (by decide) hRf, Nat.le_trans (by decide) hRl⟩, hT _ w_5_35, hT _ ws_7⟩ ⟨PV.blind, va_recv hK hW.1 (ci := 4) (q0 := o) rfl (pic_obj fo.1 fo.2 (by decide)), PV.at _ hW hK hN hE hS hF⟩ rfl rfl hl.1 rfl (lv_room (Nat.le_of_ble_eq_true rfl)) d_Rec_readGroup_100 ⟨hRc, hRs⟩) hS (fun q _ h => hF q h) hF (fun r3141 x3140 t H locs ht hvm hw hB hz1 hk1 hS => ?_)
      have hW := Wd.back hB ht hF
      clear hB ht hF hz1 hk1 hvm
      refine lv_istore (lv' := [(8, .int r3141), (0, .ref (ad o)), (1, .int l1), (2, .int l2), (3, .int l3), (4, .int l4), (5, .int l5), (6, .int l6), (7, .int l7)]) hx hb d_Rec_readGroup_103 hl (by decide) rfl (fun ls hl => ?_)
      refine lv_aload_n hx hb d_Rec_readGroup_105 rfl (lv_at hl 1 rfl) ?_
      obtain ⟨q3142, hq3142, hw⟩ := hw
      refine w_getr (q := q3142) (k := 13) (t := 4) (C := R_Rec) (T := F_Rec) (N := 15) hx hb hT hown hK hW fo.1 fo.2 (by decide) in_Rec rfl rfl (by decide) rfl fr_Rec_13 w_2_8 d_Rec_readGroup_106 hq3142 (fun aq3142 bq3142 => ?_)
      have fq3142 : q3142 < NN ∧ kcC q3142 = 2 := ⟨aq3142, bq3142⟩
      refine lv_bipush (v := 58) hx hb d_Rec_readGroup_109 (by decide) ?_
      have hF := hW.free hS hA
      refine va_callv (va_runV (C := R_Scn) (As := [.int 58]) (rest := []) ⟨hx, hb, hml, hown, hT⟩ (k_Scn_needSign l dC dI cI cB cJ cZ ad NN E tM tC kK kV hNN H.size q3142 58 x3140 fq3142 hw) ⟨callB_of 1 hT (gw_in w_4_118) rfl rfl rfl (hT _ w_1_4) (hT _ w_5_28) (by decide +kernel) ⟨Nat.le_trans (by decide) hRf, Nat.le_trans (by decide) hRl⟩, hT _ w_4_116, hT _ w_4_117⟩ ⟨PV.blind, va_recv hK hW.1 (ci := 2) (q0 := q3142) rfl (pic_obj fq3142.1 fq3142.2 (by decide)), PV.at _ hW hK hN hE hS hF⟩ rfl rfl hl.1 rfl (lv_room (Nat.le_of_ble_eq_true rfl)) d_Rec_readGroup_111 ⟨hRc, hRs⟩) hS (fun q _ h => hF q h) hF (fun  x3143 t H locs ht hvm hw hB hz1 hk1 hS => ?_)
      have hW := Wd.back hB ht hF
      clear hB ht hF hz1 hk1 hvm
      refine lv_aload_n hx hb d_Rec_readGroup_114 rfl (lv_at hl 1 rfl) ?_
      obtain ⟨q3144, hq3144, hw⟩ := hw
      refine w_getr (q := q3144) (k := 13) (t := 4) (C := R_Rec) (T := F_Rec) (N := 15) hx hb hT hown hK hW fo.1 fo.2 (by decide) in_Rec rfl rfl (by decide) rfl fr_Rec_13 w_2_8 d_Rec_readGroup_115 hq3144 (fun aq3144 bq3144 => ?_)
      have fq3144 : q3144 < NN ∧ kcC q3144 = 2 := ⟨aq3144, bq3144⟩
      have hF := hW.free hS hA
      refine va_calli (va_runV (C := R_Scn) (As := []) (rest := []) ⟨hx, hb, hml, hown, hT⟩ (k_Scn_good l dC dI cI cB cJ cZ ad NN E tM tC kK kV hNN H.size q3144 x3143 fq3144 hw) ⟨callB_of 0 hT (gw_in w_4_106) rfl rfl rfl (hT _ w_1_4) (hT _ w_5_31) (by decide +kernel) ⟨Nat.le_trans (by decide) hRf, Nat.le_trans (by decide) hRl⟩, hT _ w_4_104, hT _ w_4_105⟩ ⟨PV.blind, va_recv hK hW.1 (ci := 2) (q0 := q3144) rfl (pic_obj fq3144.1 fq3144.2 (by decide)), PV.at _ hW hK hN hE hS hF⟩ rfl rfl hl.1 rfl (lv_room (Nat.le_of_ble_eq_true rfl)) d_Rec_readGroup_118 ⟨hRc, hRs⟩) hS (fun q _ h => hF q h) hF (fun r3146 x3145 t H locs ht hvm hw hB hz1 hk1 hS => ?_)
      have hW := Wd.back hB ht hF
      clear hB ht hF hz1 hk1 hvm
      refine lv_if_ne (tgt := 125) hx hb d_Rec_readGroup_121 (by decide) (fun c3147 => ?_) (fun c3147 => ?_)
      · have hw := hw.1 c3147
        refine lv_aload_n hx hb d_Rec_readGroup_125 rfl (lv_at hl 1 rfl) ?_
        refine lv_iload hx hb d_Rec_readGroup_126 (lv_at hl 5 rfl) ?_
        refine lv_iload hx hb d_Rec_readGroup_128 (lv_at hl 0 rfl) ?_
        refine lv_iload_n hx hb d_Rec_readGroup_130 rfl (lv_at hl 3 rfl) ?_
        refine lv_iload_n hx hb d_Rec_readGroup_131 rfl (lv_at hl 2 rfl) ?_
        have hF := hW.free hS hA
        refine va_callv (va_runV (C := R_Rec) (As := [.int l4, .int r3141, .int l2, .int l1]) (rest := []) ⟨hx, hb, hml, hown, hT⟩ (k_Rec_enterMissing l dC dI cI cB cJ cZ ad NN E tM tC kK kV hNN H.size o l4 r3141 l2 l1 x3145 fo hw) ⟨callB_of 4 hT (gw_in w_5_42) rfl rfl rfl (hT _ w_1_6) (hT _ w_5_39) (by decide +kernel) ⟨Nat.le_trans (by decide) hRf, Nat.le_trans (by decide) hRl⟩, hT _ w_5_41, hT _ ws_8⟩ ⟨PV.blind, va_recv hK hW.1 (ci := 4) (q0 := o) rfl (pic_obj fo.1 fo.2 (by decide)), PV.at _ hW hK hN hE hS hF⟩ rfl rfl hl.1 rfl (lv_room (Nat.le_of_ble_eq_true rfl)) d_Rec_readGroup_132 ⟨hRc, hRs⟩) hS (fun q _ h => hF q h) hF (fun  x3148 t H locs ht hvm hw hB hz1 hk1 hS => ?_)
        have hW := Wd.back hB ht hF
        clear hB ht hF hz1 hk1 hvm
        refine lv_aload_n hx hb d_Rec_readGroup_135 rfl (lv_at hl 1 rfl) ?_
        refine lv_iload hx hb d_Rec_readGroup_136 (lv_at hl 0 rfl) ?_
        refine lv_iload_n hx hb d_Rec_readGroup_138 rfl (lv_at hl 3 rfl) ?_
        refine lv_iload_n hx hb d_Rec_readGroup_139 rfl (lv_at hl 4 rfl) ?_
        have hF := hW.free hS hA
        refine va_callv (va_runV (C := R_Rec) (As := [.int r3141, .int l2, .int l3]) (rest := []) ⟨hx, hb, hml, hown, hT⟩ (hs_Rec_readValues H.size o r3141 l2 l3 x3148 fo _ hw) ⟨callB_of 3 hT (gw_in w_5_55) rfl rfl rfl (hT _ w_1_6) (hT _ w_5_52) (by decide +kernel) ⟨hDf, Nat.le_trans (Nat.add_le_add_right (by decide) _) hDl⟩, hT _ w_5_54, hT _ ws_10⟩ ⟨PV.blind, va_recv hK hW.1 (ci := 4) (q0 := o) rfl (pic_obj fo.1 fo.2 (by decide)), PV.at _ hW hK hN hE hS hF⟩ rfl rfl hl.1 rfl (lv_room (Nat.le_of_ble_eq_true rfl)) d_Rec_readGroup_140 ⟨hRc, hRs⟩) hS (fun q _ h => hF q h) hF (fun  x3149 t H locs ht hvm hw hB hz1 hk1 hS => ?_)
        have hW := Wd.back hB ht hF
        clear hB ht hF hz1 hk1 hvm
        refine lv_aload_n hx hb d_Rec_readGroup_143 rfl (lv_at hl 1 rfl) ?_
        obtain ⟨q3150, hq3150, hw⟩ := hw
        refine w_getr (q := q3150) (k := 14) (t := 4) (C := R_Rec) (T := F_Rec) (N := 15) hx hb hT hown hK hW fo.1 fo.2 (by decide) in_Rec rfl rfl (by decide) rfl fr_Rec_14 w_2_9 d_Rec_readGroup_144 hq3150 (fun aq3150 bq3150 => ?_)
        have fq3150 : q3150 < NN ∧ kcC q3150 = 3 := ⟨aq3150, bq3150⟩
        refine w_getf (q := (stC q3150 8)) (k := 8) (t := 3) (C := R_Sch) (T := F_Sch) (N := 13) hx hb hT hown hK hW fq3150.1 fq3150.2 (by decide) in_Sch rfl rfl (by decide) rfl fr_Sch_8 w_1_172 d_Rec_readGroup_147 rfl ?_
        refine lv_iload hx hb d_Rec_readGroup_150 (lv_at hl 0 rfl) ?_
        obtain ⟨hi, hw⟩ := hw
        refine w_iald (o := (stC q3150 8)) hx hb hK hW (st_ty hNN fq3150.1 fq3150.2 rfl).1 (st_ty hNN fq3150.1 fq3150.2 rfl).2 hi d_Rec_readGroup_152 ?_
        refine lv_topi (fun v3151 ev3151 => ?_)
        have hw := hw v3151 ev3151
        refine lv_istore (lv' := [(4, .int v3151), (8, .int r3141), (0, .ref (ad o)), (1, .int l1), (2, .int l2), (3, .int l3), (5, .int l5), (6, .int l6), (7, .int l7)]) hx hb d_Rec_readGroup_153 hl (by decide) rfl (fun ls hl => ?_)
        refine lv_aload_n hx hb d_Rec_readGroup_155 rfl (lv_at hl 2 rfl) ?_
        obtain ⟨q3152, hq3152, hw⟩ := hw
        refine w_getr (q := q3152) (k := 13) (t := 4) (C := R_Rec) (T := F_Rec) (N := 15) hx hb hT hown hK hW fo.1 fo.2 (by decide) in_Rec rfl rfl (by decide) rfl fr_Rec_13 w_2_8 d_Rec_readGroup_156 hq3152 (fun aq3152 bq3152 => ?_)
        have fq3152 : q3152 < NN ∧ kcC q3152 = 2 := ⟨aq3152, bq3152⟩
        have hF := hW.free hS hA
        refine va_calli (va_runV (C := R_Scn) (As := []) (rest := []) ⟨hx, hb, hml, hown, hT⟩ (k_Scn_good l dC dI cI cB cJ cZ ad NN E tM tC kK kV hNN H.size q3152 x3149 fq3152 hw) ⟨callB_of 0 hT (gw_in w_4_106) rfl rfl rfl (hT _ w_1_4) (hT _ w_5_31) (by decide +kernel) ⟨Nat.le_trans (by decide) hRf, Nat.le_trans (by decide) hRl⟩, hT _ w_4_104, hT _ w_4_105⟩ ⟨PV.blind, va_recv hK hW.1 (ci := 2) (q0 := q3152) rfl (pic_obj fq3152.1 fq3152.2 (by decide)), PV.at _ hW hK hN hE hS hF⟩ rfl rfl hl.1 rfl (lv_room (Nat.le_of_ble_eq_true rfl)) d_Rec_readGroup_159 ⟨hRc, hRs⟩) hS (fun q _ h => hF q h) hF (fun r3154 x3153 t H locs ht hvm hw hB hz1 hk1 hS => ?_)
        have hW := Wd.back hB ht hF
        clear hB ht hF hz1 hk1 hvm
        refine lv_if_eq (tgt := 181) hx hb d_Rec_readGroup_162 (by decide) (fun c3155 => ?_) (fun c3155 => ?_)
        · have hw := hw.1 c3155
          exact t_Rec_readGroup_181 hx hb hml hown hT hK hN hA hRc hRs hRf hRl hNN hE hret hs_Rec_readGroup hs_Rec_readOne hs_Rec_readValues hDf hDl hrec81 o l1 l2 l3 v3151 l5 l6 l7 r3141 x3153 H locs ls fo hw hW hS (lv_sub hl [2, 3, 4, 5, 0, 6, 7, 8, 1] rfl)
        · have hw := hw.2 c3155
          refine lv_aload_n hx hb d_Rec_readGroup_165 rfl (lv_at hl 2 rfl) ?_
          obtain ⟨q3156, hq3156, hw⟩ := hw
          refine w_getr (q := q3156) (k := 13) (t := 4) (C := R_Rec) (T := F_Rec) (N := 15) hx hb hT hown hK hW fo.1 fo.2 (by decide) in_Rec rfl rfl (by decide) rfl fr_Rec_13 w_2_8 d_Rec_readGroup_166 hq3156 (fun aq3156 bq3156 => ?_)
          have fq3156 : q3156 < NN ∧ kcC q3156 = 2 := ⟨aq3156, bq3156⟩
          refine lv_bipush (v := 44) hx hb d_Rec_readGroup_169 (by decide) ?_
          have hF := hW.free hS hA
          refine va_calli (va_runV (C := R_Scn) (As := [.int 44]) (rest := []) ⟨hx, hb, hml, hown, hT⟩ (k_Scn_takeSign l dC dI cI cB cJ cZ ad NN E tM tC kK kV hNN H.size q3156 44 x3153 fq3156 hw) ⟨callB_of 1 hT (gw_in w_4_123) rfl rfl rfl (hT _ w_1_4) (hT _ w_5_105) (by decide +kernel) ⟨Nat.le_trans (by decide) hRf, Nat.le_trans (by decide) hRl⟩, hT _ w_4_121, hT _ w_4_122⟩ ⟨PV.blind, va_recv hK hW.1 (ci := 2) (q0 := q3156) rfl (pic_obj fq3156.1 fq3156.2 (by decide)), PV.at _ hW hK hN hE hS hF⟩ rfl rfl hl.1 rfl (lv_room (Nat.le_of_ble_eq_true rfl)) d_Rec_readGroup_171 ⟨hRc, hRs⟩) hS (fun q _ h => hF q h) hF (fun r3158 x3157 t H locs ht hvm hw hB hz1 hk1 hS => ?_)
          have hW := Wd.back hB ht hF
          clear hB ht hF hz1 hk1 hvm
          refine lv_if_eq (tgt := 181) hx hb d_Rec_readGroup_174 (by decide) (fun c3159 => ?_) (fun c3159 => ?_)
          · have hw := hw.1 c3159
            exact t_Rec_readGroup_181 hx hb hml hown hT hK hN hA hRc hRs hRf hRl hNN hE hret hs_Rec_readGroup hs_Rec_readOne hs_Rec_readValues hDf hDl hrec81 o l1 l2 l3 v3151 l5 l6 l7 r3141 x3157 H locs ls fo hw hW hS (lv_sub hl [2, 3, 4, 5, 0, 6, 7, 8, 1] rfl)
          · have hw := hw.2 c3159
            refine lv_iconst (v := 1) hx hb d_Rec_readGroup_177 (by decide) ?_
            refine lv_goto (tgt := 182) hx hb d_Rec_readGroup_178 (by decide) ?_
            exact t_Rec_readGroup_182 hx hb hml hown hT hK hN hA hRc hRs hRf hRl hNN hE hret hs_Rec_readGroup hs_Rec_readOne hs_Rec_readValues hDf hDl hrec81 o l1 l2 l3 v3151 l5 l6 l7 r3141 1 x3157 H locs ls fo hw hW hS (lv_sub hl [2, 3, 4, 5, 0, 6, 7, 8, 1] rfl)
      · have hw := hw.2 c3147
        exact hret x3145 H locs 124 ls d_Rec_readGroup_124 hw hW hS
def wl_Rec_readGroup_81 (post : St → Prop) (self_Rec_readGroup : (St → Prop) → Nat → Int32 → Int32 → Int32 → St → Prop) (self_Rec_readOne : (St → Prop) → Nat → Int32 → Int32 → Int32 → St → Prop) (self_Rec_readValues : (St → Prop) → Nat → Int32 → Int32 → Int32 → St → Prop) : Nat → Nat → Int32 → Int32 → Int32 → Int32 → Int32 → Int32 → Int32 → St → Prop
  | 0 => fun _ _ _ _ _ _ _ _ _ => False
  | n + 1 => j_Rec_readGroup_81 post self_Rec_readGroup self_Rec_readOne self_Rec_readValues (wl_Rec_readGroup_81 post self_Rec_readGroup self_Rec_readOne self_Rec_readValues n)
set_option maxHeartbeats 4000000 in
set_option maxRecDepth 100000 in
theorem tl_Rec_readGroup_81 {p : Program} {l : Launch} {e : Env} {R : Room} {s : State} {m : MethodId} {args : Array Value} {below : List Frame} {meth : Method} {c : Code} {cells slots : Nat} {Q : State → Prop} {dC : Nat → ClassId} {dI : Nat → Nat → Nat} {cI cB cJ cZ : ClassId} {A : Nat → Prop} {ad : Nat → Nat} {NN : Nat} {E : Heap} {tM tC : Nat} {kK kV : Nat → Nat} {post : St → Prop} {self_Rec_readGroup : (St → Prop) → Nat → Int32 → Int32 → Int32 → St → Prop} {self_Rec_readOne : (St → Prop) → Nat → Int32 → Int32 → Int32 → St → Prop} {self_Rec_readValues : (St → Prop) → Nat → Int32 → Int32 → Int32 → St → Prop} {fd ld : Nat} (hx : p.tables.exec = Jvm.exec) (hb : c.code = b_Rec_readGroup) (hml : c.maxLocals = 9) (hown : s.vm.findClass R_Rec = some m.cls) (hT : ∀ w ∈ TG, w.before args s = true) (hK : va_K (dC, dI) CL (TY cI cB cJ cZ) s) (hN : NW s) (hA : ∀ q : Nat, s.heap.size ≤ q → A q) (hRc : cells ≤ R.cells) (hRs : slots ≤ R.slots) (hRf : 8 ≤ R.frames) (hRl : 287 ≤ R.locals) (hNN : 152 ≤ NN) (hE : CE E tM tC kK kV A s) (hret : ∀ (x : St) (H : Heap) (locs : List Loc) (pc : Nat) (ls : Array Slot), decode b_Rec_readGroup pc = .ok (.return_, 1) → post x → Wd dC dI cI cB cJ cZ ad stC kcC NN A x H → va_S A s.heap H locs → W p l e R s m args below meth c H locs cells slots Q (F0 m pc ls [])) (hs_Rec_readGroup : ∀ (sz : Nat) (o : Nat) (l1 : Int32) (l2 : Int32) (l3 : Int32) (x : St), (o < NN ∧ kcC o = 4) → ∀ (post : St → Prop), self_Rec_readGroup post o l1 l2 l3 x → Met l y_Rec_readGroup (wsOf y_Rec_readGroup b_Rec_readGroup 9 (none)) ({ frames := fd, cells := 0, slots := 0, locals := ld }) (va_Pc [.ref (ad o), .int l1, .int l2, .int l3] (PV dC dI cI cB cJ cZ ad stC kcC NN E tM tC kK kV sz x)) (va_Qv (fun (y : St) => post y) (fun y t => Wd dC dI cI cB cJ cZ ad stC kcC NN (va_A (pic ad stC kcC NN cI cB cJ cZ x) sz) y t.heap) (va_A (pic ad stC kcC NN cI cB cJ cZ x) sz)) 0 0 (va_A (pic ad stC kcC NN cI cB cJ cZ x) sz)) (hs_Rec_readOne : ∀ (sz : Nat) (o : Nat) (l1 : Int32) (l2 : Int32) (l3 : Int32) (x : St), (o < NN ∧ kcC o = 4) → ∀ (post : St → Prop), self_Rec_readOne post o l1 l2 l3 x → Met l y_Rec_readOne (wsOf y_Rec_readOne b_Rec_readOne 6 (none)) ({ frames := fd, cells := 0, slots := 0, locals := ld }) (va_Pc [.ref (ad o), .int l1, .int l2, .int l3] (PV dC dI cI cB cJ cZ ad stC kcC NN E tM tC kK kV sz x)) (va_Qv (fun (y : St) => post y) (fun y t => Wd dC dI cI cB cJ cZ ad stC kcC NN (va_A (pic ad stC kcC NN cI cB cJ cZ x) sz) y t.heap) (va_A (pic ad stC kcC NN cI cB cJ cZ x) sz)) 0 0 (va_A (pic ad stC kcC NN cI cB cJ cZ x) sz)) (hs_Rec_readValues : ∀ (sz : Nat) (o : Nat) (l1 : Int32) (l2 : Int32) (l3 : Int32) (x : St), (o < NN ∧ kcC o = 4) → ∀ (post : St → Prop), self_Rec_readValues post o l1 l2 l3 x → Met l y_Rec_readValues (wsOf y_Rec_readValues b_Rec_readValues 7 (none)) ({ frames := fd, cells := 0, slots := 0, locals := ld }) (va_Pc [.ref (ad o), .int l1, .int l2, .int l3] (PV dC dI cI cB cJ cZ ad stC kcC NN E tM tC kK kV sz x)) (va_Qv (fun (y : St) => post y) (fun y t => Wd dC dI cI cB cJ cZ ad stC kcC NN (va_A (pic ad stC kcC NN cI cB cJ cZ x) sz) y t.heap) (va_A (pic ad stC kcC NN cI cB cJ cZ x) sz)) 0 0 (va_A (pic ad stC kcC NN cI cB cJ cZ x) sz)) (hDf : fd + 1 ≤ R.frames) (hDl : 28 + ld ≤ R.locals)  : ∀ n : Nat, ∀ (o : Nat) (l1 : Int32) (l2 : Int32) (l3 : Int32) (l4 : Int32) (l5 : Int32) (l6 : Int32) (l7 : Int32) (x : St) (H : Heap) (locs : List Loc) (ls : Array Slot), (o < NN ∧ kcC o = 4) → wl_Rec_readGroup_81 post self_Rec_readGroup self_Rec_readOne self_Rec_readValues n o l1 l2 l3 l4 l5 l6 l7 x → Wd dC dI cI cB cJ cZ ad stC kcC NN A x H → va_S A s.heap H locs → lv_has ls 9 [(0, .ref (ad o)), (1, .int l1), (2, .int l2), (3, .int l3), (4, .int l4), (5, .int l5), (6, .int l6), (7, .int l7)] → W p l e R s m args below meth c H locs cells slots Q (F0 m 81 ls []) := by
  intro n
  induction n with
  | zero => intro o l1 l2 l3 l4 l5 l6 l7 x H locs ls fo hw; exact hw.elim
  | succ n ih => intro o l1 l2 l3 l4 l5 l6 l7 x H locs ls fo hw hW hS hl; exact t_Rec_readGroup_81 hx hb hml hown hT hK hN hA hRc hRs hRf hRl hNN hE hret hs_Rec_readGroup hs_Rec_readOne hs_Rec_readValues hDf hDl  ih o l1 l2 l3 l4 l5 l6 l7 x H locs ls fo hw hW hS hl
set_option maxRecDepth 100000 in
def j_Rec_readGroup_76 (post : St → Prop) (self_Rec_readGroup : (St → Prop) → Nat → Int32 → Int32 → Int32 → St → Prop) (self_Rec_readOne : (St → Prop) → Nat → Int32 → Int32 → Int32 → St → Prop) (self_Rec_readValues : (St → Prop) → Nat → Int32 → Int32 → Int32 → St → Prop) (o : Nat) (l1 : Int32) (l2 : Int32) (l3 : Int32) (l4 : Int32) (l5 : Int32) (s0 : Int32) (x : St) : Prop := ∃ n : Nat, wl_Rec_readGroup_81 post self_Rec_readGroup self_Rec_readOne self_Rec_readValues n o l1 l2 l3 l4 l5 s0 0 x
set_option maxHeartbeats 4000000 in
set_option maxRecDepth 100000 in
theorem t_Rec_readGroup_76 {p : Program} {l : Launch} {e : Env} {R : Room} {s : State} {m : MethodId} {args : Array Value} {below : List Frame} {meth : Method} {c : Code} {cells slots : Nat} {Q : State → Prop} {dC : Nat → ClassId} {dI : Nat → Nat → Nat} {cI cB cJ cZ : ClassId} {A : Nat → Prop} {ad : Nat → Nat} {NN : Nat} {E : Heap} {tM tC : Nat} {kK kV : Nat → Nat} {post : St → Prop} {self_Rec_readGroup : (St → Prop) → Nat → Int32 → Int32 → Int32 → St → Prop} {self_Rec_readOne : (St → Prop) → Nat → Int32 → Int32 → Int32 → St → Prop} {self_Rec_readValues : (St → Prop) → Nat → Int32 → Int32 → Int32 → St → Prop} {fd ld : Nat} (hx : p.tables.exec = Jvm.exec) (hb : c.code = b_Rec_readGroup) (hml : c.maxLocals = 9) (hown : s.vm.findClass R_Rec = some m.cls) (hT : ∀ w ∈ TG, w.before args s = true) (hK : va_K (dC, dI) CL (TY cI cB cJ cZ) s) (hN : NW s) (hA : ∀ q : Nat, s.heap.size ≤ q → A q) (hRc : cells ≤ R.cells) (hRs : slots ≤ R.slots) (hRf : 8 ≤ R.frames) (hRl : 287 ≤ R.locals) (hNN : 152 ≤ NN) (hE : CE E tM tC kK kV A s) (hret : ∀ (x : St) (H : Heap) (locs : List Loc) (pc : Nat) (ls : Array Slot), decode b_Rec_readGroup pc = .ok (.return_, 1) → post x → Wd dC dI cI cB cJ cZ ad stC kcC NN A x H → va_S A s.heap H locs → W p l e R s m args below meth c H locs cells slots Q (F0 m pc ls [])) (hs_Rec_readGroup : ∀ (sz : Nat) (o : Nat) (l1 : Int32) (l2 : Int32) (l3 : Int32) (x : St), (o < NN ∧ kcC o = 4) → ∀ (post : St → Prop), self_Rec_readGroup post o l1 l2 l3 x → Met l y_Rec_readGroup (wsOf y_Rec_readGroup b_Rec_readGroup 9 (none)) ({ frames := fd, cells := 0, slots := 0, locals := ld }) (va_Pc [.ref (ad o), .int l1, .int l2, .int l3] (PV dC dI cI cB cJ cZ ad stC kcC NN E tM tC kK kV sz x)) (va_Qv (fun (y : St) => post y) (fun y t => Wd dC dI cI cB cJ cZ ad stC kcC NN (va_A (pic ad stC kcC NN cI cB cJ cZ x) sz) y t.heap) (va_A (pic ad stC kcC NN cI cB cJ cZ x) sz)) 0 0 (va_A (pic ad stC kcC NN cI cB cJ cZ x) sz)) (hs_Rec_readOne : ∀ (sz : Nat) (o : Nat) (l1 : Int32) (l2 : Int32) (l3 : Int32) (x : St), (o < NN ∧ kcC o = 4) → ∀ (post : St → Prop), self_Rec_readOne post o l1 l2 l3 x → Met l y_Rec_readOne (wsOf y_Rec_readOne b_Rec_readOne 6 (none)) ({ frames := fd, cells := 0, slots := 0, locals := ld }) (va_Pc [.ref (ad o), .int l1, .int l2, .int l3] (PV dC dI cI cB cJ cZ ad stC kcC NN E tM tC kK kV sz x)) (va_Qv (fun (y : St) => post y) (fun y t => Wd dC dI cI cB cJ cZ ad stC kcC NN (va_A (pic ad stC kcC NN cI cB cJ cZ x) sz) y t.heap) (va_A (pic ad stC kcC NN cI cB cJ cZ x) sz)) 0 0 (va_A (pic ad stC kcC NN cI cB cJ cZ x) sz)) (hs_Rec_readValues : ∀ (sz : Nat) (o : Nat) (l1 : Int32) (l2 : Int32) (l3 : Int32) (x : St), (o < NN ∧ kcC o = 4) → ∀ (post : St → Prop), self_Rec_readValues post o l1 l2 l3 x → Met l y_Rec_readValues (wsOf y_Rec_readValues b_Rec_readValues 7 (none)) ({ frames := fd, cells := 0, slots := 0, locals := ld }) (va_Pc [.ref (ad o), .int l1, .int l2, .int l3] (PV dC dI cI cB cJ cZ ad stC kcC NN E tM tC kK kV sz x)) (va_Qv (fun (y : St) => post y) (fun y t => Wd dC dI cI cB cJ cZ ad stC kcC NN (va_A (pic ad stC kcC NN cI cB cJ cZ x) sz) y t.heap) (va_A (pic ad stC kcC NN cI cB cJ cZ x) sz)) 0 0 (va_A (pic ad stC kcC NN cI cB cJ cZ x) sz)) (hDf : fd + 1 ≤ R.frames) (hDl : 28 + ld ≤ R.locals)  : ∀ (o : Nat) (l1 : Int32) (l2 : Int32) (l3 : Int32) (l4 : Int32) (l5 : Int32) (s0 : Int32) (x : St) (H : Heap) (locs : List Loc) (ls : Array Slot), (o < NN ∧ kcC o = 4) → j_Rec_readGroup_76 post self_Rec_readGroup self_Rec_readOne self_Rec_readValues o l1 l2 l3 l4 l5 s0 x → Wd dC dI cI cB cJ cZ ad stC kcC NN A x H → va_S A s.heap H locs → lv_has ls 9 [(0, .ref (ad o)), (1, .int l1), (2, .int l2), (3, .int l3), (4, .int l4), (5, .int l5)] → W p l e R s m args below meth c H locs cells slots Q (F0 m 76 ls [.int s0]) := by
  intro o l1 l2 l3 l4 l5 s0 x H locs ls fo hw hW hS hl
  unfold j_Rec_readGroup_76 at hw
  refine lv_istore (lv' := [(6, .int s0), (0, .ref (ad o)), (1, .int l1), (2, .int l2), (3, .int l3), (4, .int l4), (5, .int l5)]) hx hb d_Rec_readGroup_76 hl (by decide) rfl (fun ls hl => ?_)
  refine lv_iconst (v := 0) hx hb d_Rec_readGroup_78 (by decide) ?_
  refine lv_istore (lv' := [(7, .int 0), (6, .int s0), (0, .ref (ad o)), (1, .int l1), (2, .int l2), (3, .int l3), (4, .int l4), (5, .int l5)]) hx hb d_Rec_readGroup_79 hl (by decide) rfl (fun ls hl => ?_)
  obtain ⟨n, hw⟩ := hw
  exact tl_Rec_readGroup_81 hx hb hml hown hT hK hN hA hRc hRs hRf hRl hNN hE hret hs_Rec_readGroup hs_Rec_readOne hs_Rec_readValues hDf hDl  n o l1 l2 l3 l4 l5 s0 0 x H locs ls fo hw hW hS (lv_sub hl [2, 3, 4, 5, 6, 7, 1, 0] rfl)
set_option maxRecDepth 100000 in
def j_Rec_readGroup_75 (post : St → Prop) (self_Rec_readGroup : (St → Prop) → Nat → Int32 → Int32 → Int32 → St → Prop) (self_Rec_readOne : (St → Prop) → Nat → Int32 → Int32 → Int32 → St → Prop) (self_Rec_readValues : (St → Prop) → Nat → Int32 → Int32 → Int32 → St → Prop) (o : Nat) (l1 : Int32) (l2 : Int32) (l3 : Int32) (l4 : Int32) (l5 : Int32) (x : St) : Prop := j_Rec_readGroup_76 post self_Rec_readGroup self_Rec_readOne self_Rec_readValues o l1 l2 l3 l4 l5 0 x
set_option maxHeartbeats 4000000 in
set_option maxRecDepth 100000 in
theorem t_Rec_readGroup_75 {p : Program} {l : Launch} {e : Env} {R : Room} {s : State} {m : MethodId} {args : Array Value} {below : List Frame} {meth : Method} {c : Code} {cells slots : Nat} {Q : State → Prop} {dC : Nat → ClassId} {dI : Nat → Nat → Nat} {cI cB cJ cZ : ClassId} {A : Nat → Prop} {ad : Nat → Nat} {NN : Nat} {E : Heap} {tM tC : Nat} {kK kV : Nat → Nat} {post : St → Prop} {self_Rec_readGroup : (St → Prop) → Nat → Int32 → Int32 → Int32 → St → Prop} {self_Rec_readOne : (St → Prop) → Nat → Int32 → Int32 → Int32 → St → Prop} {self_Rec_readValues : (St → Prop) → Nat → Int32 → Int32 → Int32 → St → Prop} {fd ld : Nat} (hx : p.tables.exec = Jvm.exec) (hb : c.code = b_Rec_readGroup) (hml : c.maxLocals = 9) (hown : s.vm.findClass R_Rec = some m.cls) (hT : ∀ w ∈ TG, w.before args s = true) (hK : va_K (dC, dI) CL (TY cI cB cJ cZ) s) (hN : NW s) (hA : ∀ q : Nat, s.heap.size ≤ q → A q) (hRc : cells ≤ R.cells) (hRs : slots ≤ R.slots) (hRf : 8 ≤ R.frames) (hRl : 287 ≤ R.locals) (hNN : 152 ≤ NN) (hE : CE E tM tC kK kV A s) (hret : ∀ (x : St) (H : Heap) (locs : List Loc) (pc : Nat) (ls : Array Slot), decode b_Rec_readGroup pc = .ok (.return_, 1) → post x → Wd dC dI cI cB cJ cZ ad stC kcC NN A x H → va_S A s.heap H locs → W p l e R s m args below meth c H locs cells slots Q (F0 m pc ls [])) (hs_Rec_readGroup : ∀ (sz : Nat) (o : Nat) (l1 : Int32) (l2 : Int32) (l3 : Int32) (x : St), (o < NN ∧ kcC o = 4) → ∀ (post : St → Prop), self_Rec_readGroup post o l1 l2 l3 x → Met l y_Rec_readGroup (wsOf y_Rec_readGroup b_Rec_readGroup 9 (none)) ({ frames := fd, cells := 0, slots := 0, locals := ld }) (va_Pc [.ref (ad o), .int l1, .int l2, .int l3] (PV dC dI cI cB cJ cZ ad stC kcC NN E tM tC kK kV sz x)) (va_Qv (fun (y : St) => post y) (fun y t => Wd dC dI cI cB cJ cZ ad stC kcC NN (va_A (pic ad stC kcC NN cI cB cJ cZ x) sz) y t.heap) (va_A (pic ad stC kcC NN cI cB cJ cZ x) sz)) 0 0 (va_A (pic ad stC kcC NN cI cB cJ cZ x) sz)) (hs_Rec_readOne : ∀ (sz : Nat) (o : Nat) (l1 : Int32) (l2 : Int32) (l3 : Int32) (x : St), (o < NN ∧ kcC o = 4) → ∀ (post : St → Prop), self_Rec_readOne post o l1 l2 l3 x → Met l y_Rec_readOne (wsOf y_Rec_readOne b_Rec_readOne 6 (none)) ({ frames := fd, cells := 0, slots := 0, locals := ld }) (va_Pc [.ref (ad o), .int l1, .int l2, .int l3] (PV dC dI cI cB cJ cZ ad stC kcC NN E tM tC kK kV sz x)) (va_Qv (fun (y : St) => post y) (fun y t => Wd dC dI cI cB cJ cZ ad stC kcC NN (va_A (pic ad stC kcC NN cI cB cJ cZ x) sz) y t.heap) (va_A (pic ad stC kcC NN cI cB cJ cZ x) sz)) 0 0 (va_A (pic ad stC kcC NN cI cB cJ cZ x) sz)) (hs_Rec_readValues : ∀ (sz : Nat) (o : Nat) (l1 : Int32) (l2 : Int32) (l3 : Int32) (x : St), (o < NN ∧ kcC o = 4) → ∀ (post : St → Prop), self_Rec_readValues post o l1 l2 l3 x → Met l y_Rec_readValues (wsOf y_Rec_readValues b_Rec_readValues 7 (none)) ({ frames := fd, cells := 0, slots := 0, locals := ld }) (va_Pc [.ref (ad o), .int l1, .int l2, .int l3] (PV dC dI cI cB cJ cZ ad stC kcC NN E tM tC kK kV sz x)) (va_Qv (fun (y : St) => post y) (fun y t => Wd dC dI cI cB cJ cZ ad stC kcC NN (va_A (pic ad stC kcC NN cI cB cJ cZ x) sz) y t.heap) (va_A (pic ad stC kcC NN cI cB cJ cZ x) sz)) 0 0 (va_A (pic ad stC kcC NN cI cB cJ cZ x) sz)) (hDf : fd + 1 ≤ R.frames) (hDl : 28 + ld ≤ R.locals)  : ∀ (o : Nat) (l1 : Int32) (l2 : Int32) (l3 : Int32) (l4 : Int32) (l5 : Int32) (x : St) (H : Heap) (locs : List Loc) (ls : Array Slot), (o < NN ∧ kcC o = 4) → j_Rec_readGroup_75 post self_Rec_readGroup self_Rec_readOne self_Rec_readValues o l1 l2 l3 l4 l5 x → Wd dC dI cI cB cJ cZ ad stC kcC NN A x H → va_S A s.heap H locs → lv_has ls 9 [(0, .ref (ad o)), (1, .int l1), (2, .int l2), (3, .int l3), (4, .int l4), (5, .int l5)] → W p l e R s m args below meth c H locs cells slots Q (F0 m 75 ls []) := by
  intro o l1 l2 l3 l4 l5 x H locs ls fo hw hW hS hl
  unfold j_Rec_readGroup_75 at hw
  refine lv_iconst (v := 0) hx hb d_Rec_readGroup_75 (by decide) ?_
  exact t_Rec_readGroup_76 hx hb hml hown hT hK hN hA hRc hRs hRf hRl hNN hE hret hs_Rec_readGroup hs_Rec_readOne hs_Rec_readValues hDf hDl  o l1 l2 l3 l4 l5 0 x H locs ls fo hw hW hS (lv_sub hl [0, 1, 2, 3, 4, 5] rfl)
set_option maxRecDepth 100000 in
def j_Rec_readGroup_20 (post : St → Prop) (self_Rec_readGroup : (St → Prop) → Nat → Int32 → Int32 → Int32 → St → Prop) (self_Rec_readOne : (St → Prop) → Nat → Int32 → Int32 → Int32 → St → Prop) (self_Rec_readValues : (St → Prop) → Nat → Int32 → Int32 → Int32 → St → Prop) (o : Nat) (l1 : Int32) (l2 : Int32) (l3 : Int32) (x : St) : Prop := (∃ q3160 : Nat, fR x o 13 = some q3160 ∧ wp_Scn_needSign (fun (x3161 : St) => (∃ q3162 : Nat, fR x3161 o 14 = some q3162 ∧ wp_Sch_firstIn (fun (r3164 : Int32) (x3163 : St) => (∃ q3165 : Nat, fR x3163 o 14 = some q3165 ∧ wp_Sch_pastOf (fun (r3167 : Int32) (x3166 : St) => (∃ q3168 : Nat, fR x3166 o 13 = some q3168 ∧ wp_Scn_good (fun (r3170 : Int32) (x3169 : St) => ((r3170 = 0 → j_Rec_readGroup_75 post self_Rec_readGroup self_Rec_readOne self_Rec_readValues o l1 l2 l3 r3164 r3167 x3169) ∧ (¬ r3170 = 0 → (∃ q3172 : Nat, fR x3169 o 13 = some q3172 ∧ wp_Scn_next (fun (r3174 : Int32) (x3173 : St) => ((r3174 = 125 → j_Rec_readGroup_75 post self_Rec_readGroup self_Rec_readOne self_Rec_readValues o l1 l2 l3 r3164 r3167 x3173) ∧ (¬ r3174 = 125 → j_Rec_readGroup_76 post self_Rec_readGroup self_Rec_readOne self_Rec_readValues o l1 l2 l3 r3164 r3167 1 x3173))) q3172 x3169)))) q3168 x3166)) q3165 l1 x3163)) q3162 l1 x3161)) q3160 123 x)
set_option maxHeartbeats 4000000 in
set_option maxRecDepth 100000 in
theorem t_Rec_readGroup_20 {p : Program} {l : Launch} {e : Env} {R : Room} {s : State} {m : MethodId} {args : Array Value} {below : List Frame} {meth : Method} {c : Code} {cells slots : Nat} {Q : State → Prop} {dC : Nat → ClassId} {dI : Nat → Nat → Nat} {cI cB cJ cZ : ClassId} {A : Nat → Prop} {ad : Nat → Nat} {NN : Nat} {E : Heap} {tM tC : Nat} {kK kV : Nat → Nat} {post : St → Prop} {self_Rec_readGroup : (St → Prop) → Nat → Int32 → Int32 → Int32 → St → Prop} {self_Rec_readOne : (St → Prop) → Nat → Int32 → Int32 → Int32 → St → Prop} {self_Rec_readValues : (St → Prop) → Nat → Int32 → Int32 → Int32 → St → Prop} {fd ld : Nat} (hx : p.tables.exec = Jvm.exec) (hb : c.code = b_Rec_readGroup) (hml : c.maxLocals = 9) (hown : s.vm.findClass R_Rec = some m.cls) (hT : ∀ w ∈ TG, w.before args s = true) (hK : va_K (dC, dI) CL (TY cI cB cJ cZ) s) (hN : NW s) (hA : ∀ q : Nat, s.heap.size ≤ q → A q) (hRc : cells ≤ R.cells) (hRs : slots ≤ R.slots) (hRf : 8 ≤ R.frames) (hRl : 287 ≤ R.locals) (hNN : 152 ≤ NN) (hE : CE E tM tC kK kV A s) (hret : ∀ (x : St) (H : Heap) (locs : List Loc) (pc : Nat) (ls : Array Slot), decode b_Rec_readGroup pc = .ok (.return_, 1) → post x → Wd dC dI cI cB cJ cZ ad stC kcC NN A x H → va_S A s.heap H locs → W p l e R s m args below meth c H locs cells slots Q (F0 m pc ls [])) (hs_Rec_readGroup : ∀ (sz : Nat) (o : Nat) (l1 : Int32) (l2 : Int32) (l3 : Int32) (x : St), (o < NN ∧ kcC o = 4) → ∀ (post : St → Prop), self_Rec_readGroup post o l1 l2 l3 x → Met l y_Rec_readGroup (wsOf y_Rec_readGroup b_Rec_readGroup 9 (none)) ({ frames := fd, cells := 0, slots := 0, locals := ld }) (va_Pc [.ref (ad o), .int l1, .int l2, .int l3] (PV dC dI cI cB cJ cZ ad stC kcC NN E tM tC kK kV sz x)) (va_Qv (fun (y : St) => post y) (fun y t => Wd dC dI cI cB cJ cZ ad stC kcC NN (va_A (pic ad stC kcC NN cI cB cJ cZ x) sz) y t.heap) (va_A (pic ad stC kcC NN cI cB cJ cZ x) sz)) 0 0 (va_A (pic ad stC kcC NN cI cB cJ cZ x) sz)) (hs_Rec_readOne : ∀ (sz : Nat) (o : Nat) (l1 : Int32) (l2 : Int32) (l3 : Int32) (x : St), (o < NN ∧ kcC o = 4) → ∀ (post : St → Prop), self_Rec_readOne post o l1 l2 l3 x → Met l y_Rec_readOne (wsOf y_Rec_readOne b_Rec_readOne 6 (none)) ({ frames := fd, cells := 0, slots := 0, locals := ld }) (va_Pc [.ref (ad o), .int l1, .int l2, .int l3] (PV dC dI cI cB cJ cZ ad stC kcC NN E tM tC kK kV sz x)) (va_Qv (fun (y : St) => post y) (fun y t => Wd dC dI cI cB cJ cZ ad stC kcC NN (va_A (pic ad stC kcC NN cI cB cJ cZ x) sz) y t.heap) (va_A (pic ad stC kcC NN cI cB cJ cZ x) sz)) 0 0 (va_A (pic ad stC kcC NN cI cB cJ cZ x) sz)) (hs_Rec_readValues : ∀ (sz : Nat) (o : Nat) (l1 : Int32) (l2 : Int32) (l3 : Int32) (x : St), (o < NN ∧ kcC o = 4) → ∀ (post : St → Prop), self_Rec_readValues post o l1 l2 l3 x → Met l y_Rec_readValues (wsOf y_Rec_readValues b_Rec_readValues 7 (none)) ({ frames := fd, cells := 0, slots := 0, locals := ld }) (va_Pc [.ref (ad o), .int l1, .int l2, .int l3] (PV dC dI cI cB cJ cZ ad stC kcC NN E tM tC kK kV sz x)) (va_Qv (fun (y : St) => post y) (fun y t => Wd dC dI cI cB cJ cZ ad stC kcC NN (va_A (pic ad stC kcC NN cI cB cJ cZ x) sz) y t.heap) (va_A (pic ad stC kcC NN cI cB cJ cZ x) sz)) 0 0 (va_A (pic ad stC kcC NN cI cB cJ cZ x) sz)) (hDf : fd + 1 ≤ R.frames) (hDl : 28 + ld ≤ R.locals)  : ∀ (o : Nat) (l1 : Int32) (l2 : Int32) (l3 : Int32) (x : St) (H : Heap) (locs : List Loc) (ls : Array Slot), (o < NN ∧ kcC o = 4) → j_Rec_readGroup_20 post self_Rec_readGroup self_Rec_readOne self_Rec_readValues o l1 l2 l3 x → Wd dC dI cI cB cJ cZ ad stC kcC NN A x H → va_S A s.heap H locs → lv_has ls 9 [(0, .ref (ad o)), (1, .int l1), (2, .int l2), (3, .int l3)] → W p l e R s m args below meth c H locs cells slots Q (F0 m 20 ls []) := by
  intro o l1 l2 l3 x H locs ls fo hw hW hS hl
  unfold j_Rec_readGroup_20 at hw
  refine lv_aload_n hx hb d_Rec_readGroup_20 rfl (lv_at hl 0 rfl) ?_
  obtain ⟨q3160, hq3160, hw⟩ := hw
  refine w_getr (q := q3160) (k := 13) (t := 4) (C := R_Rec) (T := F_Rec) (N := 15) hx hb hT hown hK hW fo.1 fo.2 (by decide) in_Rec rfl rfl (by decide) rfl fr_Rec_13 w_2_8 d_Rec_readGroup_21 hq3160 (fun aq3160 bq3160 => ?_)
  have fq3160 : q3160 < NN ∧ kcC q3160 = 2 := ⟨aq3160, bq3160⟩
  refine lv_bipush (v := 123) hx hb d_Rec_readGroup_24 (by decide) ?_
  have hF := hW.free hS hA
  refine va_callv (va_runV (C := R_Scn) (As := [.int 123]) (rest := []) ⟨hx, hb, hml, hown, hT⟩ (k_Scn_needSign l dC dI cI cB cJ cZ ad NN E tM tC kK kV hNN H.size q3160 123 x fq3160 hw) ⟨callB_of 1 hT (gw_in w_4_118) rfl rfl rfl (hT _ w_1_4) (hT _ w_5_28) (by decide +kernel) ⟨Nat.le_trans (by decide) hRf, Nat.le_trans (by decide) hRl⟩, hT _ w_4_116, hT _ w_4_117⟩ ⟨PV.blind, va_recv hK hW.1 (ci := 2) (q0 := q3160) rfl (pic_obj fq3160.1 fq3160.2 (by decide)), PV.at _ hW hK hN hE hS hF⟩ rfl rfl hl.1 rfl (lv_room (Nat.le_of_ble_eq_true rfl)) d_Rec_readGroup_26 ⟨hRc, hRs⟩) hS (fun q _ h => hF q h) hF (fun  x3161 t H locs ht hvm hw hB hz1 hk1 hS => ?_)
  have hW := Wd.back hB ht hF
  clear hB ht hF hz1 hk1 hvm
  refine lv_aload_n hx hb d_Rec_readGroup_29 rfl (lv_at hl 0 rfl) ?_
  obtain ⟨q3162, hq3162, hw⟩ := hw
  refine w_getr (q := q3162) (k := 14) (t := 4) (C := R_Rec) (T := F_Rec) (N := 15) hx hb hT hown hK hW fo.1 fo.2 (by decide) in_Rec rfl rfl (by decide) rfl fr_Rec_14 w_2_9 d_Rec_readGroup_30 hq3162 (fun aq3162 bq3162 => ?_)
  have fq3162 : q3162 < NN ∧ kcC q3162 = 3 := ⟨aq3162, bq3162⟩
  refine lv_iload_n hx hb d_Rec_readGroup_33 rfl (lv_at hl 1 rfl) ?_
  have hF := hW.free hS hA
  refine va_calli (va_runV (C := R_Sch) (As := [.int l1]) (rest := []) ⟨hx, hb, hml, hown, hT⟩ (k_Sch_firstIn l dC dI cI cB cJ cZ ad NN E tM tC kK kV hNN H.size q3162 l1 x3161 fq3162 hw) ⟨callB_of 1 hT (gw_in w_4_237) rfl rfl rfl (hT _ w_1_5) (hT _ w_5_29) (by decide +kernel) ⟨Nat.le_trans (by decide) hRf, Nat.le_trans (by decide) hRl⟩, hT _ w_4_235, hT _ w_4_236⟩ ⟨PV.blind, va_recv hK hW.1 (ci := 3) (q0 := q3162) rfl (pic_obj fq3162.1 fq3162.2 (by decide)), PV.at _ hW hK hN hE hS hF⟩ rfl rfl hl.1 rfl (lv_room (Nat.le_of_ble_eq_true rfl)) d_Rec_readGroup_34 ⟨hRc, hRs⟩) hS (fun q _ h => hF q h) hF (fun r3164 x3163 t H locs ht hvm hw hB hz1 hk1 hS => ?_)
  have hW := Wd.back hB ht hF
  clear hB ht hF hz1 hk1 hvm
  refine lv_istore (lv' := [(4, .int r3164), (0, .ref (ad o)), (1, .int l1), (2, .int l2), (3, .int l3)]) hx hb d_Rec_readGroup_37 hl (by decide) rfl (fun ls hl => ?_)
  refine lv_aload_n hx hb d_Rec_readGroup_39 rfl (lv_at hl 1 rfl) ?_
  obtain ⟨q3165, hq3165, hw⟩ := hw
  refine w_getr (q := q3165) (k := 14) (t := 4) (C := R_Rec) (T := F_Rec) (N := 15) hx hb hT hown hK hW fo.1 fo.2 (by decide) in_Rec rfl rfl (by decide) rfl fr_Rec_14 w_2_9 d_Rec_readGroup_40 hq3165 (fun aq3165 bq3165 => ?_)
  have fq3165 : q3165 < NN ∧ kcC q3165 = 3 := ⟨aq3165, bq3165⟩
  refine lv_iload_n hx hb d_Rec_readGroup_43 rfl (lv_at hl 2 rfl) ?_
  have hF := hW.free hS hA
  refine va_calli (va_runV (C := R_Sch) (As := [.int l1]) (rest := []) ⟨hx, hb, hml, hown, hT⟩ (k_Sch_pastOf l dC dI cI cB cJ cZ ad NN E tM tC kK kV hNN H.size q3165 l1 x3163 fq3165 hw) ⟨callB_of 1 hT (gw_in w_4_233) rfl rfl rfl (hT _ w_1_5) (hT _ w_5_30) (by decide +kernel) ⟨Nat.le_trans (by decide) hRf, Nat.le_trans (by decide) hRl⟩, hT _ w_4_231, hT _ w_4_232⟩ ⟨PV.blind, va_recv hK hW.1 (ci := 3) (q0 := q3165) rfl (pic_obj fq3165.1 fq3165.2 (by decide)), PV.at _ hW hK hN hE hS hF⟩ rfl rfl hl.1 rfl (lv_room (Nat.le_of_ble_eq_true rfl)) d_Rec_readGroup_44 ⟨hRc, hRs⟩) hS (fun q _ h => hF q h) hF (fun r3167 x3166 t H locs ht hvm hw hB hz1 hk1 hS => ?_)
  have hW := Wd.back hB ht hF
  clear hB ht hF hz1 hk1 hvm
  refine lv_istore (lv' := [(5, .int r3167), (4, .int r3164), (0, .ref (ad o)), (1, .int l1), (2, .int l2), (3, .int l3)]) hx hb d_Rec_readGroup_47 hl (by decide) rfl (fun ls hl => ?_)
  refine lv_aload_n hx hb d_Rec_readGroup_49 rfl (lv_at hl 2 rfl) ?_
  obtain ⟨q3168, hq3168, hw⟩ := hw
  refine w_getr (q := q3168) (k := 13) (t := 4) (C := R_Rec) (T := F_Rec) (N := 15) hx hb hT hown hK hW fo.1 fo.2 (by decide) in_Rec rfl rfl (by decide) rfl fr_Rec_13 w_2_8 d_Rec_readGroup_50 hq3168 (fun aq3168 bq3168 => ?_)
  have fq3168 : q3168 < NN ∧ kcC q3168 = 2 := ⟨aq3168, bq3168⟩
  have hF := hW.free hS hA
  refine va_calli (va_runV (C := R_Scn) (As := []) (rest := []) ⟨hx, hb, hml, hown, hT⟩ (k_Scn_good l dC dI cI cB cJ cZ ad NN E tM tC kK kV hNN H.size q3168 x3166 fq3168 hw) ⟨callB_of 0 hT (gw_in w_4_106) rfl rfl rfl (hT _ w_1_4) (hT _ w_5_31) (by decide +kernel) ⟨Nat.le_trans (by decide) hRf, Nat.le_trans (by decide) hRl⟩, hT _ w_4_104, hT _ w_4_105⟩ ⟨PV.blind, va_recv hK hW.1 (ci := 2) (q0 := q3168) rfl (pic_obj fq3168.1 fq3168.2 (by decide)), PV.at _ hW hK hN hE hS hF⟩ rfl rfl hl.1 rfl (lv_room (Nat.le_of_ble_eq_true rfl)) d_Rec_readGroup_53 ⟨hRc, hRs⟩) hS (fun q _ h => hF q h) hF (fun r3170 x3169 t H locs ht hvm hw hB hz1 hk1 hS => ?_)
  have hW := Wd.back hB ht hF
  clear hB ht hF hz1 hk1 hvm
  refine lv_if_eq (tgt := 75) hx hb d_Rec_readGroup_56 (by decide) (fun c3171 => ?_) (fun c3171 => ?_)
  · have hw := hw.1 c3171
    exact t_Rec_readGroup_75 hx hb hml hown hT hK hN hA hRc hRs hRf hRl hNN hE hret hs_Rec_readGroup hs_Rec_readOne hs_Rec_readValues hDf hDl  o l1 l2 l3 r3164 r3167 x3169 H locs ls fo hw hW hS (lv_sub hl [2, 3, 4, 5, 1, 0] rfl)
  · have hw := hw.2 c3171
    refine lv_aload_n hx hb d_Rec_readGroup_59 rfl (lv_at hl 2 rfl) ?_
    obtain ⟨q3172, hq3172, hw⟩ := hw
    refine w_getr (q := q3172) (k := 13) (t := 4) (C := R_Rec) (T := F_Rec) (N := 15) hx hb hT hown hK hW fo.1 fo.2 (by decide) in_Rec rfl rfl (by decide) rfl fr_Rec_13 w_2_8 d_Rec_readGroup_60 hq3172 (fun aq3172 bq3172 => ?_)
    have fq3172 : q3172 < NN ∧ kcC q3172 = 2 := ⟨aq3172, bq3172⟩
    have hF := hW.free hS hA
    refine va_calli (va_runV (C := R_Scn) (As := []) (rest := []) ⟨hx, hb, hml, hown, hT⟩ (k_Scn_next l dC dI cI cB cJ cZ ad NN E tM tC kK kV hNN H.size q3172 x3169 fq3172 hw) ⟨callB_of 0 hT (gw_in w_4_110) rfl rfl rfl (hT _ w_1_4) (hT _ w_5_32) (by decide +kernel) ⟨Nat.le_trans (by decide) hRf, Nat.le_trans (by decide) hRl⟩, hT _ w_4_108, hT _ w_4_109⟩ ⟨PV.blind, va_recv hK hW.1 (ci := 2) (q0 := q3172) rfl (pic_obj fq3172.1 fq3172.2 (by decide)), PV.at _ hW hK hN hE hS hF⟩ rfl rfl hl.1 rfl (lv_room (Nat.le_of_ble_eq_true rfl)) d_Rec_readGroup_63 ⟨hRc, hRs⟩) hS (fun q _ h => hF q h) hF (fun r3174 x3173 t H locs ht hvm hw hB hz1 hk1 hS => ?_)
    have hW := Wd.back hB ht hF
    clear hB ht hF hz1 hk1 hvm
    refine lv_bipush (v := 125) hx hb d_Rec_readGroup_66 (by decide) ?_
    refine lv_icmp_eq (tgt := 75) hx hb d_Rec_readGroup_68 (by decide) (fun c3175 => ?_) (fun c3175 => ?_)
    · have hw := hw.1 c3175
      exact t_Rec_readGroup_75 hx hb hml hown hT hK hN hA hRc hRs hRf hRl hNN hE hret hs_Rec_readGroup hs_Rec_readOne hs_Rec_readValues hDf hDl  o l1 l2 l3 r3164 r3167 x3173 H locs ls fo hw hW hS (lv_sub hl [2, 3, 4, 5, 1, 0] rfl)
    · have hw := hw.2 c3175
      refine lv_iconst (v := 1) hx hb d_Rec_readGroup_71 (by decide) ?_
      refine lv_goto (tgt := 76) hx hb d_Rec_readGroup_72 (by decide) ?_
      exact t_Rec_readGroup_76 hx hb hml hown hT hK hN hA hRc hRs hRf hRl hNN hE hret hs_Rec_readGroup hs_Rec_readOne hs_Rec_readValues hDf hDl  o l1 l2 l3 r3164 r3167 1 x3173 H locs ls fo hw hW hS (lv_sub hl [2, 3, 4, 5, 1, 0] rfl)
set_option maxRecDepth 100000 in
def wb_Rec_readGroup (post : St → Prop) (self_Rec_readGroup : (St → Prop) → Nat → Int32 → Int32 → Int32 → St → Prop) (self_Rec_readOne : (St → Prop) → Nat → Int32 → Int32 → Int32 → St → Prop) (self_Rec_readValues : (St → Prop) → Nat → Int32 → Int32 → Int32 → St → Prop) (o : Nat) (l1 : Int32) (l2 : Int32) (l3 : Int32) (x : St) : Prop := ((l3 ≤ 16 → j_Rec_readGroup_20 post self_Rec_readGroup self_Rec_readOne self_Rec_readValues o l1 l2 l3 x) ∧ (¬ l3 ≤ 16 → (∃ q3177 : Nat, fR x o 13 = some q3177 ∧ (∃ q3178 : Nat, fR x o 13 = some q3178 ∧ wp_Scn_refuse (fun (x3179 : St) => j_Rec_readGroup_20 post self_Rec_readGroup self_Rec_readOne self_Rec_readValues o l1 l2 l3 x3179) q3177 (fI x q3178 2) x))))
set_option maxHeartbeats 4000000 in
set_option maxRecDepth 100000 in
theorem t_Rec_readGroup_e {p : Program} {l : Launch} {e : Env} {R : Room} {s : State} {m : MethodId} {args : Array Value} {below : List Frame} {meth : Method} {c : Code} {cells slots : Nat} {Q : State → Prop} {dC : Nat → ClassId} {dI : Nat → Nat → Nat} {cI cB cJ cZ : ClassId} {A : Nat → Prop} {ad : Nat → Nat} {NN : Nat} {E : Heap} {tM tC : Nat} {kK kV : Nat → Nat} {post : St → Prop} {self_Rec_readGroup : (St → Prop) → Nat → Int32 → Int32 → Int32 → St → Prop} {self_Rec_readOne : (St → Prop) → Nat → Int32 → Int32 → Int32 → St → Prop} {self_Rec_readValues : (St → Prop) → Nat → Int32 → Int32 → Int32 → St → Prop} {fd ld : Nat} (hx : p.tables.exec = Jvm.exec) (hb : c.code = b_Rec_readGroup) (hml : c.maxLocals = 9) (hown : s.vm.findClass R_Rec = some m.cls) (hT : ∀ w ∈ TG, w.before args s = true) (hK : va_K (dC, dI) CL (TY cI cB cJ cZ) s) (hN : NW s) (hA : ∀ q : Nat, s.heap.size ≤ q → A q) (hRc : cells ≤ R.cells) (hRs : slots ≤ R.slots) (hRf : 8 ≤ R.frames) (hRl : 287 ≤ R.locals) (hNN : 152 ≤ NN) (hE : CE E tM tC kK kV A s) (hret : ∀ (x : St) (H : Heap) (locs : List Loc) (pc : Nat) (ls : Array Slot), decode b_Rec_readGroup pc = .ok (.return_, 1) → post x → Wd dC dI cI cB cJ cZ ad stC kcC NN A x H → va_S A s.heap H locs → W p l e R s m args below meth c H locs cells slots Q (F0 m pc ls [])) (hs_Rec_readGroup : ∀ (sz : Nat) (o : Nat) (l1 : Int32) (l2 : Int32) (l3 : Int32) (x : St), (o < NN ∧ kcC o = 4) → ∀ (post : St → Prop), self_Rec_readGroup post o l1 l2 l3 x → Met l y_Rec_readGroup (wsOf y_Rec_readGroup b_Rec_readGroup 9 (none)) ({ frames := fd, cells := 0, slots := 0, locals := ld }) (va_Pc [.ref (ad o), .int l1, .int l2, .int l3] (PV dC dI cI cB cJ cZ ad stC kcC NN E tM tC kK kV sz x)) (va_Qv (fun (y : St) => post y) (fun y t => Wd dC dI cI cB cJ cZ ad stC kcC NN (va_A (pic ad stC kcC NN cI cB cJ cZ x) sz) y t.heap) (va_A (pic ad stC kcC NN cI cB cJ cZ x) sz)) 0 0 (va_A (pic ad stC kcC NN cI cB cJ cZ x) sz)) (hs_Rec_readOne : ∀ (sz : Nat) (o : Nat) (l1 : Int32) (l2 : Int32) (l3 : Int32) (x : St), (o < NN ∧ kcC o = 4) → ∀ (post : St → Prop), self_Rec_readOne post o l1 l2 l3 x → Met l y_Rec_readOne (wsOf y_Rec_readOne b_Rec_readOne 6 (none)) ({ frames := fd, cells := 0, slots := 0, locals := ld }) (va_Pc [.ref (ad o), .int l1, .int l2, .int l3] (PV dC dI cI cB cJ cZ ad stC kcC NN E tM tC kK kV sz x)) (va_Qv (fun (y : St) => post y) (fun y t => Wd dC dI cI cB cJ cZ ad stC kcC NN (va_A (pic ad stC kcC NN cI cB cJ cZ x) sz) y t.heap) (va_A (pic ad stC kcC NN cI cB cJ cZ x) sz)) 0 0 (va_A (pic ad stC kcC NN cI cB cJ cZ x) sz)) (hs_Rec_readValues : ∀ (sz : Nat) (o : Nat) (l1 : Int32) (l2 : Int32) (l3 : Int32) (x : St), (o < NN ∧ kcC o = 4) → ∀ (post : St → Prop), self_Rec_readValues post o l1 l2 l3 x → Met l y_Rec_readValues (wsOf y_Rec_readValues b_Rec_readValues 7 (none)) ({ frames := fd, cells := 0, slots := 0, locals := ld }) (va_Pc [.ref (ad o), .int l1, .int l2, .int l3] (PV dC dI cI cB cJ cZ ad stC kcC NN E tM tC kK kV sz x)) (va_Qv (fun (y : St) => post y) (fun y t => Wd dC dI cI cB cJ cZ ad stC kcC NN (va_A (pic ad stC kcC NN cI cB cJ cZ x) sz) y t.heap) (va_A (pic ad stC kcC NN cI cB cJ cZ x) sz)) 0 0 (va_A (pic ad stC kcC NN cI cB cJ cZ x) sz)) (hDf : fd + 1 ≤ R.frames) (hDl : 28 + ld ≤ R.locals) : ∀ (o : Nat) (l1 : Int32) (l2 : Int32) (l3 : Int32) (x : St) (H : Heap) (locs : List Loc) (ls : Array Slot), (o < NN ∧ kcC o = 4) → wb_Rec_readGroup post self_Rec_readGroup self_Rec_readOne self_Rec_readValues o l1 l2 l3 x → Wd dC dI cI cB cJ cZ ad stC kcC NN A x H → va_S A s.heap H locs → lv_has ls 9 [(0, .ref (ad o)), (1, .int l1), (2, .int l2), (3, .int l3)] → W p l e R s m args below meth c H locs cells slots Q (F0 m 0 ls []) := by
  intro o l1 l2 l3 x H locs ls fo hw hW hS hl
  unfold wb_Rec_readGroup at hw
  refine lv_iload_n hx hb d_Rec_readGroup_0 rfl (lv_at hl 3 rfl) ?_
  refine lv_bipush (v := 16) hx hb d_Rec_readGroup_1 (by decide) ?_
  refine lv_icmp_le (tgt := 20) hx hb d_Rec_readGroup_3 (by decide) (fun c3176 => ?_) (fun c3176 => ?_)
  · have hw := hw.1 c3176
    exact t_Rec_readGroup_20 hx hb hml hown hT hK hN hA hRc hRs hRf hRl hNN hE hret hs_Rec_readGroup hs_Rec_readOne hs_Rec_readValues hDf hDl  o l1 l2 l3 x H locs ls fo hw hW hS (lv_sub hl [0, 1, 2, 3] rfl)
  · have hw := hw.2 c3176
    refine lv_aload_n hx hb d_Rec_readGroup_6 rfl (lv_at hl 0 rfl) ?_
    obtain ⟨q3177, hq3177, hw⟩ := hw
    refine w_getr (q := q3177) (k := 13) (t := 4) (C := R_Rec) (T := F_Rec) (N := 15) hx hb hT hown hK hW fo.1 fo.2 (by decide) in_Rec rfl rfl (by decide) rfl fr_Rec_13 w_2_8 d_Rec_readGroup_7 hq3177 (fun aq3177 bq3177 => ?_)
    have fq3177 : q3177 < NN ∧ kcC q3177 = 2 := ⟨aq3177, bq3177⟩
    refine lv_aload_n hx hb d_Rec_readGroup_10 rfl (lv_at hl 0 rfl) ?_
    obtain ⟨q3178, hq3178, hw⟩ := hw
    refine w_getr (q := q3178) (k := 13) (t := 4) (C := R_Rec) (T := F_Rec) (N := 15) hx hb hT hown hK hW fo.1 fo.2 (by decide) in_Rec rfl rfl (by decide) rfl fr_Rec_13 w_2_8 d_Rec_readGroup_11 hq3178 (fun aq3178 bq3178 => ?_)
    have fq3178 : q3178 < NN ∧ kcC q3178 = 2 := ⟨aq3178, bq3178⟩
    refine w_geti (k := 2) (t := 2) (C := R_Scn) (T := F_Scn) (N := 8) hx hb hT hown hK hW fq3178.1 fq3178.2 (by decide) in_Scn rfl rfl (by decide) rfl fr_Scn_2 w_1_87 d_Rec_readGroup_14 ?_
    have hF := hW.free hS hA
    refine va_callv (va_runV (C := R_Scn) (As := [.int (fI x q3178 2)]) (rest := []) ⟨hx, hb, hml, hown, hT⟩ (k_Scn_refuse l dC dI cI cB cJ cZ ad NN E tM tC kK kV hNN H.size q3177 (fI x q3178 2) x fq3177 hw) ⟨callB_of 1 hT (gw_in w_4_128) rfl rfl rfl (hT _ w_1_4) (hT _ w_5_27) (by decide +kernel) ⟨Nat.le_trans (by decide) hRf, Nat.le_trans (by decide) hRl⟩, hT _ w_4_126, hT _ w_4_127⟩ ⟨PV.blind, va_recv hK hW.1 (ci := 2) (q0 := q3177) rfl (pic_obj fq3177.1 fq3177.2 (by decide)), PV.at _ hW hK hN hE hS hF⟩ rfl rfl hl.1 rfl (lv_room (Nat.le_of_ble_eq_true rfl)) d_Rec_readGroup_17 ⟨hRc, hRs⟩) hS (fun q _ h => hF q h) hF (fun  x3179 t H locs ht hvm hw hB hz1 hk1 hS => ?_)
    have hW := Wd.back hB ht hF
    clear hB ht hF hz1 hk1 hvm
    exact t_Rec_readGroup_20 hx hb hml hown hT hK hN hA hRc hRs hRf hRl hNN hE hret hs_Rec_readGroup hs_Rec_readOne hs_Rec_readValues hDf hDl  o l1 l2 l3 x3179 H locs ls fo hw hW hS (lv_sub hl [0, 1, 2, 3] rfl)
set_option maxRecDepth 100000 in
def wb_Rec_readOne (post : St → Prop) (self_Rec_readGroup : (St → Prop) → Nat → Int32 → Int32 → Int32 → St → Prop) (self_Rec_readOne : (St → Prop) → Nat → Int32 → Int32 → Int32 → St → Prop) (self_Rec_readValues : (St → Prop) → Nat → Int32 → Int32 → Int32 → St → Prop) (o : Nat) (l1 : Int32) (l2 : Int32) (l3 : Int32) (x : St) : Prop := (∃ q3180 : Nat, fR x o 14 = some q3180 ∧ (vp_in l1 (fN x (stC q3180 3)) ∧ ((¬ (rA x (stC q3180 3) l1) = 4 → (∃ q3182 : Nat, fR x o 14 = some q3182 ∧ (vp_in l1 (fN x (stC q3182 3)) ∧ wp_Rec_readValue (fun (r3184 : Int64) (x3183 : St) => (∃ q3185 : Nat, fR x3183 o 13 = some q3185 ∧ wp_Scn_good (fun (r3187 : Int32) (x3186 : St) => ((r3187 = 0 → post x3186) ∧ (¬ r3187 = 0 → (∃ q3189 : Nat, fR x3186 o 14 = some q3189 ∧ (vp_in l1 (fN x3186 (stC q3189 9)) ∧ (∃ q3190 : Nat, fR x3186 o 14 = some q3190 ∧ (vp_in l1 (fN x3186 (stC q3190 6)) ∧ wp_Rec_enter (fun (x3191 : St) => post x3191) o (rA x3186 (stC q3189 9) l1) l2 (rA x3186 (stC q3190 6) l1) r3184 x3186))))))) q3185 x3183)) o (rA x (stC q3182 3) l1) x))) ∧ ((rA x (stC q3180 3) l1) = 4 → self_Rec_readGroup (fun (x3192 : St) => post x3192) o l1 l2 (l3 + 1) x))))
set_option maxHeartbeats 4000000 in
set_option maxRecDepth 100000 in
theorem t_Rec_readOne_e {p : Program} {l : Launch} {e : Env} {R : Room} {s : State} {m : MethodId} {args : Array Value} {below : List Frame} {meth : Method} {c : Code} {cells slots : Nat} {Q : State → Prop} {dC : Nat → ClassId} {dI : Nat → Nat → Nat} {cI cB cJ cZ : ClassId} {A : Nat → Prop} {ad : Nat → Nat} {NN : Nat} {E : Heap} {tM tC : Nat} {kK kV : Nat → Nat} {post : St → Prop} {self_Rec_readGroup : (St → Prop) → Nat → Int32 → Int32 → Int32 → St → Prop} {self_Rec_readOne : (St → Prop) → Nat → Int32 → Int32 → Int32 → St → Prop} {self_Rec_readValues : (St → Prop) → Nat → Int32 → Int32 → Int32 → St → Prop} {fd ld : Nat} (hx : p.tables.exec = Jvm.exec) (hb : c.code = b_Rec_readOne) (hml : c.maxLocals = 6) (hown : s.vm.findClass R_Rec = some m.cls) (hT : ∀ w ∈ TG, w.before args s = true) (hK : va_K (dC, dI) CL (TY cI cB cJ cZ) s) (hN : NW s) (hA : ∀ q : Nat, s.heap.size ≤ q → A q) (hRc : cells ≤ R.cells) (hRs : slots ≤ R.slots) (hRf : 8 ≤ R.frames) (hRl : 287 ≤ R.locals) (hNN : 152 ≤ NN) (hE : CE E tM tC kK kV A s) (hret : ∀ (x : St) (H : Heap) (locs : List Loc) (pc : Nat) (ls : Array Slot), decode b_Rec_readOne pc = .ok (.return_, 1) → post x → Wd dC dI cI cB cJ cZ ad stC kcC NN A x H → va_S A s.heap H locs → W p l e R s m args below meth c H locs cells slots Q (F0 m pc ls [])) (hs_Rec_readGroup : ∀ (sz : Nat) (o : Nat) (l1 : Int32) (l2 : Int32) (l3 : Int32) (x : St), (o < NN ∧ kcC o = 4) → ∀ (post : St → Prop), self_Rec_readGroup post o l1 l2 l3 x → Met l y_Rec_readGroup (wsOf y_Rec_readGroup b_Rec_readGroup 9 (none)) ({ frames := fd, cells := 0, slots := 0, locals := ld }) (va_Pc [.ref (ad o), .int l1, .int l2, .int l3] (PV dC dI cI cB cJ cZ ad stC kcC NN E tM tC kK kV sz x)) (va_Qv (fun (y : St) => post y) (fun y t => Wd dC dI cI cB cJ cZ ad stC kcC NN (va_A (pic ad stC kcC NN cI cB cJ cZ x) sz) y t.heap) (va_A (pic ad stC kcC NN cI cB cJ cZ x) sz)) 0 0 (va_A (pic ad stC kcC NN cI cB cJ cZ x) sz)) (hs_Rec_readOne : ∀ (sz : Nat) (o : Nat) (l1 : Int32) (l2 : Int32) (l3 : Int32) (x : St), (o < NN ∧ kcC o = 4) → ∀ (post : St → Prop), self_Rec_readOne post o l1 l2 l3 x → Met l y_Rec_readOne (wsOf y_Rec_readOne b_Rec_readOne 6 (none)) ({ frames := fd, cells := 0, slots := 0, locals := ld }) (va_Pc [.ref (ad o), .int l1, .int l2, .int l3] (PV dC dI cI cB cJ cZ ad stC kcC NN E tM tC kK kV sz x)) (va_Qv (fun (y : St) => post y) (fun y t => Wd dC dI cI cB cJ cZ ad stC kcC NN (va_A (pic ad stC kcC NN cI cB cJ cZ x) sz) y t.heap) (va_A (pic ad stC kcC NN cI cB cJ cZ x) sz)) 0 0 (va_A (pic ad stC kcC NN cI cB cJ cZ x) sz)) (hs_Rec_readValues : ∀ (sz : Nat) (o : Nat) (l1 : Int32) (l2 : Int32) (l3 : Int32) (x : St), (o < NN ∧ kcC o = 4) → ∀ (post : St → Prop), self_Rec_readValues post o l1 l2 l3 x → Met l y_Rec_readValues (wsOf y_Rec_readValues b_Rec_readValues 7 (none)) ({ frames := fd, cells := 0, slots := 0, locals := ld }) (va_Pc [.ref (ad o), .int l1, .int l2, .int l3] (PV dC dI cI cB cJ cZ ad stC kcC NN E tM tC kK kV sz x)) (va_Qv (fun (y : St) => post y) (fun y t => Wd dC dI cI cB cJ cZ ad stC kcC NN (va_A (pic ad stC kcC NN cI cB cJ cZ x) sz) y t.heap) (va_A (pic ad stC kcC NN cI cB cJ cZ x) sz)) 0 0 (va_A (pic ad stC kcC NN cI cB cJ cZ x) sz)) (hDf : fd + 1 ≤ R.frames) (hDl : 28 + ld ≤ R.locals) : ∀ (o : Nat) (l1 : Int32) (l2 : Int32) (l3 : Int32) (x : St) (H : Heap) (locs : List Loc) (ls : Array Slot), (o < NN ∧ kcC o = 4) → wb_Rec_readOne post self_Rec_readGroup self_Rec_readOne self_Rec_readValues o l1 l2 l3 x → Wd dC dI cI cB cJ cZ ad stC kcC NN A x H → va_S A s.heap H locs → lv_has ls 6 [(0, .ref (ad o)), (1, .int l1), (2, .int l2), (3, .int l3)] → W p l e R s m args below meth c H locs cells slots Q (F0 m 0 ls []) := by
  intro o l1 l2 l3 x H locs ls fo hw hW hS hl
  unfold wb_Rec_readOne at hw
  refine lv_aload_n hx hb d_Rec_readOne_0 rfl (lv_at hl 0 rfl) ?_
  obtain ⟨q3180, hq3180, hw⟩ := hw
  refine w_getr (q := q3180) (k := 14) (t := 4) (C := R_Rec) (T := F_Rec) (N := 15) hx hb hT hown hK hW fo.1 fo.2 (by decide) in_Rec rfl rfl (by decide) rfl fr_Rec_14 w_2_9 d_Rec_readOne_1 hq3180 (fun aq3180 bq3180 => ?_)
  have fq3180 : q3180 < NN ∧ kcC q3180 = 3 := ⟨aq3180, bq3180⟩
  refine w_getf (q := (stC q3180 3)) (k := 3) (t := 3) (C := R_Sch) (T := F_Sch) (N := 13) hx hb hT hown hK hW fq3180.1 fq3180.2 (by decide) in_Sch rfl rfl (by decide) rfl fr_Sch_3 w_1_151 d_Rec_readOne_4 rfl ?_
  refine lv_iload_n hx hb d_Rec_readOne_7 rfl (lv_at hl 1 rfl) ?_
  obtain ⟨hi, hw⟩ := hw
  refine w_iald (o := (stC q3180 3)) hx hb hK hW (st_ty hNN fq3180.1 fq3180.2 rfl).1 (st_ty hNN fq3180.1 fq3180.2 rfl).2 hi d_Rec_readOne_8 ?_
  refine lv_iconst (v := 4) hx hb d_Rec_readOne_9 (by decide) ?_
  refine lv_icmp_ne (tgt := 23) hx hb d_Rec_readOne_10 (by decide) (fun c3181 => ?_) (fun c3181 => ?_)
  · have hw := hw.1 c3181
    refine lv_aload_n hx hb d_Rec_readOne_23 rfl (lv_at hl 0 rfl) ?_
    refine lv_aload_n hx hb d_Rec_readOne_24 rfl (lv_at hl 0 rfl) ?_
    obtain ⟨q3182, hq3182, hw⟩ := hw
    refine w_getr (q := q3182) (k := 14) (t := 4) (C := R_Rec) (T := F_Rec) (N := 15) hx hb hT hown hK hW fo.1 fo.2 (by decide) in_Rec rfl rfl (by decide) rfl fr_Rec_14 w_2_9 d_Rec_readOne_25 hq3182 (fun aq3182 bq3182 => ?_)
    have fq3182 : q3182 < NN ∧ kcC q3182 = 3 := ⟨aq3182, bq3182⟩
    refine w_getf (q := (stC q3182 3)) (k := 3) (t := 3) (C := R_Sch) (T := F_Sch) (N := 13) hx hb hT hown hK hW fq3182.1 fq3182.2 (by decide) in_Sch rfl rfl (by decide) rfl fr_Sch_3 w_1_151 d_Rec_readOne_28 rfl ?_
    refine lv_iload_n hx hb d_Rec_readOne_31 rfl (lv_at hl 1 rfl) ?_
    obtain ⟨hi, hw⟩ := hw
    refine w_iald (o := (stC q3182 3)) hx hb hK hW (st_ty hNN fq3182.1 fq3182.2 rfl).1 (st_ty hNN fq3182.1 fq3182.2 rfl).2 hi d_Rec_readOne_32 ?_
    have hF := hW.free hS hA
    refine va_calll (va_runV (C := R_Rec) (As := [.int (rA x (stC q3182 3) l1)]) (rest := []) ⟨hx, hb, hml, hown, hT⟩ (k_Rec_readValue l dC dI cI cB cJ cZ ad NN E tM tC kK kV hNN H.size o (rA x (stC q3182 3) l1) x fo hw) ⟨callB_of 1 hT (gw_in w_5_63) rfl rfl rfl (hT _ w_1_6) (hT _ w_5_60) (by decide +kernel) ⟨Nat.le_trans (by decide) hRf, Nat.le_trans (by decide) hRl⟩, hT _ w_5_62, hT _ ws_12⟩ ⟨PV.blind, va_recv hK hW.1 (ci := 4) (q0 := o) rfl (pic_obj fo.1 fo.2 (by decide)), PV.at _ hW hK hN hE hS hF⟩ rfl rfl hl.1 rfl (lv_room (Nat.le_of_ble_eq_true rfl)) d_Rec_readOne_33 ⟨hRc, hRs⟩) hS (fun q _ h => hF q h) hF (fun r3184 x3183 t H locs ht hvm hw hB hz1 hk1 hS => ?_)
    have hW := Wd.back hB ht hF
    clear hB ht hF hz1 hk1 hvm
    refine lv_lstore (lv' := [(4, .long r3184), (0, .ref (ad o)), (1, .int l1), (2, .int l2), (3, .int l3)]) hx hb d_Rec_readOne_36 hl (by decide) rfl (fun ls hl => ?_)
    refine lv_aload_n hx hb d_Rec_readOne_38 rfl (lv_at hl 1 rfl) ?_
    obtain ⟨q3185, hq3185, hw⟩ := hw
    refine w_getr (q := q3185) (k := 13) (t := 4) (C := R_Rec) (T := F_Rec) (N := 15) hx hb hT hown hK hW fo.1 fo.2 (by decide) in_Rec rfl rfl (by decide) rfl fr_Rec_13 w_2_8 d_Rec_readOne_39 hq3185 (fun aq3185 bq3185 => ?_)
    have fq3185 : q3185 < NN ∧ kcC q3185 = 2 := ⟨aq3185, bq3185⟩
    have hF := hW.free hS hA
    refine va_calli (va_runV (C := R_Scn) (As := []) (rest := []) ⟨hx, hb, hml, hown, hT⟩ (k_Scn_good l dC dI cI cB cJ cZ ad NN E tM tC kK kV hNN H.size q3185 x3183 fq3185 hw) ⟨callB_of 0 hT (gw_in w_4_106) rfl rfl rfl (hT _ w_1_4) (hT _ w_5_31) (by decide +kernel) ⟨Nat.le_trans (by decide) hRf, Nat.le_trans (by decide) hRl⟩, hT _ w_4_104, hT _ w_4_105⟩ ⟨PV.blind, va_recv hK hW.1 (ci := 2) (q0 := q3185) rfl (pic_obj fq3185.1 fq3185.2 (by decide)), PV.at _ hW hK hN hE hS hF⟩ rfl rfl hl.1 rfl (lv_room (Nat.le_of_ble_eq_true rfl)) d_Rec_readOne_42 ⟨hRc, hRs⟩) hS (fun q _ h => hF q h) hF (fun r3187 x3186 t H locs ht hvm hw hB hz1 hk1 hS => ?_)
    have hW := Wd.back hB ht hF
    clear hB ht hF hz1 hk1 hvm
    refine lv_if_eq (tgt := 73) hx hb d_Rec_readOne_45 (by decide) (fun c3188 => ?_) (fun c3188 => ?_)
    · have hw := hw.1 c3188
      exact hret x3186 H locs 73 ls d_Rec_readOne_73 hw hW hS
    · have hw := hw.2 c3188
      refine lv_aload_n hx hb d_Rec_readOne_48 rfl (lv_at hl 1 rfl) ?_
      refine lv_aload_n hx hb d_Rec_readOne_49 rfl (lv_at hl 1 rfl) ?_
      obtain ⟨q3189, hq3189, hw⟩ := hw
      refine w_getr (q := q3189) (k := 14) (t := 4) (C := R_Rec) (T := F_Rec) (N := 15) hx hb hT hown hK hW fo.1 fo.2 (by decide) in_Rec rfl rfl (by decide) rfl fr_Rec_14 w_2_9 d_Rec_readOne_50 hq3189 (fun aq3189 bq3189 => ?_)
      have fq3189 : q3189 < NN ∧ kcC q3189 = 3 := ⟨aq3189, bq3189⟩
      refine w_getf (q := (stC q3189 9)) (k := 9) (t := 3) (C := R_Sch) (T := F_Sch) (N := 13) hx hb hT hown hK hW fq3189.1 fq3189.2 (by decide) in_Sch rfl rfl (by decide) rfl fr_Sch_9 w_1_176 d_Rec_readOne_53 rfl ?_
      refine lv_iload_n hx hb d_Rec_readOne_56 rfl (lv_at hl 2 rfl) ?_
      obtain ⟨hi, hw⟩ := hw
      refine w_iald (o := (stC q3189 9)) hx hb hK hW (st_ty hNN fq3189.1 fq3189.2 rfl).1 (st_ty hNN fq3189.1 fq3189.2 rfl).2 hi d_Rec_readOne_57 ?_
      refine lv_iload_n hx hb d_Rec_readOne_58 rfl (lv_at hl 3 rfl) ?_
      refine lv_aload_n hx hb d_Rec_readOne_59 rfl (lv_at hl 1 rfl) ?_
      obtain ⟨q3190, hq3190, hw⟩ := hw
      refine w_getr (q := q3190) (k := 14) (t := 4) (C := R_Rec) (T := F_Rec) (N := 15) hx hb hT hown hK hW fo.1 fo.2 (by decide) in_Rec rfl rfl (by decide) rfl fr_Rec_14 w_2_9 d_Rec_readOne_60 hq3190 (fun aq3190 bq3190 => ?_)
      have fq3190 : q3190 < NN ∧ kcC q3190 = 3 := ⟨aq3190, bq3190⟩
      refine w_getf (q := (stC q3190 6)) (k := 6) (t := 3) (C := R_Sch) (T := F_Sch) (N := 13) hx hb hT hown hK hW fq3190.1 fq3190.2 (by decide) in_Sch rfl rfl (by decide) rfl fr_Sch_6 w_1_166 d_Rec_readOne_63 rfl ?_
      refine lv_iload_n hx hb d_Rec_readOne_66 rfl (lv_at hl 2 rfl) ?_
      obtain ⟨hi, hw⟩ := hw
      refine w_iald (o := (stC q3190 6)) hx hb hK hW (st_ty hNN fq3190.1 fq3190.2 rfl).1 (st_ty hNN fq3190.1 fq3190.2 rfl).2 hi d_Rec_readOne_67 ?_
      refine lv_lload hx hb d_Rec_readOne_68 (lv_at hl 0 rfl) ?_
      have hF := hW.free hS hA
      refine va_callv (va_runV (C := R_Rec) (As := [.int (rA x3186 (stC q3189 9) l1), .int l2, .int (rA x3186 (stC q3190 6) l1), .long r3184]) (rest := []) ⟨hx, hb, hml, hown, hT⟩ (k_Rec_enter l dC dI cI cB cJ cZ ad NN E tM tC kK kV hNN H.size o (rA x3186 (stC q3189 9) l1) l2 (rA x3186 (stC q3190 6) l1) r3184 x3186 fo hw) ⟨callB_of 4 hT (gw_in w_5_51) rfl rfl rfl (hT _ w_1_6) (hT _ w_5_48) (by decide +kernel) ⟨Nat.le_trans (by decide) hRf, Nat.le_trans (by decide) hRl⟩, hT _ w_5_50, hT _ ws_9⟩ ⟨PV.blind, va_recv hK hW.1 (ci := 4) (q0 := o) rfl (pic_obj fo.1 fo.2 (by decide)), PV.at _ hW hK hN hE hS hF⟩ rfl rfl hl.1 rfl (lv_room (Nat.le_of_ble_eq_true rfl)) d_Rec_readOne_70 ⟨hRc, hRs⟩) hS (fun q _ h => hF q h) hF (fun  x3191 t H locs ht hvm hw hB hz1 hk1 hS => ?_)
      have hW := Wd.back hB ht hF
      clear hB ht hF hz1 hk1 hvm
      exact hret x3191 H locs 73 ls d_Rec_readOne_73 hw hW hS
  · have hw := hw.2 c3181
    refine lv_aload_n hx hb d_Rec_readOne_13 rfl (lv_at hl 0 rfl) ?_
    refine lv_iload_n hx hb d_Rec_readOne_14 rfl (lv_at hl 1 rfl) ?_
    refine lv_iload_n hx hb d_Rec_readOne_15 rfl (lv_at hl 2 rfl) ?_
    refine lv_iload_n hx hb d_Rec_readOne_16 rfl (lv_at hl 3 rfl) ?_
    refine lv_iconst (v := 1) hx hb d_Rec_readOne_17 (by decide) ?_
    refine lv_iadd hx hb d_Rec_readOne_18 ?_
    have hF := hW.free hS hA
    refine va_callv (va_runV (C := R_Rec) (As := [.int l1, .int l2, .int (l3 + 1)]) (rest := []) ⟨hx, hb, hml, hown, hT⟩ (hs_Rec_readGroup H.size o l1 l2 (l3 + 1) x fo _ hw) ⟨callB_of 3 hT (gw_in w_5_26) rfl rfl rfl (hT _ w_1_6) (hT _ w_5_23) (by decide +kernel) ⟨hDf, Nat.le_trans (Nat.add_le_add_right (by decide) _) hDl⟩, hT _ w_5_25, hT _ ws_6⟩ ⟨PV.blind, va_recv hK hW.1 (ci := 4) (q0 := o) rfl (pic_obj fo.1 fo.2 (by decide)), PV.at _ hW hK hN hE hS hF⟩ rfl rfl hl.1 rfl (lv_room (Nat.le_of_ble_eq_true rfl)) d_Rec_readOne_19 ⟨hRc, hRs⟩) hS (fun q _ h => hF q h) hF (fun  x3192 t H locs ht hvm hw hB hz1 hk1 hS => ?_)
    have hW := Wd.back hB ht hF
    clear hB ht hF hz1 hk1 hvm
    exact hret x3192 H locs 22 ls d_Rec_readOne_22 hw hW hS
set_option maxRecDepth 100000 in
def j_Rec_readValues_158 (post : St → Prop) (self_Rec_readGroup : (St → Prop) → Nat → Int32 → Int32 → Int32 → St → Prop) (self_Rec_readOne : (St → Prop) → Nat → Int32 → Int32 → Int32 → St → Prop) (self_Rec_readValues : (St → Prop) → Nat → Int32 → Int32 → Int32 → St → Prop) (o : Nat) (l1 : Int32) (l2 : Int32) (l3 : Int32) (l4 : Int32) (l5 : Int32) (l6 : Int32) (x : St) : Prop := (∃ q3193 : Nat, fR x o 13 = some q3193 ∧ wp_Scn_needSign (fun (x3194 : St) => post x3194) q3193 93 x)
set_option maxHeartbeats 4000000 in
set_option maxRecDepth 100000 in
theorem t_Rec_readValues_158 {p : Program} {l : Launch} {e : Env} {R : Room} {s : State} {m : MethodId} {args : Array Value} {below : List Frame} {meth : Method} {c : Code} {cells slots : Nat} {Q : State → Prop} {dC : Nat → ClassId} {dI : Nat → Nat → Nat} {cI cB cJ cZ : ClassId} {A : Nat → Prop} {ad : Nat → Nat} {NN : Nat} {E : Heap} {tM tC : Nat} {kK kV : Nat → Nat} {post : St → Prop} {self_Rec_readGroup : (St → Prop) → Nat → Int32 → Int32 → Int32 → St → Prop} {self_Rec_readOne : (St → Prop) → Nat → Int32 → Int32 → Int32 → St → Prop} {self_Rec_readValues : (St → Prop) → Nat → Int32 → Int32 → Int32 → St → Prop} {fd ld : Nat} (hx : p.tables.exec = Jvm.exec) (hb : c.code = b_Rec_readValues) (hml : c.maxLocals = 7) (hown : s.vm.findClass R_Rec = some m.cls) (hT : ∀ w ∈ TG, w.before args s = true) (hK : va_K (dC, dI) CL (TY cI cB cJ cZ) s) (hN : NW s) (hA : ∀ q : Nat, s.heap.size ≤ q → A q) (hRc : cells ≤ R.cells) (hRs : slots ≤ R.slots) (hRf : 8 ≤ R.frames) (hRl : 287 ≤ R.locals) (hNN : 152 ≤ NN) (hE : CE E tM tC kK kV A s) (hret : ∀ (x : St) (H : Heap) (locs : List Loc) (pc : Nat) (ls : Array Slot), decode b_Rec_readValues pc = .ok (.return_, 1) → post x → Wd dC dI cI cB cJ cZ ad stC kcC NN A x H → va_S A s.heap H locs → W p l e R s m args below meth c H locs cells slots Q (F0 m pc ls [])) (hs_Rec_readGroup : ∀ (sz : Nat) (o : Nat) (l1 : Int32) (l2 : Int32) (l3 : Int32) (x : St), (o < NN ∧ kcC o = 4) → ∀ (post : St → Prop), self_Rec_readGroup post o l1 l2 l3 x → Met l y_Rec_readGroup (wsOf y_Rec_readGroup b_Rec_readGroup 9 (none)) ({ frames := fd, cells := 0, slots := 0, locals := ld }) (va_Pc [.ref (ad o), .int l1, .int l2, .int l3] (PV dC dI cI cB cJ cZ ad stC kcC NN E tM tC kK kV sz x)) (va_Qv (fun (y : St) => post y) (fun y t => Wd dC dI cI cB cJ cZ ad stC kcC NN (va_A (pic ad stC kcC NN cI cB cJ cZ x) sz) y t.heap) (va_A (pic ad stC kcC NN cI cB cJ cZ x) sz)) 0 0 (va_A (pic ad stC kcC NN cI cB cJ cZ x) sz)) (hs_Rec_readOne : ∀ (sz : Nat) (o : Nat) (l1 : Int32) (l2 : Int32) (l3 : Int32) (x : St), (o < NN ∧ kcC o = 4) → ∀ (post : St → Prop), self_Rec_readOne post o l1 l2 l3 x → Met l y_Rec_readOne (wsOf y_Rec_readOne b_Rec_readOne 6 (none)) ({ frames := fd, cells := 0, slots := 0, locals := ld }) (va_Pc [.ref (ad o), .int l1, .int l2, .int l3] (PV dC dI cI cB cJ cZ ad stC kcC NN E tM tC kK kV sz x)) (va_Qv (fun (y : St) => post y) (fun y t => Wd dC dI cI cB cJ cZ ad stC kcC NN (va_A (pic ad stC kcC NN cI cB cJ cZ x) sz) y t.heap) (va_A (pic ad stC kcC NN cI cB cJ cZ x) sz)) 0 0 (va_A (pic ad stC kcC NN cI cB cJ cZ x) sz)) (hs_Rec_readValues : ∀ (sz : Nat) (o : Nat) (l1 : Int32) (l2 : Int32) (l3 : Int32) (x : St), (o < NN ∧ kcC o = 4) → ∀ (post : St → Prop), self_Rec_readValues post o l1 l2 l3 x → Met l y_Rec_readValues (wsOf y_Rec_readValues b_Rec_readValues 7 (none)) ({ frames := fd, cells := 0, slots := 0, locals := ld }) (va_Pc [.ref (ad o), .int l1, .int l2, .int l3] (PV dC dI cI cB cJ cZ ad stC kcC NN E tM tC kK kV sz x)) (va_Qv (fun (y : St) => post y) (fun y t => Wd dC dI cI cB cJ cZ ad stC kcC NN (va_A (pic ad stC kcC NN cI cB cJ cZ x) sz) y t.heap) (va_A (pic ad stC kcC NN cI cB cJ cZ x) sz)) 0 0 (va_A (pic ad stC kcC NN cI cB cJ cZ x) sz)) (hDf : fd + 1 ≤ R.frames) (hDl : 28 + ld ≤ R.locals)  : ∀ (o : Nat) (l1 : Int32) (l2 : Int32) (l3 : Int32) (l4 : Int32) (l5 : Int32) (l6 : Int32) (x : St) (H : Heap) (locs : List Loc) (ls : Array Slot), (o < NN ∧ kcC o = 4) → j_Rec_readValues_158 post self_Rec_readGroup self_Rec_readOne self_Rec_readValues o l1 l2 l3 l4 l5 l6 x → Wd dC dI cI cB cJ cZ ad stC kcC NN A x H → va_S A s.heap H locs → lv_has ls 7 [(0, .ref (ad o)), (1, .int l1), (2, .int l2), (3, .int l3), (4, .int l4), (5, .int l5), (6, .int l6)] → W p l e R s m args below meth c H locs cells slots Q (F0 m 158 ls []) := by
  intro o l1 l2 l3 l4 l5 l6 x H locs ls fo hw hW hS hl
  unfold j_Rec_readValues_158 at hw
  refine lv_aload_n hx hb d_Rec_readValues_158 rfl (lv_at hl 0 rfl) ?_
  obtain ⟨q3193, hq3193, hw⟩ := hw
  refine w_getr (q := q3193) (k := 13) (t := 4) (C := R_Rec) (T := F_Rec) (N := 15) hx hb hT hown hK hW fo.1 fo.2 (by decide) in_Rec rfl rfl (by decide) rfl fr_Rec_13 w_2_8 d_Rec_readValues_159 hq3193 (fun aq3193 bq3193 => ?_)
  have fq3193 : q3193 < NN ∧ kcC q3193 = 2 := ⟨aq3193, bq3193⟩
  refine lv_bipush (v := 93) hx hb d_Rec_readValues_162 (by decide) ?_
  have hF := hW.free hS hA
  refine va_callv (va_runV (C := R_Scn) (As := [.int 93]) (rest := []) ⟨hx, hb, hml, hown, hT⟩ (k_Scn_needSign l dC dI cI cB cJ cZ ad NN E tM tC kK kV hNN H.size q3193 93 x fq3193 hw) ⟨callB_of 1 hT (gw_in w_4_118) rfl rfl rfl (hT _ w_1_4) (hT _ w_5_28) (by decide +kernel) ⟨Nat.le_trans (by decide) hRf, Nat.le_trans (by decide) hRl⟩, hT _ w_4_116, hT _ w_4_117⟩ ⟨PV.blind, va_recv hK hW.1 (ci := 2) (q0 := q3193) rfl (pic_obj fq3193.1 fq3193.2 (by decide)), PV.at _ hW hK hN hE hS hF⟩ rfl rfl hl.1 rfl (lv_room (Nat.le_of_ble_eq_true rfl)) d_Rec_readValues_164 ⟨hRc, hRs⟩) hS (fun q _ h => hF q h) hF (fun  x3194 t H locs ht hvm hw hB hz1 hk1 hS => ?_)
  have hW := Wd.back hB ht hF
  clear hB ht hF hz1 hk1 hvm
  exact hret x3194 H locs 167 ls d_Rec_readValues_167 hw hW hS
set_option maxRecDepth 100000 in
def j_Rec_readValues_150 (post : St → Prop) (self_Rec_readGroup : (St → Prop) → Nat → Int32 → Int32 → Int32 → St → Prop) (self_Rec_readOne : (St → Prop) → Nat → Int32 → Int32 → Int32 → St → Prop) (self_Rec_readValues : (St → Prop) → Nat → Int32 → Int32 → Int32 → St → Prop) (rec87 : Nat → Int32 → Int32 → Int32 → Int32 → Int32 → Int32 → St → Prop) (o : Nat) (l1 : Int32) (l2 : Int32) (l3 : Int32) (l4 : Int32) (l5 : Int32) (l6 : Int32) (s0 : Int32) (x : St) : Prop := rec87 o l1 l2 l3 l4 s0 (l6 + 1) x
set_option maxHeartbeats 4000000 in
set_option maxRecDepth 100000 in
theorem t_Rec_readValues_150 {p : Program} {l : Launch} {e : Env} {R : Room} {s : State} {m : MethodId} {args : Array Value} {below : List Frame} {meth : Method} {c : Code} {cells slots : Nat} {Q : State → Prop} {dC : Nat → ClassId} {dI : Nat → Nat → Nat} {cI cB cJ cZ : ClassId} {A : Nat → Prop} {ad : Nat → Nat} {NN : Nat} {E : Heap} {tM tC : Nat} {kK kV : Nat → Nat} {post : St → Prop} {self_Rec_readGroup : (St → Prop) → Nat → Int32 → Int32 → Int32 → St → Prop} {self_Rec_readOne : (St → Prop) → Nat → Int32 → Int32 → Int32 → St → Prop} {self_Rec_readValues : (St → Prop) → Nat → Int32 → Int32 → Int32 → St → Prop} {fd ld : Nat} {rec87 : Nat → Int32 → Int32 → Int32 → Int32 → Int32 → Int32 → St → Prop} (hx : p.tables.exec = Jvm.exec) (hb : c.code = b_Rec_readValues) (hml : c.maxLocals = 7) (hown : s.vm.findClass R_Rec = some m.cls) (hT : ∀ w ∈ TG, w.before args s = true) (hK : va_K (dC, dI) CL (TY cI cB cJ cZ) s) (hN : NW s) (hA : ∀ q : Nat, s.heap.size ≤ q → A q) (hRc : cells ≤ R.cells) (hRs : slots ≤ R.slots) (hRf : 8 ≤ R.frames) (hRl : 287 ≤ R.locals) (hNN : 152 ≤ NN) (hE : CE E tM tC kK kV A s) (hret : ∀ (x : St) (H : Heap) (locs : List Loc) (pc : Nat) (ls : Array Slot), decode b_Rec_readValues pc = .ok (.return_, 1) → post x → Wd dC dI cI cB cJ cZ ad stC kcC NN A x H → va_S A s.heap H locs → W p l e R s m args below meth c H locs cells slots Q (F0 m pc ls [])) (hs_Rec_readGroup : ∀ (sz : Nat) (o : Nat) (l1 : Int32) (l2 : Int32) (l3 : Int32) (x : St), (o < NN ∧ kcC o = 4) → ∀ (post : St → Prop), self_Rec_readGroup post o l1 l2 l3 x → Met l y_Rec_readGroup (wsOf y_Rec_readGroup b_Rec_readGroup 9 (none)) ({ frames := fd, cells := 0, slots := 0, locals := ld }) (va_Pc [.ref (ad o), .int l1, .int l2, .int l3] (PV dC dI cI cB cJ cZ ad stC kcC NN E tM tC kK kV sz x)) (va_Qv (fun (y : St) => post y) (fun y t => Wd dC dI cI cB cJ cZ ad stC kcC NN (va_A (pic ad stC kcC NN cI cB cJ cZ x) sz) y t.heap) (va_A (pic ad stC kcC NN cI cB cJ cZ x) sz)) 0 0 (va_A (pic ad stC kcC NN cI cB cJ cZ x) sz)) (hs_Rec_readOne : ∀ (sz : Nat) (o : Nat) (l1 : Int32) (l2 : Int32) (l3 : Int32) (x : St), (o < NN ∧ kcC o = 4) → ∀ (post : St → Prop), self_Rec_readOne post o l1 l2 l3 x → Met l y_Rec_readOne (wsOf y_Rec_readOne b_Rec_readOne 6 (none)) ({ frames := fd, cells := 0, slots := 0, locals := ld }) (va_Pc [.ref (ad o), .int l1, .int l2, .int l3] (PV dC dI cI cB cJ cZ ad stC kcC NN E tM tC kK kV sz x)) (va_Qv (fun (y : St) => post y) (fun y t => Wd dC dI cI cB cJ cZ ad stC kcC NN (va_A (pic ad stC kcC NN cI cB cJ cZ x) sz) y t.heap) (va_A (pic ad stC kcC NN cI cB cJ cZ x) sz)) 0 0 (va_A (pic ad stC kcC NN cI cB cJ cZ x) sz)) (hs_Rec_readValues : ∀ (sz : Nat) (o : Nat) (l1 : Int32) (l2 : Int32) (l3 : Int32) (x : St), (o < NN ∧ kcC o = 4) → ∀ (post : St → Prop), self_Rec_readValues post o l1 l2 l3 x → Met l y_Rec_readValues (wsOf y_Rec_readValues b_Rec_readValues 7 (none)) ({ frames := fd, cells := 0, slots := 0, locals := ld }) (va_Pc [.ref (ad o), .int l1, .int l2, .int l3] (PV dC dI cI cB cJ cZ ad stC kcC NN E tM tC kK kV sz x)) (va_Qv (fun (y : St) => post y) (fun y t => Wd dC dI cI cB cJ cZ ad stC kcC NN (va_A (pic ad stC kcC NN cI cB cJ cZ x) sz) y t.heap) (va_A (pic ad stC kcC NN cI cB cJ cZ x) sz)) 0 0 (va_A (pic ad stC kcC NN cI cB cJ cZ x) sz)) (hDf : fd + 1 ≤ R.frames) (hDl : 28 + ld ≤ R.locals) (hrec87 : ∀ (o : Nat) (l1 : Int32) (l2 : Int32) (l3 : Int32) (l4 : Int32) (l5 : Int32) (l6 : Int32) (x : St) (H : Heap) (locs : List Loc) (ls : Array Slot), (o < NN ∧ kcC o = 4) → rec87 o l1 l2 l3 l4 l5 l6 x → Wd dC dI cI cB cJ cZ ad stC kcC NN A x H → va_S A s.heap H locs → lv_has ls 7 [(0, .ref (ad o)), (1, .int l1), (2, .int l2), (3, .int l3), (4, .int l4), (5, .int l5), (6, .int l6)] → W p l e R s m args below meth c H locs cells slots Q (F0 m 87 ls [])) : ∀ (o : Nat) (l1 : Int32) (l2 : Int32) (l3 : Int32) (l4 : Int32) (l5 : Int32) (l6 : Int32) (s0 : Int32) (x : St) (H : Heap) (locs : List Loc) (ls : Array Slot), (o < NN ∧ kcC o = 4) → j_Rec_readValues_150 post self_Rec_readGroup self_Rec_readOne self_Rec_readValues rec87 o l1 l2 l3 l4 l5 l6 s0 x → Wd dC dI cI cB cJ cZ ad stC kcC NN A x H → va_S A s.heap H locs → lv_has ls 7 [(0, .ref (ad o)), (1, .int l1), (2, .int l2), (3, .int l3), (4, .int l4), (5, .int l5), (6, .int l6)] → W p l e R s m args below meth c H locs cells slots Q (F0 m 150 ls [.int s0]) := by
  intro o l1 l2 l3 l4 l5 l6 s0 x H locs ls fo hw hW hS hl
  unfold j_Rec_readValues_150 at hw
  refine lv_istore (lv' := [(5, .int s0), (0, .ref (ad o)), (1, .int l1), (2, .int l2), (3, .int l3), (4, .int l4), (6, .int l6)]) hx hb d_Rec_readValues_150 hl (by decide) rfl (fun ls hl => ?_)
  refine lv_iinc (v := (l6 + 1)) (lv' := [(6, .int (l6 + 1)), (5, .int s0), (0, .ref (ad o)), (1, .int l1), (2, .int l2), (3, .int l3), (4, .int l4)]) hx hb d_Rec_readValues_152 hl (k := 6) rfl rfl (by decide) rfl (fun ls hl => ?_)
  refine lv_goto (tgt := 87) hx hb d_Rec_readValues_155 (by decide) ?_
  exact hrec87 o l1 l2 l3 l4 s0 (l6 + 1) x H locs ls fo hw hW hS (lv_sub hl [2, 3, 4, 5, 6, 1, 0] rfl)
set_option maxRecDepth 100000 in
def j_Rec_readValues_149 (post : St → Prop) (self_Rec_readGroup : (St → Prop) → Nat → Int32 → Int32 → Int32 → St → Prop) (self_Rec_readOne : (St → Prop) → Nat → Int32 → Int32 → Int32 → St → Prop) (self_Rec_readValues : (St → Prop) → Nat → Int32 → Int32 → Int32 → St → Prop) (rec87 : Nat → Int32 → Int32 → Int32 → Int32 → Int32 → Int32 → St → Prop) (o : Nat) (l1 : Int32) (l2 : Int32) (l3 : Int32) (l4 : Int32) (l5 : Int32) (l6 : Int32) (x : St) : Prop := j_Rec_readValues_150 post self_Rec_readGroup self_Rec_readOne self_Rec_readValues rec87 o l1 l2 l3 l4 l5 l6 0 x
set_option maxHeartbeats 4000000 in
set_option maxRecDepth 100000 in
theorem t_Rec_readValues_149 {p : Program} {l : Launch} {e : Env} {R : Room} {s : State} {m : MethodId} {args : Array Value} {below : List Frame} {meth : Method} {c : Code} {cells slots : Nat} {Q : State → Prop} {dC : Nat → ClassId} {dI : Nat → Nat → Nat} {cI cB cJ cZ : ClassId} {A : Nat → Prop} {ad : Nat → Nat} {NN : Nat} {E : Heap} {tM tC : Nat} {kK kV : Nat → Nat} {post : St → Prop} {self_Rec_readGroup : (St → Prop) → Nat → Int32 → Int32 → Int32 → St → Prop} {self_Rec_readOne : (St → Prop) → Nat → Int32 → Int32 → Int32 → St → Prop} {self_Rec_readValues : (St → Prop) → Nat → Int32 → Int32 → Int32 → St → Prop} {fd ld : Nat} {rec87 : Nat → Int32 → Int32 → Int32 → Int32 → Int32 → Int32 → St → Prop} (hx : p.tables.exec = Jvm.exec) (hb : c.code = b_Rec_readValues) (hml : c.maxLocals = 7) (hown : s.vm.findClass R_Rec = some m.cls) (hT : ∀ w ∈ TG, w.before args s = true) (hK : va_K (dC, dI) CL (TY cI cB cJ cZ) s) (hN : NW s) (hA : ∀ q : Nat, s.heap.size ≤ q → A q) (hRc : cells ≤ R.cells) (hRs : slots ≤ R.slots) (hRf : 8 ≤ R.frames) (hRl : 287 ≤ R.locals) (hNN : 152 ≤ NN) (hE : CE E tM tC kK kV A s) (hret : ∀ (x : St) (H : Heap) (locs : List Loc) (pc : Nat) (ls : Array Slot), decode b_Rec_readValues pc = .ok (.return_, 1) → post x → Wd dC dI cI cB cJ cZ ad stC kcC NN A x H → va_S A s.heap H locs → W p l e R s m args below meth c H locs cells slots Q (F0 m pc ls [])) (hs_Rec_readGroup : ∀ (sz : Nat) (o : Nat) (l1 : Int32) (l2 : Int32) (l3 : Int32) (x : St), (o < NN ∧ kcC o = 4) → ∀ (post : St → Prop), self_Rec_readGroup post o l1 l2 l3 x → Met l y_Rec_readGroup (wsOf y_Rec_readGroup b_Rec_readGroup 9 (none)) ({ frames := fd, cells := 0, slots := 0, locals := ld }) (va_Pc [.ref (ad o), .int l1, .int l2, .int l3] (PV dC dI cI cB cJ cZ ad stC kcC NN E tM tC kK kV sz x)) (va_Qv (fun (y : St) => post y) (fun y t => Wd dC dI cI cB cJ cZ ad stC kcC NN (va_A (pic ad stC kcC NN cI cB cJ cZ x) sz) y t.heap) (va_A (pic ad stC kcC NN cI cB cJ cZ x) sz)) 0 0 (va_A (pic ad stC kcC NN cI cB cJ cZ x) sz)) (hs_Rec_readOne : ∀ (sz : Nat) (o : Nat) (l1 : Int32) (l2 : Int32) (l3 : Int32) (x : St), (o < NN ∧ kcC o = 4) → ∀ (post : St → Prop), self_Rec_readOne post o l1 l2 l3 x → Met l y_Rec_readOne (wsOf y_Rec_readOne b_Rec_readOne 6 (none)) ({ frames := fd, cells := 0, slots := 0, locals := ld }) (va_Pc [.ref (ad o), .int l1, .int l2, .int l3] (PV dC dI cI cB cJ cZ ad stC kcC NN E tM tC kK kV sz x)) (va_Qv (fun (y : St) => post y) (fun y t => Wd dC dI cI cB cJ cZ ad stC kcC NN (va_A (pic ad stC kcC NN cI cB cJ cZ x) sz) y t.heap) (va_A (pic ad stC kcC NN cI cB cJ cZ x) sz)) 0 0 (va_A (pic ad stC kcC NN cI cB cJ cZ x) sz)) (hs_Rec_readValues : ∀ (sz : Nat) (o : Nat) (l1 : Int32) (l2 : Int32) (l3 : Int32) (x : St), (o < NN ∧ kcC o = 4) → ∀ (post : St → Prop), self_Rec_readValues post o l1 l2 l3 x → Met l y_Rec_readValues (wsOf y_Rec_readValues b_Rec_readValues 7 (none)) ({ frames := fd, cells := 0, slots := 0, locals := ld }) (va_Pc [.ref (ad o), .int l1, .int l2, .int l3] (PV dC dI cI cB cJ cZ ad stC kcC NN E tM tC kK kV sz x)) (va_Qv (fun (y : St) => post y) (fun y t => Wd dC dI cI cB cJ cZ ad stC kcC NN (va_A (pic ad stC kcC NN cI cB cJ cZ x) sz) y t.heap) (va_A (pic ad stC kcC NN cI cB cJ cZ x) sz)) 0 0 (va_A (pic ad stC kcC NN cI cB cJ cZ x) sz)) (hDf : fd + 1 ≤ R.frames) (hDl : 28 + ld ≤ R.locals) (hrec87 : ∀ (o : Nat) (l1 : Int32) (l2 : Int32) (l3 : Int32) (l4 : Int32) (l5 : Int32) (l6 : Int32) (x : St) (H : Heap) (locs : List Loc) (ls : Array Slot), (o < NN ∧ kcC o = 4) → rec87 o l1 l2 l3 l4 l5 l6 x → Wd dC dI cI cB cJ cZ ad stC kcC NN A x H → va_S A s.heap H locs → lv_has ls 7 [(0, .ref (ad o)), (1, .int l1), (2, .int l2), (3, .int l3), (4, .int l4), (5, .int l5), (6, .int l6)] → W p l e R s m args below meth c H locs cells slots Q (F0 m 87 ls [])) : ∀ (o : Nat) (l1 : Int32) (l2 : Int32) (l3 : Int32) (l4 : Int32) (l5 : Int32) (l6 : Int32) (x : St) (H : Heap) (locs : List Loc) (ls : Array Slot), (o < NN ∧ kcC o = 4) → j_Rec_readValues_149 post self_Rec_readGroup self_Rec_readOne self_Rec_readValues rec87 o l1 l2 l3 l4 l5 l6 x → Wd dC dI cI cB cJ cZ ad stC kcC NN A x H → va_S A s.heap H locs → lv_has ls 7 [(0, .ref (ad o)), (1, .int l1), (2, .int l2), (3, .int l3), (4, .int l4), (5, .int l5), (6, .int l6)] → W p l e R s m args below meth c H locs cells slots Q (F0 m 149 ls []) := by
  intro o l1 l2 l3 l4 l5 l6 x H locs ls fo hw hW hS hl
  unfold j_Rec_readValues_149 at hw
  refine lv_iconst (v := 0) hx hb d_Rec_readValues_149 (by decide) ?_
  exact t_Rec_readValues_150 hx hb hml hown hT hK hN hA hRc hRs hRf hRl hNN hE hret hs_Rec_readGroup hs_Rec_readOne hs_Rec_readValues hDf hDl hrec87 o l1 l2 l3 l4 l5 l6 0 x H locs ls fo hw hW hS (lv_sub hl [0, 1, 2, 3, 4, 5, 6] rfl)
set_option maxRecDepth 100000 in
def j_Rec_readValues_87 (post : St → Prop) (self_Rec_readGroup : (St → Prop) → Nat → Int32 → Int32 → Int32 → St → Prop) (self_Rec_readOne : (St → Prop) → Nat → Int32 → Int32 → Int32 → St → Prop) (self_Rec_readValues : (St → Prop) → Nat → Int32 → Int32 → Int32 → St → Prop) (rec87 : Nat → Int32 → Int32 → Int32 → Int32 → Int32 → Int32 → St → Prop) (o : Nat) (l1 : Int32) (l2 : Int32) (l3 : Int32) (l4 : Int32) (l5 : Int32) (l6 : Int32) (x : St) : Prop := (∃ q3195 : Nat, fR x o 13 = some q3195 ∧ (((fI x q3195 1) < l6 → j_Rec_readValues_158 post self_Rec_readGroup self_Rec_readOne self_Rec_readValues o l1 l2 l3 l4 l5 l6 x) ∧ (¬ (fI x q3195 1) < l6 → ((l5 = 0 → j_Rec_readValues_158 post self_Rec_readGroup self_Rec_readOne self_Rec_readValues o l1 l2 l3 l4 l5 l6 x) ∧ (¬ l5 = 0 → self_Rec_readOne (fun (x3198 : St) => (∃ q3199 : Nat, fR x3198 o 14 = some q3199 ∧ (vp_in l1 (fN x3198 (stC q3199 5)) ∧ (∀ v3200 : Int32, v3200 = (rA x3198 (stC q3199 5) l1) → (∃ q3201 : Nat, fR x3198 o 13 = some q3201 ∧ wp_Scn_good (fun (r3203 : Int32) (x3202 : St) => ((r3203 = 0 → j_Rec_readValues_149 post self_Rec_readGroup self_Rec_readOne self_Rec_readValues rec87 o l1 l2 l3 v3200 l5 l6 x3202) ∧ (¬ r3203 = 0 → (∃ q3205 : Nat, fR x3202 o 13 = some q3205 ∧ wp_Scn_takeSign (fun (r3207 : Int32) (x3206 : St) => ((r3207 = 0 → j_Rec_readValues_149 post self_Rec_readGroup self_Rec_readOne self_Rec_readValues rec87 o l1 l2 l3 v3200 l5 l6 x3206) ∧ (¬ r3207 = 0 → j_Rec_readValues_150 post self_Rec_readGroup self_Rec_readOne self_Rec_readValues rec87 o l1 l2 l3 v3200 l5 l6 1 x3206))) q3205 44 x3202)))) q3201 x3198))))) o l1 l4 l3 x)))))
set_option maxHeartbeats 4000000 in
set_option maxRecDepth 100000 in
theorem t_Rec_readValues_87 {p : Program} {l : Launch} {e : Env} {R : Room} {s : State} {m : MethodId} {args : Array Value} {below : List Frame} {meth : Method} {c : Code} {cells slots : Nat} {Q : State → Prop} {dC : Nat → ClassId} {dI : Nat → Nat → Nat} {cI cB cJ cZ : ClassId} {A : Nat → Prop} {ad : Nat → Nat} {NN : Nat} {E : Heap} {tM tC : Nat} {kK kV : Nat → Nat} {post : St → Prop} {self_Rec_readGroup : (St → Prop) → Nat → Int32 → Int32 → Int32 → St → Prop} {self_Rec_readOne : (St → Prop) → Nat → Int32 → Int32 → Int32 → St → Prop} {self_Rec_readValues : (St → Prop) → Nat → Int32 → Int32 → Int32 → St → Prop} {fd ld : Nat} {rec87 : Nat → Int32 → Int32 → Int32 → Int32 → Int32 → Int32 → St → Prop} (hx : p.tables.exec = Jvm.exec) (hb : c.code = b_Rec_readValues) (hml : c.maxLocals = 7) (hown : s.vm.findClass R_Rec = some m.cls) (hT : ∀ w ∈ TG, w.before args s = true) (hK : va_K (dC, dI) CL (TY cI cB cJ cZ) s) (hN : NW s) (hA : ∀ q : Nat, s.heap.size ≤ q → A q) (hRc : cells ≤ R.cells) (hRs : slots ≤ R.slots) (hRf : 8 ≤ R.frames) (hRl : 287 ≤ R.locals) (hNN : 152 ≤ NN) (hE : CE E tM tC kK kV A s) (hret : ∀ (x : St) (H : Heap) (locs : List Loc) (pc : Nat) (ls : Array Slot), decode b_Rec_readValues pc = .ok (.return_, 1) → post x → Wd dC dI cI cB cJ cZ ad stC kcC NN A x H → va_S A s.heap H locs → W p l e R s m args below meth c H locs cells slots Q (F0 m pc ls [])) (hs_Rec_readGroup : ∀ (sz : Nat) (o : Nat) (l1 : Int32) (l2 : Int32) (l3 : Int32) (x : St), (o < NN ∧ kcC o = 4) → ∀ (post : St → Prop), self_Rec_readGroup post o l1 l2 l3 x → Met l y_Rec_readGroup (wsOf y_Rec_readGroup b_Rec_readGroup 9 (none)) ({ frames := fd, cells := 0, slots := 0, locals := ld }) (va_Pc [.ref (ad o), .int l1, .int l2, .int l3] (PV dC dI cI cB cJ cZ ad stC kcC NN E tM tC kK kV sz x)) (va_Qv (fun (y : St) => post y) (fun y t => Wd dC dI cI cB cJ cZ ad stC kcC NN (va_A (pic ad stC kcC NN cI cB cJ cZ x) sz) y t.heap) (va_A (pic ad stC kcC NN cI cB cJ cZ x) sz)) 0 0 (va_A (pic ad stC kcC NN cI cB cJ cZ x) sz)) (hs_Rec_readOne : ∀ (sz : Nat) (o : Nat) (l1 : Int32) (l2 : Int32) (l3 : Int32) (x : St), (o < NN ∧ kcC o = 4) → ∀ (post : St → Prop), self_Rec_readOne post o l1 l2 l3 x → Met l y_Rec_readOne (wsOf y_Rec_readOne b_Rec_readOne 6 (none)) ({ frames := fd, cells := 0, slots := 0, locals := ld }) (va_Pc [.ref (ad o), .int l1, .int l2, .int l3] (PV dC dI cI cB cJ cZ ad stC kcC NN E tM tC kK kV sz x)) (va_Qv (fun (y : St) => post y) (fun y t => Wd dC dI cI cB cJ cZ ad stC kcC NN (va_A (pic ad stC kcC NN cI cB cJ cZ x) sz) y t.heap) (va_A (pic ad stC kcC NN cI cB cJ cZ x) sz)) 0 0 (va_A (pic ad stC kcC NN cI cB cJ cZ x) sz)) (hs_Rec_readValues : ∀ (sz : Nat) (o : Nat) (l1 : Int32) (l2 : Int32) (l3 : Int32) (x : St), (o < NN ∧ kcC o = 4) → ∀ (post : St → Prop), self_Rec_readValues post o l1 l2 l3 x → Met l y_Rec_readValues (wsOf y_Rec_readValues b_Rec_readValues 7 (none)) ({ frames := fd, cells := 0, slots := 0, locals := ld }) (va_Pc [.ref (ad o), .int l1, .int l2, .int l3] (PV dC dI cI cB cJ cZ ad stC kcC NN E tM tC kK kV sz x)) (va_Qv (fun (y : St) => post y) (fun y t => Wd dC dI cI cB cJ cZ ad stC kcC NN (va_A (pic ad stC kcC NN cI cB cJ cZ x) sz) y t.heap) (va_A (pic ad stC kcC NN cI cB cJ cZ x) sz)) 0 0 (va_A (pic ad stC kcC NN cI cB cJ cZ x) sz)) (hDf : fd + 1 ≤ R.frames) (hDl : 28 + ld ≤ R.locals) (hrec87 : ∀ (o : Nat) (l1 : Int32) (l2 : Int32) (l3 : Int32) (l4 : Int32) (l5 : Int32) (l6 : Int32) (x : St) (H : Heap) (locs : List Loc) (ls : Array Slot), (o < NN ∧ kcC o = 4) → rec87 o l1 l2 l3 l4 l5 l6 x → Wd dC dI cI cB cJ cZ ad stC kcC NN A x H → va_S A s.heap H locs → lv_has ls 7 [(0, .ref (ad o)), (1, .int l1), (2, .int l2), (3, .int l3), (4, .int l4), (5, .int l5), (6, .int l6)] → W p l e R s m args below meth c H locs cells slots Q (F0 m 87 ls [])) : ∀ (o : Nat) (l1 : Int32) (l2 : Int32) (l3 : Int32) (l4 : Int32) (l5 : Int32) (l6 : Int32) (x : St) (H : Heap) (locs : List Loc) (ls : Array Slot), (o < NN ∧ kcC o = 4) → j_Rec_readValues_87 post self_Rec_readGroup self_Rec_readOne self_Rec_readValues rec87 o l1 l2 l3 l4 l5 l6 x → Wd dC dI cI cB cJ cZ ad stC kcC NN A x H → va_S A s.heap H locs → lv_has ls 7 [(0, .ref (ad o)), (1, .int l1), (2, .int l2), (3, .int l3), (4, .int l4), (5, .int l5), (6, .int l6)] → W p l e R s m args below meth c H locs cells slots Q (F0 m 87 ls []) := by
  intro o l1 l2 l3 l4 l5 l6 x H locs ls fo hw hW hS hl
  unfold j_Rec_readValues_87 at hw
  refine lv_iload hx hb d_Rec_readValues_87 (lv_at hl 6 rfl) ?_
  refine lv_aload_n hx hb d_Rec_readValues_89 rfl (lv_at hl 0 rfl) ?_
  obtain ⟨q3195, hq3195, hw⟩ := hw
  refine w_getr (q := q3195) (k := 13) (t := 4) (C := R_Rec) (T := F_Rec) (N := 15) hx hb hT hown hK hW fo.1 fo.2 (by decide) in_Rec rfl rfl (by decide) rfl fr_Rec_13 w_2_8 d_Rec_readValues_90 hq3195 (fun aq3195 bq3195 => ?_)
  have fq3195 : q3195 < NN ∧ kcC q3195 = 2 := ⟨aq3195, bq3195⟩
  refine w_geti (k := 1) (t := 2) (C := R_Scn) (T := F_Scn) (N := 8) hx hb hT hown hK hW fq3195.1 fq3195.2 (by decide) in_Scn rfl rfl (by decide) rfl fr_Scn_1 w_1_83 d_Rec_readValues_93 ?_
  refine lv_icmp_gt (tgt := 158) hx hb d_Rec_readValues_96 (by decide) (fun c3196 => ?_) (fun c3196 => ?_)
  · have hw := hw.1 c3196
    exact t_Rec_readValues_158 hx hb hml hown hT hK hN hA hRc hRs hRf hRl hNN hE hret hs_Rec_readGroup hs_Rec_readOne hs_Rec_readValues hDf hDl  o l1 l2 l3 l4 l5 l6 x H locs ls fo hw hW hS (lv_sub hl [0, 1, 2, 3, 4, 5, 6] rfl)
  · have hw := hw.2 c3196
    refine lv_iload hx hb d_Rec_readValues_99 (lv_at hl 5 rfl) ?_
    refine lv_if_eq (tgt := 158) hx hb d_Rec_readValues_101 (by decide) (fun c3197 => ?_) (fun c3197 => ?_)
    · have hw := hw.1 c3197
      exact t_Rec_readValues_158 hx hb hml hown hT hK hN hA hRc hRs hRf hRl hNN hE hret hs_Rec_readGroup hs_Rec_readOne hs_Rec_readValues hDf hDl  o l1 l2 l3 l4 l5 l6 x H locs ls fo hw hW hS (lv_sub hl [0, 1, 2, 3, 4, 5, 6] rfl)
    · have hw := hw.2 c3197
      refine lv_aload_n hx hb d_Rec_readValues_104 rfl (lv_at hl 0 rfl) ?_
      refine lv_iload_n hx hb d_Rec_readValues_105 rfl (lv_at hl 1 rfl) ?_
      refine lv_iload hx hb d_Rec_readValues_106 (lv_at hl 4 rfl) ?_
      refine lv_iload_n hx hb d_Rec_readValues_108 rfl (lv_at hl 3 rfl) ?_
      have hF := hW.free hS hA
      refine va_callv (va_runV (C := R_Rec) (As := [.int l1, .int l4, .int l3]) (rest := []) ⟨hx, hb, hml, hown, hT⟩ (hs_Rec_readOne H.size o l1 l4 l3 x fo _ hw) ⟨callB_of 3 hT (gw_in w_5_59) rfl rfl rfl (hT _ w_1_6) (hT _ w_5_56) (by decide +kernel) ⟨hDf, Nat.le_trans (Nat.add_le_add_right (by decide) _) hDl⟩, hT _ w_5_58, hT _ ws_11⟩ ⟨PV.blind, va_recv hK hW.1 (ci := 4) (q0 := o) rfl (pic_obj fo.1 fo.2 (by decide)), PV.at _ hW hK hN hE hS hF⟩ rfl rfl hl.1 rfl (lv_room (Nat.le_of_ble_eq_true rfl)) d_Rec_readValues_109 ⟨hRc, hRs⟩) hS (fun q _ h => hF q h) hF (fun  x3198 t H locs ht hvm hw hB hz1 hk1 hS => ?_)
      have hW := Wd.back hB ht hF
      clear hB ht hF hz1 hk1 hvm
      refine lv_aload_n hx hb d_Rec_readValues_112 rfl (lv_at hl 0 rfl) ?_
      obtain ⟨q3199, hq3199, hw⟩ := hw
      refine w_getr (q := q3199) (k := 14) (t := 4) (C := R_Rec) (T := F_Rec) (N := 15) hx hb hT hown hK hW fo.1 fo.2 (by decide) in_Rec rfl rfl (by decide) rfl fr_Rec_14 w_2_9 d_Rec_readValues_113 hq3199 (fun aq3199 bq3199 => ?_)
      have fq3199 : q3199 < NN ∧ kcC q3199 = 3 := ⟨aq3199, bq3199⟩
      refine w_getf (q := (stC q3199 5)) (k := 5) (t := 3) (C := R_Sch) (T := F_Sch) (N := 13) hx hb hT hown hK hW fq3199.1 fq3199.2 (by decide) in_Sch rfl rfl (by decide) rfl fr_Sch_5 w_1_160 d_Rec_readValues_116 rfl ?_
      refine lv_iload_n hx hb d_Rec_readValues_119 rfl (lv_at hl 1 rfl) ?_
      obtain ⟨hi, hw⟩ := hw
      refine w_iald (o := (stC q3199 5)) hx hb hK hW (st_ty hNN fq3199.1 fq3199.2 rfl).1 (st_ty hNN fq3199.1 fq3199.2 rfl).2 hi d_Rec_readValues_120 ?_
      refine lv_topi (fun v3200 ev3200 => ?_)
      have hw := hw v3200 ev3200
      refine lv_istore (lv' := [(4, .int v3200), (0, .ref (ad o)), (1, .int l1), (2, .int l2), (3, .int l3), (5, .int l5), (6, .int l6)]) hx hb d_Rec_readValues_121 hl (by decide) rfl (fun ls hl => ?_)
      refine lv_aload_n hx hb d_Rec_readValues_123 rfl (lv_at hl 1 rfl) ?_
      obtain ⟨q3201, hq3201, hw⟩ := hw
      refine w_getr (q := q3201) (k := 13) (t := 4) (C := R_Rec) (T := F_Rec) (N := 15) hx hb hT hown hK hW fo.1 fo.2 (by decide) in_Rec rfl rfl (by decide) rfl fr_Rec_13 w_2_8 d_Rec_readValues_124 hq3201 (fun aq3201 bq3201 => ?_)
      have fq3201 : q3201 < NN ∧ kcC q3201 = 2 := ⟨aq3201, bq3201⟩
      have hF := hW.free hS hA
      refine va_calli (va_runV (C := R_Scn) (As := []) (rest := []) ⟨hx, hb, hml, hown, hT⟩ (k_Scn_good l dC dI cI cB cJ cZ ad NN E tM tC kK kV hNN H.size q3201 x3198 fq3201 hw) ⟨callB_of 0 hT (gw_in w_4_106) rfl rfl rfl (hT _ w_1_4) (hT _ w_5_31) (by decide +kernel) ⟨Nat.le_trans (by decide) hRf, Nat.le_trans (by decide) hRl⟩, hT _ w_4_104, hT _ w_4_105⟩ ⟨PV.blind, va_recv hK hW.1 (ci := 2) (q0 := q3201) rfl (pic_obj fq3201.1 fq3201.2 (by decide)), PV.at _ hW hK hN hE hS hF⟩ rfl rfl hl.1 rfl (lv_room (Nat.le_of_ble_eq_true rfl)) d_Rec_readValues_127 ⟨hRc, hRs⟩) hS (fun q _ h => hF q h) hF (fun r3203 x3202 t H locs ht hvm hw hB hz1 hk1 hS => ?_)
      have hW := Wd.back hB ht hF
      clear hB ht hF hz1 hk1 hvm
      refine lv_if_eq (tgt := 149) hx hb d_Rec_readValues_130 (by decide) (fun c3204 => ?_) (fun c3204 => ?_)
      · have hw := hw.1 c3204
        exact t_Rec_readValues_149 hx hb hml hown hT hK hN hA hRc hRs hRf hRl hNN hE hret hs_Rec_readGroup hs_Rec_readOne hs_Rec_readValues hDf hDl hrec87 o l1 l2 l3 v3200 l5 l6 x3202 H locs ls fo hw hW hS (lv_sub hl [1, 2, 3, 4, 0, 5, 6] rfl)
      · have hw := hw.2 c3204
        refine lv_aload_n hx hb d_Rec_readValues_133 rfl (lv_at hl 1 rfl) ?_
        obtain ⟨q3205, hq3205, hw⟩ := hw
        refine w_getr (q := q3205) (k := 13) (t := 4) (C := R_Rec) (T := F_Rec) (N := 15) hx hb hT hown hK hW fo.1 fo.2 (by decide) in_Rec rfl rfl (by decide) rfl fr_Rec_13 w_2_8 d_Rec_readValues_134 hq3205 (fun aq3205 bq3205 => ?_)
        have fq3205 : q3205 < NN ∧ kcC q3205 = 2 := ⟨aq3205, bq3205⟩
        refine lv_bipush (v := 44) hx hb d_Rec_readValues_137 (by decide) ?_
        have hF := hW.free hS hA
        refine va_calli (va_runV (C := R_Scn) (As := [.int 44]) (rest := []) ⟨hx, hb, hml, hown, hT⟩ (k_Scn_takeSign l dC dI cI cB cJ cZ ad NN E tM tC kK kV hNN H.size q3205 44 x3202 fq3205 hw) ⟨callB_of 1 hT (gw_in w_4_123) rfl rfl rfl (hT _ w_1_4) (hT _ w_5_105) (by decide +kernel) ⟨Nat.le_trans (by decide) hRf, Nat.le_trans (by decide) hRl⟩, hT _ w_4_121, hT _ w_4_122⟩ ⟨PV.blind, va_recv hK hW.1 (ci := 2) (q0 := q3205) rfl (pic_obj fq3205.1 fq3205.2 (by decide)), PV.at _ hW hK hN hE hS hF⟩ rfl rfl hl.1 rfl (lv_room (Nat.le_of_ble_eq_true rfl)) d_Rec_readValues_139 ⟨hRc, hRs⟩) hS (fun q _ h => hF q h) hF (fun r3207 x3206 t H locs ht hvm hw hB hz1 hk1 hS => ?_)
        have hW := Wd.back hB ht hF
        clear hB ht hF hz1 hk1 hvm
        refine lv_if_eq (tgt := 149) hx hb d_Rec_readValues_142 (by decide) (fun c3208 => ?_) (fun c3208 => ?_)
        · have hw := hw.1 c3208
          exact t_Rec_readValues_149 hx hb hml hown hT hK hN hA hRc hRs hRf hRl hNN hE hret hs_Rec_readGroup hs_Rec_readOne hs_Rec_readValues hDf hDl hrec87 o l1 l2 l3 v3200 l5 l6 x3206 H locs ls fo hw hW hS (lv_sub hl [1, 2, 3, 4, 0, 5, 6] rfl)
        · have hw := hw.2 c3208
          refine lv_iconst (v := 1) hx hb d_Rec_readValues_145 (by decide) ?_
          refine lv_goto (tgt := 150) hx hb d_Rec_readValues_146 (by decide) ?_
          exact t_Rec_readValues_150 hx hb hml hown hT hK hN hA hRc hRs hRf hRl hNN hE hret hs_Rec_readGroup hs_Rec_readOne hs_Rec_readValues hDf hDl hrec87 o l1 l2 l3 v3200 l5 l6 1 x3206 H locs ls fo hw hW hS (lv_sub hl [1, 2, 3, 4, 0, 5, 6] rfl)
def wl_Rec_readValues_87 (post : St → Prop) (self_Rec_readGroup : (St → Prop) → Nat → Int32 → Int32 → Int32 → St → Prop) (self_Rec_readOne : (St → Prop) → Nat → Int32 → Int32 → Int32 → St → Prop) (self_Rec_readValues : (St → Prop) → Nat → Int32 → Int32 → Int32 → St → Prop) : Nat → Nat → Int32 → Int32 → Int32 → Int32 → Int32 → Int32 → St → Prop
  | 0 => fun _ _ _ _ _ _ _ _ => False
  | n + 1 => j_Rec_readValues_87 post self_Rec_readGroup self_Rec_readOne self_Rec_readValues (wl_Rec_readValues_87 post self_Rec_readGroup self_Rec_readOne self_Rec_readValues n)
set_option maxHeartbeats 4000000 in
set_option maxRecDepth 100000 in
theorem tl_Rec_readValues_87 {p : Program} {l : Launch} {e : Env} {R : Room} {s : State} {m : MethodId} {args : Array Value} {below : List Frame} {meth : Method} {c : Code} {cells slots : Nat} {Q : State → Prop} {dC : Nat → ClassId} {dI : Nat → Nat → Nat} {cI cB cJ cZ : ClassId} {A : Nat → Prop} {ad : Nat → Nat} {NN : Nat} {E : Heap} {tM tC : Nat} {kK kV : Nat → Nat} {post : St → Prop} {self_Rec_readGroup : (St → Prop) → Nat → Int32 → Int32 → Int32 → St → Prop} {self_Rec_readOne : (St → Prop) → Nat → Int32 → Int32 → Int32 → St → Prop} {self_Rec_readValues : (St → Prop) → Nat → Int32 → Int32 → Int32 → St → Prop} {fd ld : Nat} (hx : p.tables.exec = Jvm.exec) (hb : c.code = b_Rec_readValues) (hml : c.maxLocals = 7) (hown : s.vm.findClass R_Rec = some m.cls) (hT : ∀ w ∈ TG, w.before args s = true) (hK : va_K (dC, dI) CL (TY cI cB cJ cZ) s) (hN : NW s) (hA : ∀ q : Nat, s.heap.size ≤ q → A q) (hRc : cells ≤ R.cells) (hRs : slots ≤ R.slots) (hRf : 8 ≤ R.frames) (hRl : 287 ≤ R.locals) (hNN : 152 ≤ NN) (hE : CE E tM tC kK kV A s) (hret : ∀ (x : St) (H : Heap) (locs : List Loc) (pc : Nat) (ls : Array Slot), decode b_Rec_readValues pc = .ok (.return_, 1) → post x → Wd dC dI cI cB cJ cZ ad stC kcC NN A x H → va_S A s.heap H locs → W p l e R s m args below meth c H locs cells slots Q (F0 m pc ls [])) (hs_Rec_readGroup : ∀ (sz : Nat) (o : Nat) (l1 : Int32) (l2 : Int32) (l3 : Int32) (x : St), (o < NN ∧ kcC o = 4) → ∀ (post : St → Prop), self_Rec_readGroup post o l1 l2 l3 x → Met l y_Rec_readGroup (wsOf y_Rec_readGroup b_Rec_readGroup 9 (none)) ({ frames := fd, cells := 0, slots := 0, locals := ld }) (va_Pc [.ref (ad o), .int l1, .int l2, .int l3] (PV dC dI cI cB cJ cZ ad stC kcC NN E tM tC kK kV sz x)) (va_Qv (fun (y : St) => post y) (fun y t => Wd dC dI cI cB cJ cZ ad stC kcC NN (va_A (pic ad stC kcC NN cI cB cJ cZ x) sz) y t.heap) (va_A (pic ad stC kcC NN cI cB cJ cZ x) sz)) 0 0 (va_A (pic ad stC kcC NN cI cB cJ cZ x) sz)) (hs_Rec_readOne : ∀ (sz : Nat) (o : Nat) (l1 : Int32) (l2 : Int32) (l3 : Int32) (x : St), (o < NN ∧ kcC o = 4) → ∀ (post : St → Prop), self_Rec_readOne post o l1 l2 l3 x → Met l y_Rec_readOne (wsOf y_Rec_readOne b_Rec_readOne 6 (none)) ({ frames := fd, cells := 0, slots := 0, locals := ld }) (va_Pc [.ref (ad o), .int l1, .int l2, .int l3] (PV dC dI cI cB cJ cZ ad stC kcC NN E tM tC kK kV sz x)) (va_Qv (fun (y : St) => post y) (fun y t => Wd dC dI cI cB cJ cZ ad stC kcC NN (va_A (pic ad stC kcC NN cI cB cJ cZ x) sz) y t.heap) (va_A (pic ad stC kcC NN cI cB cJ cZ x) sz)) 0 0 (va_A (pic ad stC kcC NN cI cB cJ cZ x) sz)) (hs_Rec_readValues : ∀ (sz : Nat) (o : Nat) (l1 : Int32) (l2 : Int32) (l3 : Int32) (x : St), (o < NN ∧ kcC o = 4) → ∀ (post : St → Prop), self_Rec_readValues post o l1 l2 l3 x → Met l y_Rec_readValues (wsOf y_Rec_readValues b_Rec_readValues 7 (none)) ({ frames := fd, cells := 0, slots := 0, locals := ld }) (va_Pc [.ref (ad o), .int l1, .int l2, .int l3] (PV dC dI cI cB cJ cZ ad stC kcC NN E tM tC kK kV sz x)) (va_Qv (fun (y : St) => post y) (fun y t => Wd dC dI cI cB cJ cZ ad stC kcC NN (va_A (pic ad stC kcC NN cI cB cJ cZ x) sz) y t.heap) (va_A (pic ad stC kcC NN cI cB cJ cZ x) sz)) 0 0 (va_A (pic ad stC kcC NN cI cB cJ cZ x) sz)) (hDf : fd + 1 ≤ R.frames) (hDl : 28 + ld ≤ R.locals)  : ∀ n : Nat, ∀ (o : Nat) (l1 : Int32) (l2 : Int32) (l3 : Int32) (l4 : Int32) (l5 : Int32) (l6 : Int32) (x : St) (H : Heap) (locs : List Loc) (ls : Array Slot), (o < NN ∧ kcC o = 4) → wl_Rec_readValues_87 post self_Rec_readGroup self_Rec_readOne self_Rec_readValues n o l1 l2 l3 l4 l5 l6 x → Wd dC dI cI cB cJ cZ ad stC kcC NN A x H → va_S A s.heap H locs → lv_has ls 7 [(0, .ref (ad o)), (1, .int l1), (2, .int l2), (3, .int l3), (4, .int l4), (5, .int l5), (6, .int l6)] → W p l e R s m args below meth c H locs cells slots Q (F0 m 87 ls []) := by
  intro n
  induction n with
  | zero => intro o l1 l2 l3 l4 l5 l6 x H locs ls fo hw; exact hw.elim
  | succ n ih => intro o l1 l2 l3 l4 l5 l6 x H locs ls fo hw hW hS hl; exact t_Rec_readValues_87 hx hb hml hown hT hK hN hA hRc hRs hRf hRl hNN hE hret hs_Rec_readGroup hs_Rec_readOne hs_Rec_readValues hDf hDl  ih o l1 l2 l3 l4 l5 l6 x H locs ls fo hw hW hS hl
set_option maxRecDepth 100000 in
def wb_Rec_readValues (post : St → Prop) (self_Rec_readGroup : (St → Prop) → Nat → Int32 → Int32 → Int32 → St → Prop) (self_Rec_readOne : (St → Prop) → Nat → Int32 → Int32 → Int32 → St → Prop) (self_Rec_readValues : (St → Prop) → Nat → Int32 → Int32 → Int32 → St → Prop) (o : Nat) (l1 : Int32) (l2 : Int32) (l3 : Int32) (x : St) : Prop := (∃ q3209 : Nat, fR x o 14 = some q3209 ∧ (vp_in l1 (fN x (stC q3209 2)) ∧ (((rA x (stC q3209 2) l1) = 2 → (∃ q3211 : Nat, fR x o 13 = some q3211 ∧ wp_Scn_needSign (fun (x3212 : St) => (∃ q3213 : Nat, fR x3212 o 13 = some q3213 ∧ wp_Scn_good (fun (r3215 : Int32) (x3214 : St) => ((¬ r3215 = 0 → (∃ q3217 : Nat, fR x3214 o 13 = some q3217 ∧ wp_Scn_takeSign (fun (r3219 : Int32) (x3218 : St) => ((r3219 = 0 → ∃ n : Nat, wl_Rec_readValues_87 post self_Rec_readGroup self_Rec_readOne self_Rec_readValues n o l1 l2 l3 l2 1 0 x3218) ∧ (¬ r3219 = 0 → (∃ q3221 : Nat, fR x3218 o 14 = some q3221 ∧ (vp_in l1 (fN x3218 (stC q3221 8)) ∧ (∃ q3222 : Nat, fR x3218 o 14 = some q3222 ∧ (vp_in l1 (fN x3218 (stC q3222 4)) ∧ wp_Rec_enterMissing (fun (x3223 : St) => post x3223) o l1 (rA x3218 (stC q3221 8) l1) l2 (rA x3218 (stC q3222 4) l1) x3218))))))) q3217 93 x3214)) ∧ (r3215 = 0 → post x3214))) q3213 x3212)) q3211 91 x)) ∧ (¬ (rA x (stC q3209 2) l1) = 2 → self_Rec_readOne (fun (x3224 : St) => post x3224) o l1 l2 l3 x))))
set_option maxHeartbeats 4000000 in
set_option maxRecDepth 100000 in
theorem t_Rec_readValues_e {p : Program} {l : Launch} {e : Env} {R : Room} {s : State} {m : MethodId} {args : Array Value} {below : List Frame} {meth : Method} {c : Code} {cells slots : Nat} {Q : State → Prop} {dC : Nat → ClassId} {dI : Nat → Nat → Nat} {cI cB cJ cZ : ClassId} {A : Nat → Prop} {ad : Nat → Nat} {NN : Nat} {E : Heap} {tM tC : Nat} {kK kV : Nat → Nat} {post : St → Prop} {self_Rec_readGroup : (St → Prop) → Nat → Int32 → Int32 → Int32 → St → Prop} {self_Rec_readOne : (St → Prop) → Nat → Int32 → Int32 → Int32 → St → Prop} {self_Rec_readValues : (St → Prop) → Nat → Int32 → Int32 → Int32 → St → Prop} {fd ld : Nat} (hx : p.tables.exec = Jvm.exec) (hb : c.code = b_Rec_readValues) (hml : c.maxLocals = 7) (hown : s.vm.findClass R_Rec = some m.cls) (hT : ∀ w ∈ TG, w.before args s = true) (hK : va_K (dC, dI) CL (TY cI cB cJ cZ) s) (hN : NW s) (hA : ∀ q : Nat, s.heap.size ≤ q → A q) (hRc : cells ≤ R.cells) (hRs : slots ≤ R.slots) (hRf : 8 ≤ R.frames) (hRl : 287 ≤ R.locals) (hNN : 152 ≤ NN) (hE : CE E tM tC kK kV A s) (hret : ∀ (x : St) (H : Heap) (locs : List Loc) (pc : Nat) (ls : Array Slot), decode b_Rec_readValues pc = .ok (.return_, 1) → post x → Wd dC dI cI cB cJ cZ ad stC kcC NN A x H → va_S A s.heap H locs → W p l e R s m args below meth c H locs cells slots Q (F0 m pc ls [])) (hs_Rec_readGroup : ∀ (sz : Nat) (o : Nat) (l1 : Int32) (l2 : Int32) (l3 : Int32) (x : St), (o < NN ∧ kcC o = 4) → ∀ (post : St → Prop), self_Rec_readGroup post o l1 l2 l3 x → Met l y_Rec_readGroup (wsOf y_Rec_readGroup b_Rec_readGroup 9 (none)) ({ frames := fd, cells := 0, slots := 0, locals := ld }) (va_Pc [.ref (ad o), .int l1, .int l2, .int l3] (PV dC dI cI cB cJ cZ ad stC kcC NN E tM tC kK kV sz x)) (va_Qv (fun (y : St) => post y) (fun y t => Wd dC dI cI cB cJ cZ ad stC kcC NN (va_A (pic ad stC kcC NN cI cB cJ cZ x) sz) y t.heap) (va_A (pic ad stC kcC NN cI cB cJ cZ x) sz)) 0 0 (va_A (pic ad stC kcC NN cI cB cJ cZ x) sz)) (hs_Rec_readOne : ∀ (sz : Nat) (o : Nat) (l1 : Int32) (l2 : Int32) (l3 : Int32) (x : St), (o < NN ∧ kcC o = 4) → ∀ (post : St → Prop), self_Rec_readOne post o l1 l2 l3 x → Met l y_Rec_readOne (wsOf y_Rec_readOne b_Rec_readOne 6 (none)) ({ frames := fd, cells := 0, slots := 0, locals := ld }) (va_Pc [.ref (ad o), .int l1, .int l2, .int l3] (PV dC dI cI cB cJ cZ ad stC kcC NN E tM tC kK kV sz x)) (va_Qv (fun (y : St) => post y) (fun y t => Wd dC dI cI cB cJ cZ ad stC kcC NN (va_A (pic ad stC kcC NN cI cB cJ cZ x) sz) y t.heap) (va_A (pic ad stC kcC NN cI cB cJ cZ x) sz)) 0 0 (va_A (pic ad stC kcC NN cI cB cJ cZ x) sz)) (hs_Rec_readValues : ∀ (sz : Nat) (o : Nat) (l1 : Int32) (l2 : Int32) (l3 : Int32) (x : St), (o < NN ∧ kcC o = 4) → ∀ (post : St → Prop), self_Rec_readValues post o l1 l2 l3 x → Met l y_Rec_readValues (wsOf y_Rec_readValues b_Rec_readValues 7 (none)) ({ frames := fd, cells := 0, slots := 0, locals := ld }) (va_Pc [.ref (ad o), .int l1, .int l2, .int l3] (PV dC dI cI cB cJ cZ ad stC kcC NN E tM tC kK kV sz x)) (va_Qv (fun (y : St) => post y) (fun y t => Wd dC dI cI cB cJ cZ ad stC kcC NN (va_A (pic ad stC kcC NN cI cB cJ cZ x) sz) y t.heap) (va_A (pic ad stC kcC NN cI cB cJ cZ x) sz)) 0 0 (va_A (pic ad stC kcC NN cI cB cJ cZ x) sz)) (hDf : fd + 1 ≤ R.frames) (hDl : 28 + ld ≤ R.locals) : ∀ (o : Nat) (l1 : Int32) (l2 : Int32) (l3 : Int32) (x : St) (H : Heap) (locs : List Loc) (ls : Array Slot), (o < NN ∧ kcC o = 4) → wb_Rec_readValues post self_Rec_readGroup self_Rec_readOne self_Rec_readValues o l1 l2 l3 x → Wd dC dI cI cB cJ cZ ad stC kcC NN A x H → va_S A s.heap H locs → lv_has ls 7 [(0, .ref (ad o)), (1, .int l1), (2, .int l2), (3, .int l3)] → W p l e R s m args below meth c H locs cells slots Q (F0 m 0 ls []) := by
  intro o l1 l2 l3 x H locs ls fo hw hW hS hl
  unfold wb_Rec_readValues at hw
  refine lv_aload_n hx hb d_Rec_readValues_0 rfl (lv_at hl 0 rfl) ?_
  obtain ⟨q3209, hq3209, hw⟩ := hw
  refine w_getr (q := q3209) (k := 14) (t := 4) (C := R_Rec) (T := F_Rec) (N := 15) hx hb hT hown hK hW fo.1 fo.2 (by decide) in_Rec rfl rfl (by decide) rfl fr_Rec_14 w_2_9 d_Rec_readValues_1 hq3209 (fun aq3209 bq3209 => ?_)
  have fq3209 : q3209 < NN ∧ kcC q3209 = 3 := ⟨aq3209, bq3209⟩
  refine w_getf (q := (stC q3209 2)) (k := 2) (t := 3) (C := R_Sch) (T := F_Sch) (N := 13) hx hb hT hown hK hW fq3209.1 fq3209.2 (by decide) in_Sch rfl rfl (by decide) rfl fr_Sch_2 w_1_143 d_Rec_readValues_4 rfl ?_
  refine lv_iload_n hx hb d_Rec_readValues_7 rfl (lv_at hl 1 rfl) ?_
  obtain ⟨hi, hw⟩ := hw
  refine w_iald (o := (stC q3209 2)) hx hb hK hW (st_ty hNN fq3209.1 fq3209.2 rfl).1 (st_ty hNN fq3209.1 fq3209.2 rfl).2 hi d_Rec_readValues_8 ?_
  refine lv_iconst (v := 2) hx hb d_Rec_readValues_9 (by decide) ?_
  refine lv_icmp_eq (tgt := 21) hx hb d_Rec_readValues_10 (by decide) (fun c3210 => ?_) (fun c3210 => ?_)
  · have hw := hw.1 c3210
    refine lv_aload_n hx hb d_Rec_readValues_21 rfl (lv_at hl 0 rfl) ?_
    obtain ⟨q3211, hq3211, hw⟩ := hw
    refine w_getr (q := q3211) (k := 13) (t := 4) (C := R_Rec) (T := F_Rec) (N := 15) hx hb hT hown hK hW fo.1 fo.2 (by decide) in_Rec rfl rfl (by decide) rfl fr_Rec_13 w_2_8 d_Rec_readValues_22 hq3211 (fun aq3211 bq3211 => ?_)
    have fq3211 : q3211 < NN ∧ kcC q3211 = 2 := ⟨aq3211, bq3211⟩
    refine lv_bipush (v := 91) hx hb d_Rec_readValues_25 (by decide) ?_
    have hF := hW.free hS hA
    refine va_callv (va_runV (C := R_Scn) (As := [.int 91]) (rest := []) ⟨hx, hb, hml, hown, hT⟩ (k_Scn_needSign l dC dI cI cB cJ cZ ad NN E tM tC kK kV hNN H.size q3211 91 x fq3211 hw) ⟨callB_of 1 hT (gw_in w_4_118) rfl rfl rfl (hT _ w_1_4) (hT _ w_5_28) (by decide +kernel) ⟨Nat.le_trans (by decide) hRf, Nat.le_trans (by decide) hRl⟩, hT _ w_4_116, hT _ w_4_117⟩ ⟨PV.blind, va_recv hK hW.1 (ci := 2) (q0 := q3211) rfl (pic_obj fq3211.1 fq3211.2 (by decide)), PV.at _ hW hK hN hE hS hF⟩ rfl rfl hl.1 rfl (lv_room (Nat.le_of_ble_eq_true rfl)) d_Rec_readValues_27 ⟨hRc, hRs⟩) hS (fun q _ h => hF q h) hF (fun  x3212 t H locs ht hvm hw hB hz1 hk1 hS => ?_)
    have hW := Wd.back hB ht hF
    clear hB ht hF hz1 hk1 hvm
    refine lv_aload_n hx hb d_Rec_readValues_30 rfl (lv_at hl 0 rfl) ?_
    obtain ⟨q3213, hq3213, hw⟩ := hw
    refine w_getr (q := q3213) (k := 13) (t := 4) (C := R_Rec) (T := F_Rec) (N := 15) hx hb hT hown hK hW fo.1 fo.2 (by decide) in_Rec rfl rfl (by decide) rfl fr_Rec_13 w_2_8 d_Rec_readValues_31 hq3213 (fun aq3213 bq3213 => ?_)
    have fq3213 : q3213 < NN ∧ kcC q3213 = 2 := ⟨aq3213, bq3213⟩
    have hF := hW.free hS hA
    refine va_calli (va_runV (C := R_Scn) (As := []) (rest := []) ⟨hx, hb, hml, hown, hT⟩ (k_Scn_good l dC dI cI cB cJ cZ ad NN E tM tC kK kV hNN H.size q3213 x3212 fq3213 hw) ⟨callB_of 0 hT (gw_in w_4_106) rfl rfl rfl (hT _ w_1_4) (hT _ w_5_31) (by decide +kernel) ⟨Nat.le_trans (by decide) hRf, Nat.le_trans (by decide) hRl⟩, hT _ w_4_104, hT _ w_4_105⟩ ⟨PV.blind, va_recv hK hW.1 (ci := 2) (q0 := q3213) rfl (pic_obj fq3213.1 fq3213.2 (by decide)), PV.at _ hW hK hN hE hS hF⟩ rfl rfl hl.1 rfl (lv_room (Nat.le_of_ble_eq_true rfl)) d_Rec_readValues_34 ⟨hRc, hRs⟩) hS (fun q _ h => hF q h) hF (fun r3215 x3214 t H locs ht hvm hw hB hz1 hk1 hS => ?_)
    have hW := Wd.back hB ht hF
    clear hB ht hF hz1 hk1 hvm
    refine lv_if_ne (tgt := 41) hx hb d_Rec_readValues_37 (by decide) (fun c3216 => ?_) (fun c3216 => ?_)
    · have hw := hw.1 c3216
      refine lv_aload_n hx hb d_Rec_readValues_41 rfl (lv_at hl 0 rfl) ?_
      obtain ⟨q3217, hq3217, hw⟩ := hw
      refine w_getr (q := q3217) (k := 13) (t := 4) (C := R_Rec) (T := F_Rec) (N := 15) hx hb hT hown hK hW fo.1 fo.2 (by decide) in_Rec rfl rfl (by decide) rfl fr_Rec_13 w_2_8 d_Rec_readValues_42 hq3217 (fun aq3217 bq3217 => ?_)
      have fq3217 : q3217 < NN ∧ kcC q3217 = 2 := ⟨aq3217, bq3217⟩
      refine lv_bipush (v := 93) hx hb d_Rec_readValues_45 (by decide) ?_
      have hF := hW.free hS hA
      refine va_calli (va_runV (C := R_Scn) (As := [.int 93]) (rest := []) ⟨hx, hb, hml, hown, hT⟩ (k_Scn_takeSign l dC dI cI cB cJ cZ ad NN E tM tC kK kV hNN H.size q3217 93 x3214 fq3217 hw) ⟨callB_of 1 hT (gw_in w_4_123) rfl rfl rfl (hT _ w_1_4) (hT _ w_5_105) (by decide +kernel) ⟨Nat.le_trans (by decide) hRf, Nat.le_trans (by decide) hRl⟩, hT _ w_4_121, hT _ w_4_122⟩ ⟨PV.blind, va_recv hK hW.1 (ci := 2) (q0 := q3217) rfl (pic_obj fq3217.1 fq3217.2 (by decide)), PV.at _ hW hK hN hE hS hF⟩ rfl rfl hl.1 rfl (lv_room (Nat.le_of_ble_eq_true rfl)) d_Rec_readValues_47 ⟨hRc, hRs⟩) hS (fun q _ h => hF q h) hF (fun r3219 x3218 t H locs ht hvm hw hB hz1 hk1 hS => ?_)
      have hW := Wd.back hB ht hF
      clear hB ht hF hz1 hk1 hvm
      refine lv_if_eq (tgt := 78) hx hb d_Rec_readValues_50 (by decide) (fun c3220 => ?_) (fun c3220 => ?_)
      · have hw := hw.1 c3220
        refine lv_iload_n hx hb d_Rec_readValues_78 rfl (lv_at hl 2 rfl) ?_
        refine lv_istore (lv' := [(4, .int l2), (0, .ref (ad o)), (1, .int l1), (2, .int l2), (3, .int l3)]) hx hb d_Rec_readValues_79 hl (by decide) rfl (fun ls hl => ?_)
        refine lv_iconst (v := 1) hx hb d_Rec_readValues_81 (by decide) ?_
        refine lv_istore (lv' := [(5, .int 1), (4, .int l2), (0, .ref (ad o)), (1, .int l1), (2, .int l2), (3, .int l3)]) hx hb d_Rec_readValues_82 hl (by decide) rfl (fun ls hl => ?_)
        refine lv_iconst (v := 0) hx hb d_Rec_readValues_84 (by decide) ?_
        refine lv_istore (lv' := [(6, .int 0), (5, .int 1), (4, .int l2), (0, .ref (ad o)), (1, .int l1), (2, .int l2), (3, .int l3)]) hx hb d_Rec_readValues_85 hl (by decide) rfl (fun ls hl => ?_)
        obtain ⟨n, hw⟩ := hw
        exact tl_Rec_readValues_87 hx hb hml hown hT hK hN hA hRc hRs hRf hRl hNN hE hret hs_Rec_readGroup hs_Rec_readOne hs_Rec_readValues hDf hDl  n o l1 l2 l3 l2 1 0 x3218 H locs ls fo hw hW hS (lv_sub hl [3, 4, 5, 6, 2, 1, 0] rfl)
      · have hw := hw.2 c3220
        refine lv_aload_n hx hb d_Rec_readValues_53 rfl (lv_at hl 0 rfl) ?_
        refine lv_iload_n hx hb d_Rec_readValues_54 rfl (lv_at hl 1 rfl) ?_
        refine lv_aload_n hx hb d_Rec_readValues_55 rfl (lv_at hl 0 rfl) ?_
        obtain ⟨q3221, hq3221, hw⟩ := hw
        refine w_getr (q := q3221) (k := 14) (t := 4) (C := R_Rec) (T := F_Rec) (N := 15) hx hb hT hown hK hW fo.1 fo.2 (by decide) in_Rec rfl rfl (by decide) rfl fr_Rec_14 w_2_9 d_Rec_readValues_56 hq3221 (fun aq3221 bq3221 => ?_)
        have fq3221 : q3221 < NN ∧ kcC q3221 = 3 := ⟨aq3221, bq3221⟩
        refine w_getf (q := (stC q3221 8)) (k := 8) (t := 3) (C := R_Sch) (T := F_Sch) (N := 13) hx hb hT hown hK hW fq3221.1 fq3221.2 (by decide) in_Sch rfl rfl (by decide) rfl fr_Sch_8 w_1_172 d_Rec_readValues_59 rfl ?_
        refine lv_iload_n hx hb d_Rec_readValues_62 rfl (lv_at hl 1 rfl) ?_
        obtain ⟨hi, hw⟩ := hw
        refine w_iald (o := (stC q3221 8)) hx hb hK hW (st_ty hNN fq3221.1 fq3221.2 rfl).1 (st_ty hNN fq3221.1 fq3221.2 rfl).2 hi d_Rec_readValues_63 ?_
        refine lv_iload_n hx hb d_Rec_readValues_64 rfl (lv_at hl 2 rfl) ?_
        refine lv_aload_n hx hb d_Rec_readValues_65 rfl (lv_at hl 0 rfl) ?_
        obtain ⟨q3222, hq3222, hw⟩ := hw
        refine w_getr (q := q3222) (k := 14) (t := 4) (C := R_Rec) (T := F_Rec) (N := 15) hx hb hT hown hK hW fo.1 fo.2 (by decide) in_Rec rfl rfl (by decide) rfl fr_Rec_14 w_2_9 d_Rec_readValues_66 hq3222 (fun aq3222 bq3222 => ?_)
        have fq3222 : q3222 < NN ∧ kcC q3222 = 3 := ⟨aq3222, bq3222⟩
        refine w_getf (q := (stC q3222 4)) (k := 4) (t := 3) (C := R_Sch) (T := F_Sch) (N := 13) hx hb hT hown hK hW fq3222.1 fq3222.2 (by decide) in_Sch rfl rfl (by decide) rfl fr_Sch_4 w_1_156 d_Rec_readValues_69 rfl ?_
        refine lv_iload_n hx hb d_Rec_readValues_72 rfl (lv_at hl 1 rfl) ?_
        obtain ⟨hi, hw⟩ := hw
        refine w_iald (o := (stC q3222 4)) hx hb hK hW (st_ty hNN fq3222.1 fq3222.2 rfl).1 (st_ty hNN fq3222.1 fq3222.2 rfl).2 hi d_Rec_readValues_73 ?_
        have hF := hW.free hS hA
        refine va_callv (va_runV (C := R_Rec) (As := [.int l1, .int (rA x3218 (stC q3221 8) l1), .int l2, .int (rA x3218 (stC q3222 4) l1)]) (rest := []) ⟨hx, hb, hml, hown, hT⟩ (k_Rec_enterMissing l dC dI cI cB cJ cZ ad NN E tM tC kK kV hNN H.size o l1 (rA x3218 (stC q3221 8) l1) l2 (rA x3218 (stC q3222 4) l1) x3218 fo hw) ⟨callB_of 4 hT (gw_in w_5_42) rfl rfl rfl (hT _ w_1_6) (hT _ w_5_39) (by decide +kernel) ⟨Nat.le_trans (by decide) hRf, Nat.le_trans (by decide) hRl⟩, hT _ w_5_41, hT _ ws_8⟩ ⟨PV.blind, va_recv hK hW.1 (ci := 4) (q0 := o) rfl (pic_obj fo.1 fo.2 (by decide)), PV.at _ hW hK hN hE hS hF⟩ rfl rfl hl.1 rfl (lv_room (Nat.le_of_ble_eq_true rfl)) d_Rec_readValues_74 ⟨hRc, hRs⟩) hS (fun q _ h => hF q h) hF (fun  x3223 t H locs ht hvm hw hB hz1 hk1 hS => ?_)
        have hW := Wd.back hB ht hF
        clear hB ht hF hz1 hk1 hvm
        exact hret x3223 H locs 77 ls d_Rec_readValues_77 hw hW hS
    · have hw := hw.2 c3216
      exact hret x3214 H locs 40 ls d_Rec_readValues_40 hw hW hS
  · have hw := hw.2 c3210
    refine lv_aload_n hx hb d_Rec_readValues_13 rfl (lv_at hl 0 rfl) ?_
    refine lv_iload_n hx hb d_Rec_readValues_14 rfl (lv_at hl 1 rfl) ?_
    refine lv_iload_n hx hb d_Rec_readValues_15 rfl (lv_at hl 2 rfl) ?_
    refine lv_iload_n hx hb d_Rec_readValues_16 rfl (lv_at hl 3 rfl) ?_
    have hF := hW.free hS hA
    refine va_callv (va_runV (C := R_Rec) (As := [.int l1, .int l2, .int l3]) (rest := []) ⟨hx, hb, hml, hown, hT⟩ (hs_Rec_readOne H.size o l1 l2 l3 x fo _ hw) ⟨callB_of 3 hT (gw_in w_5_59) rfl rfl rfl (hT _ w_1_6) (hT _ w_5_56) (by decide +kernel) ⟨hDf, Nat.le_trans (Nat.add_le_add_right (by decide) _) hDl⟩, hT _ w_5_58, hT _ ws_11⟩ ⟨PV.blind, va_recv hK hW.1 (ci := 4) (q0 := o) rfl (pic_obj fo.1 fo.2 (by decide)), PV.at _ hW hK hN hE hS hF⟩ rfl rfl hl.1 rfl (lv_room (Nat.le_of_ble_eq_true rfl)) d_Rec_readValues_17 ⟨hRc, hRs⟩) hS (fun q _ h => hF q h) hF (fun  x3224 t H locs ht hvm hw hB hz1 hk1 hS => ?_)
    have hW := Wd.back hB ht hF
    clear hB ht hF hz1 hk1 hvm
    exact hret x3224 H locs 20 ls d_Rec_readValues_20 hw hW hS
def wr_Rec_readGroup : Nat → ((St → Prop) → Nat → Int32 → Int32 → Int32 → St → Prop) × ((St → Prop) → Nat → Int32 → Int32 → Int32 → St → Prop) × ((St → Prop) → Nat → Int32 → Int32 → Int32 → St → Prop)
  | 0 => (fun _ _ _ _ _ _ => False, fun _ _ _ _ _ _ => False, fun _ _ _ _ _ _ => False)
  | d + 1 => (fun post o l1 l2 l3 x => wb_Rec_readGroup post ((wr_Rec_readGroup d)).1 ((wr_Rec_readGroup d)).2.1 ((wr_Rec_readGroup d)).2.2 o l1 l2 l3 x, fun post o l1 l2 l3 x => wb_Rec_readOne post ((wr_Rec_readGroup d)).1 ((wr_Rec_readGroup d)).2.1 ((wr_Rec_readGroup d)).2.2 o l1 l2 l3 x, fun post o l1 l2 l3 x => wb_Rec_readValues post ((wr_Rec_readGroup d)).1 ((wr_Rec_readGroup d)).2.1 ((wr_Rec_readGroup d)).2.2 o l1 l2 l3 x)
set_option maxHeartbeats 4000000 in
set_option maxRecDepth 100000 in
theorem kr_Rec_readGroup (l : Launch) (dC : Nat → ClassId) (dI : Nat → Nat → Nat) (cI cB cJ cZ : ClassId) (ad : Nat → Nat) (NN : Nat) (E : Heap) (tM tC : Nat) (kK kV : Nat → Nat) (hNN : 152 ≤ NN) : ∀ d : Nat, (∀ (sz : Nat) (o : Nat) (l1 : Int32) (l2 : Int32) (l3 : Int32) (x : St), (o < NN ∧ kcC o = 4) → ∀ (post : St → Prop), ((wr_Rec_readGroup d)).1 post o l1 l2 l3 x → Met l y_Rec_readGroup (wsOf y_Rec_readGroup b_Rec_readGroup 9 (none)) ({ frames := 8 + d, cells := 0, slots := 0, locals := 287 + d * 28 }) (va_Pc [.ref (ad o), .int l1, .int l2, .int l3] (PV dC dI cI cB cJ cZ ad stC kcC NN E tM tC kK kV sz x)) (va_Qv (fun (y : St) => post y) (fun y t => Wd dC dI cI cB cJ cZ ad stC kcC NN (va_A (pic ad stC kcC NN cI cB cJ cZ x) sz) y t.heap) (va_A (pic ad stC kcC NN cI cB cJ cZ x) sz)) 0 0 (va_A (pic ad stC kcC NN cI cB cJ cZ x) sz)) ∧ (∀ (sz : Nat) (o : Nat) (l1 : Int32) (l2 : Int32) (l3 : Int32) (x : St), (o < NN ∧ kcC o = 4) → ∀ (post : St → Prop), ((wr_Rec_readGroup d)).2.1 post o l1 l2 l3 x → Met l y_Rec_readOne (wsOf y_Rec_readOne b_Rec_readOne 6 (none)) ({ frames := 8 + d, cells := 0, slots := 0, locals := 287 + d * 28 }) (va_Pc [.ref (ad o), .int l1, .int l2, .int l3] (PV dC dI cI cB cJ cZ ad stC kcC NN E tM tC kK kV sz x)) (va_Qv (fun (y : St) => post y) (fun y t => Wd dC dI cI cB cJ cZ ad stC kcC NN (va_A (pic ad stC kcC NN cI cB cJ cZ x) sz) y t.heap) (va_A (pic ad stC kcC NN cI cB cJ cZ x) sz)) 0 0 (va_A (pic ad stC kcC NN cI cB cJ cZ x) sz)) ∧ (∀ (sz : Nat) (o : Nat) (l1 : Int32) (l2 : Int32) (l3 : Int32) (x : St), (o < NN ∧ kcC o = 4) → ∀ (post : St → Prop), ((wr_Rec_readGroup d)).2.2 post o l1 l2 l3 x → Met l y_Rec_readValues (wsOf y_Rec_readValues b_Rec_readValues 7 (none)) ({ frames := 8 + d, cells := 0, slots := 0, locals := 287 + d * 28 }) (va_Pc [.ref (ad o), .int l1, .int l2, .int l3] (PV dC dI cI cB cJ cZ ad stC kcC NN E tM tC kK kV sz x)) (va_Qv (fun (y : St) => post y) (fun y t => Wd dC dI cI cB cJ cZ ad stC kcC NN (va_A (pic ad stC kcC NN cI cB cJ cZ x) sz) y t.heap) (va_A (pic ad stC kcC NN cI cB cJ cZ x) sz)) 0 0 (va_A (pic ad stC kcC NN cI cB cJ cZ x) sz)) := by
  intro d
  induction d with
  | zero =>
    exact ⟨fun sz o l1 l2 l3 x fo post hw => hw.elim, fun sz o l1 l2 l3 x fo post hw => hw.elim, fun sz o l1 l2 l3 x fo post hw => hw.elim⟩
  | succ d ih =>
    refine ⟨?_, ?_, ?_⟩
    · intro sz o l1 l2 l3 x fo post hw
      have hw : wb_Rec_readGroup post ((wr_Rec_readGroup d)).1 ((wr_Rec_readGroup d)).2.1 ((wr_Rec_readGroup d)).2.2 o l1 l2 l3 x := hw
      refine Met.ofW (cc := b_Rec_readGroup) (maxL := 9) (ret := none) (by decide) rfl ?_
      intro p e s m args below meth c s₁ B hml hv
      obtain ⟨rfl, ⟨hsz, hW0, hK, hN⟩, hE⟩ := hv
      have hx := B.exec
      have hb := B.bytes
      have hr := B.returns
      have hts := atoms_spec B.pre
      have hT : ∀ w ∈ TG, w.before _ s = true := fun w h => hts w (List.mem_cons_of_mem _ h)
      have hown : s.vm.findClass R_Rec = some m.cls := findClass_of_methodNamed B.named
      have hlocks := B.notSynchronized
      subst hsz
      have hW : Wd dC dI cI cB cJ cZ ad stC kcC NN (va_A (pic ad stC kcC NN cI cB cJ cZ x) s.heap.size) x s.heap := ⟨hW0.1, hW0.2.1.self (sz := s.heap.size), hW0.2.2⟩
      generalize hAe : va_A (pic ad stC kcC NN cI cB cJ cZ x) s.heap.size = A at hW hE ⊢
      have hA : ∀ q : Nat, s.heap.size ≤ q → A q := fun q h => by rw [← hAe]; exact Or.inr h
      have hS : va_S A s.heap s.heap [] := va_S.rf
      have hl := lv_entry ([.ref (ad o), .int l1, .int l2, .int l3]) (n := 9) (Nat.le_of_ble_eq_true rfl)
      rw [lg_entry_eq]
      generalize (lg_sl ([.ref (ad o), .int l1, .int l2, .int l3]) ++ List.replicate (9 - (lg_sl ([.ref (ad o), .int l1, .int l2, .int l3])).length) Slot.unset).toArray = ls at hl ⊢
      have hl : lv_has ls 9 [(0, .ref (ad o)), (1, .int l1), (2, .int l2), (3, .int l3)] := hl
      exact t_Rec_readGroup_e hx hb hml hown hT hK hN hA (Nat.le_refl 0) (Nat.le_refl 0) (Nat.le_add_right 8 (d + 1)) (Nat.le_add_right 287 ((d + 1) * 28)) hNN hE (fun x H locs pc ls hd hp hW hS => W.vret hx hb hr (fun t ht hM => ⟨⟨x, rfl, hp, Wd.back hW ht.symm (fun _ z => z)⟩, hS.F ht⟩) hS.2.2 hd hlocks) (ih).1 (ih).2.1 (ih).2.2 (Nat.le_of_eq (Nat.add_assoc 8 d 1)) (by show 28 + (287 + d * 28) ≤ 287 + (d + 1) * 28; omega) o l1 l2 l3 x _ _ ls fo hw hW hS hl
    · intro sz o l1 l2 l3 x fo post hw
      have hw : wb_Rec_readOne post ((wr_Rec_readGroup d)).1 ((wr_Rec_readGroup d)).2.1 ((wr_Rec_readGroup d)).2.2 o l1 l2 l3 x := hw
      refine Met.ofW (cc := b_Rec_readOne) (maxL := 6) (ret := none) (by decide) rfl ?_
      intro p e s m args below meth c s₁ B hml hv
      obtain ⟨rfl, ⟨hsz, hW0, hK, hN⟩, hE⟩ := hv
      have hx := B.exec
      have hb := B.bytes
      have hr := B.returns
      have hts := atoms_spec B.pre
      have hT : ∀ w ∈ TG, w.before _ s = true := fun w h => hts w (List.mem_cons_of_mem _ h)
      have hown : s.vm.findClass R_Rec = some m.cls := findClass_of_methodNamed B.named
      have hlocks := B.notSynchronized
      subst hsz
      have hW : Wd dC dI cI cB cJ cZ ad stC kcC NN (va_A (pic ad stC kcC NN cI cB cJ cZ x) s.heap.size) x s.heap := ⟨hW0.1, hW0.2.1.self (sz := s.heap.size), hW0.2.2⟩
      generalize hAe : va_A (pic ad stC kcC NN cI cB cJ cZ x) s.heap.size = A at hW hE ⊢
      have hA : ∀ q : Nat, s.heap.size ≤ q → A q := fun q h => by rw [← hAe]; exact Or.inr h
      have hS : va_S A s.heap s.heap [] := va_S.rf
      have hl := lv_entry ([.ref (ad o), .int l1, .int l2, .int l3]) (n := 6) (Nat.le_of_ble_eq_true rfl)
      rw [lg_entry_eq]
      generalize (lg_sl ([.ref (ad o), .int l1, .int l2, .int l3]) ++ List.replicate (6 - (lg_sl ([.ref (ad o), .int l1, .int l2, .int l3])).length) Slot.unset).toArray = ls at hl ⊢
      have hl : lv_has ls 6 [(0, .ref (ad o)), (1, .int l1), (2, .int l2), (3, .int l3)] := hl
      exact t_Rec_readOne_e hx hb hml hown hT hK hN hA (Nat.le_refl 0) (Nat.le_refl 0) (Nat.le_add_right 8 (d + 1)) (Nat.le_add_right 287 ((d + 1) * 28)) hNN hE (fun x H locs pc ls hd hp hW hS => W.vret hx hb hr (fun t ht hM => ⟨⟨x, rfl, hp, Wd.back hW ht.symm (fun _ z => z)⟩, hS.F ht⟩) hS.2.2 hd hlocks) (ih).1 (ih).2.1 (ih).2.2 (Nat.le_of_eq (Nat.add_assoc 8 d 1)) (by show 28 + (287 + d * 28) ≤ 287 + (d + 1) * 28; omega) o l1 l2 l3 x _ _ ls fo hw hW hS hl
    · intro sz o l1 l2 l3 x fo post hw
      have hw : wb_Rec_readValues post ((wr_Rec_readGroup d)).1 ((wr_Rec_readGroup d)).2.1 ((wr_Rec_readGroup d)).2.2 o l1 l2 l3 x := hw
      refine Met.ofW (cc := b_Rec_readValues) (maxL := 7) (ret := none) (by decide) rfl ?_
      intro p e s m args below meth c s₁ B hml hv
      obtain ⟨rfl, ⟨hsz, hW0, hK, hN⟩, hE⟩ := hv
      have hx := B.exec
      have hb := B.bytes
      have hr := B.returns
      have hts := atoms_spec B.pre
      have hT : ∀ w ∈ TG, w.before _ s = true := fun w h => hts w (List.mem_cons_of_mem _ h)
      have hown : s.vm.findClass R_Rec = some m.cls := findClass_of_methodNamed B.named
      have hlocks := B.notSynchronized
      subst hsz
      have hW : Wd dC dI cI cB cJ cZ ad stC kcC NN (va_A (pic ad stC kcC NN cI cB cJ cZ x) s.heap.size) x s.heap := ⟨hW0.1, hW0.2.1.self (sz := s.heap.size), hW0.2.2⟩
      generalize hAe : va_A (pic ad stC kcC NN cI cB cJ cZ x) s.heap.size = A at hW hE ⊢
      have hA : ∀ q : Nat, s.heap.size ≤ q → A q := fun q h => by rw [← hAe]; exact Or.inr h
      have hS : va_S A s.heap s.heap [] := va_S.rf
      have hl := lv_entry ([.ref (ad o), .int l1, .int l2, .int l3]) (n := 7) (Nat.le_of_ble_eq_true rfl)
      rw [lg_entry_eq]
      generalize (lg_sl ([.ref (ad o), .int l1, .int l2, .int l3]) ++ List.replicate (7 - (lg_sl ([.ref (ad o), .int l1, .int l2, .int l3])).length) Slot.unset).toArray = ls at hl ⊢
      have hl : lv_has ls 7 [(0, .ref (ad o)), (1, .int l1), (2, .int l2), (3, .int l3)] := hl
      exact t_Rec_readValues_e hx hb hml hown hT hK hN hA (Nat.le_refl 0) (Nat.le_refl 0) (Nat.le_add_right 8 (d + 1)) (Nat.le_add_right 287 ((d + 1) * 28)) hNN hE (fun x H locs pc ls hd hp hW hS => W.vret hx hb hr (fun t ht hM => ⟨⟨x, rfl, hp, Wd.back hW ht.symm (fun _ z => z)⟩, hS.F ht⟩) hS.2.2 hd hlocks) (ih).1 (ih).2.1 (ih).2.2 (Nat.le_of_eq (Nat.add_assoc 8 d 1)) (by show 28 + (287 + d * 28) ≤ 287 + (d + 1) * 28; omega) o l1 l2 l3 x _ _ ls fo hw hW hS hl

def wp_Rec_readGroup (post : St → Prop) (o : Nat) (l1 : Int32) (l2 : Int32) (l3 : Int32) (x : St) : Prop := ((wr_Rec_readGroup 200)).1 post o l1 l2 l3 x
theorem k_Rec_readGroup (l : Launch) (dC : Nat → ClassId) (dI : Nat → Nat → Nat) (cI cB cJ cZ : ClassId) (ad : Nat → Nat) (NN : Nat) (E : Heap) (tM tC : Nat) (kK kV : Nat → Nat) (hNN : 152 ≤ NN) (sz : Nat) (o : Nat) (l1 : Int32) (l2 : Int32) (l3 : Int32) (x : St) (fo : o < NN ∧ kcC o = 4) {post : St → Prop} (hw : wp_Rec_readGroup post o l1 l2 l3 x) : Met l y_Rec_readGroup (wsOf y_Rec_readGroup b_Rec_readGroup 9 (none)) ({ frames := 208, cells := 0, slots := 0, locals := 5887 }) (va_Pc [.ref (ad o), .int l1, .int l2, .int l3] (PV dC dI cI cB cJ cZ ad stC kcC NN E tM tC kK kV sz x)) (va_Qv (fun (y : St) => post y) (fun y t => Wd dC dI cI cB cJ cZ ad stC kcC NN (va_A (pic ad stC kcC NN cI cB cJ cZ x) sz) y t.heap) (va_A (pic ad stC kcC NN cI cB cJ cZ x) sz)) 0 0 (va_A (pic ad stC kcC NN cI cB cJ cZ x) sz) := ((kr_Rec_readGroup l dC dI cI cB cJ cZ ad NN E tM tC kK kV hNN 200)).1 sz o l1 l2 l3 x fo post hw
def wp_Rec_readOne (post : St → Prop) (o : Nat) (l1 : Int32) (l2 : Int32) (l3 : Int32) (x : St) : Prop := ((wr_Rec_readGroup 200)).2.1 post o l1 l2 l3 x
theorem k_Rec_readOne (l : Launch) (dC : Nat → ClassId) (dI : Nat → Nat → Nat) (cI cB cJ cZ : ClassId) (ad : Nat → Nat) (NN : Nat) (E : Heap) (tM tC : Nat) (kK kV : Nat → Nat) (hNN : 152 ≤ NN) (sz : Nat) (o : Nat) (l1 : Int32) (l2 : Int32) (l3 : Int32) (x : St) (fo : o < NN ∧ kcC o = 4) {post : St → Prop} (hw : wp_Rec_readOne post o l1 l2 l3 x) : Met l y_Rec_readOne (wsOf y_Rec_readOne b_Rec_readOne 6 (none)) ({ frames := 208, cells := 0, slots := 0, locals := 5887 }) (va_Pc [.ref (ad o), .int l1, .int l2, .int l3] (PV dC dI cI cB cJ cZ ad stC kcC NN E tM tC kK kV sz x)) (va_Qv (fun (y : St) => post y) (fun y t => Wd dC dI cI cB cJ cZ ad stC kcC NN (va_A (pic ad stC kcC NN cI cB cJ cZ x) sz) y t.heap) (va_A (pic ad stC kcC NN cI cB cJ cZ x) sz)) 0 0 (va_A (pic ad stC kcC NN cI cB cJ cZ x) sz) := ((kr_Rec_readGroup l dC dI cI cB cJ cZ ad NN E tM tC kK kV hNN 200)).2.1 sz o l1 l2 l3 x fo post hw
def wp_Rec_readValues (post : St → Prop) (o : Nat) (l1 : Int32) (l2 : Int32) (l3 : Int32) (x : St) : Prop := ((wr_Rec_readGroup 200)).2.2 post o l1 l2 l3 x
theorem k_Rec_readValues (l : Launch) (dC : Nat → ClassId) (dI : Nat → Nat → Nat) (cI cB cJ cZ : ClassId) (ad : Nat → Nat) (NN : Nat) (E : Heap) (tM tC : Nat) (kK kV : Nat → Nat) (hNN : 152 ≤ NN) (sz : Nat) (o : Nat) (l1 : Int32) (l2 : Int32) (l3 : Int32) (x : St) (fo : o < NN ∧ kcC o = 4) {post : St → Prop} (hw : wp_Rec_readValues post o l1 l2 l3 x) : Met l y_Rec_readValues (wsOf y_Rec_readValues b_Rec_readValues 7 (none)) ({ frames := 208, cells := 0, slots := 0, locals := 5887 }) (va_Pc [.ref (ad o), .int l1, .int l2, .int l3] (PV dC dI cI cB cJ cZ ad stC kcC NN E tM tC kK kV sz x)) (va_Qv (fun (y : St) => post y) (fun y t => Wd dC dI cI cB cJ cZ ad stC kcC NN (va_A (pic ad stC kcC NN cI cB cJ cZ x) sz) y t.heap) (va_A (pic ad stC kcC NN cI cB cJ cZ x) sz)) 0 0 (va_A (pic ad stC kcC NN cI cB cJ cZ x) sz) := ((kr_Rec_readGroup l dC dI cI cB cJ cZ ad NN E tM tC kK kV hNN 200)).2.2 sz o l1 l2 l3 x fo post hw
end
