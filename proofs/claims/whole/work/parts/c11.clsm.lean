theorem w_1_132 : (Jvm.Cond.fieldLink "StripedVault$Opener" (148 : Nat) "StripedVault$Schema" "fields" "I") ∈ TG := tw_1 132 (by decide +kernel) (by decide +kernel)
theorem w_2_238 : (Jvm.Cond.fieldLink "StripedVault$Opener" (101 : Nat) "StripedVault$Source" "pos" "I") ∈ TG := tw_2 238 (by decide +kernel) (by decide +kernel)
theorem w_3_2 : (Jvm.Cond.fieldLink "StripedVault$Opener" (107 : Nat) "StripedVault$Source" "fault" "I") ∈ TG := tw_3 2 (by decide +kernel) (by decide +kernel)
theorem w_6_104 : (Jvm.Cond.methodLink "StripedVault$Opener" (139 : Nat) ({ cls := "StripedVault$Schema", name := "forget", desc := "()V" } : Jvm.MethodName)) ∈ TG := tw_6 104 (by decide +kernel) (by decide +kernel)
theorem w_6_105 : (Jvm.Cond.methodLink "StripedVault$Opener" (85 : Nat) ({ cls := "StripedVault$Source", name := "readVarint", desc := "()J" } : Jvm.MethodName)) ∈ TG := tw_6 105 (by decide +kernel) (by decide +kernel)
theorem w_6_106 : (Jvm.Cond.instanceMethod ({ cls := "StripedVault$Source", name := "readVarint", desc := "()J" } : Jvm.MethodName)) ∈ TG := tw_6 106 (by decide +kernel) (by decide +kernel)
theorem w_6_107 : (Jvm.Cond.selects "StripedVault$Source" ({ cls := "StripedVault$Source", name := "readVarint", desc := "()J" } : Jvm.MethodName) ({ cls := "StripedVault$Source", name := "readVarint", desc := "()J" } : Jvm.MethodName)) ∈ TG := tw_6 107 (by decide +kernel) (by decide +kernel)
theorem w_6_108 : (Jvm.Cond.code ({ cls := "StripedVault$Source", name := "readVarint", desc := "()J" } : Jvm.MethodName) prog_10_method_8_code (5 : Nat) (Option.some Jvm.ClassFile.FieldType.long)) ∈ TG := tw_6 108 (by decide +kernel) (by decide +kernel)
theorem w_6_109 : (Jvm.Cond.constantLong "StripedVault$Opener" (142 : Nat) (128 : Int64)) ∈ TG := tw_6 109 (by decide +kernel) (by decide +kernel)
theorem w_6_111 : (Jvm.Cond.static ({ cls := "StripedVault", name := "within", desc := "(JJ)Z" } : Jvm.MethodName)) ∈ TG := tw_6 111 (by decide +kernel) (by decide +kernel)
theorem w_6_112 : (Jvm.Cond.code ({ cls := "StripedVault", name := "within", desc := "(JJ)Z" } : Jvm.MethodName) prog_1_method_37_code (4 : Nat) (Option.some Jvm.ClassFile.FieldType.boolean)) ∈ TG := tw_6 112 (by decide +kernel) (by decide +kernel)
theorem w_6_113 : (Jvm.Cond.methodLink "StripedVault$Opener" (95 : Nat) ({ cls := "StripedVault$Source", name := "check", desc := "(ZI)V" } : Jvm.MethodName)) ∈ TG := tw_6 113 (by decide +kernel) (by decide +kernel)
theorem w_6_114 : (Jvm.Cond.instanceMethod ({ cls := "StripedVault$Source", name := "check", desc := "(ZI)V" } : Jvm.MethodName)) ∈ TG := tw_6 114 (by decide +kernel) (by decide +kernel)
theorem w_6_115 : (Jvm.Cond.selects "StripedVault$Source" ({ cls := "StripedVault$Source", name := "check", desc := "(ZI)V" } : Jvm.MethodName) ({ cls := "StripedVault$Source", name := "check", desc := "(ZI)V" } : Jvm.MethodName)) ∈ TG := tw_6 115 (by decide +kernel) (by decide +kernel)
theorem w_6_116 : (Jvm.Cond.code ({ cls := "StripedVault$Source", name := "check", desc := "(ZI)V" } : Jvm.MethodName) prog_10_method_3_code (3 : Nat) (Option.none : Option Jvm.ClassFile.FieldType)) ∈ TG := tw_6 116 (by decide +kernel) (by decide +kernel)
theorem w_6_117 : (Jvm.Cond.methodLink "StripedVault$Opener" (144 : Nat) ({ cls := "StripedVault$Opener", name := "readField", desc := "(LStripedVault$Schema;I)V" } : Jvm.MethodName)) ∈ TG := tw_6 117 (by decide +kernel) (by decide +kernel)
theorem w_6_119 : (Jvm.Cond.instanceMethod ({ cls := "StripedVault$Opener", name := "readField", desc := "(LStripedVault$Schema;I)V" } : Jvm.MethodName)) ∈ TG := tw_6 119 (by decide +kernel) (by decide +kernel)
theorem w_6_120 : (Jvm.Cond.code ({ cls := "StripedVault$Opener", name := "readField", desc := "(LStripedVault$Schema;I)V" } : Jvm.MethodName) prog_4_method_6_code (10 : Nat) (Option.none : Option Jvm.ClassFile.FieldType)) ∈ TG := tw_6 120 (by decide +kernel) (by decide +kernel)
theorem w_6_121 : (Jvm.Cond.methodLink "StripedVault$Opener" (155 : Nat) ({ cls := "StripedVault$Source", name := "readByte", desc := "()I" } : Jvm.MethodName)) ∈ TG := tw_6 121 (by decide +kernel) (by decide +kernel)
theorem w_6_122 : (Jvm.Cond.instanceMethod ({ cls := "StripedVault$Source", name := "readByte", desc := "()I" } : Jvm.MethodName)) ∈ TG := tw_6 122 (by decide +kernel) (by decide +kernel)
theorem w_6_123 : (Jvm.Cond.selects "StripedVault$Source" ({ cls := "StripedVault$Source", name := "readByte", desc := "()I" } : Jvm.MethodName) ({ cls := "StripedVault$Source", name := "readByte", desc := "()I" } : Jvm.MethodName)) ∈ TG := tw_6 123 (by decide +kernel) (by decide +kernel)
theorem w_6_124 : (Jvm.Cond.code ({ cls := "StripedVault$Source", name := "readByte", desc := "()I" } : Jvm.MethodName) prog_10_method_7_code (1 : Nat) (Option.some Jvm.ClassFile.FieldType.int)) ∈ TG := tw_6 124 (by decide +kernel) (by decide +kernel)
theorem w_6_125 : (Jvm.Cond.methodLink "StripedVault$Opener" (159 : Nat) ({ cls := "StripedVault$Source", name := "has", desc := "(J)Z" } : Jvm.MethodName)) ∈ TG := tw_6 125 (by decide +kernel) (by decide +kernel)
theorem w_6_126 : (Jvm.Cond.instanceMethod ({ cls := "StripedVault$Source", name := "has", desc := "(J)Z" } : Jvm.MethodName)) ∈ TG := tw_6 126 (by decide +kernel) (by decide +kernel)
theorem w_6_127 : (Jvm.Cond.selects "StripedVault$Source" ({ cls := "StripedVault$Source", name := "has", desc := "(J)Z" } : Jvm.MethodName) ({ cls := "StripedVault$Source", name := "has", desc := "(J)Z" } : Jvm.MethodName)) ∈ TG := tw_6 127 (by decide +kernel) (by decide +kernel)
theorem w_6_128 : (Jvm.Cond.code ({ cls := "StripedVault$Source", name := "has", desc := "(J)Z" } : Jvm.MethodName) prog_10_method_4_code (3 : Nat) (Option.some Jvm.ClassFile.FieldType.boolean)) ∈ TG := tw_6 128 (by decide +kernel) (by decide +kernel)
theorem w_6_129 : (Jvm.Cond.methodLink "StripedVault$Opener" (163 : Nat) ({ cls := "StripedVault$Opener", name := "isGroupAround", desc := "(LStripedVault$Schema;JI)Z" } : Jvm.MethodName)) ∈ TG := tw_6 129 (by decide +kernel) (by decide +kernel)
theorem w_6_130 : (Jvm.Cond.static ({ cls := "StripedVault$Opener", name := "isGroupAround", desc := "(LStripedVault$Schema;JI)Z" } : Jvm.MethodName)) ∈ TG := tw_6 130 (by decide +kernel) (by decide +kernel)
theorem w_6_131 : (Jvm.Cond.code ({ cls := "StripedVault$Opener", name := "isGroupAround", desc := "(LStripedVault$Schema;JI)Z" } : Jvm.MethodName) prog_4_method_7_code (6 : Nat) (Option.some Jvm.ClassFile.FieldType.boolean)) ∈ TG := tw_6 131 (by decide +kernel) (by decide +kernel)
theorem w_6_132 : (Jvm.Cond.methodLink "StripedVault$Opener" (167 : Nat) ({ cls := "StripedVault$Opener", name := "isName", desc := "(II)Z" } : Jvm.MethodName)) ∈ TG := tw_6 132 (by decide +kernel) (by decide +kernel)
theorem w_6_134 : (Jvm.Cond.instanceMethod ({ cls := "StripedVault$Opener", name := "isName", desc := "(II)Z" } : Jvm.MethodName)) ∈ TG := tw_6 134 (by decide +kernel) (by decide +kernel)
theorem w_6_135 : (Jvm.Cond.code ({ cls := "StripedVault$Opener", name := "isName", desc := "(II)Z" } : Jvm.MethodName) prog_4_method_8_code (4 : Nat) (Option.some Jvm.ClassFile.FieldType.boolean)) ∈ TG := tw_6 135 (by decide +kernel) (by decide +kernel)
theorem w_6_138 : (Jvm.Cond.methodLink "StripedVault$Opener" (171 : Nat) ({ cls := "StripedVault$Schema", name := "add", desc := "(III[BII)Z" } : Jvm.MethodName)) ∈ TG := tw_6 138 (by decide +kernel) (by decide +kernel)
theorem w_6_139 : (Jvm.Cond.methodLink "StripedVault$Opener" (151 : Nat) ({ cls := "StripedVault$Schema", name := "isEmptyGroup", desc := "(I)Z" } : Jvm.MethodName)) ∈ TG := tw_6 139 (by decide +kernel) (by decide +kernel)
theorem w_6_151 : (Jvm.Cond.methodLink "StripedVault$Source" (49 : Nat) ({ cls := "StripedVault$Source", name := "readVarint", desc := "()J" } : Jvm.MethodName)) ∈ TG := tw_6 151 (by decide +kernel) (by decide +kernel)
theorem w_6_152 : (Jvm.Cond.methodLink "StripedVault$Source" (53 : Nat) ({ cls := "StripedVault$Source", name := "readLetters", desc := "(J)J" } : Jvm.MethodName)) ∈ TG := tw_6 152 (by decide +kernel) (by decide +kernel)
theorem w_6_153 : (Jvm.Cond.instanceMethod ({ cls := "StripedVault$Source", name := "readLetters", desc := "(J)J" } : Jvm.MethodName)) ∈ TG := tw_6 153 (by decide +kernel) (by decide +kernel)
theorem w_6_154 : (Jvm.Cond.selects "StripedVault$Source" ({ cls := "StripedVault$Source", name := "readLetters", desc := "(J)J" } : Jvm.MethodName) ({ cls := "StripedVault$Source", name := "readLetters", desc := "(J)J" } : Jvm.MethodName)) ∈ TG := tw_6 154 (by decide +kernel) (by decide +kernel)
theorem w_6_155 : (Jvm.Cond.code ({ cls := "StripedVault$Source", name := "readLetters", desc := "(J)J" } : Jvm.MethodName) prog_10_method_10_code (5 : Nat) (Option.some Jvm.ClassFile.FieldType.long)) ∈ TG := tw_6 155 (by decide +kernel) (by decide +kernel)
theorem w_6_156 : (Jvm.Cond.methodLink "StripedVault$Source" (39 : Nat) ({ cls := "StripedVault$Source", name := "check", desc := "(ZI)V" } : Jvm.MethodName)) ∈ TG := tw_6 156 (by decide +kernel) (by decide +kernel)
theorem w_6_157 : (Jvm.Cond.methodLink "StripedVault$Source" (35 : Nat) ({ cls := "StripedVault$Source", name := "has", desc := "(J)Z" } : Jvm.MethodName)) ∈ TG := tw_6 157 (by decide +kernel) (by decide +kernel)
theorem w_6_159 : (Jvm.Cond.methodLink "StripedVault$Source" (57 : Nat) ({ cls := "StripedVault$Source", name := "readByte", desc := "()I" } : Jvm.MethodName)) ∈ TG := tw_6 159 (by decide +kernel) (by decide +kernel)
theorem w_6_161 : (Jvm.Cond.static ({ cls := "StripedVault", name := "unzigzag", desc := "(J)J" } : Jvm.MethodName)) ∈ TG := tw_6 161 (by decide +kernel) (by decide +kernel)
theorem w_6_162 : (Jvm.Cond.code ({ cls := "StripedVault", name := "unzigzag", desc := "(J)J" } : Jvm.MethodName) prog_1_method_35_code (2 : Nat) (Option.some Jvm.ClassFile.FieldType.long)) ∈ TG := tw_6 162 (by decide +kernel) (by decide +kernel)
theorem wn_6_110 : (Jvm.Cond.methodLinkNest "StripedVault$Opener" (91 : Nat) ({ cls := "StripedVault", name := "within", desc := "(JJ)Z" } : Jvm.MethodName) "StripedVault") ∈ lw_tbl := tb_6 _ (List.mem_of_getElem? (i := 110) (by decide +kernel))
theorem wn_6_136 : (Jvm.Cond.methodLinkNest "StripedVault$Opener" (178 : Nat) ({ cls := "StripedVault", name := "isLetter", desc := "(I)Z" } : Jvm.MethodName) "StripedVault") ∈ lw_tbl := tb_6 _ (List.mem_of_getElem? (i := 136) (by decide +kernel))
theorem wn_6_137 : (Jvm.Cond.methodLinkNest "StripedVault$Opener" (181 : Nat) ({ cls := "StripedVault", name := "isOfWord", desc := "(I)Z" } : Jvm.MethodName) "StripedVault") ∈ lw_tbl := tb_6 _ (List.mem_of_getElem? (i := 137) (by decide +kernel))
theorem wn_6_158 : (Jvm.Cond.methodLinkNest "StripedVault$Source" (45 : Nat) ({ cls := "StripedVault", name := "reference", desc := "(II)J" } : Jvm.MethodName) "StripedVault") ∈ lw_tbl := tb_6 _ (List.mem_of_getElem? (i := 158) (by decide +kernel))
theorem wn_6_160 : (Jvm.Cond.methodLinkNest "StripedVault$Source" (61 : Nat) ({ cls := "StripedVault", name := "unzigzag", desc := "(J)J" } : Jvm.MethodName) "StripedVault") ∈ lw_tbl := tb_6 _ (List.mem_of_getElem? (i := 160) (by decide +kernel))
theorem ws_35 : Cond.selects R_Opn y_Opn_readField y_Opn_readField ∈ TG := tw_s 35 (by decide +kernel) (by decide +kernel)
theorem ws_36 : Cond.selects R_Opn y_Opn_isName y_Opn_isName ∈ TG := tw_s 36 (by decide +kernel) (by decide +kernel)
theorem d_Opn_isName_30 : decode b_Opn_isName 30 = .ok (.iload_n 3, 1) := by decide +kernel
theorem d_Opn_isName_31 : decode b_Opn_isName 31 = .ok (.iload_n 2, 1) := by decide +kernel
theorem d_Opn_isName_32 : decode b_Opn_isName 32 = .ok (.if_icmp .ge 28, 3) := by decide +kernel
theorem d_Opn_isName_60 : decode b_Opn_isName 60 = .ok (.iconst 1, 1) := by decide +kernel
theorem d_Opn_isName_61 : decode b_Opn_isName 61 = .ok (.ireturn, 1) := by decide +kernel
theorem d_Opn_isName_35 : decode b_Opn_isName 35 = .ok (.aload_n 0, 1) := by decide +kernel
theorem d_Opn_isName_36 : decode b_Opn_isName 36 = .ok (.getfield 25, 3) := by decide +kernel
theorem d_Opn_isName_39 : decode b_Opn_isName 39 = .ok (.getfield 31, 3) := by decide +kernel
theorem d_Opn_isName_42 : decode b_Opn_isName 42 = .ok (.iload_n 1, 1) := by decide +kernel
theorem d_Opn_isName_43 : decode b_Opn_isName 43 = .ok (.iload_n 3, 1) := by decide +kernel
theorem d_Opn_isName_44 : decode b_Opn_isName 44 = .ok (.iadd, 1) := by decide +kernel
theorem d_Opn_isName_45 : decode b_Opn_isName 45 = .ok (.baload, 1) := by decide +kernel
theorem d_Opn_isName_46 : decode b_Opn_isName 46 = .ok (.invokestatic 181, 3) := by decide +kernel
theorem d_Opn_isName_49 : decode b_Opn_isName 49 = .ok (.ifCond .ne 5, 3) := by decide +kernel
theorem d_Opn_isName_54 : decode b_Opn_isName 54 = .ok (.iinc 3 1, 3) := by decide +kernel
theorem d_Opn_isName_57 : decode b_Opn_isName 57 = .ok (.goto (-27), 3) := by decide +kernel
theorem d_Opn_isName_52 : decode b_Opn_isName 52 = .ok (.iconst 0, 1) := by decide +kernel
theorem d_Opn_isName_53 : decode b_Opn_isName 53 = .ok (.ireturn, 1) := by decide +kernel
theorem d_Opn_isName_26 : decode b_Opn_isName 26 = .ok (.iconst 0, 1) := by decide +kernel
theorem d_Opn_isName_27 : decode b_Opn_isName 27 = .ok (.ireturn, 1) := by decide +kernel
theorem d_Opn_isName_0 : decode b_Opn_isName 0 = .ok (.iload_n 2, 1) := by decide +kernel
theorem d_Opn_isName_1 : decode b_Opn_isName 1 = .ok (.iconst 1, 1) := by decide +kernel
theorem d_Opn_isName_2 : decode b_Opn_isName 2 = .ok (.if_icmp .lt 24, 3) := by decide +kernel
theorem d_Opn_isName_5 : decode b_Opn_isName 5 = .ok (.iload_n 2, 1) := by decide +kernel
theorem d_Opn_isName_6 : decode b_Opn_isName 6 = .ok (.bipush 16, 2) := by decide +kernel
theorem d_Opn_isName_8 : decode b_Opn_isName 8 = .ok (.if_icmp .gt 18, 3) := by decide +kernel
theorem d_Opn_isName_11 : decode b_Opn_isName 11 = .ok (.aload_n 0, 1) := by decide +kernel
theorem d_Opn_isName_12 : decode b_Opn_isName 12 = .ok (.getfield 25, 3) := by decide +kernel
theorem d_Opn_isName_15 : decode b_Opn_isName 15 = .ok (.getfield 31, 3) := by decide +kernel
theorem d_Opn_isName_18 : decode b_Opn_isName 18 = .ok (.iload_n 1, 1) := by decide +kernel
theorem d_Opn_isName_19 : decode b_Opn_isName 19 = .ok (.baload, 1) := by decide +kernel
theorem d_Opn_isName_20 : decode b_Opn_isName 20 = .ok (.invokestatic 178, 3) := by decide +kernel
theorem d_Opn_isName_23 : decode b_Opn_isName 23 = .ok (.ifCond .ne 5, 3) := by decide +kernel
theorem d_Opn_isName_28 : decode b_Opn_isName 28 = .ok (.iconst 1, 1) := by decide +kernel
theorem d_Opn_isName_29 : decode b_Opn_isName 29 = .ok (.istore_n 3, 1) := by decide +kernel
theorem d_Opn_readField_142 : decode b_Opn_readField 142 = .ok (.bipush 15, 2) := by decide +kernel
theorem d_Opn_readField_144 : decode b_Opn_readField 144 = .ok (.invokevirtual 95, 3) := by decide +kernel
theorem d_Opn_readField_147 : decode b_Opn_readField 147 = .ok (.return_, 1) := by decide +kernel
theorem d_Opn_readField_141 : decode b_Opn_readField 141 = .ok (.iconst 0, 1) := by decide +kernel
theorem d_Opn_readField_96 : decode b_Opn_readField 96 = .ok (.istore 9, 2) := by decide +kernel
theorem d_Opn_readField_98 : decode b_Opn_readField 98 = .ok (.aload_n 0, 1) := by decide +kernel
theorem d_Opn_readField_99 : decode b_Opn_readField 99 = .ok (.getfield 40, 3) := by decide +kernel
theorem d_Opn_readField_102 : decode b_Opn_readField 102 = .ok (.iload 9, 2) := by decide +kernel
theorem d_Opn_readField_104 : decode b_Opn_readField 104 = .ok (.ifCond .eq 37, 3) := by decide +kernel
theorem d_Opn_readField_107 : decode b_Opn_readField 107 = .ok (.aload_n 1, 1) := by decide +kernel
theorem d_Opn_readField_108 : decode b_Opn_readField 108 = .ok (.iload_n 3, 1) := by decide +kernel
theorem d_Opn_readField_109 : decode b_Opn_readField 109 = .ok (.iconst 3, 1) := by decide +kernel
theorem d_Opn_readField_110 : decode b_Opn_readField 110 = .ok (.irem, 1) := by decide +kernel
theorem d_Opn_readField_111 : decode b_Opn_readField 111 = .ok (.iload_n 3, 1) := by decide +kernel
theorem d_Opn_readField_112 : decode b_Opn_readField 112 = .ok (.iconst 3, 1) := by decide +kernel
theorem d_Opn_readField_113 : decode b_Opn_readField 113 = .ok (.idiv, 1) := by decide +kernel
theorem d_Opn_readField_114 : decode b_Opn_readField 114 = .ok (.lload 4, 2) := by decide +kernel
theorem d_Opn_readField_116 : decode b_Opn_readField 116 = .ok (.l2i, 1) := by decide +kernel
theorem d_Opn_readField_117 : decode b_Opn_readField 117 = .ok (.iconst 1, 1) := by decide +kernel
theorem d_Opn_readField_118 : decode b_Opn_readField 118 = .ok (.isub, 1) := by decide +kernel
theorem d_Opn_readField_119 : decode b_Opn_readField 119 = .ok (.aload_n 0, 1) := by decide +kernel
theorem d_Opn_readField_120 : decode b_Opn_readField 120 = .ok (.getfield 25, 3) := by decide +kernel
theorem d_Opn_readField_123 : decode b_Opn_readField 123 = .ok (.getfield 31, 3) := by decide +kernel
theorem d_Opn_readField_126 : decode b_Opn_readField 126 = .ok (.iload 8, 2) := by decide +kernel
theorem d_Opn_readField_128 : decode b_Opn_readField 128 = .ok (.lload 6, 2) := by decide +kernel
theorem d_Opn_readField_130 : decode b_Opn_readField 130 = .ok (.l2i, 1) := by decide +kernel
theorem d_Opn_readField_131 : decode b_Opn_readField 131 = .ok (.invokevirtual 171, 3) := by decide +kernel
theorem d_Opn_readField_134 : decode b_Opn_readField 134 = .ok (.ifCond .eq 7, 3) := by decide +kernel
theorem d_Opn_readField_137 : decode b_Opn_readField 137 = .ok (.iconst 1, 1) := by decide +kernel
theorem d_Opn_readField_138 : decode b_Opn_readField 138 = .ok (.goto 4, 3) := by decide +kernel
theorem d_Opn_readField_95 : decode b_Opn_readField 95 = .ok (.iconst 0, 1) := by decide +kernel
theorem d_Opn_readField_0 : decode b_Opn_readField 0 = .ok (.aload_n 0, 1) := by decide +kernel
theorem d_Opn_readField_1 : decode b_Opn_readField 1 = .ok (.getfield 40, 3) := by decide +kernel
theorem d_Opn_readField_4 : decode b_Opn_readField 4 = .ok (.invokevirtual 155, 3) := by decide +kernel
theorem d_Opn_readField_7 : decode b_Opn_readField 7 = .ok (.istore_n 3, 1) := by decide +kernel
theorem d_Opn_readField_8 : decode b_Opn_readField 8 = .ok (.aload_n 0, 1) := by decide +kernel
theorem d_Opn_readField_9 : decode b_Opn_readField 9 = .ok (.getfield 40, 3) := by decide +kernel
theorem d_Opn_readField_12 : decode b_Opn_readField 12 = .ok (.invokevirtual 85, 3) := by decide +kernel
theorem d_Opn_readField_15 : decode b_Opn_readField 15 = .ok (.lstore 4, 2) := by decide +kernel
theorem d_Opn_readField_17 : decode b_Opn_readField 17 = .ok (.aload_n 0, 1) := by decide +kernel
theorem d_Opn_readField_18 : decode b_Opn_readField 18 = .ok (.getfield 40, 3) := by decide +kernel
theorem d_Opn_readField_21 : decode b_Opn_readField 21 = .ok (.invokevirtual 85, 3) := by decide +kernel
theorem d_Opn_readField_24 : decode b_Opn_readField 24 = .ok (.lstore 6, 2) := by decide +kernel
theorem d_Opn_readField_26 : decode b_Opn_readField 26 = .ok (.aload_n 0, 1) := by decide +kernel
theorem d_Opn_readField_27 : decode b_Opn_readField 27 = .ok (.getfield 40, 3) := by decide +kernel
theorem d_Opn_readField_30 : decode b_Opn_readField 30 = .ok (.lload 6, 2) := by decide +kernel
theorem d_Opn_readField_32 : decode b_Opn_readField 32 = .ok (.invokevirtual 159, 3) := by decide +kernel
theorem d_Opn_readField_35 : decode b_Opn_readField 35 = .ok (.ifCond .ne 4, 3) := by decide +kernel
theorem d_Opn_readField_39 : decode b_Opn_readField 39 = .ok (.aload_n 0, 1) := by decide +kernel
theorem d_Opn_readField_40 : decode b_Opn_readField 40 = .ok (.getfield 40, 3) := by decide +kernel
theorem d_Opn_readField_43 : decode b_Opn_readField 43 = .ok (.getfield 101, 3) := by decide +kernel
theorem d_Opn_readField_46 : decode b_Opn_readField 46 = .ok (.istore 8, 2) := by decide +kernel
theorem d_Opn_readField_48 : decode b_Opn_readField 48 = .ok (.aload_n 0, 1) := by decide +kernel
theorem d_Opn_readField_49 : decode b_Opn_readField 49 = .ok (.getfield 40, 3) := by decide +kernel
theorem d_Opn_readField_52 : decode b_Opn_readField 52 = .ok (.dup, 1) := by decide +kernel
theorem d_Opn_readField_53 : decode b_Opn_readField 53 = .ok (.getfield 101, 3) := by decide +kernel
theorem d_Opn_readField_56 : decode b_Opn_readField 56 = .ok (.lload 6, 2) := by decide +kernel
theorem d_Opn_readField_58 : decode b_Opn_readField 58 = .ok (.l2i, 1) := by decide +kernel
theorem d_Opn_readField_59 : decode b_Opn_readField 59 = .ok (.iadd, 1) := by decide +kernel
theorem d_Opn_readField_60 : decode b_Opn_readField 60 = .ok (.putfield 101, 3) := by decide +kernel
theorem d_Opn_readField_63 : decode b_Opn_readField 63 = .ok (.iload_n 3, 1) := by decide +kernel
theorem d_Opn_readField_64 : decode b_Opn_readField 64 = .ok (.bipush 14, 2) := by decide +kernel
theorem d_Opn_readField_66 : decode b_Opn_readField 66 = .ok (.if_icmp .gt 29, 3) := by decide +kernel
theorem d_Opn_readField_69 : decode b_Opn_readField 69 = .ok (.aload_n 1, 1) := by decide +kernel
theorem d_Opn_readField_70 : decode b_Opn_readField 70 = .ok (.lload 4, 2) := by decide +kernel
theorem d_Opn_readField_72 : decode b_Opn_readField 72 = .ok (.iload_n 2, 1) := by decide +kernel
theorem d_Opn_readField_73 : decode b_Opn_readField 73 = .ok (.invokestatic 163, 3) := by decide +kernel
theorem d_Opn_readField_76 : decode b_Opn_readField 76 = .ok (.ifCond .eq 19, 3) := by decide +kernel
theorem d_Opn_readField_79 : decode b_Opn_readField 79 = .ok (.aload_n 0, 1) := by decide +kernel
theorem d_Opn_readField_80 : decode b_Opn_readField 80 = .ok (.iload 8, 2) := by decide +kernel
theorem d_Opn_readField_82 : decode b_Opn_readField 82 = .ok (.lload 6, 2) := by decide +kernel
theorem d_Opn_readField_84 : decode b_Opn_readField 84 = .ok (.l2i, 1) := by decide +kernel
theorem d_Opn_readField_85 : decode b_Opn_readField 85 = .ok (.invokevirtual 167, 3) := by decide +kernel
theorem d_Opn_readField_88 : decode b_Opn_readField 88 = .ok (.ifCond .eq 7, 3) := by decide +kernel
theorem d_Opn_readField_91 : decode b_Opn_readField 91 = .ok (.iconst 1, 1) := by decide +kernel
theorem d_Opn_readField_92 : decode b_Opn_readField 92 = .ok (.goto 4, 3) := by decide +kernel
theorem d_Opn_readField_38 : decode b_Opn_readField 38 = .ok (.return_, 1) := by decide +kernel
theorem d_Opn_readSchema_106 : decode b_Opn_readSchema 106 = .ok (.bipush 15, 2) := by decide +kernel
theorem d_Opn_readSchema_108 : decode b_Opn_readSchema 108 = .ok (.invokevirtual 95, 3) := by decide +kernel
theorem d_Opn_readSchema_111 : decode b_Opn_readSchema 111 = .ok (.iinc 4 1, 3) := by decide +kernel
theorem d_Opn_readSchema_114 : decode b_Opn_readSchema 114 = .ok (.goto (-35), 3) := by decide +kernel
theorem d_Opn_readSchema_79 : decode b_Opn_readSchema 79 = .ok (.iload 4, 2) := by decide +kernel
theorem d_Opn_readSchema_81 : decode b_Opn_readSchema 81 = .ok (.aload_n 1, 1) := by decide +kernel
theorem d_Opn_readSchema_82 : decode b_Opn_readSchema 82 = .ok (.getfield 148, 3) := by decide +kernel
theorem d_Opn_readSchema_85 : decode b_Opn_readSchema 85 = .ok (.if_icmp .ge 32, 3) := by decide +kernel
theorem d_Opn_readSchema_117 : decode b_Opn_readSchema 117 = .ok (.return_, 1) := by decide +kernel
theorem d_Opn_readSchema_88 : decode b_Opn_readSchema 88 = .ok (.aload_n 0, 1) := by decide +kernel
theorem d_Opn_readSchema_89 : decode b_Opn_readSchema 89 = .ok (.getfield 40, 3) := by decide +kernel
theorem d_Opn_readSchema_92 : decode b_Opn_readSchema 92 = .ok (.aload_n 1, 1) := by decide +kernel
theorem d_Opn_readSchema_93 : decode b_Opn_readSchema 93 = .ok (.iload 4, 2) := by decide +kernel
theorem d_Opn_readSchema_95 : decode b_Opn_readSchema 95 = .ok (.invokevirtual 151, 3) := by decide +kernel
theorem d_Opn_readSchema_98 : decode b_Opn_readSchema 98 = .ok (.ifCond .ne 7, 3) := by decide +kernel
theorem d_Opn_readSchema_105 : decode b_Opn_readSchema 105 = .ok (.iconst 0, 1) := by decide +kernel
theorem d_Opn_readSchema_101 : decode b_Opn_readSchema 101 = .ok (.iconst 1, 1) := by decide +kernel
theorem d_Opn_readSchema_102 : decode b_Opn_readSchema 102 = .ok (.goto 4, 3) := by decide +kernel
theorem d_Opn_readSchema_76 : decode b_Opn_readSchema 76 = .ok (.iconst 0, 1) := by decide +kernel
theorem d_Opn_readSchema_77 : decode b_Opn_readSchema 77 = .ok (.istore 4, 2) := by decide +kernel
theorem d_Opn_readSchema_45 : decode b_Opn_readSchema 45 = .ok (.iload 4, 2) := by decide +kernel
theorem d_Opn_readSchema_47 : decode b_Opn_readSchema 47 = .ok (.i2l, 1) := by decide +kernel
theorem d_Opn_readSchema_48 : decode b_Opn_readSchema 48 = .ok (.lload_n 2, 1) := by decide +kernel
theorem d_Opn_readSchema_49 : decode b_Opn_readSchema 49 = .ok (.lcmp, 1) := by decide +kernel
theorem d_Opn_readSchema_50 : decode b_Opn_readSchema 50 = .ok (.ifCond .ge 26, 3) := by decide +kernel
theorem d_Opn_readSchema_53 : decode b_Opn_readSchema 53 = .ok (.aload_n 0, 1) := by decide +kernel
theorem d_Opn_readSchema_54 : decode b_Opn_readSchema 54 = .ok (.getfield 40, 3) := by decide +kernel
theorem d_Opn_readSchema_57 : decode b_Opn_readSchema 57 = .ok (.getfield 107, 3) := by decide +kernel
theorem d_Opn_readSchema_60 : decode b_Opn_readSchema 60 = .ok (.ifCond .ne 16, 3) := by decide +kernel
theorem d_Opn_readSchema_63 : decode b_Opn_readSchema 63 = .ok (.aload_n 0, 1) := by decide +kernel
theorem d_Opn_readSchema_64 : decode b_Opn_readSchema 64 = .ok (.aload_n 1, 1) := by decide +kernel
theorem d_Opn_readSchema_65 : decode b_Opn_readSchema 65 = .ok (.iload 4, 2) := by decide +kernel
theorem d_Opn_readSchema_67 : decode b_Opn_readSchema 67 = .ok (.invokevirtual 144, 3) := by decide +kernel
theorem d_Opn_readSchema_70 : decode b_Opn_readSchema 70 = .ok (.iinc 4 1, 3) := by decide +kernel
theorem d_Opn_readSchema_73 : decode b_Opn_readSchema 73 = .ok (.goto (-28), 3) := by decide +kernel
theorem d_Opn_readSchema_37 : decode b_Opn_readSchema 37 = .ok (.bipush 15, 2) := by decide +kernel
theorem d_Opn_readSchema_39 : decode b_Opn_readSchema 39 = .ok (.invokevirtual 95, 3) := by decide +kernel
theorem d_Opn_readSchema_42 : decode b_Opn_readSchema 42 = .ok (.iconst 0, 1) := by decide +kernel
theorem d_Opn_readSchema_43 : decode b_Opn_readSchema 43 = .ok (.istore 4, 2) := by decide +kernel
theorem d_Opn_readSchema_36 : decode b_Opn_readSchema 36 = .ok (.iconst 0, 1) := by decide +kernel
theorem d_Opn_readSchema_0 : decode b_Opn_readSchema 0 = .ok (.aload_n 1, 1) := by decide +kernel
theorem d_Opn_readSchema_1 : decode b_Opn_readSchema 1 = .ok (.invokevirtual 139, 3) := by decide +kernel
theorem d_Opn_readSchema_4 : decode b_Opn_readSchema 4 = .ok (.aload_n 0, 1) := by decide +kernel
theorem d_Opn_readSchema_5 : decode b_Opn_readSchema 5 = .ok (.getfield 40, 3) := by decide +kernel
theorem d_Opn_readSchema_8 : decode b_Opn_readSchema 8 = .ok (.invokevirtual 85, 3) := by decide +kernel
theorem d_Opn_readSchema_11 : decode b_Opn_readSchema 11 = .ok (.lstore_n 2, 1) := by decide +kernel
theorem d_Opn_readSchema_12 : decode b_Opn_readSchema 12 = .ok (.aload_n 0, 1) := by decide +kernel
theorem d_Opn_readSchema_13 : decode b_Opn_readSchema 13 = .ok (.getfield 40, 3) := by decide +kernel
theorem d_Opn_readSchema_16 : decode b_Opn_readSchema 16 = .ok (.lload_n 2, 1) := by decide +kernel
theorem d_Opn_readSchema_17 : decode b_Opn_readSchema 17 = .ok (.lconst 0, 1) := by decide +kernel
theorem d_Opn_readSchema_18 : decode b_Opn_readSchema 18 = .ok (.lcmp, 1) := by decide +kernel
theorem d_Opn_readSchema_19 : decode b_Opn_readSchema 19 = .ok (.ifCond .eq 17, 3) := by decide +kernel
theorem d_Opn_readSchema_22 : decode b_Opn_readSchema 22 = .ok (.lload_n 2, 1) := by decide +kernel
theorem d_Opn_readSchema_23 : decode b_Opn_readSchema 23 = .ok (.ldc2_w 142, 3) := by decide +kernel
theorem d_Opn_readSchema_26 : decode b_Opn_readSchema 26 = .ok (.invokestatic 91, 3) := by decide +kernel
theorem d_Opn_readSchema_29 : decode b_Opn_readSchema 29 = .ok (.ifCond .eq 7, 3) := by decide +kernel
theorem d_Opn_readSchema_32 : decode b_Opn_readSchema 32 = .ok (.iconst 1, 1) := by decide +kernel
theorem d_Opn_readSchema_33 : decode b_Opn_readSchema 33 = .ok (.goto 4, 3) := by decide +kernel
theorem d_Src_readLetters_20 : decode b_Src_readLetters 20 = .ok (.bipush 7, 2) := by decide +kernel
theorem d_Src_readLetters_22 : decode b_Src_readLetters 22 = .ok (.invokevirtual 39, 3) := by decide +kernel
theorem d_Src_readLetters_25 : decode b_Src_readLetters 25 = .ok (.aload_n 0, 1) := by decide +kernel
theorem d_Src_readLetters_26 : decode b_Src_readLetters 26 = .ok (.lload_n 1, 1) := by decide +kernel
theorem d_Src_readLetters_27 : decode b_Src_readLetters 27 = .ok (.invokevirtual 35, 3) := by decide +kernel
theorem d_Src_readLetters_30 : decode b_Src_readLetters 30 = .ok (.ifCond .ne 5, 3) := by decide +kernel
theorem d_Src_readLetters_35 : decode b_Src_readLetters 35 = .ok (.aload_n 0, 1) := by decide +kernel
theorem d_Src_readLetters_36 : decode b_Src_readLetters 36 = .ok (.getfield 19, 3) := by decide +kernel
theorem d_Src_readLetters_39 : decode b_Src_readLetters 39 = .ok (.lload_n 1, 1) := by decide +kernel
theorem d_Src_readLetters_40 : decode b_Src_readLetters 40 = .ok (.l2i, 1) := by decide +kernel
theorem d_Src_readLetters_41 : decode b_Src_readLetters 41 = .ok (.invokestatic 45, 3) := by decide +kernel
theorem d_Src_readLetters_44 : decode b_Src_readLetters 44 = .ok (.lstore_n 3, 1) := by decide +kernel
theorem d_Src_readLetters_45 : decode b_Src_readLetters 45 = .ok (.aload_n 0, 1) := by decide +kernel
theorem d_Src_readLetters_46 : decode b_Src_readLetters 46 = .ok (.dup, 1) := by decide +kernel
theorem d_Src_readLetters_47 : decode b_Src_readLetters 47 = .ok (.getfield 19, 3) := by decide +kernel
theorem d_Src_readLetters_50 : decode b_Src_readLetters 50 = .ok (.lload_n 1, 1) := by decide +kernel
theorem d_Src_readLetters_51 : decode b_Src_readLetters 51 = .ok (.l2i, 1) := by decide +kernel
theorem d_Src_readLetters_52 : decode b_Src_readLetters 52 = .ok (.iadd, 1) := by decide +kernel
theorem d_Src_readLetters_53 : decode b_Src_readLetters 53 = .ok (.putfield 19, 3) := by decide +kernel
theorem d_Src_readLetters_56 : decode b_Src_readLetters 56 = .ok (.lload_n 3, 1) := by decide +kernel
theorem d_Src_readLetters_57 : decode b_Src_readLetters 57 = .ok (.lreturn, 1) := by decide +kernel
theorem d_Src_readLetters_33 : decode b_Src_readLetters 33 = .ok (.lconst 0, 1) := by decide +kernel
theorem d_Src_readLetters_34 : decode b_Src_readLetters 34 = .ok (.lreturn, 1) := by decide +kernel
theorem d_Src_readLetters_19 : decode b_Src_readLetters 19 = .ok (.iconst 0, 1) := by decide +kernel
theorem d_Src_readLetters_0 : decode b_Src_readLetters 0 = .ok (.aload_n 0, 1) := by decide +kernel
theorem d_Src_readLetters_1 : decode b_Src_readLetters 1 = .ok (.lload_n 1, 1) := by decide +kernel
theorem d_Src_readLetters_2 : decode b_Src_readLetters 2 = .ok (.lconst 0, 1) := by decide +kernel
theorem d_Src_readLetters_3 : decode b_Src_readLetters 3 = .ok (.lcmp, 1) := by decide +kernel
theorem d_Src_readLetters_4 : decode b_Src_readLetters 4 = .ok (.ifCond .lt 15, 3) := by decide +kernel
theorem d_Src_readLetters_7 : decode b_Src_readLetters 7 = .ok (.lload_n 1, 1) := by decide +kernel
theorem d_Src_readLetters_8 : decode b_Src_readLetters 8 = .ok (.ldc2_w 43, 3) := by decide +kernel
theorem d_Src_readLetters_11 : decode b_Src_readLetters 11 = .ok (.lcmp, 1) := by decide +kernel
theorem d_Src_readLetters_12 : decode b_Src_readLetters 12 = .ok (.ifCond .gt 7, 3) := by decide +kernel
theorem d_Src_readLetters_15 : decode b_Src_readLetters 15 = .ok (.iconst 1, 1) := by decide +kernel
theorem d_Src_readLetters_16 : decode b_Src_readLetters 16 = .ok (.goto 4, 3) := by decide +kernel
theorem d_V_unzigzag_0 : decode b_V_unzigzag 0 = .ok (.lload_n 0, 1) := by decide +kernel
theorem d_V_unzigzag_1 : decode b_V_unzigzag 1 = .ok (.iconst 1, 1) := by decide +kernel
theorem d_V_unzigzag_2 : decode b_V_unzigzag 2 = .ok (.lushr, 1) := by decide +kernel
theorem d_V_unzigzag_3 : decode b_V_unzigzag 3 = .ok (.lload_n 0, 1) := by decide +kernel
theorem d_V_unzigzag_4 : decode b_V_unzigzag 4 = .ok (.lconst 1, 1) := by decide +kernel
theorem d_V_unzigzag_5 : decode b_V_unzigzag 5 = .ok (.land, 1) := by decide +kernel
theorem d_V_unzigzag_6 : decode b_V_unzigzag 6 = .ok (.lneg, 1) := by decide +kernel
theorem d_V_unzigzag_7 : decode b_V_unzigzag 7 = .ok (.lxor, 1) := by decide +kernel
theorem d_V_unzigzag_8 : decode b_V_unzigzag 8 = .ok (.lreturn, 1) := by decide +kernel
theorem d_Src_readTold_69 : decode b_Src_readTold 69 = .ok (.bipush 7, 2) := by decide +kernel
theorem d_Src_readTold_71 : decode b_Src_readTold 71 = .ok (.invokevirtual 39, 3) := by decide +kernel
theorem d_Src_readTold_74 : decode b_Src_readTold 74 = .ok (.lload_n 2, 1) := by decide +kernel
theorem d_Src_readTold_75 : decode b_Src_readTold 75 = .ok (.lreturn, 1) := by decide +kernel
theorem d_Src_readTold_64 : decode b_Src_readTold 64 = .ok (.iconst 1, 1) := by decide +kernel
theorem d_Src_readTold_65 : decode b_Src_readTold 65 = .ok (.goto 4, 3) := by decide +kernel
theorem d_Src_readTold_34 : decode b_Src_readTold 34 = .ok (.bipush 7, 2) := by decide +kernel
theorem d_Src_readTold_36 : decode b_Src_readTold 36 = .ok (.invokevirtual 39, 3) := by decide +kernel
theorem d_Src_readTold_39 : decode b_Src_readTold 39 = .ok (.iload_n 2, 1) := by decide +kernel
theorem d_Src_readTold_40 : decode b_Src_readTold 40 = .ok (.i2l, 1) := by decide +kernel
theorem d_Src_readTold_41 : decode b_Src_readTold 41 = .ok (.lreturn, 1) := by decide +kernel
theorem d_Src_readTold_0 : decode b_Src_readTold 0 = .ok (.iload_n 1, 1) := by decide +kernel
theorem d_Src_readTold_1 : decode b_Src_readTold 1 = .ok (.iconst 3, 1) := by decide +kernel
theorem d_Src_readTold_2 : decode b_Src_readTold 2 = .ok (.if_icmp .ne 12, 3) := by decide +kernel
theorem d_Src_readTold_14 : decode b_Src_readTold 14 = .ok (.iload_n 1, 1) := by decide +kernel
theorem d_Src_readTold_15 : decode b_Src_readTold 15 = .ok (.ifCond .ne 27, 3) := by decide +kernel
theorem d_Src_readTold_42 : decode b_Src_readTold 42 = .ok (.aload_n 0, 1) := by decide +kernel
theorem d_Src_readTold_43 : decode b_Src_readTold 43 = .ok (.invokevirtual 49, 3) := by decide +kernel
theorem d_Src_readTold_46 : decode b_Src_readTold 46 = .ok (.invokestatic 61, 3) := by decide +kernel
theorem d_Src_readTold_49 : decode b_Src_readTold 49 = .ok (.lstore_n 2, 1) := by decide +kernel
theorem d_Src_readTold_50 : decode b_Src_readTold 50 = .ok (.aload_n 0, 1) := by decide +kernel
theorem d_Src_readTold_51 : decode b_Src_readTold 51 = .ok (.iload_n 1, 1) := by decide +kernel
theorem d_Src_readTold_52 : decode b_Src_readTold 52 = .ok (.iconst 2, 1) := by decide +kernel
theorem d_Src_readTold_53 : decode b_Src_readTold 53 = .ok (.if_icmp .eq 11, 3) := by decide +kernel
theorem d_Src_readTold_56 : decode b_Src_readTold 56 = .ok (.lload_n 2, 1) := by decide +kernel
theorem d_Src_readTold_57 : decode b_Src_readTold 57 = .ok (.lload_n 2, 1) := by decide +kernel
theorem d_Src_readTold_58 : decode b_Src_readTold 58 = .ok (.l2i, 1) := by decide +kernel
theorem d_Src_readTold_59 : decode b_Src_readTold 59 = .ok (.i2l, 1) := by decide +kernel
theorem d_Src_readTold_60 : decode b_Src_readTold 60 = .ok (.lcmp, 1) := by decide +kernel
theorem d_Src_readTold_61 : decode b_Src_readTold 61 = .ok (.ifCond .ne 7, 3) := by decide +kernel
theorem d_Src_readTold_68 : decode b_Src_readTold 68 = .ok (.iconst 0, 1) := by decide +kernel
theorem d_Src_readTold_18 : decode b_Src_readTold 18 = .ok (.aload_n 0, 1) := by decide +kernel
theorem d_Src_readTold_19 : decode b_Src_readTold 19 = .ok (.invokevirtual 57, 3) := by decide +kernel
theorem d_Src_readTold_22 : decode b_Src_readTold 22 = .ok (.istore_n 2, 1) := by decide +kernel
theorem d_Src_readTold_23 : decode b_Src_readTold 23 = .ok (.aload_n 0, 1) := by decide +kernel
theorem d_Src_readTold_24 : decode b_Src_readTold 24 = .ok (.iload_n 2, 1) := by decide +kernel
theorem d_Src_readTold_25 : decode b_Src_readTold 25 = .ok (.iconst 1, 1) := by decide +kernel
theorem d_Src_readTold_26 : decode b_Src_readTold 26 = .ok (.if_icmp .gt 7, 3) := by decide +kernel
theorem d_Src_readTold_33 : decode b_Src_readTold 33 = .ok (.iconst 0, 1) := by decide +kernel
theorem d_Src_readTold_29 : decode b_Src_readTold 29 = .ok (.iconst 1, 1) := by decide +kernel
theorem d_Src_readTold_30 : decode b_Src_readTold 30 = .ok (.goto 4, 3) := by decide +kernel
theorem d_Src_readTold_5 : decode b_Src_readTold 5 = .ok (.aload_n 0, 1) := by decide +kernel
theorem d_Src_readTold_6 : decode b_Src_readTold 6 = .ok (.aload_n 0, 1) := by decide +kernel
theorem d_Src_readTold_7 : decode b_Src_readTold 7 = .ok (.invokevirtual 49, 3) := by decide +kernel
theorem d_Src_readTold_10 : decode b_Src_readTold 10 = .ok (.invokevirtual 53, 3) := by decide +kernel
theorem d_Src_readTold_13 : decode b_Src_readTold 13 = .ok (.lreturn, 1) := by decide +kernel
section
variable (l : Launch) (dC : Nat → ClassId) (dI : Nat → Nat → Nat) (cI cB cJ cZ : ClassId)
set_option maxRecDepth 100000 in
set_option maxHeartbeats 4000000 in
set_option maxRecDepth 100000 in
theorem t_Opn_isName_30 {p : Program} {l : Launch} {e : Env} {R : Room} {s : State} {m : MethodId} {args : Array Value} {below : List Frame} {meth : Method} {c : Code} {cells slots : Nat} {Q : State → Prop} {dC : Nat → ClassId} {dI : Nat → Nat → Nat} {cI cB cJ cZ : ClassId} {A : Nat → Prop} {ad : Nat → Nat} {NN : Nat} {E : Heap} {tM tC : Nat} {kK kV : Nat → Nat} {post : Int32 → St → Prop} {rec30 : Nat → Int32 → Int32 → Int32 → St → Prop} (hx : p.tables.exec = Jvm.exec) (hb : c.code = b_Opn_isName) (hml : c.maxLocals = 4) (hown : s.vm.findClass R_Opn = some m.cls) (hT : ∀ w ∈ TG, w.before args s = true) (hK : va_K (dC, dI) CL (TY cI cB cJ cZ) s) (hN : NW s) (hA : ∀ q : Nat, s.heap.size ≤ q → A q) (hRc : cells ≤ R.cells) (hRs : slots ≤ R.slots) (hRf : 1 ≤ R.frames) (hRl : 20 ≤ R.locals) (hNN : 152 ≤ NN) (hE : CE E tM tC kK kV A s) (hret : ∀ (r : Int32) (x : St) (H : Heap) (locs : List Loc) (pc : Nat) (ls : Array Slot), decode b_Opn_isName pc = .ok (.ireturn, 1) → narrow .boolean (.int r) = .int r → post r x → Wd dC dI cI cB cJ cZ ad stC kcC NN A x H → va_S A s.heap H locs → W p l e R s m args below meth c H locs cells slots Q (F0 m pc ls [.int r])) (hrec30 : ∀ (o : Nat) (l1 : Int32) (l2 : Int32) (l3 : Int32) (x : St) (H : Heap) (locs : List Loc) (ls : Array Slot), (o < NN ∧ kcC o = 7) → rec30 o l1 l2 l3 x → Wd dC dI cI cB cJ cZ ad stC kcC NN A x H → va_S A s.heap H locs → lv_has ls 4 [(0, .ref (ad o)), (1, .int l1), (2, .int l2), (3, .int l3)] → W p l e R s m args below meth c H locs cells slots Q (F0 m 30 ls [])) : ∀ (o : Nat) (l1 : Int32) (l2 : Int32) (l3 : Int32) (x : St) (H : Heap) (locs : List Loc) (ls : Array Slot), (o < NN ∧ kcC o = 7) → j_Opn_isName_30 post rec30 o l1 l2 l3 x → Wd dC dI cI cB cJ cZ ad stC kcC NN A x H → va_S A s.heap H locs → lv_has ls 4 [(0, .ref (ad o)), (1, .int l1), (2, .int l2), (3, .int l3)] → W p l e R s m args below meth c H locs cells slots Q (F0 m 30 ls []) := by
  intro o l1 l2 l3 x H locs ls fo hw hW hS hl
  unfold j_Opn_isName_30 at hw
  refine lv_iload_n hx hb d_Opn_isName_30 rfl (lv_at hl 3 rfl) ?_
  refine lv_iload_n hx hb d_Opn_isName_31 rfl (lv_at hl 2 rfl) ?_
  refine lv_icmp_ge (tgt := 60) hx hb d_Opn_isName_32 (by decide) (fun c1 => ?_) (fun c1 => ?_)
  · have hw := hw.1 c1
    refine lv_iconst (v := 1) hx hb d_Opn_isName_60 (by decide) ?_
    exact hret 1 x H locs 61 ls d_Opn_isName_61 rfl hw hW hS
  · have hw := hw.2 c1
    refine lv_aload_n hx hb d_Opn_isName_35 rfl (lv_at hl 0 rfl) ?_
    refine w_getf (q := (stC o 0)) (k := 0) (t := 7) (C := R_Opn) (T := F_Opn) (N := 17) hx hb hT hown hK hW fo.1 fo.2 (by decide) in_Opn rfl rfl (by decide) rfl fr_Opn_0 w_3_15 d_Opn_isName_36 rfl ?_
    refine w_getf (q := (stC (stC o 0) 6)) (k := 6) (t := 6) (C := R_Vlt) (T := F_Vlt) (N := 20) hx hb hT hown hK hW (st_ty hNN fo.1 fo.2 rfl).1 (st_ty hNN fo.1 fo.2 rfl).2 (by decide) in_Vlt rfl rfl (by decide) rfl fr_Vlt_6 w_2_140 d_Opn_isName_39 rfl ?_
    refine lv_iload_n hx hb d_Opn_isName_42 rfl (lv_at hl 1 rfl) ?_
    refine lv_iload_n hx hb d_Opn_isName_43 rfl (lv_at hl 3 rfl) ?_
    refine lv_iadd hx hb d_Opn_isName_44 ?_
    obtain ⟨hi, hw⟩ := hw
    refine w_bald (o := (stC (stC o 0) 6)) hx hb hK hW (st_ty hNN (st_ty hNN fo.1 fo.2 rfl).1 (st_ty hNN fo.1 fo.2 rfl).2 rfl).1 (st_ty hNN (st_ty hNN fo.1 fo.2 rfl).1 (st_ty hNN fo.1 fo.2 rfl).2 rfl).2 hi d_Opn_isName_45 ?_
    have hF := hW.free hS hA
    refine va_calli (va_runSN (As := [.int (rA x (stC (stC o 0) 6) (l1 + l3))]) (rest := []) ⟨hx, hb, hml, hown, hT⟩ (k_V_isOfWord l dC dI cI cB cJ cZ ad NN E tM tC kK kV hNN H.size (rA x (stC (stC o 0) 6) (l1 + l3)) x  hw) ⟨va_cnB 1 hT (gwt_in w_4_151) rfl rfl rfl (hN _ wn_6_137 rfl) (hT _ w_1_1) (by decide +kernel) ⟨Nat.le_trans (Nat.le_of_ble_eq_true rfl) hRf, Nat.le_trans (Nat.le_of_ble_eq_true rfl) hRl⟩, hT _ w_4_150, trivial⟩ ⟨PVc.blind, PVc.at _ hW hK hN hE hS hF⟩ rfl rfl hl.1 rfl (lv_room (Nat.le_of_ble_eq_true rfl)) d_Opn_isName_46 ⟨hRc, hRs⟩) hS (fun q _ h => hF q h) hF (fun r3 x2 t H locs ht hvm hw hB hz1 hk1 hS => ?_)
    have hW := Wd.back hB ht hF
    clear hB ht hF hz1 hk1 hvm
    refine lv_if_ne (tgt := 54) hx hb d_Opn_isName_49 (by decide) (fun c4 => ?_) (fun c4 => ?_)
    · have hw := hw.1 c4
      refine lv_iinc (v := (l3 + 1)) (lv' := [(3, .int (l3 + 1)), (0, .ref (ad o)), (1, .int l1), (2, .int l2)]) hx hb d_Opn_isName_54 hl (k := 3) rfl rfl (by decide) rfl (fun ls hl => ?_)
      refine lv_goto (tgt := 30) hx hb d_Opn_isName_57 (by decide) ?_
      exact hrec30 o l1 l2 (l3 + 1) x2 H locs ls fo hw hW hS (lv_sub hl [1, 2, 3, 0] rfl)
    · have hw := hw.2 c4
      refine lv_iconst (v := 0) hx hb d_Opn_isName_52 (by decide) ?_
      exact hret 0 x2 H locs 53 ls d_Opn_isName_53 rfl hw hW hS
set_option maxHeartbeats 4000000 in
set_option maxRecDepth 100000 in
theorem tl_Opn_isName_30 {p : Program} {l : Launch} {e : Env} {R : Room} {s : State} {m : MethodId} {args : Array Value} {below : List Frame} {meth : Method} {c : Code} {cells slots : Nat} {Q : State → Prop} {dC : Nat → ClassId} {dI : Nat → Nat → Nat} {cI cB cJ cZ : ClassId} {A : Nat → Prop} {ad : Nat → Nat} {NN : Nat} {E : Heap} {tM tC : Nat} {kK kV : Nat → Nat} {post : Int32 → St → Prop} (hx : p.tables.exec = Jvm.exec) (hb : c.code = b_Opn_isName) (hml : c.maxLocals = 4) (hown : s.vm.findClass R_Opn = some m.cls) (hT : ∀ w ∈ TG, w.before args s = true) (hK : va_K (dC, dI) CL (TY cI cB cJ cZ) s) (hN : NW s) (hA : ∀ q : Nat, s.heap.size ≤ q → A q) (hRc : cells ≤ R.cells) (hRs : slots ≤ R.slots) (hRf : 1 ≤ R.frames) (hRl : 20 ≤ R.locals) (hNN : 152 ≤ NN) (hE : CE E tM tC kK kV A s) (hret : ∀ (r : Int32) (x : St) (H : Heap) (locs : List Loc) (pc : Nat) (ls : Array Slot), decode b_Opn_isName pc = .ok (.ireturn, 1) → narrow .boolean (.int r) = .int r → post r x → Wd dC dI cI cB cJ cZ ad stC kcC NN A x H → va_S A s.heap H locs → W p l e R s m args below meth c H locs cells slots Q (F0 m pc ls [.int r]))  : ∀ n : Nat, ∀ (o : Nat) (l1 : Int32) (l2 : Int32) (l3 : Int32) (x : St) (H : Heap) (locs : List Loc) (ls : Array Slot), (o < NN ∧ kcC o = 7) → wl_Opn_isName_30 post n o l1 l2 l3 x → Wd dC dI cI cB cJ cZ ad stC kcC NN A x H → va_S A s.heap H locs → lv_has ls 4 [(0, .ref (ad o)), (1, .int l1), (2, .int l2), (3, .int l3)] → W p l e R s m args below meth c H locs cells slots Q (F0 m 30 ls []) := by
  intro n
  induction n with
  | zero => intro o l1 l2 l3 x H locs ls fo hw; exact hw.elim
  | succ n ih => intro o l1 l2 l3 x H locs ls fo hw hW hS hl; exact t_Opn_isName_30 hx hb hml hown hT hK hN hA hRc hRs hRf hRl hNN hE hret  ih o l1 l2 l3 x H locs ls fo hw hW hS hl
set_option maxRecDepth 100000 in
set_option maxHeartbeats 4000000 in
set_option maxRecDepth 100000 in
theorem t_Opn_isName_26 {p : Program} {l : Launch} {e : Env} {R : Room} {s : State} {m : MethodId} {args : Array Value} {below : List Frame} {meth : Method} {c : Code} {cells slots : Nat} {Q : State → Prop} {dC : Nat → ClassId} {dI : Nat → Nat → Nat} {cI cB cJ cZ : ClassId} {A : Nat → Prop} {ad : Nat → Nat} {NN : Nat} {E : Heap} {tM tC : Nat} {kK kV : Nat → Nat} {post : Int32 → St → Prop} (hx : p.tables.exec = Jvm.exec) (hb : c.code = b_Opn_isName) (hml : c.maxLocals = 4) (hown : s.vm.findClass R_Opn = some m.cls) (hT : ∀ w ∈ TG, w.before args s = true) (hK : va_K (dC, dI) CL (TY cI cB cJ cZ) s) (hN : NW s) (hA : ∀ q : Nat, s.heap.size ≤ q → A q) (hRc : cells ≤ R.cells) (hRs : slots ≤ R.slots) (hRf : 1 ≤ R.frames) (hRl : 20 ≤ R.locals) (hNN : 152 ≤ NN) (hE : CE E tM tC kK kV A s) (hret : ∀ (r : Int32) (x : St) (H : Heap) (locs : List Loc) (pc : Nat) (ls : Array Slot), decode b_Opn_isName pc = .ok (.ireturn, 1) → narrow .boolean (.int r) = .int r → post r x → Wd dC dI cI cB cJ cZ ad stC kcC NN A x H → va_S A s.heap H locs → W p l e R s m args below meth c H locs cells slots Q (F0 m pc ls [.int r]))  : ∀ (o : Nat) (l1 : Int32) (l2 : Int32) (x : St) (H : Heap) (locs : List Loc) (ls : Array Slot), (o < NN ∧ kcC o = 7) → j_Opn_isName_26 post o l1 l2 x → Wd dC dI cI cB cJ cZ ad stC kcC NN A x H → va_S A s.heap H locs → lv_has ls 4 [(0, .ref (ad o)), (1, .int l1), (2, .int l2)] → W p l e R s m args below meth c H locs cells slots Q (F0 m 26 ls []) := by
  intro o l1 l2 x H locs ls fo hw hW hS hl
  unfold j_Opn_isName_26 at hw
  refine lv_iconst (v := 0) hx hb d_Opn_isName_26 (by decide) ?_
  exact hret 0 x H locs 27 ls d_Opn_isName_27 rfl hw hW hS
set_option maxRecDepth 100000 in
set_option maxHeartbeats 4000000 in
set_option maxRecDepth 100000 in
theorem t_Opn_isName_e {p : Program} {l : Launch} {e : Env} {R : Room} {s : State} {m : MethodId} {args : Array Value} {below : List Frame} {meth : Method} {c : Code} {cells slots : Nat} {Q : State → Prop} {dC : Nat → ClassId} {dI : Nat → Nat → Nat} {cI cB cJ cZ : ClassId} {A : Nat → Prop} {ad : Nat → Nat} {NN : Nat} {E : Heap} {tM tC : Nat} {kK kV : Nat → Nat} {post : Int32 → St → Prop} (hx : p.tables.exec = Jvm.exec) (hb : c.code = b_Opn_isName) (hml : c.maxLocals = 4) (hown : s.vm.findClass R_Opn = some m.cls) (hT : ∀ w ∈ TG, w.before args s = true) (hK : va_K (dC, dI) CL (TY cI cB cJ cZ) s) (hN : NW s) (hA : ∀ q : Nat, s.heap.size ≤ q → A q) (hRc : cells ≤ R.cells) (hRs : slots ≤ R.slots) (hRf : 1 ≤ R.frames) (hRl : 20 ≤ R.locals) (hNN : 152 ≤ NN) (hE : CE E tM tC kK kV A s) (hret : ∀ (r : Int32) (x : St) (H : Heap) (locs : List Loc) (pc : Nat) (ls : Array Slot), decode b_Opn_isName pc = .ok (.ireturn, 1) → narrow .boolean (.int r) = .int r → post r x → Wd dC dI cI cB cJ cZ ad stC kcC NN A x H → va_S A s.heap H locs → W p l e R s m args below meth c H locs cells slots Q (F0 m pc ls [.int r])) : ∀ (o : Nat) (l1 : Int32) (l2 : Int32) (x : St) (H : Heap) (locs : List Loc) (ls : Array Slot), (o < NN ∧ kcC o = 7) → wp_Opn_isName post o l1 l2 x → Wd dC dI cI cB cJ cZ ad stC kcC NN A x H → va_S A s.heap H locs → lv_has ls 4 [(0, .ref (ad o)), (1, .int l1), (2, .int l2)] → W p l e R s m args below meth c H locs cells slots Q (F0 m 0 ls []) := by
  intro o l1 l2 x H locs ls fo hw hW hS hl
  unfold wp_Opn_isName at hw
  refine lv_iload_n hx hb d_Opn_isName_0 rfl (lv_at hl 2 rfl) ?_
  refine lv_iconst (v := 1) hx hb d_Opn_isName_1 (by decide) ?_
  refine lv_icmp_lt (tgt := 26) hx hb d_Opn_isName_2 (by decide) (fun c5 => ?_) (fun c5 => ?_)
  · have hw := hw.1 c5
    exact t_Opn_isName_26 hx hb hml hown hT hK hN hA hRc hRs hRf hRl hNN hE hret  o l1 l2 x H locs ls fo hw hW hS (lv_sub hl [0, 1, 2] rfl)
  · have hw := hw.2 c5
    refine lv_iload_n hx hb d_Opn_isName_5 rfl (lv_at hl 2 rfl) ?_
    refine lv_bipush (v := 16) hx hb d_Opn_isName_6 (by decide) ?_
    refine lv_icmp_gt (tgt := 26) hx hb d_Opn_isName_8 (by decide) (fun c6 => ?_) (fun c6 => ?_)
    · have hw := hw.1 c6
      exact t_Opn_isName_26 hx hb hml hown hT hK hN hA hRc hRs hRf hRl hNN hE hret  o l1 l2 x H locs ls fo hw hW hS (lv_sub hl [0, 1, 2] rfl)
    · have hw := hw.2 c6
      refine lv_aload_n hx hb d_Opn_isName_11 rfl (lv_at hl 0 rfl) ?_
      refine w_getf (q := (stC o 0)) (k := 0) (t := 7) (C := R_Opn) (T := F_Opn) (N := 17) hx hb hT hown hK hW fo.1 fo.2 (by decide) in_Opn rfl rfl (by decide) rfl fr_Opn_0 w_3_15 d_Opn_isName_12 rfl ?_
      refine w_getf (q := (stC (stC o 0) 6)) (k := 6) (t := 6) (C := R_Vlt) (T := F_Vlt) (N := 20) hx hb hT hown hK hW (st_ty hNN fo.1 fo.2 rfl).1 (st_ty hNN fo.1 fo.2 rfl).2 (by decide) in_Vlt rfl rfl (by decide) rfl fr_Vlt_6 w_2_140 d_Opn_isName_15 rfl ?_
      refine lv_iload_n hx hb d_Opn_isName_18 rfl (lv_at hl 1 rfl) ?_
      obtain ⟨hi, hw⟩ := hw
      refine w_bald (o := (stC (stC o 0) 6)) hx hb hK hW (st_ty hNN (st_ty hNN fo.1 fo.2 rfl).1 (st_ty hNN fo.1 fo.2 rfl).2 rfl).1 (st_ty hNN (st_ty hNN fo.1 fo.2 rfl).1 (st_ty hNN fo.1 fo.2 rfl).2 rfl).2 hi d_Opn_isName_19 ?_
      have hF := hW.free hS hA
      refine va_calli (va_runSN (As := [.int (rA x (stC (stC o 0) 6) l1)]) (rest := []) ⟨hx, hb, hml, hown, hT⟩ (k_V_isLetter l dC dI cI cB cJ cZ ad NN E tM tC kK kV hNN H.size (rA x (stC (stC o 0) 6) l1) x  hw) ⟨va_cnB 1 hT (gwt_in w_4_148) rfl rfl rfl (hN _ wn_6_136 rfl) (hT _ w_1_1) (by decide +kernel) ⟨Nat.le_trans (Nat.le_of_ble_eq_true rfl) hRf, Nat.le_trans (Nat.le_of_ble_eq_true rfl) hRl⟩, hT _ w_4_147, trivial⟩ ⟨PVc.blind, PVc.at _ hW hK hN hE hS hF⟩ rfl rfl hl.1 rfl (lv_room (Nat.le_of_ble_eq_true rfl)) d_Opn_isName_20 ⟨hRc, hRs⟩) hS (fun q _ h => hF q h) hF (fun r8 x7 t H locs ht hvm hw hB hz1 hk1 hS => ?_)
      have hW := Wd.back hB ht hF
      clear hB ht hF hz1 hk1 hvm
      refine lv_if_ne (tgt := 28) hx hb d_Opn_isName_23 (by decide) (fun c9 => ?_) (fun c9 => ?_)
      · have hw := hw.1 c9
        refine lv_iconst (v := 1) hx hb d_Opn_isName_28 (by decide) ?_
        refine lv_istore_n (lv' := [(3, .int 1), (0, .ref (ad o)), (1, .int l1), (2, .int l2)]) hx hb d_Opn_isName_29 rfl hl (by decide) rfl (fun ls hl => ?_)
        obtain ⟨n, hw⟩ := hw
        exact tl_Opn_isName_30 hx hb hml hown hT hK hN hA hRc hRs hRf hRl hNN hE hret  n o l1 l2 1 x7 H locs ls fo hw hW hS (lv_sub hl [1, 2, 3, 0] rfl)
      · have hw := hw.2 c9
        exact t_Opn_isName_26 hx hb hml hown hT hK hN hA hRc hRs hRf hRl hNN hE hret  o l1 l2 x7 H locs ls fo hw hW hS (lv_sub hl [0, 1, 2] rfl)
set_option maxHeartbeats 4000000 in
set_option maxRecDepth 100000 in
theorem k_Opn_isName (l : Launch) (dC : Nat → ClassId) (dI : Nat → Nat → Nat) (cI cB cJ cZ : ClassId) (ad : Nat → Nat) (NN : Nat) (E : Heap) (tM tC : Nat) (kK kV : Nat → Nat) (hNN : 152 ≤ NN) (sz : Nat) (o : Nat) (l1 : Int32) (l2 : Int32) (x : St) (fo : o < NN ∧ kcC o = 7) {post : Int32 → St → Prop} (hw : wp_Opn_isName post o l1 l2 x) : Met l y_Opn_isName (wsOf y_Opn_isName b_Opn_isName 4 (some (.boolean))) ({ frames := 1, cells := 0, slots := 0, locals := 20 }) (va_Pc [.ref (ad o), .int l1, .int l2] (PVc dC dI cI cB cJ cZ ad stC kcC NN E tM tC kK kV sz x)) (va_Qi (fun (r : Int32) (y : St) => post r y) (fun y t => Wd dC dI cI cB cJ cZ ad stC kcC NN (va_A (pic ad stC kcC NN cI cB cJ cZ x) sz) y t.heap) (va_A (pic ad stC kcC NN cI cB cJ cZ x) sz)) 0 0 (va_A (pic ad stC kcC NN cI cB cJ cZ x) sz) := by
  refine Met.ofW (cc := b_Opn_isName) (maxL := 4) (ret := some (.boolean)) (by decide) rfl ?_
  intro p e s m args below meth c s₁ B hml hv
  obtain ⟨rfl, ⟨hsz, hW0, hK, hN⟩, hE⟩ := hv
  have hx := B.exec
  have hb := B.bytes
  have hr := B.returns
  have hts := atoms_spec B.pre
  have hT : ∀ w ∈ TG, w.before _ s = true := fun w h => hts w (List.mem_cons_of_mem _ h)
  have hown : s.vm.findClass R_Opn = some m.cls := findClass_of_methodNamed B.named
  have hlocks := B.notSynchronized
  subst hsz
  have hW : Wd dC dI cI cB cJ cZ ad stC kcC NN (va_A (pic ad stC kcC NN cI cB cJ cZ x) s.heap.size) x s.heap := ⟨hW0.1, hW0.2.1.self (sz := s.heap.size), hW0.2.2⟩
  generalize hAe : va_A (pic ad stC kcC NN cI cB cJ cZ x) s.heap.size = A at hW hE ⊢
  have hA : ∀ q : Nat, s.heap.size ≤ q → A q := fun q h => by rw [← hAe]; exact Or.inr h
  have hS : va_S A s.heap s.heap [] := va_S.rf
  have hl := lv_entry ([.ref (ad o), .int l1, .int l2]) (n := 4) (Nat.le_of_ble_eq_true rfl)
  rw [lg_entry_eq]
  generalize (lg_sl ([.ref (ad o), .int l1, .int l2]) ++ List.replicate (4 - (lg_sl ([.ref (ad o), .int l1, .int l2])).length) Slot.unset).toArray = ls at hl ⊢
  have hl : lv_has ls 4 [(0, .ref (ad o)), (1, .int l1), (2, .int l2)] := hl
  exact t_Opn_isName_e hx hb hml hown hT hK hN hA (Nat.le_refl 0) (Nat.le_refl 0) (Nat.le_refl 1) (Nat.le_refl 20) hNN hE (fun r x H locs pc ls hd hz hp hW hS => W.zret (v := r) (ty := .boolean) hx hb hr hz (fun t ht hM => ⟨⟨r, x, rfl, hp, Wd.back hW ht.symm (fun _ z => z)⟩, hS.F ht⟩) hS.2.2 hd hlocks)  o l1 l2 x _ _ ls fo hw hW hS hl
set_option maxRecDepth 100000 in
set_option maxHeartbeats 4000000 in
set_option maxRecDepth 100000 in
theorem t_Opn_readField_142 {p : Program} {l : Launch} {e : Env} {R : Room} {s : State} {m : MethodId} {args : Array Value} {below : List Frame} {meth : Method} {c : Code} {cells slots : Nat} {Q : State → Prop} {dC : Nat → ClassId} {dI : Nat → Nat → Nat} {cI cB cJ cZ : ClassId} {A : Nat → Prop} {ad : Nat → Nat} {NN : Nat} {E : Heap} {tM tC : Nat} {kK kV : Nat → Nat} {post : St → Prop} (hx : p.tables.exec = Jvm.exec) (hb : c.code = b_Opn_readField) (hml : c.maxLocals = 10) (hown : s.vm.findClass R_Opn = some m.cls) (hT : ∀ w ∈ TG, w.before args s = true) (hK : va_K (dC, dI) CL (TY cI cB cJ cZ) s) (hN : NW s) (hA : ∀ q : Nat, s.heap.size ≤ q → A q) (hRc : cells ≤ R.cells) (hRs : slots ≤ R.slots) (hRf : 3 ≤ R.frames) (hRl : 111 ≤ R.locals) (hNN : 152 ≤ NN) (hE : CE E tM tC kK kV A s) (hret : ∀ (x : St) (H : Heap) (locs : List Loc) (pc : Nat) (ls : Array Slot), decode b_Opn_readField pc = .ok (.return_, 1) → post x → Wd dC dI cI cB cJ cZ ad stC kcC NN A x H → va_S A s.heap H locs → W p l e R s m args below meth c H locs cells slots Q (F0 m pc ls []))  : ∀ (o : Nat) (l1 : Nat) (l2 : Int32) (l3 : Int32) (l4 : Int64) (l6 : Int64) (l8 : Int32) (l9 : Int32) (s0 : Int32) (s1 : Nat) (x : St) (H : Heap) (locs : List Loc) (ls : Array Slot), (o < NN ∧ kcC o = 7) → (l1 < NN ∧ kcC l1 = 3) → (s1 < NN ∧ kcC s1 = 8) → j_Opn_readField_142 post o l1 l2 l3 l4 l6 l8 l9 s0 s1 x → Wd dC dI cI cB cJ cZ ad stC kcC NN A x H → va_S A s.heap H locs → lv_has ls 10 [(0, .ref (ad o)), (1, .ref (ad l1)), (2, .int l2), (3, .int l3), (4, .long l4), (6, .long l6), (8, .int l8), (9, .int l9)] → W p l e R s m args below meth c H locs cells slots Q (F0 m 142 ls [.int s0, .ref (ad s1)]) := by
  intro o l1 l2 l3 l4 l6 l8 l9 s0 s1 x H locs ls fo fl1 fs1 hw hW hS hl
  unfold j_Opn_readField_142 at hw
  refine lv_bipush (v := 15) hx hb d_Opn_readField_142 (by decide) ?_
  have hF := hW.free hS hA
  refine va_callv (va_runV (C := R_Src) (As := [.int s0, .int 15]) (rest := []) ⟨hx, hb, hml, hown, hT⟩ (k_Src_check l dC dI cI cB cJ cZ ad NN E tM tC kK kV hNN H.size s1 s0 15 x fs1 hw) ⟨callB_of 2 hT (gwt_in w_6_116) rfl rfl rfl (hT _ w_1_11) (hT _ w_6_113) (by decide +kernel) ⟨Nat.le_trans (Nat.le_of_ble_eq_true rfl) hRf, Nat.le_trans (Nat.le_of_ble_eq_true rfl) hRl⟩, hT _ w_6_114, hT _ w_6_115⟩ ⟨PVc.blind, va_recv hK hW.1 (ci := 8) (q0 := s1) rfl (pic_obj fs1.1 fs1.2 (by decide)), PVc.at _ hW hK hN hE hS hF⟩ rfl rfl hl.1 rfl (lv_room (Nat.le_of_ble_eq_true rfl)) d_Opn_readField_144 ⟨hRc, hRs⟩) hS (fun q _ h => hF q h) hF (fun  x1 t H locs ht hvm hw hB hz1 hk1 hS => ?_)
  have hW := Wd.back hB ht hF
  clear hB ht hF hz1 hk1 hvm
  exact hret x1 H locs 147 ls d_Opn_readField_147 hw hW hS
set_option maxRecDepth 100000 in
set_option maxHeartbeats 4000000 in
set_option maxRecDepth 100000 in
theorem t_Opn_readField_141 {p : Program} {l : Launch} {e : Env} {R : Room} {s : State} {m : MethodId} {args : Array Value} {below : List Frame} {meth : Method} {c : Code} {cells slots : Nat} {Q : State → Prop} {dC : Nat → ClassId} {dI : Nat → Nat → Nat} {cI cB cJ cZ : ClassId} {A : Nat → Prop} {ad : Nat → Nat} {NN : Nat} {E : Heap} {tM tC : Nat} {kK kV : Nat → Nat} {post : St → Prop} (hx : p.tables.exec = Jvm.exec) (hb : c.code = b_Opn_readField) (hml : c.maxLocals = 10) (hown : s.vm.findClass R_Opn = some m.cls) (hT : ∀ w ∈ TG, w.before args s = true) (hK : va_K (dC, dI) CL (TY cI cB cJ cZ) s) (hN : NW s) (hA : ∀ q : Nat, s.heap.size ≤ q → A q) (hRc : cells ≤ R.cells) (hRs : slots ≤ R.slots) (hRf : 3 ≤ R.frames) (hRl : 111 ≤ R.locals) (hNN : 152 ≤ NN) (hE : CE E tM tC kK kV A s) (hret : ∀ (x : St) (H : Heap) (locs : List Loc) (pc : Nat) (ls : Array Slot), decode b_Opn_readField pc = .ok (.return_, 1) → post x → Wd dC dI cI cB cJ cZ ad stC kcC NN A x H → va_S A s.heap H locs → W p l e R s m args below meth c H locs cells slots Q (F0 m pc ls []))  : ∀ (o : Nat) (l1 : Nat) (l2 : Int32) (l3 : Int32) (l4 : Int64) (l6 : Int64) (l8 : Int32) (l9 : Int32) (s0 : Nat) (x : St) (H : Heap) (locs : List Loc) (ls : Array Slot), (o < NN ∧ kcC o = 7) → (l1 < NN ∧ kcC l1 = 3) → (s0 < NN ∧ kcC s0 = 8) → j_Opn_readField_141 post o l1 l2 l3 l4 l6 l8 l9 s0 x → Wd dC dI cI cB cJ cZ ad stC kcC NN A x H → va_S A s.heap H locs → lv_has ls 10 [(0, .ref (ad o)), (1, .ref (ad l1)), (2, .int l2), (3, .int l3), (4, .long l4), (6, .long l6), (8, .int l8), (9, .int l9)] → W p l e R s m args below meth c H locs cells slots Q (F0 m 141 ls [.ref (ad s0)]) := by
  intro o l1 l2 l3 l4 l6 l8 l9 s0 x H locs ls fo fl1 fs0 hw hW hS hl
  unfold j_Opn_readField_141 at hw
  refine lv_iconst (v := 0) hx hb d_Opn_readField_141 (by decide) ?_
  exact t_Opn_readField_142 hx hb hml hown hT hK hN hA hRc hRs hRf hRl hNN hE hret  o l1 l2 l3 l4 l6 l8 l9 0 s0 x H locs ls fo fl1 fs0 hw hW hS (lv_sub hl [0, 1, 2, 3, 4, 5, 6, 7] rfl)
set_option maxRecDepth 100000 in
set_option maxHeartbeats 4000000 in
set_option maxRecDepth 100000 in
theorem t_Opn_readField_96 {p : Program} {l : Launch} {e : Env} {R : Room} {s : State} {m : MethodId} {args : Array Value} {below : List Frame} {meth : Method} {c : Code} {cells slots : Nat} {Q : State → Prop} {dC : Nat → ClassId} {dI : Nat → Nat → Nat} {cI cB cJ cZ : ClassId} {A : Nat → Prop} {ad : Nat → Nat} {NN : Nat} {E : Heap} {tM tC : Nat} {kK kV : Nat → Nat} {post : St → Prop} (hx : p.tables.exec = Jvm.exec) (hb : c.code = b_Opn_readField) (hml : c.maxLocals = 10) (hown : s.vm.findClass R_Opn = some m.cls) (hT : ∀ w ∈ TG, w.before args s = true) (hK : va_K (dC, dI) CL (TY cI cB cJ cZ) s) (hN : NW s) (hA : ∀ q : Nat, s.heap.size ≤ q → A q) (hRc : cells ≤ R.cells) (hRs : slots ≤ R.slots) (hRf : 3 ≤ R.frames) (hRl : 111 ≤ R.locals) (hNN : 152 ≤ NN) (hE : CE E tM tC kK kV A s) (hret : ∀ (x : St) (H : Heap) (locs : List Loc) (pc : Nat) (ls : Array Slot), decode b_Opn_readField pc = .ok (.return_, 1) → post x → Wd dC dI cI cB cJ cZ ad stC kcC NN A x H → va_S A s.heap H locs → W p l e R s m args below meth c H locs cells slots Q (F0 m pc ls []))  : ∀ (o : Nat) (l1 : Nat) (l2 : Int32) (l3 : Int32) (l4 : Int64) (l6 : Int64) (l8 : Int32) (s0 : Int32) (x : St) (H : Heap) (locs : List Loc) (ls : Array Slot), (o < NN ∧ kcC o = 7) → (l1 < NN ∧ kcC l1 = 3) → j_Opn_readField_96 post o l1 l2 l3 l4 l6 l8 s0 x → Wd dC dI cI cB cJ cZ ad stC kcC NN A x H → va_S A s.heap H locs → lv_has ls 10 [(0, .ref (ad o)), (1, .ref (ad l1)), (2, .int l2), (3, .int l3), (4, .long l4), (6, .long l6), (8, .int l8)] → W p l e R s m args below meth c H locs cells slots Q (F0 m 96 ls [.int s0]) := by
  intro o l1 l2 l3 l4 l6 l8 s0 x H locs ls fo fl1 hw hW hS hl
  unfold j_Opn_readField_96 at hw
  refine lv_istore (lv' := [(9, .int s0), (0, .ref (ad o)), (1, .ref (ad l1)), (2, .int l2), (3, .int l3), (4, .long l4), (6, .long l6), (8, .int l8)]) hx hb d_Opn_readField_96 hl (by decide) rfl (fun ls hl => ?_)
  refine lv_aload_n hx hb d_Opn_readField_98 rfl (lv_at hl 1 rfl) ?_
  refine w_getf (q := (stC o 1)) (k := 1) (t := 7) (C := R_Opn) (T := F_Opn) (N := 17) hx hb hT hown hK hW fo.1 fo.2 (by decide) in_Opn rfl rfl (by decide) rfl fr_Opn_1 w_3_16 d_Opn_readField_99 rfl ?_
  refine lv_iload hx hb d_Opn_readField_102 (lv_at hl 0 rfl) ?_
  refine lv_if_eq (tgt := 141) hx hb d_Opn_readField_104 (by decide) (fun c2 => ?_) (fun c2 => ?_)
  · have hw := hw.1 c2
    exact t_Opn_readField_141 hx hb hml hown hT hK hN hA hRc hRs hRf hRl hNN hE hret  o l1 l2 l3 l4 l6 l8 s0 (stC o 1) x H locs ls fo fl1 (st_ty hNN fo.1 fo.2 rfl) hw hW hS (lv_sub hl [1, 2, 3, 4, 5, 6, 7, 0] rfl)
  · have hw := hw.2 c2
    refine lv_aload_n hx hb d_Opn_readField_107 rfl (lv_at hl 2 rfl) ?_
    refine lv_iload_n hx hb d_Opn_readField_108 rfl (lv_at hl 4 rfl) ?_
    refine lv_iconst (v := 3) hx hb d_Opn_readField_109 (by decide) ?_
    refine lv_irem hx hb d_Opn_readField_110 (by decide) ?_
    refine lv_iload_n hx hb d_Opn_readField_111 rfl (lv_at hl 4 rfl) ?_
    refine lv_iconst (v := 3) hx hb d_Opn_readField_112 (by decide) ?_
    refine lv_idiv hx hb d_Opn_readField_113 (by decide) ?_
    refine lv_lload hx hb d_Opn_readField_114 (lv_at hl 5 rfl) ?_
    refine lv_l2i hx hb d_Opn_readField_116 rfl ?_
    refine lv_iconst (v := 1) hx hb d_Opn_readField_117 (by decide) ?_
    refine lv_isub hx hb d_Opn_readField_118 ?_
    refine lv_aload_n hx hb d_Opn_readField_119 rfl (lv_at hl 1 rfl) ?_
    refine w_getf (q := (stC o 0)) (k := 0) (t := 7) (C := R_Opn) (T := F_Opn) (N := 17) hx hb hT hown hK hW fo.1 fo.2 (by decide) in_Opn rfl rfl (by decide) rfl fr_Opn_0 w_3_15 d_Opn_readField_120 rfl ?_
    refine w_getf (q := (stC (stC o 0) 6)) (k := 6) (t := 6) (C := R_Vlt) (T := F_Vlt) (N := 20) hx hb hT hown hK hW (st_ty hNN fo.1 fo.2 rfl).1 (st_ty hNN fo.1 fo.2 rfl).2 (by decide) in_Vlt rfl rfl (by decide) rfl fr_Vlt_6 w_2_140 d_Opn_readField_123 rfl ?_
    refine lv_iload hx hb d_Opn_readField_126 (lv_at hl 7 rfl) ?_
    refine lv_lload hx hb d_Opn_readField_128 (lv_at hl 6 rfl) ?_
    refine lv_l2i hx hb d_Opn_readField_130 rfl ?_
    have hF := hW.free hS hA
    refine va_calli (va_runV (C := R_Sch) (As := [.int (l3 - l3 / 3 * 3), .int (l3 / 3), .int ((l4 : Int64).toInt32 - 1), .ref (ad (stC (stC o 0) 6)), .int l8, .int (l6 : Int64).toInt32]) (rest := [.ref (ad (stC o 1))]) ⟨hx, hb, hml, hown, hT⟩ (k_Sch_add l dC dI cI cB cJ cZ ad NN E tM tC kK kV hNN H.size l1 (l3 - l3 / 3 * 3) (l3 / 3) ((l4 : Int64).toInt32 - 1) (stC (stC o 0) 6) l8 (l6 : Int64).toInt32 x fl1 (st_ty hNN (st_ty hNN fo.1 fo.2 rfl).1 (st_ty hNN fo.1 fo.2 rfl).2 rfl) hw) ⟨callB_of 6 hT (gwt_in w_4_225) rfl rfl rfl (hT _ w_1_5) (hT _ w_6_138) (by decide +kernel) ⟨Nat.le_trans (Nat.le_of_ble_eq_true rfl) hRf, Nat.le_trans (Nat.le_of_ble_eq_true rfl) hRl⟩, hT _ w_4_223, hT _ w_4_224⟩ ⟨PVc.blind, va_recv hK hW.1 (ci := 3) (q0 := l1) rfl (pic_obj fl1.1 fl1.2 (by decide)), PVc.at _ hW hK hN hE hS hF⟩ rfl rfl hl.1 rfl (lv_room (Nat.le_of_ble_eq_true rfl)) d_Opn_readField_131 ⟨hRc, hRs⟩) hS (fun q _ h => hF q h) hF (fun r4 x3 t H locs ht hvm hw hB hz1 hk1 hS => ?_)
    have hW := Wd.back hB ht hF
    clear hB ht hF hz1 hk1 hvm
    refine lv_if_eq (tgt := 141) hx hb d_Opn_readField_134 (by decide) (fun c5 => ?_) (fun c5 => ?_)
    · have hw := hw.1 c5
      exact t_Opn_readField_141 hx hb hml hown hT hK hN hA hRc hRs hRf hRl hNN hE hret  o l1 l2 l3 l4 l6 l8 s0 (stC o 1) x3 H locs ls fo fl1 (st_ty hNN fo.1 fo.2 rfl) hw hW hS (lv_sub hl [1, 2, 3, 4, 5, 6, 7, 0] rfl)
    · have hw := hw.2 c5
      refine lv_iconst (v := 1) hx hb d_Opn_readField_137 (by decide) ?_
      refine lv_goto (tgt := 142) hx hb d_Opn_readField_138 (by decide) ?_
      exact t_Opn_readField_142 hx hb hml hown hT hK hN hA hRc hRs hRf hRl hNN hE hret  o l1 l2 l3 l4 l6 l8 s0 1 (stC o 1) x3 H locs ls fo fl1 (st_ty hNN fo.1 fo.2 rfl) hw hW hS (lv_sub hl [1, 2, 3, 4, 5, 6, 7, 0] rfl)
set_option maxRecDepth 100000 in
set_option maxHeartbeats 4000000 in
set_option maxRecDepth 100000 in
theorem t_Opn_readField_95 {p : Program} {l : Launch} {e : Env} {R : Room} {s : State} {m : MethodId} {args : Array Value} {below : List Frame} {meth : Method} {c : Code} {cells slots : Nat} {Q : State → Prop} {dC : Nat → ClassId} {dI : Nat → Nat → Nat} {cI cB cJ cZ : ClassId} {A : Nat → Prop} {ad : Nat → Nat} {NN : Nat} {E : Heap} {tM tC : Nat} {kK kV : Nat → Nat} {post : St → Prop} (hx : p.tables.exec = Jvm.exec) (hb : c.code = b_Opn_readField) (hml : c.maxLocals = 10) (hown : s.vm.findClass R_Opn = some m.cls) (hT : ∀ w ∈ TG, w.before args s = true) (hK : va_K (dC, dI) CL (TY cI cB cJ cZ) s) (hN : NW s) (hA : ∀ q : Nat, s.heap.size ≤ q → A q) (hRc : cells ≤ R.cells) (hRs : slots ≤ R.slots) (hRf : 3 ≤ R.frames) (hRl : 111 ≤ R.locals) (hNN : 152 ≤ NN) (hE : CE E tM tC kK kV A s) (hret : ∀ (x : St) (H : Heap) (locs : List Loc) (pc : Nat) (ls : Array Slot), decode b_Opn_readField pc = .ok (.return_, 1) → post x → Wd dC dI cI cB cJ cZ ad stC kcC NN A x H → va_S A s.heap H locs → W p l e R s m args below meth c H locs cells slots Q (F0 m pc ls []))  : ∀ (o : Nat) (l1 : Nat) (l2 : Int32) (l3 : Int32) (l4 : Int64) (l6 : Int64) (l8 : Int32) (x : St) (H : Heap) (locs : List Loc) (ls : Array Slot), (o < NN ∧ kcC o = 7) → (l1 < NN ∧ kcC l1 = 3) → j_Opn_readField_95 post o l1 l2 l3 l4 l6 l8 x → Wd dC dI cI cB cJ cZ ad stC kcC NN A x H → va_S A s.heap H locs → lv_has ls 10 [(0, .ref (ad o)), (1, .ref (ad l1)), (2, .int l2), (3, .int l3), (4, .long l4), (6, .long l6), (8, .int l8)] → W p l e R s m args below meth c H locs cells slots Q (F0 m 95 ls []) := by
  intro o l1 l2 l3 l4 l6 l8 x H locs ls fo fl1 hw hW hS hl
  unfold j_Opn_readField_95 at hw
  refine lv_iconst (v := 0) hx hb d_Opn_readField_95 (by decide) ?_
  exact t_Opn_readField_96 hx hb hml hown hT hK hN hA hRc hRs hRf hRl hNN hE hret  o l1 l2 l3 l4 l6 l8 0 x H locs ls fo fl1 hw hW hS (lv_sub hl [0, 1, 2, 3, 4, 5, 6] rfl)
set_option maxRecDepth 100000 in
set_option maxHeartbeats 4000000 in
set_option maxRecDepth 100000 in
theorem t_Opn_readField_e {p : Program} {l : Launch} {e : Env} {R : Room} {s : State} {m : MethodId} {args : Array Value} {below : List Frame} {meth : Method} {c : Code} {cells slots : Nat} {Q : State → Prop} {dC : Nat → ClassId} {dI : Nat → Nat → Nat} {cI cB cJ cZ : ClassId} {A : Nat → Prop} {ad : Nat → Nat} {NN : Nat} {E : Heap} {tM tC : Nat} {kK kV : Nat → Nat} {post : St → Prop} (hx : p.tables.exec = Jvm.exec) (hb : c.code = b_Opn_readField) (hml : c.maxLocals = 10) (hown : s.vm.findClass R_Opn = some m.cls) (hT : ∀ w ∈ TG, w.before args s = true) (hK : va_K (dC, dI) CL (TY cI cB cJ cZ) s) (hN : NW s) (hA : ∀ q : Nat, s.heap.size ≤ q → A q) (hRc : cells ≤ R.cells) (hRs : slots ≤ R.slots) (hRf : 3 ≤ R.frames) (hRl : 111 ≤ R.locals) (hNN : 152 ≤ NN) (hE : CE E tM tC kK kV A s) (hret : ∀ (x : St) (H : Heap) (locs : List Loc) (pc : Nat) (ls : Array Slot), decode b_Opn_readField pc = .ok (.return_, 1) → post x → Wd dC dI cI cB cJ cZ ad stC kcC NN A x H → va_S A s.heap H locs → W p l e R s m args below meth c H locs cells slots Q (F0 m pc ls [])) : ∀ (o : Nat) (l1 : Nat) (l2 : Int32) (x : St) (H : Heap) (locs : List Loc) (ls : Array Slot), (o < NN ∧ kcC o = 7) → (l1 < NN ∧ kcC l1 = 3) → wp_Opn_readField post o l1 l2 x → Wd dC dI cI cB cJ cZ ad stC kcC NN A x H → va_S A s.heap H locs → lv_has ls 10 [(0, .ref (ad o)), (1, .ref (ad l1)), (2, .int l2)] → W p l e R s m args below meth c H locs cells slots Q (F0 m 0 ls []) := by
  intro o l1 l2 x H locs ls fo fl1 hw hW hS hl
  unfold wp_Opn_readField at hw
  refine lv_aload_n hx hb d_Opn_readField_0 rfl (lv_at hl 0 rfl) ?_
  refine w_getf (q := (stC o 1)) (k := 1) (t := 7) (C := R_Opn) (T := F_Opn) (N := 17) hx hb hT hown hK hW fo.1 fo.2 (by decide) in_Opn rfl rfl (by decide) rfl fr_Opn_1 w_3_16 d_Opn_readField_1 rfl ?_
  have hF := hW.free hS hA
  refine va_calli (va_runV (C := R_Src) (As := []) (rest := []) ⟨hx, hb, hml, hown, hT⟩ (k_Src_readByte l dC dI cI cB cJ cZ ad NN E tM tC kK kV hNN H.size (stC o 1) x (st_ty hNN fo.1 fo.2 rfl) hw) ⟨callB_of 0 hT (gwt_in w_6_124) rfl rfl rfl (hT _ w_1_11) (hT _ w_6_121) (by decide +kernel) ⟨Nat.le_trans (Nat.le_of_ble_eq_true rfl) hRf, Nat.le_trans (Nat.le_of_ble_eq_true rfl) hRl⟩, hT _ w_6_122, hT _ w_6_123⟩ ⟨PVc.blind, va_recv hK hW.1 (ci := 8) (q0 := (stC o 1)) rfl (pic_obj (st_ty hNN fo.1 fo.2 rfl).1 (st_ty hNN fo.1 fo.2 rfl).2 (by decide)), PVc.at _ hW hK hN hE hS hF⟩ rfl rfl hl.1 rfl (lv_room (Nat.le_of_ble_eq_true rfl)) d_Opn_readField_4 ⟨hRc, hRs⟩) hS (fun q _ h => hF q h) hF (fun r7 x6 t H locs ht hvm hw hB hz1 hk1 hS => ?_)
  have hW := Wd.back hB ht hF
  clear hB ht hF hz1 hk1 hvm
  refine lv_istore_n (lv' := [(3, .int r7), (0, .ref (ad o)), (1, .ref (ad l1)), (2, .int l2)]) hx hb d_Opn_readField_7 rfl hl (by decide) rfl (fun ls hl => ?_)
  refine lv_aload_n hx hb d_Opn_readField_8 rfl (lv_at hl 1 rfl) ?_
  refine w_getf (q := (stC o 1)) (k := 1) (t := 7) (C := R_Opn) (T := F_Opn) (N := 17) hx hb hT hown hK hW fo.1 fo.2 (by decide) in_Opn rfl rfl (by decide) rfl fr_Opn_1 w_3_16 d_Opn_readField_9 rfl ?_
  have hF := hW.free hS hA
  refine va_calll (va_runV (C := R_Src) (As := []) (rest := []) ⟨hx, hb, hml, hown, hT⟩ (k_Src_readVarint l dC dI cI cB cJ cZ ad NN E tM tC kK kV hNN H.size (stC o 1) x6 (st_ty hNN fo.1 fo.2 rfl) hw) ⟨callB_of 0 hT (gwt_in w_6_108) rfl rfl rfl (hT _ w_1_11) (hT _ w_6_105) (by decide +kernel) ⟨Nat.le_trans (Nat.le_of_ble_eq_true rfl) hRf, Nat.le_trans (Nat.le_of_ble_eq_true rfl) hRl⟩, hT _ w_6_106, hT _ w_6_107⟩ ⟨PVc.blind, va_recv hK hW.1 (ci := 8) (q0 := (stC o 1)) rfl (pic_obj (st_ty hNN fo.1 fo.2 rfl).1 (st_ty hNN fo.1 fo.2 rfl).2 (by decide)), PVc.at _ hW hK hN hE hS hF⟩ rfl rfl hl.1 rfl (lv_room (Nat.le_of_ble_eq_true rfl)) d_Opn_readField_12 ⟨hRc, hRs⟩) hS (fun q _ h => hF q h) hF (fun r9 x8 t H locs ht hvm hw hB hz1 hk1 hS => ?_)
  have hW := Wd.back hB ht hF
  clear hB ht hF hz1 hk1 hvm
  refine lv_lstore (lv' := [(4, .long r9), (3, .int r7), (0, .ref (ad o)), (1, .ref (ad l1)), (2, .int l2)]) hx hb d_Opn_readField_15 hl (by decide) rfl (fun ls hl => ?_)
  refine lv_aload_n hx hb d_Opn_readField_17 rfl (lv_at hl 2 rfl) ?_
  refine w_getf (q := (stC o 1)) (k := 1) (t := 7) (C := R_Opn) (T := F_Opn) (N := 17) hx hb hT hown hK hW fo.1 fo.2 (by decide) in_Opn rfl rfl (by decide) rfl fr_Opn_1 w_3_16 d_Opn_readField_18 rfl ?_
  have hF := hW.free hS hA
  refine va_calll (va_runV (C := R_Src) (As := []) (rest := []) ⟨hx, hb, hml, hown, hT⟩ (k_Src_readVarint l dC dI cI cB cJ cZ ad NN E tM tC kK kV hNN H.size (stC o 1) x8 (st_ty hNN fo.1 fo.2 rfl) hw) ⟨callB_of 0 hT (gwt_in w_6_108) rfl rfl rfl (hT _ w_1_11) (hT _ w_6_105) (by decide +kernel) ⟨Nat.le_trans (Nat.le_of_ble_eq_true rfl) hRf, Nat.le_trans (Nat.le_of_ble_eq_true rfl) hRl⟩, hT _ w_6_106, hT _ w_6_107⟩ ⟨PVc.blind, va_recv hK hW.1 (ci := 8) (q0 := (stC o 1)) rfl (pic_obj (st_ty hNN fo.1 fo.2 rfl).1 (st_ty hNN fo.1 fo.2 rfl).2 (by decide)), PVc.at _ hW hK hN hE hS hF⟩ rfl rfl hl.1 rfl (lv_room (Nat.le_of_ble_eq_true rfl)) d_Opn_readField_21 ⟨hRc, hRs⟩) hS (fun q _ h => hF q h) hF (fun r11 x10 t H locs ht hvm hw hB hz1 hk1 hS => ?_)
  have hW := Wd.back hB ht hF
  clear hB ht hF hz1 hk1 hvm
  refine lv_lstore (lv' := [(6, .long r11), (4, .long r9), (3, .int r7), (0, .ref (ad o)), (1, .ref (ad l1)), (2, .int l2)]) hx hb d_Opn_readField_24 hl (by decide) rfl (fun ls hl => ?_)
  refine lv_aload_n hx hb d_Opn_readField_26 rfl (lv_at hl 3 rfl) ?_
  refine w_getf (q := (stC o 1)) (k := 1) (t := 7) (C := R_Opn) (T := F_Opn) (N := 17) hx hb hT hown hK hW fo.1 fo.2 (by decide) in_Opn rfl rfl (by decide) rfl fr_Opn_1 w_3_16 d_Opn_readField_27 rfl ?_
  refine lv_lload hx hb d_Opn_readField_30 (lv_at hl 0 rfl) ?_
  have hF := hW.free hS hA
  refine va_calli (va_runV (C := R_Src) (As := [.long r11]) (rest := []) ⟨hx, hb, hml, hown, hT⟩ (k_Src_has l dC dI cI cB cJ cZ ad NN E tM tC kK kV hNN H.size (stC o 1) r11 x10 (st_ty hNN fo.1 fo.2 rfl) hw) ⟨callB_of 1 hT (gwt_in w_6_128) rfl rfl rfl (hT _ w_1_11) (hT _ w_6_125) (by decide +kernel) ⟨Nat.le_trans (Nat.le_of_ble_eq_true rfl) hRf, Nat.le_trans (Nat.le_of_ble_eq_true rfl) hRl⟩, hT _ w_6_126, hT _ w_6_127⟩ ⟨PVc.blind, va_recv hK hW.1 (ci := 8) (q0 := (stC o 1)) rfl (pic_obj (st_ty hNN fo.1 fo.2 rfl).1 (st_ty hNN fo.1 fo.2 rfl).2 (by decide)), PVc.at _ hW hK hN hE hS hF⟩ rfl rfl hl.1 rfl (lv_room (Nat.le_of_ble_eq_true rfl)) d_Opn_readField_32 ⟨hRc, hRs⟩) hS (fun q _ h => hF q h) hF (fun r13 x12 t H locs ht hvm hw hB hz1 hk1 hS => ?_)
  have hW := Wd.back hB ht hF
  clear hB ht hF hz1 hk1 hvm
  refine lv_if_ne (tgt := 39) hx hb d_Opn_readField_35 (by decide) (fun c14 => ?_) (fun c14 => ?_)
  · have hw := hw.1 c14
    refine lv_aload_n hx hb d_Opn_readField_39 rfl (lv_at hl 3 rfl) ?_
    refine w_getf (q := (stC o 1)) (k := 1) (t := 7) (C := R_Opn) (T := F_Opn) (N := 17) hx hb hT hown hK hW fo.1 fo.2 (by decide) in_Opn rfl rfl (by decide) rfl fr_Opn_1 w_3_16 d_Opn_readField_40 rfl ?_
    refine w_geti (k := 1) (t := 8) (C := R_Src) (T := F_Src) (N := 5) hx hb hT hown hK hW (st_ty hNN fo.1 fo.2 rfl).1 (st_ty hNN fo.1 fo.2 rfl).2 (by decide) in_Src rfl rfl (by decide) rfl fr_Src_1 w_2_238 d_Opn_readField_43 ?_
    refine lv_topi (fun v15 ev15 => ?_)
    have hw := hw v15 ev15
    refine lv_istore (lv' := [(8, .int v15), (6, .long r11), (4, .long r9), (3, .int r7), (0, .ref (ad o)), (1, .ref (ad l1)), (2, .int l2)]) hx hb d_Opn_readField_46 hl (by decide) rfl (fun ls hl => ?_)
    refine lv_aload_n hx hb d_Opn_readField_48 rfl (lv_at hl 4 rfl) ?_
    refine w_getf (q := (stC o 1)) (k := 1) (t := 7) (C := R_Opn) (T := F_Opn) (N := 17) hx hb hT hown hK hW fo.1 fo.2 (by decide) in_Opn rfl rfl (by decide) rfl fr_Opn_1 w_3_16 d_Opn_readField_49 rfl ?_
    refine lv_dup hx hb d_Opn_readField_52 rfl ?_
    refine w_geti (k := 1) (t := 8) (C := R_Src) (T := F_Src) (N := 5) hx hb hT hown hK hW (st_ty hNN fo.1 fo.2 rfl).1 (st_ty hNN fo.1 fo.2 rfl).2 (by decide) in_Src rfl rfl (by decide) rfl fr_Src_1 w_2_238 d_Opn_readField_53 ?_
    refine lv_lload hx hb d_Opn_readField_56 (lv_at hl 1 rfl) ?_
    refine lv_l2i hx hb d_Opn_readField_58 rfl ?_
    refine lv_iadd hx hb d_Opn_readField_59 ?_
    refine w_puti (ty := .int) (k := 1) (t := 8) (C := R_Src) (T := F_Src) (N := 5) hx hb hT hown hK hW hS (st_ty hNN fo.1 fo.2 rfl).1 (st_ty hNN fo.1 fo.2 rfl).2 (by decide) in_Src t_Src t_Src_ok n_Src rfl rfl (by decide) rfl fr_Src_1 w_2_238 (by decide +kernel) rfl rfl d_Opn_readField_60 (fun H locs hW hS => ?_)
    obtain ⟨x16, ex16⟩ : ∃ y : St, y = setI x12 (stC o 1) 1 ((fI x12 (stC o 1) 1) + (r11 : Int64).toInt32) := ⟨_, rfl⟩
    rw [← ex16] at hW
    have hw := hw x16 ex16
    refine lv_iload_n hx hb d_Opn_readField_63 rfl (lv_at hl 3 rfl) ?_
    refine lv_bipush (v := 14) hx hb d_Opn_readField_64 (by decide) ?_
    refine lv_icmp_gt (tgt := 95) hx hb d_Opn_readField_66 (by decide) (fun c17 => ?_) (fun c17 => ?_)
    · have hw := hw.1 c17
      exact t_Opn_readField_95 hx hb hml hown hT hK hN hA hRc hRs hRf hRl hNN hE hret  o l1 l2 r7 r9 r11 v15 x16 H locs ls fo fl1 hw hW hS (lv_sub hl [4, 5, 6, 3, 2, 1, 0] rfl)
    · have hw := hw.2 c17
      refine lv_aload_n hx hb d_Opn_readField_69 rfl (lv_at hl 5 rfl) ?_
      refine lv_lload hx hb d_Opn_readField_70 (lv_at hl 2 rfl) ?_
      refine lv_iload_n hx hb d_Opn_readField_72 rfl (lv_at hl 6 rfl) ?_
      have hF := hW.free hS hA
      refine va_calli (va_runS (As := [.ref (ad l1), .long r9, .int l2]) (rest := []) ⟨hx, hb, hml, hown, hT⟩ (k_Opn_isGroupAround l dC dI cI cB cJ cZ ad NN E tM tC kK kV hNN H.size l1 r9 l2 x16 fl1 hw) ⟨callB_of 3 hT (gwt_in w_6_131) rfl rfl rfl (hT _ w_1_10) (hT _ w_6_129) (by decide +kernel) ⟨Nat.le_trans (Nat.le_of_ble_eq_true rfl) hRf, Nat.le_trans (Nat.le_of_ble_eq_true rfl) hRl⟩, hT _ w_6_130⟩ ⟨PVc.blind, PVc.at _ hW hK hN hE hS hF⟩ rfl rfl hl.1 rfl (lv_room (Nat.le_of_ble_eq_true rfl)) d_Opn_readField_73 ⟨hRc, hRs⟩) hS (fun q _ h => hF q h) hF (fun r19 x18 t H locs ht hvm hw hB hz1 hk1 hS => ?_)
      have hW := Wd.back hB ht hF
      clear hB ht hF hz1 hk1 hvm
      refine lv_if_eq (tgt := 95) hx hb d_Opn_readField_76 (by decide) (fun c20 => ?_) (fun c20 => ?_)
      · have hw := hw.1 c20
        exact t_Opn_readField_95 hx hb hml hown hT hK hN hA hRc hRs hRf hRl hNN hE hret  o l1 l2 r7 r9 r11 v15 x18 H locs ls fo fl1 hw hW hS (lv_sub hl [4, 5, 6, 3, 2, 1, 0] rfl)
      · have hw := hw.2 c20
        refine lv_aload_n hx hb d_Opn_readField_79 rfl (lv_at hl 4 rfl) ?_
        refine lv_iload hx hb d_Opn_readField_80 (lv_at hl 0 rfl) ?_
        refine lv_lload hx hb d_Opn_readField_82 (lv_at hl 1 rfl) ?_
        refine lv_l2i hx hb d_Opn_readField_84 rfl ?_
        have hF := hW.free hS hA
        refine va_calli (va_runV (C := R_Opn) (As := [.int v15, .int (r11 : Int64).toInt32]) (rest := []) ⟨hx, hb, hml, hown, hT⟩ (k_Opn_isName l dC dI cI cB cJ cZ ad NN E tM tC kK kV hNN H.size o v15 (r11 : Int64).toInt32 x18 fo hw) ⟨callB_of 2 hT (gwt_in w_6_135) rfl rfl rfl (hT _ w_1_10) (hT _ w_6_132) (by decide +kernel) ⟨Nat.le_trans (Nat.le_of_ble_eq_true rfl) hRf, Nat.le_trans (Nat.le_of_ble_eq_true rfl) hRl⟩, hT _ w_6_134, hT _ ws_36⟩ ⟨PVc.blind, va_recv hK hW.1 (ci := 7) (q0 := o) rfl (pic_obj fo.1 fo.2 (by decide)), PVc.at _ hW hK hN hE hS hF⟩ rfl rfl hl.1 rfl (lv_room (Nat.le_of_ble_eq_true rfl)) d_Opn_readField_85 ⟨hRc, hRs⟩) hS (fun q _ h => hF q h) hF (fun r22 x21 t H locs ht hvm hw hB hz1 hk1 hS => ?_)
        have hW := Wd.back hB ht hF
        clear hB ht hF hz1 hk1 hvm
        refine lv_if_eq (tgt := 95) hx hb d_Opn_readField_88 (by decide) (fun c23 => ?_) (fun c23 => ?_)
        · have hw := hw.1 c23
          exact t_Opn_readField_95 hx hb hml hown hT hK hN hA hRc hRs hRf hRl hNN hE hret  o l1 l2 r7 r9 r11 v15 x21 H locs ls fo fl1 hw hW hS (lv_sub hl [4, 5, 6, 3, 2, 1, 0] rfl)
        · have hw := hw.2 c23
          refine lv_iconst (v := 1) hx hb d_Opn_readField_91 (by decide) ?_
          refine lv_goto (tgt := 96) hx hb d_Opn_readField_92 (by decide) ?_
          exact t_Opn_readField_96 hx hb hml hown hT hK hN hA hRc hRs hRf hRl hNN hE hret  o l1 l2 r7 r9 r11 v15 1 x21 H locs ls fo fl1 hw hW hS (lv_sub hl [4, 5, 6, 3, 2, 1, 0] rfl)
  · have hw := hw.2 c14
    exact hret x12 H locs 38 ls d_Opn_readField_38 hw hW hS
set_option maxHeartbeats 4000000 in
set_option maxRecDepth 100000 in
theorem k_Opn_readField (l : Launch) (dC : Nat → ClassId) (dI : Nat → Nat → Nat) (cI cB cJ cZ : ClassId) (ad : Nat → Nat) (NN : Nat) (E : Heap) (tM tC : Nat) (kK kV : Nat → Nat) (hNN : 152 ≤ NN) (sz : Nat) (o : Nat) (l1 : Nat) (l2 : Int32) (x : St) (fo : o < NN ∧ kcC o = 7) (fl1 : l1 < NN ∧ kcC l1 = 3) {post : St → Prop} (hw : wp_Opn_readField post o l1 l2 x) : Met l y_Opn_readField (wsOf y_Opn_readField b_Opn_readField 10 (none)) ({ frames := 3, cells := 0, slots := 0, locals := 111 }) (va_Pc [.ref (ad o), .ref (ad l1), .int l2] (PVc dC dI cI cB cJ cZ ad stC kcC NN E tM tC kK kV sz x)) (va_Qv (fun (y : St) => post y) (fun y t => Wd dC dI cI cB cJ cZ ad stC kcC NN (va_A (pic ad stC kcC NN cI cB cJ cZ x) sz) y t.heap) (va_A (pic ad stC kcC NN cI cB cJ cZ x) sz)) 0 0 (va_A (pic ad stC kcC NN cI cB cJ cZ x) sz) := by
  refine Met.ofW (cc := b_Opn_readField) (maxL := 10) (ret := none) (by decide) rfl ?_
  intro p e s m args below meth c s₁ B hml hv
  obtain ⟨rfl, ⟨hsz, hW0, hK, hN⟩, hE⟩ := hv
  have hx := B.exec
  have hb := B.bytes
  have hr := B.returns
  have hts := atoms_spec B.pre
  have hT : ∀ w ∈ TG, w.before _ s = true := fun w h => hts w (List.mem_cons_of_mem _ h)
  have hown : s.vm.findClass R_Opn = some m.cls := findClass_of_methodNamed B.named
  have hlocks := B.notSynchronized
  subst hsz
  have hW : Wd dC dI cI cB cJ cZ ad stC kcC NN (va_A (pic ad stC kcC NN cI cB cJ cZ x) s.heap.size) x s.heap := ⟨hW0.1, hW0.2.1.self (sz := s.heap.size), hW0.2.2⟩
  generalize hAe : va_A (pic ad stC kcC NN cI cB cJ cZ x) s.heap.size = A at hW hE ⊢
  have hA : ∀ q : Nat, s.heap.size ≤ q → A q := fun q h => by rw [← hAe]; exact Or.inr h
  have hS : va_S A s.heap s.heap [] := va_S.rf
  have hl := lv_entry ([.ref (ad o), .ref (ad l1), .int l2]) (n := 10) (Nat.le_of_ble_eq_true rfl)
  rw [lg_entry_eq]
  generalize (lg_sl ([.ref (ad o), .ref (ad l1), .int l2]) ++ List.replicate (10 - (lg_sl ([.ref (ad o), .ref (ad l1), .int l2])).length) Slot.unset).toArray = ls at hl ⊢
  have hl : lv_has ls 10 [(0, .ref (ad o)), (1, .ref (ad l1)), (2, .int l2)] := hl
  exact t_Opn_readField_e hx hb hml hown hT hK hN hA (Nat.le_refl 0) (Nat.le_refl 0) (Nat.le_refl 3) (Nat.le_refl 111) hNN hE (fun x H locs pc ls hd hp hW hS => W.vret hx hb hr (fun t ht hM => ⟨⟨x, rfl, hp, Wd.back hW ht.symm (fun _ z => z)⟩, hS.F ht⟩) hS.2.2 hd hlocks)  o l1 l2 x _ _ ls fo fl1 hw hW hS hl
set_option maxRecDepth 100000 in
set_option maxHeartbeats 4000000 in
set_option maxRecDepth 100000 in
theorem t_Opn_readSchema_106 {p : Program} {l : Launch} {e : Env} {R : Room} {s : State} {m : MethodId} {args : Array Value} {below : List Frame} {meth : Method} {c : Code} {cells slots : Nat} {Q : State → Prop} {dC : Nat → ClassId} {dI : Nat → Nat → Nat} {cI cB cJ cZ : ClassId} {A : Nat → Prop} {ad : Nat → Nat} {NN : Nat} {E : Heap} {tM tC : Nat} {kK kV : Nat → Nat} {post : St → Prop} {rec79 : Nat → Nat → Int64 → Int32 → St → Prop} (hx : p.tables.exec = Jvm.exec) (hb : c.code = b_Opn_readSchema) (hml : c.maxLocals = 5) (hown : s.vm.findClass R_Opn = some m.cls) (hT : ∀ w ∈ TG, w.before args s = true) (hK : va_K (dC, dI) CL (TY cI cB cJ cZ) s) (hN : NW s) (hA : ∀ q : Nat, s.heap.size ≤ q → A q) (hRc : cells ≤ R.cells) (hRs : slots ≤ R.slots) (hRf : 4 ≤ R.frames) (hRl : 140 ≤ R.locals) (hNN : 152 ≤ NN) (hE : CE E tM tC kK kV A s) (hret : ∀ (x : St) (H : Heap) (locs : List Loc) (pc : Nat) (ls : Array Slot), decode b_Opn_readSchema pc = .ok (.return_, 1) → post x → Wd dC dI cI cB cJ cZ ad stC kcC NN A x H → va_S A s.heap H locs → W p l e R s m args below meth c H locs cells slots Q (F0 m pc ls [])) (hrec79 : ∀ (o : Nat) (l1 : Nat) (l2 : Int64) (l4 : Int32) (x : St) (H : Heap) (locs : List Loc) (ls : Array Slot), (o < NN ∧ kcC o = 7) → (l1 < NN ∧ kcC l1 = 3) → rec79 o l1 l2 l4 x → Wd dC dI cI cB cJ cZ ad stC kcC NN A x H → va_S A s.heap H locs → lv_has ls 5 [(0, .ref (ad o)), (1, .ref (ad l1)), (2, .long l2), (4, .int l4)] → W p l e R s m args below meth c H locs cells slots Q (F0 m 79 ls [])) : ∀ (o : Nat) (l1 : Nat) (l2 : Int64) (l4 : Int32) (s0 : Int32) (s1 : Nat) (x : St) (H : Heap) (locs : List Loc) (ls : Array Slot), (o < NN ∧ kcC o = 7) → (l1 < NN ∧ kcC l1 = 3) → (s1 < NN ∧ kcC s1 = 8) → j_Opn_readSchema_106 post rec79 o l1 l2 l4 s0 s1 x → Wd dC dI cI cB cJ cZ ad stC kcC NN A x H → va_S A s.heap H locs → lv_has ls 5 [(0, .ref (ad o)), (1, .ref (ad l1)), (2, .long l2), (4, .int l4)] → W p l e R s m args below meth c H locs cells slots Q (F0 m 106 ls [.int s0, .ref (ad s1)]) := by
  intro o l1 l2 l4 s0 s1 x H locs ls fo fl1 fs1 hw hW hS hl
  unfold j_Opn_readSchema_106 at hw
  refine lv_bipush (v := 15) hx hb d_Opn_readSchema_106 (by decide) ?_
  have hF := hW.free hS hA
  refine va_callv (va_runV (C := R_Src) (As := [.int s0, .int 15]) (rest := []) ⟨hx, hb, hml, hown, hT⟩ (k_Src_check l dC dI cI cB cJ cZ ad NN E tM tC kK kV hNN H.size s1 s0 15 x fs1 hw) ⟨callB_of 2 hT (gwt_in w_6_116) rfl rfl rfl (hT _ w_1_11) (hT _ w_6_113) (by decide +kernel) ⟨Nat.le_trans (Nat.le_of_ble_eq_true rfl) hRf, Nat.le_trans (Nat.le_of_ble_eq_true rfl) hRl⟩, hT _ w_6_114, hT _ w_6_115⟩ ⟨PVc.blind, va_recv hK hW.1 (ci := 8) (q0 := s1) rfl (pic_obj fs1.1 fs1.2 (by decide)), PVc.at _ hW hK hN hE hS hF⟩ rfl rfl hl.1 rfl (lv_room (Nat.le_of_ble_eq_true rfl)) d_Opn_readSchema_108 ⟨hRc, hRs⟩) hS (fun q _ h => hF q h) hF (fun  x1 t H locs ht hvm hw hB hz1 hk1 hS => ?_)
  have hW := Wd.back hB ht hF
  clear hB ht hF hz1 hk1 hvm
  refine lv_iinc (v := (l4 + 1)) (lv' := [(4, .int (l4 + 1)), (0, .ref (ad o)), (1, .ref (ad l1)), (2, .long l2)]) hx hb d_Opn_readSchema_111 hl (k := 3) rfl rfl (by decide) rfl (fun ls hl => ?_)
  refine lv_goto (tgt := 79) hx hb d_Opn_readSchema_114 (by decide) ?_
  exact hrec79 o l1 l2 (l4 + 1) x1 H locs ls fo fl1 hw hW hS (lv_sub hl [1, 2, 3, 0] rfl)
set_option maxRecDepth 100000 in
set_option maxHeartbeats 4000000 in
set_option maxRecDepth 100000 in
theorem t_Opn_readSchema_79 {p : Program} {l : Launch} {e : Env} {R : Room} {s : State} {m : MethodId} {args : Array Value} {below : List Frame} {meth : Method} {c : Code} {cells slots : Nat} {Q : State → Prop} {dC : Nat → ClassId} {dI : Nat → Nat → Nat} {cI cB cJ cZ : ClassId} {A : Nat → Prop} {ad : Nat → Nat} {NN : Nat} {E : Heap} {tM tC : Nat} {kK kV : Nat → Nat} {post : St → Prop} {rec79 : Nat → Nat → Int64 → Int32 → St → Prop} (hx : p.tables.exec = Jvm.exec) (hb : c.code = b_Opn_readSchema) (hml : c.maxLocals = 5) (hown : s.vm.findClass R_Opn = some m.cls) (hT : ∀ w ∈ TG, w.before args s = true) (hK : va_K (dC, dI) CL (TY cI cB cJ cZ) s) (hN : NW s) (hA : ∀ q : Nat, s.heap.size ≤ q → A q) (hRc : cells ≤ R.cells) (hRs : slots ≤ R.slots) (hRf : 4 ≤ R.frames) (hRl : 140 ≤ R.locals) (hNN : 152 ≤ NN) (hE : CE E tM tC kK kV A s) (hret : ∀ (x : St) (H : Heap) (locs : List Loc) (pc : Nat) (ls : Array Slot), decode b_Opn_readSchema pc = .ok (.return_, 1) → post x → Wd dC dI cI cB cJ cZ ad stC kcC NN A x H → va_S A s.heap H locs → W p l e R s m args below meth c H locs cells slots Q (F0 m pc ls [])) (hrec79 : ∀ (o : Nat) (l1 : Nat) (l2 : Int64) (l4 : Int32) (x : St) (H : Heap) (locs : List Loc) (ls : Array Slot), (o < NN ∧ kcC o = 7) → (l1 < NN ∧ kcC l1 = 3) → rec79 o l1 l2 l4 x → Wd dC dI cI cB cJ cZ ad stC kcC NN A x H → va_S A s.heap H locs → lv_has ls 5 [(0, .ref (ad o)), (1, .ref (ad l1)), (2, .long l2), (4, .int l4)] → W p l e R s m args below meth c H locs cells slots Q (F0 m 79 ls [])) : ∀ (o : Nat) (l1 : Nat) (l2 : Int64) (l4 : Int32) (x : St) (H : Heap) (locs : List Loc) (ls : Array Slot), (o < NN ∧ kcC o = 7) → (l1 < NN ∧ kcC l1 = 3) → j_Opn_readSchema_79 post rec79 o l1 l2 l4 x → Wd dC dI cI cB cJ cZ ad stC kcC NN A x H → va_S A s.heap H locs → lv_has ls 5 [(0, .ref (ad o)), (1, .ref (ad l1)), (2, .long l2), (4, .int l4)] → W p l e R s m args below meth c H locs cells slots Q (F0 m 79 ls []) := by
  intro o l1 l2 l4 x H locs ls fo fl1 hw hW hS hl
  unfold j_Opn_readSchema_79 at hw
  refine lv_iload hx hb d_Opn_readSchema_79 (lv_at hl 3 rfl) ?_
  refine lv_aload_n hx hb d_Opn_readSchema_81 rfl (lv_at hl 1 rfl) ?_
  refine w_geti (k := 0) (t := 3) (C := R_Sch) (T := F_Sch) (N := 13) hx hb hT hown hK hW fl1.1 fl1.2 (by decide) in_Sch rfl rfl (by decide) rfl fr_Sch_0 w_1_132 d_Opn_readSchema_82 ?_
  refine lv_icmp_ge (tgt := 117) hx hb d_Opn_readSchema_85 (by decide) (fun c2 => ?_) (fun c2 => ?_)
  · have hw := hw.1 c2
    exact hret x H locs 117 ls d_Opn_readSchema_117 hw hW hS
  · have hw := hw.2 c2
    refine lv_aload_n hx hb d_Opn_readSchema_88 rfl (lv_at hl 0 rfl) ?_
    refine w_getf (q := (stC o 1)) (k := 1) (t := 7) (C := R_Opn) (T := F_Opn) (N := 17) hx hb hT hown hK hW fo.1 fo.2 (by decide) in_Opn rfl rfl (by decide) rfl fr_Opn_1 w_3_16 d_Opn_readSchema_89 rfl ?_
    refine lv_aload_n hx hb d_Opn_readSchema_92 rfl (lv_at hl 1 rfl) ?_
    refine lv_iload hx hb d_Opn_readSchema_93 (lv_at hl 3 rfl) ?_
    have hF := hW.free hS hA
    refine va_calli (va_runV (C := R_Sch) (As := [.int l4]) (rest := [.ref (ad (stC o 1))]) ⟨hx, hb, hml, hown, hT⟩ (k_Sch_isEmptyGroup l dC dI cI cB cJ cZ ad NN E tM tC kK kV hNN H.size l1 l4 x fl1 hw) ⟨callB_of 1 hT (gwt_in w_4_114) rfl rfl rfl (hT _ w_1_5) (hT _ w_6_139) (by decide +kernel) ⟨Nat.le_trans (Nat.le_of_ble_eq_true rfl) hRf, Nat.le_trans (Nat.le_of_ble_eq_true rfl) hRl⟩, hT _ w_4_112, hT _ w_4_113⟩ ⟨PVc.blind, va_recv hK hW.1 (ci := 3) (q0 := l1) rfl (pic_obj fl1.1 fl1.2 (by decide)), PVc.at _ hW hK hN hE hS hF⟩ rfl rfl hl.1 rfl (lv_room (Nat.le_of_ble_eq_true rfl)) d_Opn_readSchema_95 ⟨hRc, hRs⟩) hS (fun q _ h => hF q h) hF (fun r4 x3 t H locs ht hvm hw hB hz1 hk1 hS => ?_)
    have hW := Wd.back hB ht hF
    clear hB ht hF hz1 hk1 hvm
    refine lv_if_ne (tgt := 105) hx hb d_Opn_readSchema_98 (by decide) (fun c5 => ?_) (fun c5 => ?_)
    · have hw := hw.1 c5
      refine lv_iconst (v := 0) hx hb d_Opn_readSchema_105 (by decide) ?_
      exact t_Opn_readSchema_106 hx hb hml hown hT hK hN hA hRc hRs hRf hRl hNN hE hret hrec79 o l1 l2 l4 0 (stC o 1) x3 H locs ls fo fl1 (st_ty hNN fo.1 fo.2 rfl) hw hW hS (lv_sub hl [0, 1, 2, 3] rfl)
    · have hw := hw.2 c5
      refine lv_iconst (v := 1) hx hb d_Opn_readSchema_101 (by decide) ?_
      refine lv_goto (tgt := 106) hx hb d_Opn_readSchema_102 (by decide) ?_
      exact t_Opn_readSchema_106 hx hb hml hown hT hK hN hA hRc hRs hRf hRl hNN hE hret hrec79 o l1 l2 l4 1 (stC o 1) x3 H locs ls fo fl1 (st_ty hNN fo.1 fo.2 rfl) hw hW hS (lv_sub hl [0, 1, 2, 3] rfl)
set_option maxHeartbeats 4000000 in
set_option maxRecDepth 100000 in
theorem tl_Opn_readSchema_79 {p : Program} {l : Launch} {e : Env} {R : Room} {s : State} {m : MethodId} {args : Array Value} {below : List Frame} {meth : Method} {c : Code} {cells slots : Nat} {Q : State → Prop} {dC : Nat → ClassId} {dI : Nat → Nat → Nat} {cI cB cJ cZ : ClassId} {A : Nat → Prop} {ad : Nat → Nat} {NN : Nat} {E : Heap} {tM tC : Nat} {kK kV : Nat → Nat} {post : St → Prop} (hx : p.tables.exec = Jvm.exec) (hb : c.code = b_Opn_readSchema) (hml : c.maxLocals = 5) (hown : s.vm.findClass R_Opn = some m.cls) (hT : ∀ w ∈ TG, w.before args s = true) (hK : va_K (dC, dI) CL (TY cI cB cJ cZ) s) (hN : NW s) (hA : ∀ q : Nat, s.heap.size ≤ q → A q) (hRc : cells ≤ R.cells) (hRs : slots ≤ R.slots) (hRf : 4 ≤ R.frames) (hRl : 140 ≤ R.locals) (hNN : 152 ≤ NN) (hE : CE E tM tC kK kV A s) (hret : ∀ (x : St) (H : Heap) (locs : List Loc) (pc : Nat) (ls : Array Slot), decode b_Opn_readSchema pc = .ok (.return_, 1) → post x → Wd dC dI cI cB cJ cZ ad stC kcC NN A x H → va_S A s.heap H locs → W p l e R s m args below meth c H locs cells slots Q (F0 m pc ls []))  : ∀ n : Nat, ∀ (o : Nat) (l1 : Nat) (l2 : Int64) (l4 : Int32) (x : St) (H : Heap) (locs : List Loc) (ls : Array Slot), (o < NN ∧ kcC o = 7) → (l1 < NN ∧ kcC l1 = 3) → wl_Opn_readSchema_79 post n o l1 l2 l4 x → Wd dC dI cI cB cJ cZ ad stC kcC NN A x H → va_S A s.heap H locs → lv_has ls 5 [(0, .ref (ad o)), (1, .ref (ad l1)), (2, .long l2), (4, .int l4)] → W p l e R s m args below meth c H locs cells slots Q (F0 m 79 ls []) := by
  intro n
  induction n with
  | zero => intro o l1 l2 l4 x H locs ls fo fl1 hw; exact hw.elim
  | succ n ih => intro o l1 l2 l4 x H locs ls fo fl1 hw hW hS hl; exact t_Opn_readSchema_79 hx hb hml hown hT hK hN hA hRc hRs hRf hRl hNN hE hret  ih o l1 l2 l4 x H locs ls fo fl1 hw hW hS hl
set_option maxRecDepth 100000 in
set_option maxHeartbeats 4000000 in
set_option maxRecDepth 100000 in
theorem t_Opn_readSchema_76 {p : Program} {l : Launch} {e : Env} {R : Room} {s : State} {m : MethodId} {args : Array Value} {below : List Frame} {meth : Method} {c : Code} {cells slots : Nat} {Q : State → Prop} {dC : Nat → ClassId} {dI : Nat → Nat → Nat} {cI cB cJ cZ : ClassId} {A : Nat → Prop} {ad : Nat → Nat} {NN : Nat} {E : Heap} {tM tC : Nat} {kK kV : Nat → Nat} {post : St → Prop} (hx : p.tables.exec = Jvm.exec) (hb : c.code = b_Opn_readSchema) (hml : c.maxLocals = 5) (hown : s.vm.findClass R_Opn = some m.cls) (hT : ∀ w ∈ TG, w.before args s = true) (hK : va_K (dC, dI) CL (TY cI cB cJ cZ) s) (hN : NW s) (hA : ∀ q : Nat, s.heap.size ≤ q → A q) (hRc : cells ≤ R.cells) (hRs : slots ≤ R.slots) (hRf : 4 ≤ R.frames) (hRl : 140 ≤ R.locals) (hNN : 152 ≤ NN) (hE : CE E tM tC kK kV A s) (hret : ∀ (x : St) (H : Heap) (locs : List Loc) (pc : Nat) (ls : Array Slot), decode b_Opn_readSchema pc = .ok (.return_, 1) → post x → Wd dC dI cI cB cJ cZ ad stC kcC NN A x H → va_S A s.heap H locs → W p l e R s m args below meth c H locs cells slots Q (F0 m pc ls []))  : ∀ (o : Nat) (l1 : Nat) (l2 : Int64) (l4 : Int32) (x : St) (H : Heap) (locs : List Loc) (ls : Array Slot), (o < NN ∧ kcC o = 7) → (l1 < NN ∧ kcC l1 = 3) → j_Opn_readSchema_76 post o l1 l2 l4 x → Wd dC dI cI cB cJ cZ ad stC kcC NN A x H → va_S A s.heap H locs → lv_has ls 5 [(0, .ref (ad o)), (1, .ref (ad l1)), (2, .long l2), (4, .int l4)] → W p l e R s m args below meth c H locs cells slots Q (F0 m 76 ls []) := by
  intro o l1 l2 l4 x H locs ls fo fl1 hw hW hS hl
  unfold j_Opn_readSchema_76 at hw
  refine lv_iconst (v := 0) hx hb d_Opn_readSchema_76 (by decide) ?_
  refine lv_istore (lv' := [(4, .int 0), (0, .ref (ad o)), (1, .ref (ad l1)), (2, .long l2)]) hx hb d_Opn_readSchema_77 hl (by decide) rfl (fun ls hl => ?_)
  obtain ⟨n, hw⟩ := hw
  exact tl_Opn_readSchema_79 hx hb hml hown hT hK hN hA hRc hRs hRf hRl hNN hE hret  n o l1 l2 0 x H locs ls fo fl1 hw hW hS (lv_sub hl [1, 2, 3, 0] rfl)
set_option maxRecDepth 100000 in
set_option maxHeartbeats 4000000 in
set_option maxRecDepth 100000 in
theorem t_Opn_readSchema_45 {p : Program} {l : Launch} {e : Env} {R : Room} {s : State} {m : MethodId} {args : Array Value} {below : List Frame} {meth : Method} {c : Code} {cells slots : Nat} {Q : State → Prop} {dC : Nat → ClassId} {dI : Nat → Nat → Nat} {cI cB cJ cZ : ClassId} {A : Nat → Prop} {ad : Nat → Nat} {NN : Nat} {E : Heap} {tM tC : Nat} {kK kV : Nat → Nat} {post : St → Prop} {rec45 : Nat → Nat → Int64 → Int32 → St → Prop} (hx : p.tables.exec = Jvm.exec) (hb : c.code = b_Opn_readSchema) (hml : c.maxLocals = 5) (hown : s.vm.findClass R_Opn = some m.cls) (hT : ∀ w ∈ TG, w.before args s = true) (hK : va_K (dC, dI) CL (TY cI cB cJ cZ) s) (hN : NW s) (hA : ∀ q : Nat, s.heap.size ≤ q → A q) (hRc : cells ≤ R.cells) (hRs : slots ≤ R.slots) (hRf : 4 ≤ R.frames) (hRl : 140 ≤ R.locals) (hNN : 152 ≤ NN) (hE : CE E tM tC kK kV A s) (hret : ∀ (x : St) (H : Heap) (locs : List Loc) (pc : Nat) (ls : Array Slot), decode b_Opn_readSchema pc = .ok (.return_, 1) → post x → Wd dC dI cI cB cJ cZ ad stC kcC NN A x H → va_S A s.heap H locs → W p l e R s m args below meth c H locs cells slots Q (F0 m pc ls [])) (hrec45 : ∀ (o : Nat) (l1 : Nat) (l2 : Int64) (l4 : Int32) (x : St) (H : Heap) (locs : List Loc) (ls : Array Slot), (o < NN ∧ kcC o = 7) → (l1 < NN ∧ kcC l1 = 3) → rec45 o l1 l2 l4 x → Wd dC dI cI cB cJ cZ ad stC kcC NN A x H → va_S A s.heap H locs → lv_has ls 5 [(0, .ref (ad o)), (1, .ref (ad l1)), (2, .long l2), (4, .int l4)] → W p l e R s m args below meth c H locs cells slots Q (F0 m 45 ls [])) : ∀ (o : Nat) (l1 : Nat) (l2 : Int64) (l4 : Int32) (x : St) (H : Heap) (locs : List Loc) (ls : Array Slot), (o < NN ∧ kcC o = 7) → (l1 < NN ∧ kcC l1 = 3) → j_Opn_readSchema_45 post rec45 o l1 l2 l4 x → Wd dC dI cI cB cJ cZ ad stC kcC NN A x H → va_S A s.heap H locs → lv_has ls 5 [(0, .ref (ad o)), (1, .ref (ad l1)), (2, .long l2), (4, .int l4)] → W p l e R s m args below meth c H locs cells slots Q (F0 m 45 ls []) := by
  intro o l1 l2 l4 x H locs ls fo fl1 hw hW hS hl
  unfold j_Opn_readSchema_45 at hw
  refine lv_iload hx hb d_Opn_readSchema_45 (lv_at hl 3 rfl) ?_
  refine lv_i2l hx hb d_Opn_readSchema_47 rfl ?_
  refine lv_lload_n hx hb d_Opn_readSchema_48 rfl (lv_at hl 2 rfl) ?_
  refine W.lcmp hx hb d_Opn_readSchema_49 ?_
  refine lv_if_ge (tgt := 76) hx hb d_Opn_readSchema_50 (by decide) (fun c6 => ?_) (fun c6 => ?_)
  · have hw := hw.1 c6
    exact t_Opn_readSchema_76 hx hb hml hown hT hK hN hA hRc hRs hRf hRl hNN hE hret  o l1 l2 l4 x H locs ls fo fl1 hw hW hS (lv_sub hl [0, 1, 2, 3] rfl)
  · have hw := hw.2 c6
    refine lv_aload_n hx hb d_Opn_readSchema_53 rfl (lv_at hl 0 rfl) ?_
    refine w_getf (q := (stC o 1)) (k := 1) (t := 7) (C := R_Opn) (T := F_Opn) (N := 17) hx hb hT hown hK hW fo.1 fo.2 (by decide) in_Opn rfl rfl (by decide) rfl fr_Opn_1 w_3_16 d_Opn_readSchema_54 rfl ?_
    refine w_geti (k := 3) (t := 8) (C := R_Src) (T := F_Src) (N := 5) hx hb hT hown hK hW (st_ty hNN fo.1 fo.2 rfl).1 (st_ty hNN fo.1 fo.2 rfl).2 (by decide) in_Src rfl rfl (by decide) rfl fr_Src_3 w_3_2 d_Opn_readSchema_57 ?_
    refine lv_if_ne (tgt := 76) hx hb d_Opn_readSchema_60 (by decide) (fun c7 => ?_) (fun c7 => ?_)
    · have hw := hw.1 c7
      exact t_Opn_readSchema_76 hx hb hml hown hT hK hN hA hRc hRs hRf hRl hNN hE hret  o l1 l2 l4 x H locs ls fo fl1 hw hW hS (lv_sub hl [0, 1, 2, 3] rfl)
    · have hw := hw.2 c7
      refine lv_aload_n hx hb d_Opn_readSchema_63 rfl (lv_at hl 0 rfl) ?_
      refine lv_aload_n hx hb d_Opn_readSchema_64 rfl (lv_at hl 1 rfl) ?_
      refine lv_iload hx hb d_Opn_readSchema_65 (lv_at hl 3 rfl) ?_
      have hF := hW.free hS hA
      refine va_callv (va_runV (C := R_Opn) (As := [.ref (ad l1), .int l4]) (rest := []) ⟨hx, hb, hml, hown, hT⟩ (k_Opn_readField l dC dI cI cB cJ cZ ad NN E tM tC kK kV hNN H.size o l1 l4 x fo fl1 hw) ⟨callB_of 2 hT (gwt_in w_6_120) rfl rfl rfl (hT _ w_1_10) (hT _ w_6_117) (by decide +kernel) ⟨Nat.le_trans (Nat.le_of_ble_eq_true rfl) hRf, Nat.le_trans (Nat.le_of_ble_eq_true rfl) hRl⟩, hT _ w_6_119, hT _ ws_35⟩ ⟨PVc.blind, va_recv hK hW.1 (ci := 7) (q0 := o) rfl (pic_obj fo.1 fo.2 (by decide)), PVc.at _ hW hK hN hE hS hF⟩ rfl rfl hl.1 rfl (lv_room (Nat.le_of_ble_eq_true rfl)) d_Opn_readSchema_67 ⟨hRc, hRs⟩) hS (fun q _ h => hF q h) hF (fun  x8 t H locs ht hvm hw hB hz1 hk1 hS => ?_)
      have hW := Wd.back hB ht hF
      clear hB ht hF hz1 hk1 hvm
      refine lv_iinc (v := (l4 + 1)) (lv' := [(4, .int (l4 + 1)), (0, .ref (ad o)), (1, .ref (ad l1)), (2, .long l2)]) hx hb d_Opn_readSchema_70 hl (k := 3) rfl rfl (by decide) rfl (fun ls hl => ?_)
      refine lv_goto (tgt := 45) hx hb d_Opn_readSchema_73 (by decide) ?_
      exact hrec45 o l1 l2 (l4 + 1) x8 H locs ls fo fl1 hw hW hS (lv_sub hl [1, 2, 3, 0] rfl)
set_option maxHeartbeats 4000000 in
set_option maxRecDepth 100000 in
theorem tl_Opn_readSchema_45 {p : Program} {l : Launch} {e : Env} {R : Room} {s : State} {m : MethodId} {args : Array Value} {below : List Frame} {meth : Method} {c : Code} {cells slots : Nat} {Q : State → Prop} {dC : Nat → ClassId} {dI : Nat → Nat → Nat} {cI cB cJ cZ : ClassId} {A : Nat → Prop} {ad : Nat → Nat} {NN : Nat} {E : Heap} {tM tC : Nat} {kK kV : Nat → Nat} {post : St → Prop} (hx : p.tables.exec = Jvm.exec) (hb : c.code = b_Opn_readSchema) (hml : c.maxLocals = 5) (hown : s.vm.findClass R_Opn = some m.cls) (hT : ∀ w ∈ TG, w.before args s = true) (hK : va_K (dC, dI) CL (TY cI cB cJ cZ) s) (hN : NW s) (hA : ∀ q : Nat, s.heap.size ≤ q → A q) (hRc : cells ≤ R.cells) (hRs : slots ≤ R.slots) (hRf : 4 ≤ R.frames) (hRl : 140 ≤ R.locals) (hNN : 152 ≤ NN) (hE : CE E tM tC kK kV A s) (hret : ∀ (x : St) (H : Heap) (locs : List Loc) (pc : Nat) (ls : Array Slot), decode b_Opn_readSchema pc = .ok (.return_, 1) → post x → Wd dC dI cI cB cJ cZ ad stC kcC NN A x H → va_S A s.heap H locs → W p l e R s m args below meth c H locs cells slots Q (F0 m pc ls []))  : ∀ n : Nat, ∀ (o : Nat) (l1 : Nat) (l2 : Int64) (l4 : Int32) (x : St) (H : Heap) (locs : List Loc) (ls : Array Slot), (o < NN ∧ kcC o = 7) → (l1 < NN ∧ kcC l1 = 3) → wl_Opn_readSchema_45 post n o l1 l2 l4 x → Wd dC dI cI cB cJ cZ ad stC kcC NN A x H → va_S A s.heap H locs → lv_has ls 5 [(0, .ref (ad o)), (1, .ref (ad l1)), (2, .long l2), (4, .int l4)] → W p l e R s m args below meth c H locs cells slots Q (F0 m 45 ls []) := by
  intro n
  induction n with
  | zero => intro o l1 l2 l4 x H locs ls fo fl1 hw; exact hw.elim
  | succ n ih => intro o l1 l2 l4 x H locs ls fo fl1 hw hW hS hl; exact t_Opn_readSchema_45 hx hb hml hown hT hK hN hA hRc hRs hRf hRl hNN hE hret  ih o l1 l2 l4 x H locs ls fo fl1 hw hW hS hl
set_option maxRecDepth 100000 in
set_option maxHeartbeats 4000000 in
set_option maxRecDepth 100000 in
theorem t_Opn_readSchema_37 {p : Program} {l : Launch} {e : Env} {R : Room} {s : State} {m : MethodId} {args : Array Value} {below : List Frame} {meth : Method} {c : Code} {cells slots : Nat} {Q : State → Prop} {dC : Nat → ClassId} {dI : Nat → Nat → Nat} {cI cB cJ cZ : ClassId} {A : Nat → Prop} {ad : Nat → Nat} {NN : Nat} {E : Heap} {tM tC : Nat} {kK kV : Nat → Nat} {post : St → Prop} (hx : p.tables.exec = Jvm.exec) (hb : c.code = b_Opn_readSchema) (hml : c.maxLocals = 5) (hown : s.vm.findClass R_Opn = some m.cls) (hT : ∀ w ∈ TG, w.before args s = true) (hK : va_K (dC, dI) CL (TY cI cB cJ cZ) s) (hN : NW s) (hA : ∀ q : Nat, s.heap.size ≤ q → A q) (hRc : cells ≤ R.cells) (hRs : slots ≤ R.slots) (hRf : 4 ≤ R.frames) (hRl : 140 ≤ R.locals) (hNN : 152 ≤ NN) (hE : CE E tM tC kK kV A s) (hret : ∀ (x : St) (H : Heap) (locs : List Loc) (pc : Nat) (ls : Array Slot), decode b_Opn_readSchema pc = .ok (.return_, 1) → post x → Wd dC dI cI cB cJ cZ ad stC kcC NN A x H → va_S A s.heap H locs → W p l e R s m args below meth c H locs cells slots Q (F0 m pc ls []))  : ∀ (o : Nat) (l1 : Nat) (l2 : Int64) (s0 : Int32) (s1 : Nat) (x : St) (H : Heap) (locs : List Loc) (ls : Array Slot), (o < NN ∧ kcC o = 7) → (l1 < NN ∧ kcC l1 = 3) → (s1 < NN ∧ kcC s1 = 8) → j_Opn_readSchema_37 post o l1 l2 s0 s1 x → Wd dC dI cI cB cJ cZ ad stC kcC NN A x H → va_S A s.heap H locs → lv_has ls 5 [(0, .ref (ad o)), (1, .ref (ad l1)), (2, .long l2)] → W p l e R s m args below meth c H locs cells slots Q (F0 m 37 ls [.int s0, .ref (ad s1)]) := by
  intro o l1 l2 s0 s1 x H locs ls fo fl1 fs1 hw hW hS hl
  unfold j_Opn_readSchema_37 at hw
  refine lv_bipush (v := 15) hx hb d_Opn_readSchema_37 (by decide) ?_
  have hF := hW.free hS hA
  refine va_callv (va_runV (C := R_Src) (As := [.int s0, .int 15]) (rest := []) ⟨hx, hb, hml, hown, hT⟩ (k_Src_check l dC dI cI cB cJ cZ ad NN E tM tC kK kV hNN H.size s1 s0 15 x fs1 hw) ⟨callB_of 2 hT (gwt_in w_6_116) rfl rfl rfl (hT _ w_1_11) (hT _ w_6_113) (by decide +kernel) ⟨Nat.le_trans (Nat.le_of_ble_eq_true rfl) hRf, Nat.le_trans (Nat.le_of_ble_eq_true rfl) hRl⟩, hT _ w_6_114, hT _ w_6_115⟩ ⟨PVc.blind, va_recv hK hW.1 (ci := 8) (q0 := s1) rfl (pic_obj fs1.1 fs1.2 (by decide)), PVc.at _ hW hK hN hE hS hF⟩ rfl rfl hl.1 rfl (lv_room (Nat.le_of_ble_eq_true rfl)) d_Opn_readSchema_39 ⟨hRc, hRs⟩) hS (fun q _ h => hF q h) hF (fun  x9 t H locs ht hvm hw hB hz1 hk1 hS => ?_)
  have hW := Wd.back hB ht hF
  clear hB ht hF hz1 hk1 hvm
  refine lv_iconst (v := 0) hx hb d_Opn_readSchema_42 (by decide) ?_
  refine lv_istore (lv' := [(4, .int 0), (0, .ref (ad o)), (1, .ref (ad l1)), (2, .long l2)]) hx hb d_Opn_readSchema_43 hl (by decide) rfl (fun ls hl => ?_)
  obtain ⟨n, hw⟩ := hw
  exact tl_Opn_readSchema_45 hx hb hml hown hT hK hN hA hRc hRs hRf hRl hNN hE hret  n o l1 l2 0 x9 H locs ls fo fl1 hw hW hS (lv_sub hl [1, 2, 3, 0] rfl)
set_option maxRecDepth 100000 in
set_option maxHeartbeats 4000000 in
set_option maxRecDepth 100000 in
theorem t_Opn_readSchema_36 {p : Program} {l : Launch} {e : Env} {R : Room} {s : State} {m : MethodId} {args : Array Value} {below : List Frame} {meth : Method} {c : Code} {cells slots : Nat} {Q : State → Prop} {dC : Nat → ClassId} {dI : Nat → Nat → Nat} {cI cB cJ cZ : ClassId} {A : Nat → Prop} {ad : Nat → Nat} {NN : Nat} {E : Heap} {tM tC : Nat} {kK kV : Nat → Nat} {post : St → Prop} (hx : p.tables.exec = Jvm.exec) (hb : c.code = b_Opn_readSchema) (hml : c.maxLocals = 5) (hown : s.vm.findClass R_Opn = some m.cls) (hT : ∀ w ∈ TG, w.before args s = true) (hK : va_K (dC, dI) CL (TY cI cB cJ cZ) s) (hN : NW s) (hA : ∀ q : Nat, s.heap.size ≤ q → A q) (hRc : cells ≤ R.cells) (hRs : slots ≤ R.slots) (hRf : 4 ≤ R.frames) (hRl : 140 ≤ R.locals) (hNN : 152 ≤ NN) (hE : CE E tM tC kK kV A s) (hret : ∀ (x : St) (H : Heap) (locs : List Loc) (pc : Nat) (ls : Array Slot), decode b_Opn_readSchema pc = .ok (.return_, 1) → post x → Wd dC dI cI cB cJ cZ ad stC kcC NN A x H → va_S A s.heap H locs → W p l e R s m args below meth c H locs cells slots Q (F0 m pc ls []))  : ∀ (o : Nat) (l1 : Nat) (l2 : Int64) (s0 : Nat) (x : St) (H : Heap) (locs : List Loc) (ls : Array Slot), (o < NN ∧ kcC o = 7) → (l1 < NN ∧ kcC l1 = 3) → (s0 < NN ∧ kcC s0 = 8) → j_Opn_readSchema_36 post o l1 l2 s0 x → Wd dC dI cI cB cJ cZ ad stC kcC NN A x H → va_S A s.heap H locs → lv_has ls 5 [(0, .ref (ad o)), (1, .ref (ad l1)), (2, .long l2)] → W p l e R s m args below meth c H locs cells slots Q (F0 m 36 ls [.ref (ad s0)]) := by
  intro o l1 l2 s0 x H locs ls fo fl1 fs0 hw hW hS hl
  unfold j_Opn_readSchema_36 at hw
  refine lv_iconst (v := 0) hx hb d_Opn_readSchema_36 (by decide) ?_
  exact t_Opn_readSchema_37 hx hb hml hown hT hK hN hA hRc hRs hRf hRl hNN hE hret  o l1 l2 0 s0 x H locs ls fo fl1 fs0 hw hW hS (lv_sub hl [0, 1, 2] rfl)
set_option maxRecDepth 100000 in
set_option maxHeartbeats 4000000 in
set_option maxRecDepth 100000 in
theorem t_Opn_readSchema_e {p : Program} {l : Launch} {e : Env} {R : Room} {s : State} {m : MethodId} {args : Array Value} {below : List Frame} {meth : Method} {c : Code} {cells slots : Nat} {Q : State → Prop} {dC : Nat → ClassId} {dI : Nat → Nat → Nat} {cI cB cJ cZ : ClassId} {A : Nat → Prop} {ad : Nat → Nat} {NN : Nat} {E : Heap} {tM tC : Nat} {kK kV : Nat → Nat} {post : St → Prop} (hx : p.tables.exec = Jvm.exec) (hb : c.code = b_Opn_readSchema) (hml : c.maxLocals = 5) (hown : s.vm.findClass R_Opn = some m.cls) (hT : ∀ w ∈ TG, w.before args s = true) (hK : va_K (dC, dI) CL (TY cI cB cJ cZ) s) (hN : NW s) (hA : ∀ q : Nat, s.heap.size ≤ q → A q) (hRc : cells ≤ R.cells) (hRs : slots ≤ R.slots) (hRf : 4 ≤ R.frames) (hRl : 140 ≤ R.locals) (hNN : 152 ≤ NN) (hE : CE E tM tC kK kV A s) (hret : ∀ (x : St) (H : Heap) (locs : List Loc) (pc : Nat) (ls : Array Slot), decode b_Opn_readSchema pc = .ok (.return_, 1) → post x → Wd dC dI cI cB cJ cZ ad stC kcC NN A x H → va_S A s.heap H locs → W p l e R s m args below meth c H locs cells slots Q (F0 m pc ls [])) : ∀ (o : Nat) (l1 : Nat) (x : St) (H : Heap) (locs : List Loc) (ls : Array Slot), (o < NN ∧ kcC o = 7) → (l1 < NN ∧ kcC l1 = 3) → wp_Opn_readSchema post o l1 x → Wd dC dI cI cB cJ cZ ad stC kcC NN A x H → va_S A s.heap H locs → lv_has ls 5 [(0, .ref (ad o)), (1, .ref (ad l1))] → W p l e R s m args below meth c H locs cells slots Q (F0 m 0 ls []) := by
  intro o l1 x H locs ls fo fl1 hw hW hS hl
  unfold wp_Opn_readSchema at hw
  refine lv_aload_n hx hb d_Opn_readSchema_0 rfl (lv_at hl 1 rfl) ?_
  have hF := hW.free hS hA
  refine va_callv (va_runV (C := R_Sch) (As := []) (rest := []) ⟨hx, hb, hml, hown, hT⟩ (k_Sch_forget l dC dI cI cB cJ cZ ad NN E tM tC kK kV hNN H.size l1 x fl1 hw) ⟨callB_of 0 hT (gwt_in w_4_102) rfl rfl rfl (hT _ w_1_5) (hT _ w_6_104) (by decide +kernel) ⟨Nat.le_trans (Nat.le_of_ble_eq_true rfl) hRf, Nat.le_trans (Nat.le_of_ble_eq_true rfl) hRl⟩, hT _ w_4_100, hT _ w_4_101⟩ ⟨PVc.blind, va_recv hK hW.1 (ci := 3) (q0 := l1) rfl (pic_obj fl1.1 fl1.2 (by decide)), PVc.at _ hW hK hN hE hS hF⟩ rfl rfl hl.1 rfl (lv_room (Nat.le_of_ble_eq_true rfl)) d_Opn_readSchema_1 ⟨hRc, hRs⟩) hS (fun q _ h => hF q h) hF (fun  x10 t H locs ht hvm hw hB hz1 hk1 hS => ?_)
  have hW := Wd.back hB ht hF
  clear hB ht hF hz1 hk1 hvm
  refine lv_aload_n hx hb d_Opn_readSchema_4 rfl (lv_at hl 0 rfl) ?_
  refine w_getf (q := (stC o 1)) (k := 1) (t := 7) (C := R_Opn) (T := F_Opn) (N := 17) hx hb hT hown hK hW fo.1 fo.2 (by decide) in_Opn rfl rfl (by decide) rfl fr_Opn_1 w_3_16 d_Opn_readSchema_5 rfl ?_
  have hF := hW.free hS hA
  refine va_calll (va_runV (C := R_Src) (As := []) (rest := []) ⟨hx, hb, hml, hown, hT⟩ (k_Src_readVarint l dC dI cI cB cJ cZ ad NN E tM tC kK kV hNN H.size (stC o 1) x10 (st_ty hNN fo.1 fo.2 rfl) hw) ⟨callB_of 0 hT (gwt_in w_6_108) rfl rfl rfl (hT _ w_1_11) (hT _ w_6_105) (by decide +kernel) ⟨Nat.le_trans (Nat.le_of_ble_eq_true rfl) hRf, Nat.le_trans (Nat.le_of_ble_eq_true rfl) hRl⟩, hT _ w_6_106, hT _ w_6_107⟩ ⟨PVc.blind, va_recv hK hW.1 (ci := 8) (q0 := (stC o 1)) rfl (pic_obj (st_ty hNN fo.1 fo.2 rfl).1 (st_ty hNN fo.1 fo.2 rfl).2 (by decide)), PVc.at _ hW hK hN hE hS hF⟩ rfl rfl hl.1 rfl (lv_room (Nat.le_of_ble_eq_true rfl)) d_Opn_readSchema_8 ⟨hRc, hRs⟩) hS (fun q _ h => hF q h) hF (fun r12 x11 t H locs ht hvm hw hB hz1 hk1 hS => ?_)
  have hW := Wd.back hB ht hF
  clear hB ht hF hz1 hk1 hvm
  refine lv_lstore_n (lv' := [(2, .long r12), (0, .ref (ad o)), (1, .ref (ad l1))]) hx hb d_Opn_readSchema_11 rfl hl (by decide) rfl (fun ls hl => ?_)
  refine lv_aload_n hx hb d_Opn_readSchema_12 rfl (lv_at hl 1 rfl) ?_
  refine w_getf (q := (stC o 1)) (k := 1) (t := 7) (C := R_Opn) (T := F_Opn) (N := 17) hx hb hT hown hK hW fo.1 fo.2 (by decide) in_Opn rfl rfl (by decide) rfl fr_Opn_1 w_3_16 d_Opn_readSchema_13 rfl ?_
  refine lv_lload_n hx hb d_Opn_readSchema_16 rfl (lv_at hl 0 rfl) ?_
  refine lv_lconst (v := 0) hx hb d_Opn_readSchema_17 (by decide) ?_
  refine W.lcmp hx hb d_Opn_readSchema_18 ?_
  refine lv_if_eq (tgt := 36) hx hb d_Opn_readSchema_19 (by decide) (fun c13 => ?_) (fun c13 => ?_)
  · have hw := hw.1 c13
    exact t_Opn_readSchema_36 hx hb hml hown hT hK hN hA hRc hRs hRf hRl hNN hE hret  o l1 r12 (stC o 1) x11 H locs ls fo fl1 (st_ty hNN fo.1 fo.2 rfl) hw hW hS (lv_sub hl [1, 2, 0] rfl)
  · have hw := hw.2 c13
    refine lv_lload_n hx hb d_Opn_readSchema_22 rfl (lv_at hl 0 rfl) ?_
    refine lv_ldc2 hx hb hown (hT _ w_6_109) d_Opn_readSchema_23 ?_
    have hF := hW.free hS hA
    refine va_calli (va_runSN (As := [.long r12, .long 128]) (rest := [.ref (ad (stC o 1))]) ⟨hx, hb, hml, hown, hT⟩ (k_V_within l dC dI cI cB cJ cZ ad NN E tM tC kK kV hNN H.size r12 128 x11  hw) ⟨va_cnB 2 hT (gwt_in w_6_112) rfl rfl rfl (hN _ wn_6_110 rfl) (hT _ w_1_1) (by decide +kernel) ⟨Nat.le_trans (Nat.le_of_ble_eq_true rfl) hRf, Nat.le_trans (Nat.le_of_ble_eq_true rfl) hRl⟩, hT _ w_6_111, trivial⟩ ⟨PVc.blind, PVc.at _ hW hK hN hE hS hF⟩ rfl rfl hl.1 rfl (lv_room (Nat.le_of_ble_eq_true rfl)) d_Opn_readSchema_26 ⟨hRc, hRs⟩) hS (fun q _ h => hF q h) hF (fun r15 x14 t H locs ht hvm hw hB hz1 hk1 hS => ?_)
    have hW := Wd.back hB ht hF
    clear hB ht hF hz1 hk1 hvm
    refine lv_if_eq (tgt := 36) hx hb d_Opn_readSchema_29 (by decide) (fun c16 => ?_) (fun c16 => ?_)
    · have hw := hw.1 c16
      exact t_Opn_readSchema_36 hx hb hml hown hT hK hN hA hRc hRs hRf hRl hNN hE hret  o l1 r12 (stC o 1) x14 H locs ls fo fl1 (st_ty hNN fo.1 fo.2 rfl) hw hW hS (lv_sub hl [1, 2, 0] rfl)
    · have hw := hw.2 c16
      refine lv_iconst (v := 1) hx hb d_Opn_readSchema_32 (by decide) ?_
      refine lv_goto (tgt := 37) hx hb d_Opn_readSchema_33 (by decide) ?_
      exact t_Opn_readSchema_37 hx hb hml hown hT hK hN hA hRc hRs hRf hRl hNN hE hret  o l1 r12 1 (stC o 1) x14 H locs ls fo fl1 (st_ty hNN fo.1 fo.2 rfl) hw hW hS (lv_sub hl [1, 2, 0] rfl)
set_option maxHeartbeats 4000000 in
set_option maxRecDepth 100000 in
theorem k_Opn_readSchema (l : Launch) (dC : Nat → ClassId) (dI : Nat → Nat → Nat) (cI cB cJ cZ : ClassId) (ad : Nat → Nat) (NN : Nat) (E : Heap) (tM tC : Nat) (kK kV : Nat → Nat) (hNN : 152 ≤ NN) (sz : Nat) (o : Nat) (l1 : Nat) (x : St) (fo : o < NN ∧ kcC o = 7) (fl1 : l1 < NN ∧ kcC l1 = 3) {post : St → Prop} (hw : wp_Opn_readSchema post o l1 x) : Met l y_Opn_readSchema (wsOf y_Opn_readSchema b_Opn_readSchema 5 (none)) ({ frames := 4, cells := 0, slots := 0, locals := 140 }) (va_Pc [.ref (ad o), .ref (ad l1)] (PVc dC dI cI cB cJ cZ ad stC kcC NN E tM tC kK kV sz x)) (va_Qv (fun (y : St) => post y) (fun y t => Wd dC dI cI cB cJ cZ ad stC kcC NN (va_A (pic ad stC kcC NN cI cB cJ cZ x) sz) y t.heap) (va_A (pic ad stC kcC NN cI cB cJ cZ x) sz)) 0 0 (va_A (pic ad stC kcC NN cI cB cJ cZ x) sz) := by
  refine Met.ofW (cc := b_Opn_readSchema) (maxL := 5) (ret := none) (by decide) rfl ?_
  intro p e s m args below meth c s₁ B hml hv
  obtain ⟨rfl, ⟨hsz, hW0, hK, hN⟩, hE⟩ := hv
  have hx := B.exec
  have hb := B.bytes
  have hr := B.returns
  have hts := atoms_spec B.pre
  have hT : ∀ w ∈ TG, w.before _ s = true := fun w h => hts w (List.mem_cons_of_mem _ h)
  have hown : s.vm.findClass R_Opn = some m.cls := findClass_of_methodNamed B.named
  have hlocks := B.notSynchronized
  subst hsz
  have hW : Wd dC dI cI cB cJ cZ ad stC kcC NN (va_A (pic ad stC kcC NN cI cB cJ cZ x) s.heap.size) x s.heap := ⟨hW0.1, hW0.2.1.self (sz := s.heap.size), hW0.2.2⟩
  generalize hAe : va_A (pic ad stC kcC NN cI cB cJ cZ x) s.heap.size = A at hW hE ⊢
  have hA : ∀ q : Nat, s.heap.size ≤ q → A q := fun q h => by rw [← hAe]; exact Or.inr h
  have hS : va_S A s.heap s.heap [] := va_S.rf
  have hl := lv_entry ([.ref (ad o), .ref (ad l1)]) (n := 5) (Nat.le_of_ble_eq_true rfl)
  rw [lg_entry_eq]
  generalize (lg_sl ([.ref (ad o), .ref (ad l1)]) ++ List.replicate (5 - (lg_sl ([.ref (ad o), .ref (ad l1)])).length) Slot.unset).toArray = ls at hl ⊢
  have hl : lv_has ls 5 [(0, .ref (ad o)), (1, .ref (ad l1))] := hl
  exact t_Opn_readSchema_e hx hb hml hown hT hK hN hA (Nat.le_refl 0) (Nat.le_refl 0) (Nat.le_refl 4) (Nat.le_refl 140) hNN hE (fun x H locs pc ls hd hp hW hS => W.vret hx hb hr (fun t ht hM => ⟨⟨x, rfl, hp, Wd.back hW ht.symm (fun _ z => z)⟩, hS.F ht⟩) hS.2.2 hd hlocks)  o l1 x _ _ ls fo fl1 hw hW hS hl
set_option maxRecDepth 100000 in
set_option maxHeartbeats 4000000 in
set_option maxRecDepth 100000 in
theorem t_Src_readLetters_20 {p : Program} {l : Launch} {e : Env} {R : Room} {s : State} {m : MethodId} {args : Array Value} {below : List Frame} {meth : Method} {c : Code} {cells slots : Nat} {Q : State → Prop} {dC : Nat → ClassId} {dI : Nat → Nat → Nat} {cI cB cJ cZ : ClassId} {A : Nat → Prop} {ad : Nat → Nat} {NN : Nat} {E : Heap} {tM tC : Nat} {kK kV : Nat → Nat} {post : Int64 → St → Prop} (hx : p.tables.exec = Jvm.exec) (hb : c.code = b_Src_readLetters) (hml : c.maxLocals = 5) (hown : s.vm.findClass R_Src = some m.cls) (hT : ∀ w ∈ TG, w.before args s = true) (hK : va_K (dC, dI) CL (TY cI cB cJ cZ) s) (hN : NW s) (hA : ∀ q : Nat, s.heap.size ≤ q → A q) (hRc : cells ≤ R.cells) (hRs : slots ≤ R.slots) (hRf : 1 ≤ R.frames) (hRl : 22 ≤ R.locals) (hNN : 152 ≤ NN) (hE : CE E tM tC kK kV A s) (hret : ∀ (r : Int64) (x : St) (H : Heap) (locs : List Loc) (pc : Nat) (ls : Array Slot), decode b_Src_readLetters pc = .ok (.lreturn, 1) → post r x → Wd dC dI cI cB cJ cZ ad stC kcC NN A x H → va_S A s.heap H locs → W p l e R s m args below meth c H locs cells slots Q (F0 m pc ls [.long r]))  : ∀ (o : Nat) (l1 : Int64) (s0 : Int32) (s1 : Nat) (x : St) (H : Heap) (locs : List Loc) (ls : Array Slot), (o < NN ∧ kcC o = 8) → (s1 < NN ∧ kcC s1 = 8) → j_Src_readLetters_20 post o l1 s0 s1 x → Wd dC dI cI cB cJ cZ ad stC kcC NN A x H → va_S A s.heap H locs → lv_has ls 5 [(0, .ref (ad o)), (1, .long l1)] → W p l e R s m args below meth c H locs cells slots Q (F0 m 20 ls [.int s0, .ref (ad s1)]) := by
  intro o l1 s0 s1 x H locs ls fo fs1 hw hW hS hl
  unfold j_Src_readLetters_20 at hw
  refine lv_bipush (v := 7) hx hb d_Src_readLetters_20 (by decide) ?_
  have hF := hW.free hS hA
  refine va_callv (va_runV (C := R_Src) (As := [.int s0, .int 7]) (rest := []) ⟨hx, hb, hml, hown, hT⟩ (k_Src_check l dC dI cI cB cJ cZ ad NN E tM tC kK kV hNN H.size s1 s0 7 x fs1 hw) ⟨callB_of 2 hT (gwt_in w_6_116) rfl rfl rfl (hT _ w_1_11) (hT _ w_6_156) (by decide +kernel) ⟨Nat.le_trans (Nat.le_of_ble_eq_true rfl) hRf, Nat.le_trans (Nat.le_of_ble_eq_true rfl) hRl⟩, hT _ w_6_114, hT _ w_6_115⟩ ⟨PVc.blind, va_recv hK hW.1 (ci := 8) (q0 := s1) rfl (pic_obj fs1.1 fs1.2 (by decide)), PVc.at _ hW hK hN hE hS hF⟩ rfl rfl hl.1 rfl (lv_room (Nat.le_of_ble_eq_true rfl)) d_Src_readLetters_22 ⟨hRc, hRs⟩) hS (fun q _ h => hF q h) hF (fun  x1 t H locs ht hvm hw hB hz1 hk1 hS => ?_)
  have hW := Wd.back hB ht hF
  clear hB ht hF hz1 hk1 hvm
  refine lv_aload_n hx hb d_Src_readLetters_25 rfl (lv_at hl 0 rfl) ?_
  refine lv_lload_n hx hb d_Src_readLetters_26 rfl (lv_at hl 1 rfl) ?_
  have hF := hW.free hS hA
  refine va_calli (va_runV (C := R_Src) (As := [.long l1]) (rest := []) ⟨hx, hb, hml, hown, hT⟩ (k_Src_has l dC dI cI cB cJ cZ ad NN E tM tC kK kV hNN H.size o l1 x1 fo hw) ⟨callB_of 1 hT (gwt_in w_6_128) rfl rfl rfl (hT _ w_1_11) (hT _ w_6_157) (by decide +kernel) ⟨Nat.le_trans (Nat.le_of_ble_eq_true rfl) hRf, Nat.le_trans (Nat.le_of_ble_eq_true rfl) hRl⟩, hT _ w_6_126, hT _ w_6_127⟩ ⟨PVc.blind, va_recv hK hW.1 (ci := 8) (q0 := o) rfl (pic_obj fo.1 fo.2 (by decide)), PVc.at _ hW hK hN hE hS hF⟩ rfl rfl hl.1 rfl (lv_room (Nat.le_of_ble_eq_true rfl)) d_Src_readLetters_27 ⟨hRc, hRs⟩) hS (fun q _ h => hF q h) hF (fun r3 x2 t H locs ht hvm hw hB hz1 hk1 hS => ?_)
  have hW := Wd.back hB ht hF
  clear hB ht hF hz1 hk1 hvm
  refine lv_if_ne (tgt := 35) hx hb d_Src_readLetters_30 (by decide) (fun c4 => ?_) (fun c4 => ?_)
  · have hw := hw.1 c4
    refine lv_aload_n hx hb d_Src_readLetters_35 rfl (lv_at hl 0 rfl) ?_
    refine w_geti (k := 1) (t := 8) (C := R_Src) (T := F_Src) (N := 5) hx hb hT hown hK hW fo.1 fo.2 (by decide) in_Src rfl rfl (by decide) rfl fr_Src_1 w_2_237 d_Src_readLetters_36 ?_
    refine lv_lload_n hx hb d_Src_readLetters_39 rfl (lv_at hl 1 rfl) ?_
    refine lv_l2i hx hb d_Src_readLetters_40 rfl ?_
    have hF := hW.free hS hA
    refine va_calll (va_runSN (As := [.int (fI x2 o 1), .int (l1 : Int64).toInt32]) (rest := []) ⟨hx, hb, hml, hown, hT⟩ (k_V_reference l dC dI cI cB cJ cZ ad NN E tM tC kK kV hNN H.size (fI x2 o 1) (l1 : Int64).toInt32 x2  hw) ⟨va_cnB 2 hT (gwt_in w_5_86) rfl rfl rfl (hN _ wn_6_158 rfl) (hT _ w_1_1) (by decide +kernel) ⟨Nat.le_trans (Nat.le_of_ble_eq_true rfl) hRf, Nat.le_trans (Nat.le_of_ble_eq_true rfl) hRl⟩, hT _ w_5_85, trivial⟩ ⟨PVc.blind, PVc.at _ hW hK hN hE hS hF⟩ rfl rfl hl.1 rfl (lv_room (Nat.le_of_ble_eq_true rfl)) d_Src_readLetters_41 ⟨hRc, hRs⟩) hS (fun q _ h => hF q h) hF (fun r6 x5 t H locs ht hvm hw hB hz1 hk1 hS => ?_)
    have hW := Wd.back hB ht hF
    clear hB ht hF hz1 hk1 hvm
    refine lv_lstore_n (lv' := [(3, .long r6), (0, .ref (ad o)), (1, .long l1)]) hx hb d_Src_readLetters_44 rfl hl (by decide) rfl (fun ls hl => ?_)
    refine lv_aload_n hx hb d_Src_readLetters_45 rfl (lv_at hl 1 rfl) ?_
    refine lv_dup hx hb d_Src_readLetters_46 rfl ?_
    refine w_geti (k := 1) (t := 8) (C := R_Src) (T := F_Src) (N := 5) hx hb hT hown hK hW fo.1 fo.2 (by decide) in_Src rfl rfl (by decide) rfl fr_Src_1 w_2_237 d_Src_readLetters_47 ?_
    refine lv_lload_n hx hb d_Src_readLetters_50 rfl (lv_at hl 2 rfl) ?_
    refine lv_l2i hx hb d_Src_readLetters_51 rfl ?_
    refine lv_iadd hx hb d_Src_readLetters_52 ?_
    refine w_puti (ty := .int) (k := 1) (t := 8) (C := R_Src) (T := F_Src) (N := 5) hx hb hT hown hK hW hS fo.1 fo.2 (by decide) in_Src t_Src t_Src_ok n_Src rfl rfl (by decide) rfl fr_Src_1 w_2_237 (by decide +kernel) rfl rfl d_Src_readLetters_53 (fun H locs hW hS => ?_)
    obtain ⟨x7, ex7⟩ : ∃ y : St, y = setI x5 o 1 ((fI x5 o 1) + (l1 : Int64).toInt32) := ⟨_, rfl⟩
    rw [← ex7] at hW
    have hw := hw x7 ex7
    refine lv_lload_n hx hb d_Src_readLetters_56 rfl (lv_at hl 0 rfl) ?_
    exact hret r6 x7 H locs 57 ls d_Src_readLetters_57 hw hW hS
  · have hw := hw.2 c4
    refine lv_lconst (v := 0) hx hb d_Src_readLetters_33 (by decide) ?_
    exact hret 0 x2 H locs 34 ls d_Src_readLetters_34 hw hW hS
set_option maxRecDepth 100000 in
set_option maxHeartbeats 4000000 in
set_option maxRecDepth 100000 in
theorem t_Src_readLetters_19 {p : Program} {l : Launch} {e : Env} {R : Room} {s : State} {m : MethodId} {args : Array Value} {below : List Frame} {meth : Method} {c : Code} {cells slots : Nat} {Q : State → Prop} {dC : Nat → ClassId} {dI : Nat → Nat → Nat} {cI cB cJ cZ : ClassId} {A : Nat → Prop} {ad : Nat → Nat} {NN : Nat} {E : Heap} {tM tC : Nat} {kK kV : Nat → Nat} {post : Int64 → St → Prop} (hx : p.tables.exec = Jvm.exec) (hb : c.code = b_Src_readLetters) (hml : c.maxLocals = 5) (hown : s.vm.findClass R_Src = some m.cls) (hT : ∀ w ∈ TG, w.before args s = true) (hK : va_K (dC, dI) CL (TY cI cB cJ cZ) s) (hN : NW s) (hA : ∀ q : Nat, s.heap.size ≤ q → A q) (hRc : cells ≤ R.cells) (hRs : slots ≤ R.slots) (hRf : 1 ≤ R.frames) (hRl : 22 ≤ R.locals) (hNN : 152 ≤ NN) (hE : CE E tM tC kK kV A s) (hret : ∀ (r : Int64) (x : St) (H : Heap) (locs : List Loc) (pc : Nat) (ls : Array Slot), decode b_Src_readLetters pc = .ok (.lreturn, 1) → post r x → Wd dC dI cI cB cJ cZ ad stC kcC NN A x H → va_S A s.heap H locs → W p l e R s m args below meth c H locs cells slots Q (F0 m pc ls [.long r]))  : ∀ (o : Nat) (l1 : Int64) (s0 : Nat) (x : St) (H : Heap) (locs : List Loc) (ls : Array Slot), (o < NN ∧ kcC o = 8) → (s0 < NN ∧ kcC s0 = 8) → j_Src_readLetters_19 post o l1 s0 x → Wd dC dI cI cB cJ cZ ad stC kcC NN A x H → va_S A s.heap H locs → lv_has ls 5 [(0, .ref (ad o)), (1, .long l1)] → W p l e R s m args below meth c H locs cells slots Q (F0 m 19 ls [.ref (ad s0)]) := by
  intro o l1 s0 x H locs ls fo fs0 hw hW hS hl
  unfold j_Src_readLetters_19 at hw
  refine lv_iconst (v := 0) hx hb d_Src_readLetters_19 (by decide) ?_
  exact t_Src_readLetters_20 hx hb hml hown hT hK hN hA hRc hRs hRf hRl hNN hE hret  o l1 0 s0 x H locs ls fo fs0 hw hW hS (lv_sub hl [0, 1] rfl)
set_option maxRecDepth 100000 in
set_option maxHeartbeats 4000000 in
set_option maxRecDepth 100000 in
theorem t_Src_readLetters_e {p : Program} {l : Launch} {e : Env} {R : Room} {s : State} {m : MethodId} {args : Array Value} {below : List Frame} {meth : Method} {c : Code} {cells slots : Nat} {Q : State → Prop} {dC : Nat → ClassId} {dI : Nat → Nat → Nat} {cI cB cJ cZ : ClassId} {A : Nat → Prop} {ad : Nat → Nat} {NN : Nat} {E : Heap} {tM tC : Nat} {kK kV : Nat → Nat} {post : Int64 → St → Prop} (hx : p.tables.exec = Jvm.exec) (hb : c.code = b_Src_readLetters) (hml : c.maxLocals = 5) (hown : s.vm.findClass R_Src = some m.cls) (hT : ∀ w ∈ TG, w.before args s = true) (hK : va_K (dC, dI) CL (TY cI cB cJ cZ) s) (hN : NW s) (hA : ∀ q : Nat, s.heap.size ≤ q → A q) (hRc : cells ≤ R.cells) (hRs : slots ≤ R.slots) (hRf : 1 ≤ R.frames) (hRl : 22 ≤ R.locals) (hNN : 152 ≤ NN) (hE : CE E tM tC kK kV A s) (hret : ∀ (r : Int64) (x : St) (H : Heap) (locs : List Loc) (pc : Nat) (ls : Array Slot), decode b_Src_readLetters pc = .ok (.lreturn, 1) → post r x → Wd dC dI cI cB cJ cZ ad stC kcC NN A x H → va_S A s.heap H locs → W p l e R s m args below meth c H locs cells slots Q (F0 m pc ls [.long r])) : ∀ (o : Nat) (l1 : Int64) (x : St) (H : Heap) (locs : List Loc) (ls : Array Slot), (o < NN ∧ kcC o = 8) → wp_Src_readLetters post o l1 x → Wd dC dI cI cB cJ cZ ad stC kcC NN A x H → va_S A s.heap H locs → lv_has ls 5 [(0, .ref (ad o)), (1, .long l1)] → W p l e R s m args below meth c H locs cells slots Q (F0 m 0 ls []) := by
  intro o l1 x H locs ls fo hw hW hS hl
  unfold wp_Src_readLetters at hw
  refine lv_aload_n hx hb d_Src_readLetters_0 rfl (lv_at hl 0 rfl) ?_
  refine lv_lload_n hx hb d_Src_readLetters_1 rfl (lv_at hl 1 rfl) ?_
  refine lv_lconst (v := 0) hx hb d_Src_readLetters_2 (by decide) ?_
  refine W.lcmp hx hb d_Src_readLetters_3 ?_
  refine lv_if_lt (tgt := 19) hx hb d_Src_readLetters_4 (by decide) (fun c8 => ?_) (fun c8 => ?_)
  · have hw := hw.1 c8
    exact t_Src_readLetters_19 hx hb hml hown hT hK hN hA hRc hRs hRf hRl hNN hE hret  o l1 o x H locs ls fo fo hw hW hS (lv_sub hl [0, 1] rfl)
  · have hw := hw.2 c8
    refine lv_lload_n hx hb d_Src_readLetters_7 rfl (lv_at hl 1 rfl) ?_
    refine lv_ldc2 hx hb hown (hT _ w_6_94) d_Src_readLetters_8 ?_
    refine W.lcmp hx hb d_Src_readLetters_11 ?_
    refine lv_if_gt (tgt := 19) hx hb d_Src_readLetters_12 (by decide) (fun c9 => ?_) (fun c9 => ?_)
    · have hw := hw.1 c9
      exact t_Src_readLetters_19 hx hb hml hown hT hK hN hA hRc hRs hRf hRl hNN hE hret  o l1 o x H locs ls fo fo hw hW hS (lv_sub hl [0, 1] rfl)
    · have hw := hw.2 c9
      refine lv_iconst (v := 1) hx hb d_Src_readLetters_15 (by decide) ?_
      refine lv_goto (tgt := 20) hx hb d_Src_readLetters_16 (by decide) ?_
      exact t_Src_readLetters_20 hx hb hml hown hT hK hN hA hRc hRs hRf hRl hNN hE hret  o l1 1 o x H locs ls fo fo hw hW hS (lv_sub hl [0, 1] rfl)
set_option maxHeartbeats 4000000 in
set_option maxRecDepth 100000 in
theorem k_Src_readLetters (l : Launch) (dC : Nat → ClassId) (dI : Nat → Nat → Nat) (cI cB cJ cZ : ClassId) (ad : Nat → Nat) (NN : Nat) (E : Heap) (tM tC : Nat) (kK kV : Nat → Nat) (hNN : 152 ≤ NN) (sz : Nat) (o : Nat) (l1 : Int64) (x : St) (fo : o < NN ∧ kcC o = 8) {post : Int64 → St → Prop} (hw : wp_Src_readLetters post o l1 x) : Met l y_Src_readLetters (wsOf y_Src_readLetters b_Src_readLetters 5 (some (.long))) ({ frames := 1, cells := 0, slots := 0, locals := 22 }) (va_Pc [.ref (ad o), .long l1] (PVc dC dI cI cB cJ cZ ad stC kcC NN E tM tC kK kV sz x)) (va_Ql (fun (r : Int64) (y : St) => post r y) (fun y t => Wd dC dI cI cB cJ cZ ad stC kcC NN (va_A (pic ad stC kcC NN cI cB cJ cZ x) sz) y t.heap) (va_A (pic ad stC kcC NN cI cB cJ cZ x) sz)) 0 0 (va_A (pic ad stC kcC NN cI cB cJ cZ x) sz) := by
  refine Met.ofW (cc := b_Src_readLetters) (maxL := 5) (ret := some (.long)) (by decide) rfl ?_
  intro p e s m args below meth c s₁ B hml hv
  obtain ⟨rfl, ⟨hsz, hW0, hK, hN⟩, hE⟩ := hv
  have hx := B.exec
  have hb := B.bytes
  have hr := B.returns
  have hts := atoms_spec B.pre
  have hT : ∀ w ∈ TG, w.before _ s = true := fun w h => hts w (List.mem_cons_of_mem _ h)
  have hown : s.vm.findClass R_Src = some m.cls := findClass_of_methodNamed B.named
  have hlocks := B.notSynchronized
  subst hsz
  have hW : Wd dC dI cI cB cJ cZ ad stC kcC NN (va_A (pic ad stC kcC NN cI cB cJ cZ x) s.heap.size) x s.heap := ⟨hW0.1, hW0.2.1.self (sz := s.heap.size), hW0.2.2⟩
  generalize hAe : va_A (pic ad stC kcC NN cI cB cJ cZ x) s.heap.size = A at hW hE ⊢
  have hA : ∀ q : Nat, s.heap.size ≤ q → A q := fun q h => by rw [← hAe]; exact Or.inr h
  have hS : va_S A s.heap s.heap [] := va_S.rf
  have hl := lv_entry ([.ref (ad o), .long l1]) (n := 5) (Nat.le_of_ble_eq_true rfl)
  rw [lg_entry_eq]
  generalize (lg_sl ([.ref (ad o), .long l1]) ++ List.replicate (5 - (lg_sl ([.ref (ad o), .long l1])).length) Slot.unset).toArray = ls at hl ⊢
  have hl : lv_has ls 5 [(0, .ref (ad o)), (1, .long l1)] := hl
  exact t_Src_readLetters_e hx hb hml hown hT hK hN hA (Nat.le_refl 0) (Nat.le_refl 0) (Nat.le_refl 1) (Nat.le_refl 22) hNN hE (fun r x H locs pc ls hd hp hW hS => W.lret (v := r) hx hb hr (fun t ht hM => ⟨⟨r, x, rfl, hp, Wd.back hW ht.symm (fun _ z => z)⟩, hS.F ht⟩) hS.2.2 hd hlocks)  o l1 x _ _ ls fo hw hW hS hl
set_option maxRecDepth 100000 in
set_option maxHeartbeats 4000000 in
set_option maxRecDepth 100000 in
theorem t_V_unzigzag_e {p : Program} {l : Launch} {e : Env} {R : Room} {s : State} {m : MethodId} {args : Array Value} {below : List Frame} {meth : Method} {c : Code} {cells slots : Nat} {Q : State → Prop} {dC : Nat → ClassId} {dI : Nat → Nat → Nat} {cI cB cJ cZ : ClassId} {A : Nat → Prop} {ad : Nat → Nat} {NN : Nat} {E : Heap} {tM tC : Nat} {kK kV : Nat → Nat} {post : Int64 → St → Prop} (hx : p.tables.exec = Jvm.exec) (hb : c.code = b_V_unzigzag) (hml : c.maxLocals = 2) (hown : s.vm.findClass R_V = some m.cls) (hT : ∀ w ∈ TG, w.before args s = true) (hK : va_K (dC, dI) CL (TY cI cB cJ cZ) s) (hN : NW s) (hA : ∀ q : Nat, s.heap.size ≤ q → A q) (hRc : cells ≤ R.cells) (hRs : slots ≤ R.slots) (hRf : 0 ≤ R.frames) (hRl : 0 ≤ R.locals) (hNN : 152 ≤ NN) (hE : CE E tM tC kK kV A s) (hret : ∀ (r : Int64) (x : St) (H : Heap) (locs : List Loc) (pc : Nat) (ls : Array Slot), decode b_V_unzigzag pc = .ok (.lreturn, 1) → post r x → Wd dC dI cI cB cJ cZ ad stC kcC NN A x H → va_S A s.heap H locs → W p l e R s m args below meth c H locs cells slots Q (F0 m pc ls [.long r])) : ∀ (l0 : Int64) (x : St) (H : Heap) (locs : List Loc) (ls : Array Slot), wp_V_unzigzag post l0 x → Wd dC dI cI cB cJ cZ ad stC kcC NN A x H → va_S A s.heap H locs → lv_has ls 2 [(0, .long l0)] → W p l e R s m args below meth c H locs cells slots Q (F0 m 0 ls []) := by
  intro l0 x H locs ls  hw hW hS hl
  unfold wp_V_unzigzag at hw
  refine lv_lload_n hx hb d_V_unzigzag_0 rfl (lv_at hl 0 rfl) ?_
  refine lv_iconst (v := 1) hx hb d_V_unzigzag_1 (by decide) ?_
  refine lv_lushr hx hb d_V_unzigzag_2 rfl ?_
  refine lv_lload_n hx hb d_V_unzigzag_3 rfl (lv_at hl 0 rfl) ?_
  refine lv_lconst (v := 1) hx hb d_V_unzigzag_4 (by decide) ?_
  refine lv_land hx hb d_V_unzigzag_5 ?_
  refine lv_lneg hx hb d_V_unzigzag_6 ?_
  refine lv_lxor hx hb d_V_unzigzag_7 ?_
  exact hret (((l0 : Int64).toUInt64 >>> ((1 : Int32).toInt64.toUInt64 &&& Int64.toUInt64 63)).toInt64 ^^^ (-(l0 &&& 1))) x H locs 8 ls d_V_unzigzag_8 hw hW hS
set_option maxHeartbeats 4000000 in
set_option maxRecDepth 100000 in
theorem k_V_unzigzag (l : Launch) (dC : Nat → ClassId) (dI : Nat → Nat → Nat) (cI cB cJ cZ : ClassId) (ad : Nat → Nat) (NN : Nat) (E : Heap) (tM tC : Nat) (kK kV : Nat → Nat) (hNN : 152 ≤ NN) (sz : Nat) (l0 : Int64) (x : St) {post : Int64 → St → Prop} (hw : wp_V_unzigzag post l0 x) : Met l y_V_unzigzag (wsOf y_V_unzigzag b_V_unzigzag 2 (some (.long))) ({ frames := 0, cells := 0, slots := 0, locals := 0 }) (va_Pc [.long l0] (PVc dC dI cI cB cJ cZ ad stC kcC NN E tM tC kK kV sz x)) (va_Ql (fun (r : Int64) (y : St) => post r y) (fun y t => Wd dC dI cI cB cJ cZ ad stC kcC NN (va_A (pic ad stC kcC NN cI cB cJ cZ x) sz) y t.heap) (va_A (pic ad stC kcC NN cI cB cJ cZ x) sz)) 0 0 (va_A (pic ad stC kcC NN cI cB cJ cZ x) sz) := by
  refine Met.ofW (cc := b_V_unzigzag) (maxL := 2) (ret := some (.long)) (by decide) rfl ?_
  intro p e s m args below meth c s₁ B hml hv
  obtain ⟨rfl, ⟨hsz, hW0, hK, hN⟩, hE⟩ := hv
  have hx := B.exec
  have hb := B.bytes
  have hr := B.returns
  have hts := atoms_spec B.pre
  have hT : ∀ w ∈ TG, w.before _ s = true := fun w h => hts w (List.mem_cons_of_mem _ h)
  have hown : s.vm.findClass R_V = some m.cls := findClass_of_methodNamed B.named
  have hlocks := B.notSynchronized
  subst hsz
  have hW : Wd dC dI cI cB cJ cZ ad stC kcC NN (va_A (pic ad stC kcC NN cI cB cJ cZ x) s.heap.size) x s.heap := ⟨hW0.1, hW0.2.1.self (sz := s.heap.size), hW0.2.2⟩
  generalize hAe : va_A (pic ad stC kcC NN cI cB cJ cZ x) s.heap.size = A at hW hE ⊢
  have hA : ∀ q : Nat, s.heap.size ≤ q → A q := fun q h => by rw [← hAe]; exact Or.inr h
  have hS : va_S A s.heap s.heap [] := va_S.rf
  have hl := lv_entry ([.long l0]) (n := 2) (Nat.le_of_ble_eq_true rfl)
  rw [lg_entry_eq]
  generalize (lg_sl ([.long l0]) ++ List.replicate (2 - (lg_sl ([.long l0])).length) Slot.unset).toArray = ls at hl ⊢
  have hl : lv_has ls 2 [(0, .long l0)] := hl
  exact t_V_unzigzag_e hx hb hml hown hT hK hN hA (Nat.le_refl 0) (Nat.le_refl 0) (Nat.le_refl 0) (Nat.le_refl 0) hNN hE (fun r x H locs pc ls hd hp hW hS => W.lret (v := r) hx hb hr (fun t ht hM => ⟨⟨r, x, rfl, hp, Wd.back hW ht.symm (fun _ z => z)⟩, hS.F ht⟩) hS.2.2 hd hlocks)  l0 x _ _ ls  hw hW hS hl
set_option maxRecDepth 100000 in
set_option maxHeartbeats 4000000 in
set_option maxRecDepth 100000 in
theorem t_Src_readTold_69 {p : Program} {l : Launch} {e : Env} {R : Room} {s : State} {m : MethodId} {args : Array Value} {below : List Frame} {meth : Method} {c : Code} {cells slots : Nat} {Q : State → Prop} {dC : Nat → ClassId} {dI : Nat → Nat → Nat} {cI cB cJ cZ : ClassId} {A : Nat → Prop} {ad : Nat → Nat} {NN : Nat} {E : Heap} {tM tC : Nat} {kK kV : Nat → Nat} {post : Int64 → St → Prop} (hx : p.tables.exec = Jvm.exec) (hb : c.code = b_Src_readTold) (hml : c.maxLocals = 4) (hown : s.vm.findClass R_Src = some m.cls) (hT : ∀ w ∈ TG, w.before args s = true) (hK : va_K (dC, dI) CL (TY cI cB cJ cZ) s) (hN : NW s) (hA : ∀ q : Nat, s.heap.size ≤ q → A q) (hRc : cells ≤ R.cells) (hRs : slots ≤ R.slots) (hRf : 2 ≤ R.frames) (hRl : 46 ≤ R.locals) (hNN : 152 ≤ NN) (hE : CE E tM tC kK kV A s) (hret : ∀ (r : Int64) (x : St) (H : Heap) (locs : List Loc) (pc : Nat) (ls : Array Slot), decode b_Src_readTold pc = .ok (.lreturn, 1) → post r x → Wd dC dI cI cB cJ cZ ad stC kcC NN A x H → va_S A s.heap H locs → W p l e R s m args below meth c H locs cells slots Q (F0 m pc ls [.long r]))  : ∀ (o : Nat) (l1 : Int32) (l2 : Int64) (s0 : Int32) (s1 : Nat) (x : St) (H : Heap) (locs : List Loc) (ls : Array Slot), (o < NN ∧ kcC o = 8) → (s1 < NN ∧ kcC s1 = 8) → j_Src_readTold_69 post o l1 l2 s0 s1 x → Wd dC dI cI cB cJ cZ ad stC kcC NN A x H → va_S A s.heap H locs → lv_has ls 4 [(0, .ref (ad o)), (1, .int l1), (2, .long l2)] → W p l e R s m args below meth c H locs cells slots Q (F0 m 69 ls [.int s0, .ref (ad s1)]) := by
  intro o l1 l2 s0 s1 x H locs ls fo fs1 hw hW hS hl
  unfold j_Src_readTold_69 at hw
  refine lv_bipush (v := 7) hx hb d_Src_readTold_69 (by decide) ?_
  have hF := hW.free hS hA
  refine va_callv (va_runV (C := R_Src) (As := [.int s0, .int 7]) (rest := []) ⟨hx, hb, hml, hown, hT⟩ (k_Src_check l dC dI cI cB cJ cZ ad NN E tM tC kK kV hNN H.size s1 s0 7 x fs1 hw) ⟨callB_of 2 hT (gwt_in w_6_116) rfl rfl rfl (hT _ w_1_11) (hT _ w_6_156) (by decide +kernel) ⟨Nat.le_trans (Nat.le_of_ble_eq_true rfl) hRf, Nat.le_trans (Nat.le_of_ble_eq_true rfl) hRl⟩, hT _ w_6_114, hT _ w_6_115⟩ ⟨PVc.blind, va_recv hK hW.1 (ci := 8) (q0 := s1) rfl (pic_obj fs1.1 fs1.2 (by decide)), PVc.at _ hW hK hN hE hS hF⟩ rfl rfl hl.1 rfl (lv_room (Nat.le_of_ble_eq_true rfl)) d_Src_readTold_71 ⟨hRc, hRs⟩) hS (fun q _ h => hF q h) hF (fun  x1 t H locs ht hvm hw hB hz1 hk1 hS => ?_)
  have hW := Wd.back hB ht hF
  clear hB ht hF hz1 hk1 hvm
  refine lv_lload_n hx hb d_Src_readTold_74 rfl (lv_at hl 2 rfl) ?_
  exact hret l2 x1 H locs 75 ls d_Src_readTold_75 hw hW hS
set_option maxRecDepth 100000 in
set_option maxHeartbeats 4000000 in
set_option maxRecDepth 100000 in
theorem t_Src_readTold_64 {p : Program} {l : Launch} {e : Env} {R : Room} {s : State} {m : MethodId} {args : Array Value} {below : List Frame} {meth : Method} {c : Code} {cells slots : Nat} {Q : State → Prop} {dC : Nat → ClassId} {dI : Nat → Nat → Nat} {cI cB cJ cZ : ClassId} {A : Nat → Prop} {ad : Nat → Nat} {NN : Nat} {E : Heap} {tM tC : Nat} {kK kV : Nat → Nat} {post : Int64 → St → Prop} (hx : p.tables.exec = Jvm.exec) (hb : c.code = b_Src_readTold) (hml : c.maxLocals = 4) (hown : s.vm.findClass R_Src = some m.cls) (hT : ∀ w ∈ TG, w.before args s = true) (hK : va_K (dC, dI) CL (TY cI cB cJ cZ) s) (hN : NW s) (hA : ∀ q : Nat, s.heap.size ≤ q → A q) (hRc : cells ≤ R.cells) (hRs : slots ≤ R.slots) (hRf : 2 ≤ R.frames) (hRl : 46 ≤ R.locals) (hNN : 152 ≤ NN) (hE : CE E tM tC kK kV A s) (hret : ∀ (r : Int64) (x : St) (H : Heap) (locs : List Loc) (pc : Nat) (ls : Array Slot), decode b_Src_readTold pc = .ok (.lreturn, 1) → post r x → Wd dC dI cI cB cJ cZ ad stC kcC NN A x H → va_S A s.heap H locs → W p l e R s m args below meth c H locs cells slots Q (F0 m pc ls [.long r]))  : ∀ (o : Nat) (l1 : Int32) (l2 : Int64) (s0 : Nat) (x : St) (H : Heap) (locs : List Loc) (ls : Array Slot), (o < NN ∧ kcC o = 8) → (s0 < NN ∧ kcC s0 = 8) → j_Src_readTold_64 post o l1 l2 s0 x → Wd dC dI cI cB cJ cZ ad stC kcC NN A x H → va_S A s.heap H locs → lv_has ls 4 [(0, .ref (ad o)), (1, .int l1), (2, .long l2)] → W p l e R s m args below meth c H locs cells slots Q (F0 m 64 ls [.ref (ad s0)]) := by
  intro o l1 l2 s0 x H locs ls fo fs0 hw hW hS hl
  unfold j_Src_readTold_64 at hw
  refine lv_iconst (v := 1) hx hb d_Src_readTold_64 (by decide) ?_
  refine lv_goto (tgt := 69) hx hb d_Src_readTold_65 (by decide) ?_
  exact t_Src_readTold_69 hx hb hml hown hT hK hN hA hRc hRs hRf hRl hNN hE hret  o l1 l2 1 s0 x H locs ls fo fs0 hw hW hS (lv_sub hl [0, 1, 2] rfl)
set_option maxRecDepth 100000 in
set_option maxHeartbeats 4000000 in
set_option maxRecDepth 100000 in
theorem t_Src_readTold_34 {p : Program} {l : Launch} {e : Env} {R : Room} {s : State} {m : MethodId} {args : Array Value} {below : List Frame} {meth : Method} {c : Code} {cells slots : Nat} {Q : State → Prop} {dC : Nat → ClassId} {dI : Nat → Nat → Nat} {cI cB cJ cZ : ClassId} {A : Nat → Prop} {ad : Nat → Nat} {NN : Nat} {E : Heap} {tM tC : Nat} {kK kV : Nat → Nat} {post : Int64 → St → Prop} (hx : p.tables.exec = Jvm.exec) (hb : c.code = b_Src_readTold) (hml : c.maxLocals = 4) (hown : s.vm.findClass R_Src = some m.cls) (hT : ∀ w ∈ TG, w.before args s = true) (hK : va_K (dC, dI) CL (TY cI cB cJ cZ) s) (hN : NW s) (hA : ∀ q : Nat, s.heap.size ≤ q → A q) (hRc : cells ≤ R.cells) (hRs : slots ≤ R.slots) (hRf : 2 ≤ R.frames) (hRl : 46 ≤ R.locals) (hNN : 152 ≤ NN) (hE : CE E tM tC kK kV A s) (hret : ∀ (r : Int64) (x : St) (H : Heap) (locs : List Loc) (pc : Nat) (ls : Array Slot), decode b_Src_readTold pc = .ok (.lreturn, 1) → post r x → Wd dC dI cI cB cJ cZ ad stC kcC NN A x H → va_S A s.heap H locs → W p l e R s m args below meth c H locs cells slots Q (F0 m pc ls [.long r]))  : ∀ (o : Nat) (l1 : Int32) (l2 : Int32) (s0 : Int32) (s1 : Nat) (x : St) (H : Heap) (locs : List Loc) (ls : Array Slot), (o < NN ∧ kcC o = 8) → (s1 < NN ∧ kcC s1 = 8) → j_Src_readTold_34 post o l1 l2 s0 s1 x → Wd dC dI cI cB cJ cZ ad stC kcC NN A x H → va_S A s.heap H locs → lv_has ls 4 [(0, .ref (ad o)), (1, .int l1), (2, .int l2)] → W p l e R s m args below meth c H locs cells slots Q (F0 m 34 ls [.int s0, .ref (ad s1)]) := by
  intro o l1 l2 s0 s1 x H locs ls fo fs1 hw hW hS hl
  unfold j_Src_readTold_34 at hw
  refine lv_bipush (v := 7) hx hb d_Src_readTold_34 (by decide) ?_
  have hF := hW.free hS hA
  refine va_callv (va_runV (C := R_Src) (As := [.int s0, .int 7]) (rest := []) ⟨hx, hb, hml, hown, hT⟩ (k_Src_check l dC dI cI cB cJ cZ ad NN E tM tC kK kV hNN H.size s1 s0 7 x fs1 hw) ⟨callB_of 2 hT (gwt_in w_6_116) rfl rfl rfl (hT _ w_1_11) (hT _ w_6_156) (by decide +kernel) ⟨Nat.le_trans (Nat.le_of_ble_eq_true rfl) hRf, Nat.le_trans (Nat.le_of_ble_eq_true rfl) hRl⟩, hT _ w_6_114, hT _ w_6_115⟩ ⟨PVc.blind, va_recv hK hW.1 (ci := 8) (q0 := s1) rfl (pic_obj fs1.1 fs1.2 (by decide)), PVc.at _ hW hK hN hE hS hF⟩ rfl rfl hl.1 rfl (lv_room (Nat.le_of_ble_eq_true rfl)) d_Src_readTold_36 ⟨hRc, hRs⟩) hS (fun q _ h => hF q h) hF (fun  x2 t H locs ht hvm hw hB hz1 hk1 hS => ?_)
  have hW := Wd.back hB ht hF
  clear hB ht hF hz1 hk1 hvm
  refine lv_iload_n hx hb d_Src_readTold_39 rfl (lv_at hl 2 rfl) ?_
  refine lv_i2l hx hb d_Src_readTold_40 rfl ?_
  exact hret (l2 : Int32).toInt64 x2 H locs 41 ls d_Src_readTold_41 hw hW hS
set_option maxRecDepth 100000 in
set_option maxHeartbeats 4000000 in
set_option maxRecDepth 100000 in
theorem t_Src_readTold_e {p : Program} {l : Launch} {e : Env} {R : Room} {s : State} {m : MethodId} {args : Array Value} {below : List Frame} {meth : Method} {c : Code} {cells slots : Nat} {Q : State → Prop} {dC : Nat → ClassId} {dI : Nat → Nat → Nat} {cI cB cJ cZ : ClassId} {A : Nat → Prop} {ad : Nat → Nat} {NN : Nat} {E : Heap} {tM tC : Nat} {kK kV : Nat → Nat} {post : Int64 → St → Prop} (hx : p.tables.exec = Jvm.exec) (hb : c.code = b_Src_readTold) (hml : c.maxLocals = 4) (hown : s.vm.findClass R_Src = some m.cls) (hT : ∀ w ∈ TG, w.before args s = true) (hK : va_K (dC, dI) CL (TY cI cB cJ cZ) s) (hN : NW s) (hA : ∀ q : Nat, s.heap.size ≤ q → A q) (hRc : cells ≤ R.cells) (hRs : slots ≤ R.slots) (hRf : 2 ≤ R.frames) (hRl : 46 ≤ R.locals) (hNN : 152 ≤ NN) (hE : CE E tM tC kK kV A s) (hret : ∀ (r : Int64) (x : St) (H : Heap) (locs : List Loc) (pc : Nat) (ls : Array Slot), decode b_Src_readTold pc = .ok (.lreturn, 1) → post r x → Wd dC dI cI cB cJ cZ ad stC kcC NN A x H → va_S A s.heap H locs → W p l e R s m args below meth c H locs cells slots Q (F0 m pc ls [.long r])) : ∀ (o : Nat) (l1 : Int32) (x : St) (H : Heap) (locs : List Loc) (ls : Array Slot), (o < NN ∧ kcC o = 8) → wp_Src_readTold post o l1 x → Wd dC dI cI cB cJ cZ ad stC kcC NN A x H → va_S A s.heap H locs → lv_has ls 4 [(0, .ref (ad o)), (1, .int l1)] → W p l e R s m args below meth c H locs cells slots Q (F0 m 0 ls []) := by
  intro o l1 x H locs ls fo hw hW hS hl
  unfold wp_Src_readTold at hw
  refine lv_iload_n hx hb d_Src_readTold_0 rfl (lv_at hl 1 rfl) ?_
  refine lv_iconst (v := 3) hx hb d_Src_readTold_1 (by decide) ?_
  refine lv_icmp_ne (tgt := 14) hx hb d_Src_readTold_2 (by decide) (fun c3 => ?_) (fun c3 => ?_)
  · have hw := hw.1 c3
    refine lv_iload_n hx hb d_Src_readTold_14 rfl (lv_at hl 1 rfl) ?_
    refine lv_if_ne (tgt := 42) hx hb d_Src_readTold_15 (by decide) (fun c4 => ?_) (fun c4 => ?_)
    · have hw := hw.1 c4
      refine lv_aload_n hx hb d_Src_readTold_42 rfl (lv_at hl 0 rfl) ?_
      have hF := hW.free hS hA
      refine va_calll (va_runV (C := R_Src) (As := []) (rest := []) ⟨hx, hb, hml, hown, hT⟩ (k_Src_readVarint l dC dI cI cB cJ cZ ad NN E tM tC kK kV hNN H.size o x fo hw) ⟨callB_of 0 hT (gwt_in w_6_108) rfl rfl rfl (hT _ w_1_11) (hT _ w_6_151) (by decide +kernel) ⟨Nat.le_trans (Nat.le_of_ble_eq_true rfl) hRf, Nat.le_trans (Nat.le_of_ble_eq_true rfl) hRl⟩, hT _ w_6_106, hT _ w_6_107⟩ ⟨PVc.blind, va_recv hK hW.1 (ci := 8) (q0 := o) rfl (pic_obj fo.1 fo.2 (by decide)), PVc.at _ hW hK hN hE hS hF⟩ rfl rfl hl.1 rfl (lv_room (Nat.le_of_ble_eq_true rfl)) d_Src_readTold_43 ⟨hRc, hRs⟩) hS (fun q _ h => hF q h) hF (fun r6 x5 t H locs ht hvm hw hB hz1 hk1 hS => ?_)
      have hW := Wd.back hB ht hF
      clear hB ht hF hz1 hk1 hvm
      have hF := hW.free hS hA
      refine va_calll (va_runSN (As := [.long r6]) (rest := []) ⟨hx, hb, hml, hown, hT⟩ (k_V_unzigzag l dC dI cI cB cJ cZ ad NN E tM tC kK kV hNN H.size r6 x5  hw) ⟨va_cnB 1 hT (gwt_in w_6_162) rfl rfl rfl (hN _ wn_6_160 rfl) (hT _ w_1_1) (by decide +kernel) ⟨Nat.le_trans (Nat.le_of_ble_eq_true rfl) hRf, Nat.le_trans (Nat.le_of_ble_eq_true rfl) hRl⟩, hT _ w_6_161, trivial⟩ ⟨PVc.blind, PVc.at _ hW hK hN hE hS hF⟩ rfl rfl hl.1 rfl (lv_room (Nat.le_of_ble_eq_true rfl)) d_Src_readTold_46 ⟨hRc, hRs⟩) hS (fun q _ h => hF q h) hF (fun r8 x7 t H locs ht hvm hw hB hz1 hk1 hS => ?_)
      have hW := Wd.back hB ht hF
      clear hB ht hF hz1 hk1 hvm
      refine lv_lstore_n (lv' := [(2, .long r8), (0, .ref (ad o)), (1, .int l1)]) hx hb d_Src_readTold_49 rfl hl (by decide) rfl (fun ls hl => ?_)
      refine lv_aload_n hx hb d_Src_readTold_50 rfl (lv_at hl 1 rfl) ?_
      refine lv_iload_n hx hb d_Src_readTold_51 rfl (lv_at hl 2 rfl) ?_
      refine lv_iconst (v := 2) hx hb d_Src_readTold_52 (by decide) ?_
      refine lv_icmp_eq (tgt := 64) hx hb d_Src_readTold_53 (by decide) (fun c9 => ?_) (fun c9 => ?_)
      · have hw := hw.1 c9
        exact t_Src_readTold_64 hx hb hml hown hT hK hN hA hRc hRs hRf hRl hNN hE hret  o l1 r8 o x7 H locs ls fo fo hw hW hS (lv_sub hl [1, 2, 0] rfl)
      · have hw := hw.2 c9
        refine lv_lload_n hx hb d_Src_readTold_56 rfl (lv_at hl 0 rfl) ?_
        refine lv_lload_n hx hb d_Src_readTold_57 rfl (lv_at hl 0 rfl) ?_
        refine lv_l2i hx hb d_Src_readTold_58 rfl ?_
        refine lv_i2l hx hb d_Src_readTold_59 rfl ?_
        refine W.lcmp hx hb d_Src_readTold_60 ?_
        refine lv_if_ne (tgt := 68) hx hb d_Src_readTold_61 (by decide) (fun c10 => ?_) (fun c10 => ?_)
        · have hw := hw.1 c10
          refine lv_iconst (v := 0) hx hb d_Src_readTold_68 (by decide) ?_
          exact t_Src_readTold_69 hx hb hml hown hT hK hN hA hRc hRs hRf hRl hNN hE hret  o l1 r8 0 o x7 H locs ls fo fo hw hW hS (lv_sub hl [1, 2, 0] rfl)
        · have hw := hw.2 c10
          exact t_Src_readTold_64 hx hb hml hown hT hK hN hA hRc hRs hRf hRl hNN hE hret  o l1 r8 o x7 H locs ls fo fo hw hW hS (lv_sub hl [1, 2, 0] rfl)
    · have hw := hw.2 c4
      refine lv_aload_n hx hb d_Src_readTold_18 rfl (lv_at hl 0 rfl) ?_
      have hF := hW.free hS hA
      refine va_calli (va_runV (C := R_Src) (As := []) (rest := []) ⟨hx, hb, hml, hown, hT⟩ (k_Src_readByte l dC dI cI cB cJ cZ ad NN E tM tC kK kV hNN H.size o x fo hw) ⟨callB_of 0 hT (gwt_in w_6_124) rfl rfl rfl (hT _ w_1_11) (hT _ w_6_159) (by decide +kernel) ⟨Nat.le_trans (Nat.le_of_ble_eq_true rfl) hRf, Nat.le_trans (Nat.le_of_ble_eq_true rfl) hRl⟩, hT _ w_6_122, hT _ w_6_123⟩ ⟨PVc.blind, va_recv hK hW.1 (ci := 8) (q0 := o) rfl (pic_obj fo.1 fo.2 (by decide)), PVc.at _ hW hK hN hE hS hF⟩ rfl rfl hl.1 rfl (lv_room (Nat.le_of_ble_eq_true rfl)) d_Src_readTold_19 ⟨hRc, hRs⟩) hS (fun q _ h => hF q h) hF (fun r12 x11 t H locs ht hvm hw hB hz1 hk1 hS => ?_)
      have hW := Wd.back hB ht hF
      clear hB ht hF hz1 hk1 hvm
      refine lv_istore_n (lv' := [(2, .int r12), (0, .ref (ad o)), (1, .int l1)]) hx hb d_Src_readTold_22 rfl hl (by decide) rfl (fun ls hl => ?_)
      refine lv_aload_n hx hb d_Src_readTold_23 rfl (lv_at hl 1 rfl) ?_
      refine lv_iload_n hx hb d_Src_readTold_24 rfl (lv_at hl 0 rfl) ?_
      refine lv_iconst (v := 1) hx hb d_Src_readTold_25 (by decide) ?_
      refine lv_icmp_gt (tgt := 33) hx hb d_Src_readTold_26 (by decide) (fun c13 => ?_) (fun c13 => ?_)
      · have hw := hw.1 c13
        refine lv_iconst (v := 0) hx hb d_Src_readTold_33 (by decide) ?_
        exact t_Src_readTold_34 hx hb hml hown hT hK hN hA hRc hRs hRf hRl hNN hE hret  o l1 r12 0 o x11 H locs ls fo fo hw hW hS (lv_sub hl [1, 2, 0] rfl)
      · have hw := hw.2 c13
        refine lv_iconst (v := 1) hx hb d_Src_readTold_29 (by decide) ?_
        refine lv_goto (tgt := 34) hx hb d_Src_readTold_30 (by decide) ?_
        exact t_Src_readTold_34 hx hb hml hown hT hK hN hA hRc hRs hRf hRl hNN hE hret  o l1 r12 1 o x11 H locs ls fo fo hw hW hS (lv_sub hl [1, 2, 0] rfl)
  · have hw := hw.2 c3
    refine lv_aload_n hx hb d_Src_readTold_5 rfl (lv_at hl 0 rfl) ?_
    refine lv_aload_n hx hb d_Src_readTold_6 rfl (lv_at hl 0 rfl) ?_
    have hF := hW.free hS hA
    refine va_calll (va_runV (C := R_Src) (As := []) (rest := [.ref (ad o)]) ⟨hx, hb, hml, hown, hT⟩ (k_Src_readVarint l dC dI cI cB cJ cZ ad NN E tM tC kK kV hNN H.size o x fo hw) ⟨callB_of 0 hT (gwt_in w_6_108) rfl rfl rfl (hT _ w_1_11) (hT _ w_6_151) (by decide +kernel) ⟨Nat.le_trans (Nat.le_of_ble_eq_true rfl) hRf, Nat.le_trans (Nat.le_of_ble_eq_true rfl) hRl⟩, hT _ w_6_106, hT _ w_6_107⟩ ⟨PVc.blind, va_recv hK hW.1 (ci := 8) (q0 := o) rfl (pic_obj fo.1 fo.2 (by decide)), PVc.at _ hW hK hN hE hS hF⟩ rfl rfl hl.1 rfl (lv_room (Nat.le_of_ble_eq_true rfl)) d_Src_readTold_7 ⟨hRc, hRs⟩) hS (fun q _ h => hF q h) hF (fun r15 x14 t H locs ht hvm hw hB hz1 hk1 hS => ?_)
    have hW := Wd.back hB ht hF
    clear hB ht hF hz1 hk1 hvm
    have hF := hW.free hS hA
    refine va_calll (va_runV (C := R_Src) (As := [.long r15]) (rest := []) ⟨hx, hb, hml, hown, hT⟩ (k_Src_readLetters l dC dI cI cB cJ cZ ad NN E tM tC kK kV hNN H.size o r15 x14 fo hw) ⟨callB_of 1 hT (gwt_in w_6_155) rfl rfl rfl (hT _ w_1_11) (hT _ w_6_152) (by decide +kernel) ⟨Nat.le_trans (Nat.le_of_ble_eq_true rfl) hRf, Nat.le_trans (Nat.le_of_ble_eq_true rfl) hRl⟩, hT _ w_6_153, hT _ w_6_154⟩ ⟨PVc.blind, va_recv hK hW.1 (ci := 8) (q0 := o) rfl (pic_obj fo.1 fo.2 (by decide)), PVc.at _ hW hK hN hE hS hF⟩ rfl rfl hl.1 rfl (lv_room (Nat.le_of_ble_eq_true rfl)) d_Src_readTold_10 ⟨hRc, hRs⟩) hS (fun q _ h => hF q h) hF (fun r17 x16 t H locs ht hvm hw hB hz1 hk1 hS => ?_)
    have hW := Wd.back hB ht hF
    clear hB ht hF hz1 hk1 hvm
    exact hret r17 x16 H locs 13 ls d_Src_readTold_13 hw hW hS
set_option maxHeartbeats 4000000 in
set_option maxRecDepth 100000 in
theorem k_Src_readTold (l : Launch) (dC : Nat → ClassId) (dI : Nat → Nat → Nat) (cI cB cJ cZ : ClassId) (ad : Nat → Nat) (NN : Nat) (E : Heap) (tM tC : Nat) (kK kV : Nat → Nat) (hNN : 152 ≤ NN) (sz : Nat) (o : Nat) (l1 : Int32) (x : St) (fo : o < NN ∧ kcC o = 8) {post : Int64 → St → Prop} (hw : wp_Src_readTold post o l1 x) : Met l y_Src_readTold (wsOf y_Src_readTold b_Src_readTold 4 (some (.long))) ({ frames := 2, cells := 0, slots := 0, locals := 46 }) (va_Pc [.ref (ad o), .int l1] (PVc dC dI cI cB cJ cZ ad stC kcC NN E tM tC kK kV sz x)) (va_Ql (fun (r : Int64) (y : St) => post r y) (fun y t => Wd dC dI cI cB cJ cZ ad stC kcC NN (va_A (pic ad stC kcC NN cI cB cJ cZ x) sz) y t.heap) (va_A (pic ad stC kcC NN cI cB cJ cZ x) sz)) 0 0 (va_A (pic ad stC kcC NN cI cB cJ cZ x) sz) := by
  refine Met.ofW (cc := b_Src_readTold) (maxL := 4) (ret := some (.long)) (by decide) rfl ?_
  intro p e s m args below meth c s₁ B hml hv
  obtain ⟨rfl, ⟨hsz, hW0, hK, hN⟩, hE⟩ := hv
  have hx := B.exec
  have hb := B.bytes
  have hr := B.returns
  have hts := atoms_spec B.pre
  have hT : ∀ w ∈ TG, w.before _ s = true := fun w h => hts w (List.mem_cons_of_mem _ h)
  have hown : s.vm.findClass R_Src = some m.cls := findClass_of_methodNamed B.named
  have hlocks := B.notSynchronized
  subst hsz
  have hW : Wd dC dI cI cB cJ cZ ad stC kcC NN (va_A (pic ad stC kcC NN cI cB cJ cZ x) s.heap.size) x s.heap := ⟨hW0.1, hW0.2.1.self (sz := s.heap.size), hW0.2.2⟩
  generalize hAe : va_A (pic ad stC kcC NN cI cB cJ cZ x) s.heap.size = A at hW hE ⊢
  have hA : ∀ q : Nat, s.heap.size ≤ q → A q := fun q h => by rw [← hAe]; exact Or.inr h
  have hS : va_S A s.heap s.heap [] := va_S.rf
  have hl := lv_entry ([.ref (ad o), .int l1]) (n := 4) (Nat.le_of_ble_eq_true rfl)
  rw [lg_entry_eq]
  generalize (lg_sl ([.ref (ad o), .int l1]) ++ List.replicate (4 - (lg_sl ([.ref (ad o), .int l1])).length) Slot.unset).toArray = ls at hl ⊢
  have hl : lv_has ls 4 [(0, .ref (ad o)), (1, .int l1)] := hl
  exact t_Src_readTold_e hx hb hml hown hT hK hN hA (Nat.le_refl 0) (Nat.le_refl 0) (Nat.le_refl 2) (Nat.le_refl 46) hNN hE (fun r x H locs pc ls hd hp hW hS => W.lret (v := r) hx hb hr (fun t ht hM => ⟨⟨r, x, rfl, hp, Wd.back hW ht.symm (fun _ z => z)⟩, hS.F ht⟩) hS.2.2 hd hlocks)  o l1 x _ _ ls fo hw hW hS hl
end
