theorem fr_Opn_3 : F_Opn 3 = (R_Opn, "opens", "I", false) := rfl
theorem w_1_147 : (Jvm.Cond.fieldLink "StripedVault$Opener" (115 : Nat) "StripedVault$Schema" "type" "[I") ∈ TG := tw_1 147 (by decide +kernel) (by decide +kernel)
theorem w_1_155 : (Jvm.Cond.fieldLink "StripedVault$Opener" (175 : Nat) "StripedVault$Schema" "parent" "[I") ∈ TG := tw_1 155 (by decide +kernel) (by decide +kernel)
theorem w_3_18 : (Jvm.Cond.fieldLink "StripedVault$Opener" (51 : Nat) "StripedVault$Opener" "opens" "I") ∈ TG := tw_3 18 (by decide +kernel) (by decide +kernel)
theorem w_6_42 : (Jvm.Cond.static ({ cls := "StripedVault", name := "checkOf", desc := "([BII)I" } : Jvm.MethodName)) ∈ TG := tw_6 42 (by decide +kernel) (by decide +kernel)
theorem w_6_43 : (Jvm.Cond.code ({ cls := "StripedVault", name := "checkOf", desc := "([BII)I" } : Jvm.MethodName) prog_1_method_38_code (5 : Nat) (Option.some Jvm.ClassFile.FieldType.int)) ∈ TG := tw_6 43 (by decide +kernel) (by decide +kernel)
theorem w_6_78 : (Jvm.Cond.methodLink "StripedVault$Opener" (47 : Nat) ({ cls := "StripedVault$Opener", name := "lookAt", desc := "(III)V" } : Jvm.MethodName)) ∈ TG := tw_6 78 (by decide +kernel) (by decide +kernel)
theorem w_6_80 : (Jvm.Cond.instanceMethod ({ cls := "StripedVault$Opener", name := "lookAt", desc := "(III)V" } : Jvm.MethodName)) ∈ TG := tw_6 80 (by decide +kernel) (by decide +kernel)
theorem w_6_81 : (Jvm.Cond.code ({ cls := "StripedVault$Opener", name := "lookAt", desc := "(III)V" } : Jvm.MethodName) prog_4_method_2_code (4 : Nat) (Option.none : Option Jvm.ClassFile.FieldType)) ∈ TG := tw_6 81 (by decide +kernel) (by decide +kernel)
theorem w_6_82 : (Jvm.Cond.constant "StripedVault$Opener" (55 : Nat) (40000 : Int32)) ∈ TG := tw_6 82 (by decide +kernel) (by decide +kernel)
theorem w_6_83 : (Jvm.Cond.methodLink "StripedVault$Opener" (56 : Nat) ({ cls := "java/lang/System", name := "arraycopy", desc := "(Ljava/lang/Object;ILjava/lang/Object;II)V" } : Jvm.MethodName)) ∈ TG := tw_6 83 (by decide +kernel) (by decide +kernel)
theorem w_6_85 : (Jvm.Cond.methodLink "StripedVault$Opener" (65 : Nat) ({ cls := "StripedVault$Source", name := "begin", desc := "(II)V" } : Jvm.MethodName)) ∈ TG := tw_6 85 (by decide +kernel) (by decide +kernel)
theorem w_6_86 : (Jvm.Cond.instanceMethod ({ cls := "StripedVault$Source", name := "begin", desc := "(II)V" } : Jvm.MethodName)) ∈ TG := tw_6 86 (by decide +kernel) (by decide +kernel)
theorem w_6_87 : (Jvm.Cond.selects "StripedVault$Source" ({ cls := "StripedVault$Source", name := "begin", desc := "(II)V" } : Jvm.MethodName) ({ cls := "StripedVault$Source", name := "begin", desc := "(II)V" } : Jvm.MethodName)) ∈ TG := tw_6 87 (by decide +kernel) (by decide +kernel)
theorem w_6_88 : (Jvm.Cond.code ({ cls := "StripedVault$Source", name := "begin", desc := "(II)V" } : Jvm.MethodName) prog_10_method_2_code (3 : Nat) (Option.none : Option Jvm.ClassFile.FieldType)) ∈ TG := tw_6 88 (by decide +kernel) (by decide +kernel)
theorem w_6_90 : (Jvm.Cond.methodLink "StripedVault$Opener" (69 : Nat) ({ cls := "StripedVault$Source", name := "readFixed", desc := "(I)J" } : Jvm.MethodName)) ∈ TG := tw_6 90 (by decide +kernel) (by decide +kernel)
theorem w_6_91 : (Jvm.Cond.instanceMethod ({ cls := "StripedVault$Source", name := "readFixed", desc := "(I)J" } : Jvm.MethodName)) ∈ TG := tw_6 91 (by decide +kernel) (by decide +kernel)
theorem w_6_92 : (Jvm.Cond.selects "StripedVault$Source" ({ cls := "StripedVault$Source", name := "readFixed", desc := "(I)J" } : Jvm.MethodName) ({ cls := "StripedVault$Source", name := "readFixed", desc := "(I)J" } : Jvm.MethodName)) ∈ TG := tw_6 92 (by decide +kernel) (by decide +kernel)
theorem w_6_93 : (Jvm.Cond.code ({ cls := "StripedVault$Source", name := "readFixed", desc := "(I)J" } : Jvm.MethodName) prog_10_method_9_code (5 : Nat) (Option.some Jvm.ClassFile.FieldType.long)) ∈ TG := tw_6 93 (by decide +kernel) (by decide +kernel)
theorem wn_6_84 : (Jvm.Cond.fieldLinkNest "StripedVault$Opener" (62 : Nat) "StripedVault" "MAGIC" "[B" "StripedVault") ∈ lw_tbl := tb_6 _ (List.mem_of_getElem? (i := 84) (by decide +kernel))
theorem wn_6_95 : (Jvm.Cond.methodLinkNest "StripedVault$Opener" (73 : Nat) ({ cls := "StripedVault", name := "checkOf", desc := "([BII)I" } : Jvm.MethodName) "StripedVault") ∈ lw_tbl := tb_6 _ (List.mem_of_getElem? (i := 95) (by decide +kernel))
theorem ws_33 : Cond.selects R_Opn y_Opn_lookAt y_Opn_lookAt ∈ TG := tw_s 33 (by decide +kernel) (by decide +kernel)
theorem d_Opn_lookAtFrame_91 : decode b_Opn_lookAtFrame 91 = .ok (.bipush 13, 2) := by decide +kernel
theorem d_Opn_lookAtFrame_93 : decode b_Opn_lookAtFrame 93 = .ok (.ireturn, 1) := by decide +kernel
theorem d_Opn_lookAtFrame_60 : decode b_Opn_lookAtFrame 60 = .ok (.iload_n 3, 1) := by decide +kernel
theorem d_Opn_lookAtFrame_61 : decode b_Opn_lookAtFrame 61 = .ok (.iconst 4, 1) := by decide +kernel
theorem d_Opn_lookAtFrame_62 : decode b_Opn_lookAtFrame 62 = .ok (.if_icmp .ge 38, 3) := by decide +kernel
theorem d_Opn_lookAtFrame_100 : decode b_Opn_lookAtFrame 100 = .ok (.aload_n 0, 1) := by decide +kernel
theorem d_Opn_lookAtFrame_101 : decode b_Opn_lookAtFrame 101 = .ok (.getfield 40, 3) := by decide +kernel
theorem d_Opn_lookAtFrame_104 : decode b_Opn_lookAtFrame 104 = .ok (.iload_n 2, 1) := by decide +kernel
theorem d_Opn_lookAtFrame_105 : decode b_Opn_lookAtFrame 105 = .ok (.bipush 12, 2) := by decide +kernel
theorem d_Opn_lookAtFrame_107 : decode b_Opn_lookAtFrame 107 = .ok (.isub, 1) := by decide +kernel
theorem d_Opn_lookAtFrame_108 : decode b_Opn_lookAtFrame 108 = .ok (.iload_n 2, 1) := by decide +kernel
theorem d_Opn_lookAtFrame_109 : decode b_Opn_lookAtFrame 109 = .ok (.iconst 4, 1) := by decide +kernel
theorem d_Opn_lookAtFrame_110 : decode b_Opn_lookAtFrame 110 = .ok (.isub, 1) := by decide +kernel
theorem d_Opn_lookAtFrame_111 : decode b_Opn_lookAtFrame 111 = .ok (.invokevirtual 65, 3) := by decide +kernel
theorem d_Opn_lookAtFrame_114 : decode b_Opn_lookAtFrame 114 = .ok (.aload_n 0, 1) := by decide +kernel
theorem d_Opn_lookAtFrame_115 : decode b_Opn_lookAtFrame 115 = .ok (.getfield 40, 3) := by decide +kernel
theorem d_Opn_lookAtFrame_118 : decode b_Opn_lookAtFrame 118 = .ok (.iconst 4, 1) := by decide +kernel
theorem d_Opn_lookAtFrame_119 : decode b_Opn_lookAtFrame 119 = .ok (.invokevirtual 69, 3) := by decide +kernel
theorem d_Opn_lookAtFrame_122 : decode b_Opn_lookAtFrame 122 = .ok (.lstore_n 3, 1) := by decide +kernel
theorem d_Opn_lookAtFrame_123 : decode b_Opn_lookAtFrame 123 = .ok (.aload_n 0, 1) := by decide +kernel
theorem d_Opn_lookAtFrame_124 : decode b_Opn_lookAtFrame 124 = .ok (.getfield 40, 3) := by decide +kernel
theorem d_Opn_lookAtFrame_127 : decode b_Opn_lookAtFrame 127 = .ok (.iconst 4, 1) := by decide +kernel
theorem d_Opn_lookAtFrame_128 : decode b_Opn_lookAtFrame 128 = .ok (.invokevirtual 69, 3) := by decide +kernel
theorem d_Opn_lookAtFrame_131 : decode b_Opn_lookAtFrame 131 = .ok (.l2i, 1) := by decide +kernel
theorem d_Opn_lookAtFrame_132 : decode b_Opn_lookAtFrame 132 = .ok (.istore 5, 2) := by decide +kernel
theorem d_Opn_lookAtFrame_134 : decode b_Opn_lookAtFrame 134 = .ok (.lload_n 3, 1) := by decide +kernel
theorem d_Opn_lookAtFrame_135 : decode b_Opn_lookAtFrame 135 = .ok (.iload_n 2, 1) := by decide +kernel
theorem d_Opn_lookAtFrame_136 : decode b_Opn_lookAtFrame 136 = .ok (.bipush 16, 2) := by decide +kernel
theorem d_Opn_lookAtFrame_138 : decode b_Opn_lookAtFrame 138 = .ok (.isub, 1) := by decide +kernel
theorem d_Opn_lookAtFrame_139 : decode b_Opn_lookAtFrame 139 = .ok (.i2l, 1) := by decide +kernel
theorem d_Opn_lookAtFrame_140 : decode b_Opn_lookAtFrame 140 = .ok (.lcmp, 1) := by decide +kernel
theorem d_Opn_lookAtFrame_141 : decode b_Opn_lookAtFrame 141 = .ok (.ifCond .le 6, 3) := by decide +kernel
theorem d_Opn_lookAtFrame_147 : decode b_Opn_lookAtFrame 147 = .ok (.iload_n 2, 1) := by decide +kernel
theorem d_Opn_lookAtFrame_148 : decode b_Opn_lookAtFrame 148 = .ok (.bipush 12, 2) := by decide +kernel
theorem d_Opn_lookAtFrame_150 : decode b_Opn_lookAtFrame 150 = .ok (.isub, 1) := by decide +kernel
theorem d_Opn_lookAtFrame_151 : decode b_Opn_lookAtFrame 151 = .ok (.lload_n 3, 1) := by decide +kernel
theorem d_Opn_lookAtFrame_152 : decode b_Opn_lookAtFrame 152 = .ok (.l2i, 1) := by decide +kernel
theorem d_Opn_lookAtFrame_153 : decode b_Opn_lookAtFrame 153 = .ok (.isub, 1) := by decide +kernel
theorem d_Opn_lookAtFrame_154 : decode b_Opn_lookAtFrame 154 = .ok (.istore 6, 2) := by decide +kernel
theorem d_Opn_lookAtFrame_156 : decode b_Opn_lookAtFrame 156 = .ok (.aload_n 0, 1) := by decide +kernel
theorem d_Opn_lookAtFrame_157 : decode b_Opn_lookAtFrame 157 = .ok (.getfield 40, 3) := by decide +kernel
theorem d_Opn_lookAtFrame_160 : decode b_Opn_lookAtFrame 160 = .ok (.iload 6, 2) := by decide +kernel
theorem d_Opn_lookAtFrame_162 : decode b_Opn_lookAtFrame 162 = .ok (.iload_n 2, 1) := by decide +kernel
theorem d_Opn_lookAtFrame_163 : decode b_Opn_lookAtFrame 163 = .ok (.bipush 12, 2) := by decide +kernel
theorem d_Opn_lookAtFrame_165 : decode b_Opn_lookAtFrame 165 = .ok (.isub, 1) := by decide +kernel
theorem d_Opn_lookAtFrame_166 : decode b_Opn_lookAtFrame 166 = .ok (.invokevirtual 65, 3) := by decide +kernel
theorem d_Opn_lookAtFrame_169 : decode b_Opn_lookAtFrame 169 = .ok (.aload_n 0, 1) := by decide +kernel
theorem d_Opn_lookAtFrame_170 : decode b_Opn_lookAtFrame 170 = .ok (.getfield 44, 3) := by decide +kernel
theorem d_Opn_lookAtFrame_173 : decode b_Opn_lookAtFrame 173 = .ok (.iconst 4, 1) := by decide +kernel
theorem d_Opn_lookAtFrame_174 : decode b_Opn_lookAtFrame 174 = .ok (.iload 6, 2) := by decide +kernel
theorem d_Opn_lookAtFrame_176 : decode b_Opn_lookAtFrame 176 = .ok (.invokevirtual 65, 3) := by decide +kernel
theorem d_Opn_lookAtFrame_179 : decode b_Opn_lookAtFrame 179 = .ok (.iload 5, 2) := by decide +kernel
theorem d_Opn_lookAtFrame_181 : decode b_Opn_lookAtFrame 181 = .ok (.aload_n 0, 1) := by decide +kernel
theorem d_Opn_lookAtFrame_182 : decode b_Opn_lookAtFrame 182 = .ok (.getfield 25, 3) := by decide +kernel
theorem d_Opn_lookAtFrame_185 : decode b_Opn_lookAtFrame 185 = .ok (.getfield 31, 3) := by decide +kernel
theorem d_Opn_lookAtFrame_188 : decode b_Opn_lookAtFrame 188 = .ok (.iload 6, 2) := by decide +kernel
theorem d_Opn_lookAtFrame_190 : decode b_Opn_lookAtFrame 190 = .ok (.iload_n 2, 1) := by decide +kernel
theorem d_Opn_lookAtFrame_191 : decode b_Opn_lookAtFrame 191 = .ok (.bipush 12, 2) := by decide +kernel
theorem d_Opn_lookAtFrame_193 : decode b_Opn_lookAtFrame 193 = .ok (.isub, 1) := by decide +kernel
theorem d_Opn_lookAtFrame_194 : decode b_Opn_lookAtFrame 194 = .ok (.invokestatic 73, 3) := by decide +kernel
theorem d_Opn_lookAtFrame_197 : decode b_Opn_lookAtFrame 197 = .ok (.if_icmp .ne 7, 3) := by decide +kernel
theorem d_Opn_lookAtFrame_204 : decode b_Opn_lookAtFrame 204 = .ok (.bipush 14, 2) := by decide +kernel
theorem d_Opn_lookAtFrame_206 : decode b_Opn_lookAtFrame 206 = .ok (.ireturn, 1) := by decide +kernel
theorem d_Opn_lookAtFrame_200 : decode b_Opn_lookAtFrame 200 = .ok (.iconst 0, 1) := by decide +kernel
theorem d_Opn_lookAtFrame_201 : decode b_Opn_lookAtFrame 201 = .ok (.goto 5, 3) := by decide +kernel
theorem d_Opn_lookAtFrame_144 : decode b_Opn_lookAtFrame 144 = .ok (.bipush 13, 2) := by decide +kernel
theorem d_Opn_lookAtFrame_146 : decode b_Opn_lookAtFrame 146 = .ok (.ireturn, 1) := by decide +kernel
theorem d_Opn_lookAtFrame_65 : decode b_Opn_lookAtFrame 65 = .ok (.aload_n 1, 1) := by decide +kernel
theorem d_Opn_lookAtFrame_66 : decode b_Opn_lookAtFrame 66 = .ok (.iload_n 3, 1) := by decide +kernel
theorem d_Opn_lookAtFrame_67 : decode b_Opn_lookAtFrame 67 = .ok (.baload, 1) := by decide +kernel
theorem d_Opn_lookAtFrame_68 : decode b_Opn_lookAtFrame 68 = .ok (.getstatic 62, 3) := by decide +kernel
theorem d_Opn_lookAtFrame_71 : decode b_Opn_lookAtFrame 71 = .ok (.iload_n 3, 1) := by decide +kernel
theorem d_Opn_lookAtFrame_72 : decode b_Opn_lookAtFrame 72 = .ok (.baload, 1) := by decide +kernel
theorem d_Opn_lookAtFrame_73 : decode b_Opn_lookAtFrame 73 = .ok (.if_icmp .ne 18, 3) := by decide +kernel
theorem d_Opn_lookAtFrame_76 : decode b_Opn_lookAtFrame 76 = .ok (.aload_n 1, 1) := by decide +kernel
theorem d_Opn_lookAtFrame_77 : decode b_Opn_lookAtFrame 77 = .ok (.iload_n 2, 1) := by decide +kernel
theorem d_Opn_lookAtFrame_78 : decode b_Opn_lookAtFrame 78 = .ok (.iconst 4, 1) := by decide +kernel
theorem d_Opn_lookAtFrame_79 : decode b_Opn_lookAtFrame 79 = .ok (.isub, 1) := by decide +kernel
theorem d_Opn_lookAtFrame_80 : decode b_Opn_lookAtFrame 80 = .ok (.iload_n 3, 1) := by decide +kernel
theorem d_Opn_lookAtFrame_81 : decode b_Opn_lookAtFrame 81 = .ok (.iadd, 1) := by decide +kernel
theorem d_Opn_lookAtFrame_82 : decode b_Opn_lookAtFrame 82 = .ok (.baload, 1) := by decide +kernel
theorem d_Opn_lookAtFrame_83 : decode b_Opn_lookAtFrame 83 = .ok (.getstatic 62, 3) := by decide +kernel
theorem d_Opn_lookAtFrame_86 : decode b_Opn_lookAtFrame 86 = .ok (.iload_n 3, 1) := by decide +kernel
theorem d_Opn_lookAtFrame_87 : decode b_Opn_lookAtFrame 87 = .ok (.baload, 1) := by decide +kernel
theorem d_Opn_lookAtFrame_88 : decode b_Opn_lookAtFrame 88 = .ok (.if_icmp .eq 6, 3) := by decide +kernel
theorem d_Opn_lookAtFrame_94 : decode b_Opn_lookAtFrame 94 = .ok (.iinc 3 1, 3) := by decide +kernel
theorem d_Opn_lookAtFrame_97 : decode b_Opn_lookAtFrame 97 = .ok (.goto (-37), 3) := by decide +kernel
theorem d_Opn_lookAtFrame_41 : decode b_Opn_lookAtFrame 41 = .ok (.bipush 13, 2) := by decide +kernel
theorem d_Opn_lookAtFrame_43 : decode b_Opn_lookAtFrame 43 = .ok (.ireturn, 1) := by decide +kernel
theorem d_Opn_lookAtFrame_0 : decode b_Opn_lookAtFrame 0 = .ok (.aload_n 0, 1) := by decide +kernel
theorem d_Opn_lookAtFrame_1 : decode b_Opn_lookAtFrame 1 = .ok (.iconst (-1), 1) := by decide +kernel
theorem d_Opn_lookAtFrame_2 : decode b_Opn_lookAtFrame 2 = .ok (.iconst (-1), 1) := by decide +kernel
theorem d_Opn_lookAtFrame_3 : decode b_Opn_lookAtFrame 3 = .ok (.iconst (-1), 1) := by decide +kernel
theorem d_Opn_lookAtFrame_4 : decode b_Opn_lookAtFrame 4 = .ok (.invokevirtual 47, 3) := by decide +kernel
theorem d_Opn_lookAtFrame_7 : decode b_Opn_lookAtFrame 7 = .ok (.aload_n 0, 1) := by decide +kernel
theorem d_Opn_lookAtFrame_8 : decode b_Opn_lookAtFrame 8 = .ok (.getfield 51, 3) := by decide +kernel
theorem d_Opn_lookAtFrame_11 : decode b_Opn_lookAtFrame 11 = .ok (.bipush 100, 2) := by decide +kernel
theorem d_Opn_lookAtFrame_13 : decode b_Opn_lookAtFrame 13 = .ok (.if_icmp .lt 6, 3) := by decide +kernel
theorem d_Opn_lookAtFrame_19 : decode b_Opn_lookAtFrame 19 = .ok (.aload_n 0, 1) := by decide +kernel
theorem d_Opn_lookAtFrame_20 : decode b_Opn_lookAtFrame 20 = .ok (.dup, 1) := by decide +kernel
theorem d_Opn_lookAtFrame_21 : decode b_Opn_lookAtFrame 21 = .ok (.getfield 51, 3) := by decide +kernel
theorem d_Opn_lookAtFrame_24 : decode b_Opn_lookAtFrame 24 = .ok (.iconst 1, 1) := by decide +kernel
theorem d_Opn_lookAtFrame_25 : decode b_Opn_lookAtFrame 25 = .ok (.iadd, 1) := by decide +kernel
theorem d_Opn_lookAtFrame_26 : decode b_Opn_lookAtFrame 26 = .ok (.putfield 51, 3) := by decide +kernel
theorem d_Opn_lookAtFrame_29 : decode b_Opn_lookAtFrame 29 = .ok (.iload_n 2, 1) := by decide +kernel
theorem d_Opn_lookAtFrame_30 : decode b_Opn_lookAtFrame 30 = .ok (.bipush 16, 2) := by decide +kernel
theorem d_Opn_lookAtFrame_32 : decode b_Opn_lookAtFrame 32 = .ok (.if_icmp .lt 9, 3) := by decide +kernel
theorem d_Opn_lookAtFrame_35 : decode b_Opn_lookAtFrame 35 = .ok (.iload_n 2, 1) := by decide +kernel
theorem d_Opn_lookAtFrame_36 : decode b_Opn_lookAtFrame 36 = .ok (.ldc 55, 2) := by decide +kernel
theorem d_Opn_lookAtFrame_38 : decode b_Opn_lookAtFrame 38 = .ok (.if_icmp .le 6, 3) := by decide +kernel
theorem d_Opn_lookAtFrame_44 : decode b_Opn_lookAtFrame 44 = .ok (.aload_n 1, 1) := by decide +kernel
theorem d_Opn_lookAtFrame_45 : decode b_Opn_lookAtFrame 45 = .ok (.iconst 0, 1) := by decide +kernel
theorem d_Opn_lookAtFrame_46 : decode b_Opn_lookAtFrame 46 = .ok (.aload_n 0, 1) := by decide +kernel
theorem d_Opn_lookAtFrame_47 : decode b_Opn_lookAtFrame 47 = .ok (.getfield 25, 3) := by decide +kernel
theorem d_Opn_lookAtFrame_50 : decode b_Opn_lookAtFrame 50 = .ok (.getfield 31, 3) := by decide +kernel
theorem d_Opn_lookAtFrame_53 : decode b_Opn_lookAtFrame 53 = .ok (.iconst 0, 1) := by decide +kernel
theorem d_Opn_lookAtFrame_54 : decode b_Opn_lookAtFrame 54 = .ok (.iload_n 2, 1) := by decide +kernel
theorem d_Opn_lookAtFrame_55 : decode b_Opn_lookAtFrame 55 = .ok (.invokestatic 56, 3) := by decide +kernel
theorem d_Opn_lookAtFrame_58 : decode b_Opn_lookAtFrame 58 = .ok (.iconst 0, 1) := by decide +kernel
theorem d_Opn_lookAtFrame_59 : decode b_Opn_lookAtFrame 59 = .ok (.istore_n 3, 1) := by decide +kernel
theorem d_Opn_lookAtFrame_16 : decode b_Opn_lookAtFrame 16 = .ok (.bipush 23, 2) := by decide +kernel
theorem d_Opn_lookAtFrame_18 : decode b_Opn_lookAtFrame 18 = .ok (.ireturn, 1) := by decide +kernel
theorem d_Src_readVarint_118 : decode b_Src_readVarint 118 = .ok (.lconst 0, 1) := by decide +kernel
theorem d_Src_readVarint_119 : decode b_Src_readVarint 119 = .ok (.lreturn, 1) := by decide +kernel
theorem d_Src_readVarint_88 : decode b_Src_readVarint 88 = .ok (.lload_n 1, 1) := by decide +kernel
theorem d_Src_readVarint_89 : decode b_Src_readVarint 89 = .ok (.iload 4, 2) := by decide +kernel
theorem d_Src_readVarint_91 : decode b_Src_readVarint 91 = .ok (.bipush 127, 2) := by decide +kernel
theorem d_Src_readVarint_93 : decode b_Src_readVarint 93 = .ok (.iand, 1) := by decide +kernel
theorem d_Src_readVarint_94 : decode b_Src_readVarint 94 = .ok (.i2l, 1) := by decide +kernel
theorem d_Src_readVarint_95 : decode b_Src_readVarint 95 = .ok (.bipush 7, 2) := by decide +kernel
theorem d_Src_readVarint_97 : decode b_Src_readVarint 97 = .ok (.iload_n 3, 1) := by decide +kernel
theorem d_Src_readVarint_98 : decode b_Src_readVarint 98 = .ok (.imul, 1) := by decide +kernel
theorem d_Src_readVarint_99 : decode b_Src_readVarint 99 = .ok (.lshl, 1) := by decide +kernel
theorem d_Src_readVarint_100 : decode b_Src_readVarint 100 = .ok (.lor, 1) := by decide +kernel
theorem d_Src_readVarint_101 : decode b_Src_readVarint 101 = .ok (.lstore_n 1, 1) := by decide +kernel
theorem d_Src_readVarint_102 : decode b_Src_readVarint 102 = .ok (.iload 4, 2) := by decide +kernel
theorem d_Src_readVarint_104 : decode b_Src_readVarint 104 = .ok (.sipush 128, 3) := by decide +kernel
theorem d_Src_readVarint_107 : decode b_Src_readVarint 107 = .ok (.if_icmp .ge 5, 3) := by decide +kernel
theorem d_Src_readVarint_112 : decode b_Src_readVarint 112 = .ok (.iinc 3 1, 3) := by decide +kernel
theorem d_Src_readVarint_115 : decode b_Src_readVarint 115 = .ok (.goto (-111), 3) := by decide +kernel
theorem d_Src_readVarint_110 : decode b_Src_readVarint 110 = .ok (.lload_n 1, 1) := by decide +kernel
theorem d_Src_readVarint_111 : decode b_Src_readVarint 111 = .ok (.lreturn, 1) := by decide +kernel
theorem d_Src_readVarint_81 : decode b_Src_readVarint 81 = .ok (.aload_n 0, 1) := by decide +kernel
theorem d_Src_readVarint_82 : decode b_Src_readVarint 82 = .ok (.iconst 2, 1) := by decide +kernel
theorem d_Src_readVarint_83 : decode b_Src_readVarint 83 = .ok (.putfield 32, 3) := by decide +kernel
theorem d_Src_readVarint_86 : decode b_Src_readVarint 86 = .ok (.lconst 0, 1) := by decide +kernel
theorem d_Src_readVarint_87 : decode b_Src_readVarint 87 = .ok (.lreturn, 1) := by decide +kernel
theorem d_Src_readVarint_72 : decode b_Src_readVarint 72 = .ok (.iload_n 3, 1) := by decide +kernel
theorem d_Src_readVarint_73 : decode b_Src_readVarint 73 = .ok (.ifCond .le 15, 3) := by decide +kernel
theorem d_Src_readVarint_76 : decode b_Src_readVarint 76 = .ok (.iload 4, 2) := by decide +kernel
theorem d_Src_readVarint_78 : decode b_Src_readVarint 78 = .ok (.ifCond .ne 10, 3) := by decide +kernel
theorem d_Src_readVarint_4 : decode b_Src_readVarint 4 = .ok (.iload_n 3, 1) := by decide +kernel
theorem d_Src_readVarint_5 : decode b_Src_readVarint 5 = .ok (.bipush 10, 2) := by decide +kernel
theorem d_Src_readVarint_7 : decode b_Src_readVarint 7 = .ok (.if_icmp .ge 111, 3) := by decide +kernel
theorem d_Src_readVarint_10 : decode b_Src_readVarint 10 = .ok (.aload_n 0, 1) := by decide +kernel
theorem d_Src_readVarint_11 : decode b_Src_readVarint 11 = .ok (.getfield 32, 3) := by decide +kernel
theorem d_Src_readVarint_14 : decode b_Src_readVarint 14 = .ok (.ifCond .ne 104, 3) := by decide +kernel
theorem d_Src_readVarint_17 : decode b_Src_readVarint 17 = .ok (.aload_n 0, 1) := by decide +kernel
theorem d_Src_readVarint_18 : decode b_Src_readVarint 18 = .ok (.getfield 19, 3) := by decide +kernel
theorem d_Src_readVarint_21 : decode b_Src_readVarint 21 = .ok (.aload_n 0, 1) := by decide +kernel
theorem d_Src_readVarint_22 : decode b_Src_readVarint 22 = .ok (.getfield 29, 3) := by decide +kernel
theorem d_Src_readVarint_25 : decode b_Src_readVarint 25 = .ok (.if_icmp .lt 10, 3) := by decide +kernel
theorem d_Src_readVarint_35 : decode b_Src_readVarint 35 = .ok (.aload_n 0, 1) := by decide +kernel
theorem d_Src_readVarint_36 : decode b_Src_readVarint 36 = .ok (.getfield 15, 3) := by decide +kernel
theorem d_Src_readVarint_39 : decode b_Src_readVarint 39 = .ok (.aload_n 0, 1) := by decide +kernel
theorem d_Src_readVarint_40 : decode b_Src_readVarint 40 = .ok (.getfield 19, 3) := by decide +kernel
theorem d_Src_readVarint_43 : decode b_Src_readVarint 43 = .ok (.baload, 1) := by decide +kernel
theorem d_Src_readVarint_44 : decode b_Src_readVarint 44 = .ok (.sipush 255, 3) := by decide +kernel
theorem d_Src_readVarint_47 : decode b_Src_readVarint 47 = .ok (.iand, 1) := by decide +kernel
theorem d_Src_readVarint_48 : decode b_Src_readVarint 48 = .ok (.istore 4, 2) := by decide +kernel
theorem d_Src_readVarint_50 : decode b_Src_readVarint 50 = .ok (.aload_n 0, 1) := by decide +kernel
theorem d_Src_readVarint_51 : decode b_Src_readVarint 51 = .ok (.dup, 1) := by decide +kernel
theorem d_Src_readVarint_52 : decode b_Src_readVarint 52 = .ok (.getfield 19, 3) := by decide +kernel
theorem d_Src_readVarint_55 : decode b_Src_readVarint 55 = .ok (.iconst 1, 1) := by decide +kernel
theorem d_Src_readVarint_56 : decode b_Src_readVarint 56 = .ok (.iadd, 1) := by decide +kernel
theorem d_Src_readVarint_57 : decode b_Src_readVarint 57 = .ok (.putfield 19, 3) := by decide +kernel
theorem d_Src_readVarint_60 : decode b_Src_readVarint 60 = .ok (.iload_n 3, 1) := by decide +kernel
theorem d_Src_readVarint_61 : decode b_Src_readVarint 61 = .ok (.bipush 9, 2) := by decide +kernel
theorem d_Src_readVarint_63 : decode b_Src_readVarint 63 = .ok (.if_icmp .ne 9, 3) := by decide +kernel
theorem d_Src_readVarint_66 : decode b_Src_readVarint 66 = .ok (.iload 4, 2) := by decide +kernel
theorem d_Src_readVarint_68 : decode b_Src_readVarint 68 = .ok (.iconst 1, 1) := by decide +kernel
theorem d_Src_readVarint_69 : decode b_Src_readVarint 69 = .ok (.if_icmp .gt 12, 3) := by decide +kernel
theorem d_Src_readVarint_28 : decode b_Src_readVarint 28 = .ok (.aload_n 0, 1) := by decide +kernel
theorem d_Src_readVarint_29 : decode b_Src_readVarint 29 = .ok (.iconst 1, 1) := by decide +kernel
theorem d_Src_readVarint_30 : decode b_Src_readVarint 30 = .ok (.putfield 32, 3) := by decide +kernel
theorem d_Src_readVarint_33 : decode b_Src_readVarint 33 = .ok (.lconst 0, 1) := by decide +kernel
theorem d_Src_readVarint_34 : decode b_Src_readVarint 34 = .ok (.lreturn, 1) := by decide +kernel
theorem d_Src_readVarint_0 : decode b_Src_readVarint 0 = .ok (.lconst 0, 1) := by decide +kernel
theorem d_Src_readVarint_1 : decode b_Src_readVarint 1 = .ok (.lstore_n 1, 1) := by decide +kernel
theorem d_Src_readVarint_2 : decode b_Src_readVarint 2 = .ok (.iconst 0, 1) := by decide +kernel
theorem d_Src_readVarint_3 : decode b_Src_readVarint 3 = .ok (.istore_n 3, 1) := by decide +kernel
theorem d_V_within_16 : decode b_V_within 16 = .ok (.iconst 0, 1) := by decide +kernel
theorem d_V_within_17 : decode b_V_within 17 = .ok (.ireturn, 1) := by decide +kernel
theorem d_V_within_0 : decode b_V_within 0 = .ok (.lload_n 0, 1) := by decide +kernel
theorem d_V_within_1 : decode b_V_within 1 = .ok (.lconst 0, 1) := by decide +kernel
theorem d_V_within_2 : decode b_V_within 2 = .ok (.lcmp, 1) := by decide +kernel
theorem d_V_within_3 : decode b_V_within 3 = .ok (.ifCond .lt 13, 3) := by decide +kernel
theorem d_V_within_6 : decode b_V_within 6 = .ok (.lload_n 0, 1) := by decide +kernel
theorem d_V_within_7 : decode b_V_within 7 = .ok (.lload_n 2, 1) := by decide +kernel
theorem d_V_within_8 : decode b_V_within 8 = .ok (.lcmp, 1) := by decide +kernel
theorem d_V_within_9 : decode b_V_within 9 = .ok (.ifCond .gt 7, 3) := by decide +kernel
theorem d_V_within_12 : decode b_V_within 12 = .ok (.iconst 1, 1) := by decide +kernel
theorem d_V_within_13 : decode b_V_within 13 = .ok (.goto 4, 3) := by decide +kernel
theorem d_Src_check_0 : decode b_Src_check 0 = .ok (.aload_n 0, 1) := by decide +kernel
theorem d_Src_check_1 : decode b_Src_check 1 = .ok (.getfield 32, 3) := by decide +kernel
theorem d_Src_check_4 : decode b_Src_check 4 = .ok (.ifCond .ne 12, 3) := by decide +kernel
theorem d_Src_check_16 : decode b_Src_check 16 = .ok (.return_, 1) := by decide +kernel
theorem d_Src_check_7 : decode b_Src_check 7 = .ok (.iload_n 1, 1) := by decide +kernel
theorem d_Src_check_8 : decode b_Src_check 8 = .ok (.ifCond .ne 8, 3) := by decide +kernel
theorem d_Src_check_11 : decode b_Src_check 11 = .ok (.aload_n 0, 1) := by decide +kernel
theorem d_Src_check_12 : decode b_Src_check 12 = .ok (.iload_n 2, 1) := by decide +kernel
theorem d_Src_check_13 : decode b_Src_check 13 = .ok (.putfield 32, 3) := by decide +kernel
theorem d_Src_readByte_23 : decode b_Src_readByte 23 = .ok (.aload_n 0, 1) := by decide +kernel
theorem d_Src_readByte_24 : decode b_Src_readByte 24 = .ok (.getfield 32, 3) := by decide +kernel
theorem d_Src_readByte_27 : decode b_Src_readByte 27 = .ok (.ifCond .eq 5, 3) := by decide +kernel
theorem d_Src_readByte_32 : decode b_Src_readByte 32 = .ok (.aload_n 0, 1) := by decide +kernel
theorem d_Src_readByte_33 : decode b_Src_readByte 33 = .ok (.dup, 1) := by decide +kernel
theorem d_Src_readByte_34 : decode b_Src_readByte 34 = .ok (.getfield 19, 3) := by decide +kernel
theorem d_Src_readByte_37 : decode b_Src_readByte 37 = .ok (.iconst 1, 1) := by decide +kernel
theorem d_Src_readByte_38 : decode b_Src_readByte 38 = .ok (.iadd, 1) := by decide +kernel
theorem d_Src_readByte_39 : decode b_Src_readByte 39 = .ok (.putfield 19, 3) := by decide +kernel
theorem d_Src_readByte_42 : decode b_Src_readByte 42 = .ok (.aload_n 0, 1) := by decide +kernel
theorem d_Src_readByte_43 : decode b_Src_readByte 43 = .ok (.getfield 15, 3) := by decide +kernel
theorem d_Src_readByte_46 : decode b_Src_readByte 46 = .ok (.aload_n 0, 1) := by decide +kernel
theorem d_Src_readByte_47 : decode b_Src_readByte 47 = .ok (.getfield 19, 3) := by decide +kernel
theorem d_Src_readByte_50 : decode b_Src_readByte 50 = .ok (.iconst 1, 1) := by decide +kernel
theorem d_Src_readByte_51 : decode b_Src_readByte 51 = .ok (.isub, 1) := by decide +kernel
theorem d_Src_readByte_52 : decode b_Src_readByte 52 = .ok (.baload, 1) := by decide +kernel
theorem d_Src_readByte_53 : decode b_Src_readByte 53 = .ok (.sipush 255, 3) := by decide +kernel
theorem d_Src_readByte_56 : decode b_Src_readByte 56 = .ok (.iand, 1) := by decide +kernel
theorem d_Src_readByte_57 : decode b_Src_readByte 57 = .ok (.ireturn, 1) := by decide +kernel
theorem d_Src_readByte_30 : decode b_Src_readByte 30 = .ok (.iconst 0, 1) := by decide +kernel
theorem d_Src_readByte_31 : decode b_Src_readByte 31 = .ok (.ireturn, 1) := by decide +kernel
theorem d_Src_readByte_0 : decode b_Src_readByte 0 = .ok (.aload_n 0, 1) := by decide +kernel
theorem d_Src_readByte_1 : decode b_Src_readByte 1 = .ok (.getfield 32, 3) := by decide +kernel
theorem d_Src_readByte_4 : decode b_Src_readByte 4 = .ok (.ifCond .ne 19, 3) := by decide +kernel
theorem d_Src_readByte_7 : decode b_Src_readByte 7 = .ok (.aload_n 0, 1) := by decide +kernel
theorem d_Src_readByte_8 : decode b_Src_readByte 8 = .ok (.getfield 19, 3) := by decide +kernel
theorem d_Src_readByte_11 : decode b_Src_readByte 11 = .ok (.aload_n 0, 1) := by decide +kernel
theorem d_Src_readByte_12 : decode b_Src_readByte 12 = .ok (.getfield 29, 3) := by decide +kernel
theorem d_Src_readByte_15 : decode b_Src_readByte 15 = .ok (.if_icmp .lt 8, 3) := by decide +kernel
theorem d_Src_readByte_18 : decode b_Src_readByte 18 = .ok (.aload_n 0, 1) := by decide +kernel
theorem d_Src_readByte_19 : decode b_Src_readByte 19 = .ok (.iconst 1, 1) := by decide +kernel
theorem d_Src_readByte_20 : decode b_Src_readByte 20 = .ok (.putfield 32, 3) := by decide +kernel
theorem d_Src_has_33 : decode b_Src_has 33 = .ok (.aload_n 0, 1) := by decide +kernel
theorem d_Src_has_34 : decode b_Src_has 34 = .ok (.getfield 32, 3) := by decide +kernel
theorem d_Src_has_37 : decode b_Src_has 37 = .ok (.ifCond .ne 7, 3) := by decide +kernel
theorem d_Src_has_44 : decode b_Src_has 44 = .ok (.iconst 0, 1) := by decide +kernel
theorem d_Src_has_45 : decode b_Src_has 45 = .ok (.ireturn, 1) := by decide +kernel
theorem d_Src_has_40 : decode b_Src_has 40 = .ok (.iconst 1, 1) := by decide +kernel
theorem d_Src_has_41 : decode b_Src_has 41 = .ok (.goto 4, 3) := by decide +kernel
theorem d_Src_has_28 : decode b_Src_has 28 = .ok (.aload_n 0, 1) := by decide +kernel
theorem d_Src_has_29 : decode b_Src_has 29 = .ok (.iconst 1, 1) := by decide +kernel
theorem d_Src_has_30 : decode b_Src_has 30 = .ok (.putfield 32, 3) := by decide +kernel
theorem d_Src_has_0 : decode b_Src_has 0 = .ok (.aload_n 0, 1) := by decide +kernel
theorem d_Src_has_1 : decode b_Src_has 1 = .ok (.getfield 32, 3) := by decide +kernel
theorem d_Src_has_4 : decode b_Src_has 4 = .ok (.ifCond .ne 29, 3) := by decide +kernel
theorem d_Src_has_7 : decode b_Src_has 7 = .ok (.lload_n 1, 1) := by decide +kernel
theorem d_Src_has_8 : decode b_Src_has 8 = .ok (.lconst 0, 1) := by decide +kernel
theorem d_Src_has_9 : decode b_Src_has 9 = .ok (.lcmp, 1) := by decide +kernel
theorem d_Src_has_10 : decode b_Src_has 10 = .ok (.ifCond .lt 18, 3) := by decide +kernel
theorem d_Src_has_13 : decode b_Src_has 13 = .ok (.lload_n 1, 1) := by decide +kernel
theorem d_Src_has_14 : decode b_Src_has 14 = .ok (.aload_n 0, 1) := by decide +kernel
theorem d_Src_has_15 : decode b_Src_has 15 = .ok (.getfield 29, 3) := by decide +kernel
theorem d_Src_has_18 : decode b_Src_has 18 = .ok (.aload_n 0, 1) := by decide +kernel
theorem d_Src_has_19 : decode b_Src_has 19 = .ok (.getfield 19, 3) := by decide +kernel
theorem d_Src_has_22 : decode b_Src_has 22 = .ok (.isub, 1) := by decide +kernel
theorem d_Src_has_23 : decode b_Src_has 23 = .ok (.i2l, 1) := by decide +kernel
theorem d_Src_has_24 : decode b_Src_has 24 = .ok (.lcmp, 1) := by decide +kernel
theorem d_Src_has_25 : decode b_Src_has 25 = .ok (.ifCond .le 8, 3) := by decide +kernel
theorem d_Opn_isGroupAround_80 : decode b_Opn_isGroupAround 80 = .ok (.iconst 0, 1) := by decide +kernel
theorem d_Opn_isGroupAround_81 : decode b_Opn_isGroupAround 81 = .ok (.ireturn, 1) := by decide +kernel
theorem d_Opn_isGroupAround_41 : decode b_Opn_isGroupAround 41 = .ok (.iload 5, 2) := by decide +kernel
theorem d_Opn_isGroupAround_43 : decode b_Opn_isGroupAround 43 = .ok (.bipush 16, 2) := by decide +kernel
theorem d_Opn_isGroupAround_45 : decode b_Opn_isGroupAround 45 = .ok (.if_icmp .gt 35, 3) := by decide +kernel
theorem d_Opn_isGroupAround_48 : decode b_Opn_isGroupAround 48 = .ok (.iload 4, 2) := by decide +kernel
theorem d_Opn_isGroupAround_50 : decode b_Opn_isGroupAround 50 = .ok (.ifCond .lt 30, 3) := by decide +kernel
theorem d_Opn_isGroupAround_53 : decode b_Opn_isGroupAround 53 = .ok (.lload_n 1, 1) := by decide +kernel
theorem d_Opn_isGroupAround_54 : decode b_Opn_isGroupAround 54 = .ok (.lconst 1, 1) := by decide +kernel
theorem d_Opn_isGroupAround_55 : decode b_Opn_isGroupAround 55 = .ok (.lsub, 1) := by decide +kernel
theorem d_Opn_isGroupAround_56 : decode b_Opn_isGroupAround 56 = .ok (.iload 4, 2) := by decide +kernel
theorem d_Opn_isGroupAround_58 : decode b_Opn_isGroupAround 58 = .ok (.i2l, 1) := by decide +kernel
theorem d_Opn_isGroupAround_59 : decode b_Opn_isGroupAround 59 = .ok (.lcmp, 1) := by decide +kernel
theorem d_Opn_isGroupAround_60 : decode b_Opn_isGroupAround 60 = .ok (.ifCond .ne 5, 3) := by decide +kernel
theorem d_Opn_isGroupAround_65 : decode b_Opn_isGroupAround 65 = .ok (.aload_n 0, 1) := by decide +kernel
theorem d_Opn_isGroupAround_66 : decode b_Opn_isGroupAround 66 = .ok (.getfield 175, 3) := by decide +kernel
theorem d_Opn_isGroupAround_69 : decode b_Opn_isGroupAround 69 = .ok (.iload 4, 2) := by decide +kernel
theorem d_Opn_isGroupAround_71 : decode b_Opn_isGroupAround 71 = .ok (.iaload, 1) := by decide +kernel
theorem d_Opn_isGroupAround_72 : decode b_Opn_isGroupAround 72 = .ok (.istore 4, 2) := by decide +kernel
theorem d_Opn_isGroupAround_74 : decode b_Opn_isGroupAround 74 = .ok (.iinc 5 1, 3) := by decide +kernel
theorem d_Opn_isGroupAround_77 : decode b_Opn_isGroupAround 77 = .ok (.goto (-36), 3) := by decide +kernel
theorem d_Opn_isGroupAround_63 : decode b_Opn_isGroupAround 63 = .ok (.iconst 1, 1) := by decide +kernel
theorem d_Opn_isGroupAround_64 : decode b_Opn_isGroupAround 64 = .ok (.ireturn, 1) := by decide +kernel
theorem d_Opn_isGroupAround_38 : decode b_Opn_isGroupAround 38 = .ok (.iconst 0, 1) := by decide +kernel
theorem d_Opn_isGroupAround_39 : decode b_Opn_isGroupAround 39 = .ok (.istore 5, 2) := by decide +kernel
theorem d_Opn_isGroupAround_0 : decode b_Opn_isGroupAround 0 = .ok (.lload_n 1, 1) := by decide +kernel
theorem d_Opn_isGroupAround_1 : decode b_Opn_isGroupAround 1 = .ok (.lconst 0, 1) := by decide +kernel
theorem d_Opn_isGroupAround_2 : decode b_Opn_isGroupAround 2 = .ok (.lcmp, 1) := by decide +kernel
theorem d_Opn_isGroupAround_3 : decode b_Opn_isGroupAround 3 = .ok (.ifCond .ne 5, 3) := by decide +kernel
theorem d_Opn_isGroupAround_8 : decode b_Opn_isGroupAround 8 = .ok (.iload_n 3, 1) := by decide +kernel
theorem d_Opn_isGroupAround_9 : decode b_Opn_isGroupAround 9 = .ok (.iconst 1, 1) := by decide +kernel
theorem d_Opn_isGroupAround_10 : decode b_Opn_isGroupAround 10 = .ok (.isub, 1) := by decide +kernel
theorem d_Opn_isGroupAround_11 : decode b_Opn_isGroupAround 11 = .ok (.istore 4, 2) := by decide +kernel
theorem d_Opn_isGroupAround_13 : decode b_Opn_isGroupAround 13 = .ok (.iload 4, 2) := by decide +kernel
theorem d_Opn_isGroupAround_15 : decode b_Opn_isGroupAround 15 = .ok (.ifCond .lt 23, 3) := by decide +kernel
theorem d_Opn_isGroupAround_18 : decode b_Opn_isGroupAround 18 = .ok (.aload_n 0, 1) := by decide +kernel
theorem d_Opn_isGroupAround_19 : decode b_Opn_isGroupAround 19 = .ok (.getfield 115, 3) := by decide +kernel
theorem d_Opn_isGroupAround_22 : decode b_Opn_isGroupAround 22 = .ok (.iload 4, 2) := by decide +kernel
theorem d_Opn_isGroupAround_24 : decode b_Opn_isGroupAround 24 = .ok (.iaload, 1) := by decide +kernel
theorem d_Opn_isGroupAround_25 : decode b_Opn_isGroupAround 25 = .ok (.iconst 4, 1) := by decide +kernel
theorem d_Opn_isGroupAround_26 : decode b_Opn_isGroupAround 26 = .ok (.if_icmp .eq 12, 3) := by decide +kernel
theorem d_Opn_isGroupAround_29 : decode b_Opn_isGroupAround 29 = .ok (.aload_n 0, 1) := by decide +kernel
theorem d_Opn_isGroupAround_30 : decode b_Opn_isGroupAround 30 = .ok (.getfield 175, 3) := by decide +kernel
theorem d_Opn_isGroupAround_33 : decode b_Opn_isGroupAround 33 = .ok (.iload 4, 2) := by decide +kernel
theorem d_Opn_isGroupAround_35 : decode b_Opn_isGroupAround 35 = .ok (.iaload, 1) := by decide +kernel
theorem d_Opn_isGroupAround_36 : decode b_Opn_isGroupAround 36 = .ok (.istore 4, 2) := by decide +kernel
theorem d_Opn_isGroupAround_6 : decode b_Opn_isGroupAround 6 = .ok (.iconst 1, 1) := by decide +kernel
theorem d_Opn_isGroupAround_7 : decode b_Opn_isGroupAround 7 = .ok (.ireturn, 1) := by decide +kernel
section
variable (l : Launch) (dC : Nat → ClassId) (dI : Nat → Nat → Nat) (cI cB cJ cZ : ClassId)
set_option maxRecDepth 100000 in
set_option maxHeartbeats 4000000 in
set_option maxRecDepth 100000 in
theorem t_Opn_lookAtFrame_91 {p : Program} {l : Launch} {e : Env} {R : Room} {s : State} {m : MethodId} {args : Array Value} {below : List Frame} {meth : Method} {c : Code} {cells slots : Nat} {Q : State → Prop} {dC : Nat → ClassId} {dI : Nat → Nat → Nat} {cI cB cJ cZ : ClassId} {A : Nat → Prop} {ad : Nat → Nat} {NN : Nat} {E : Heap} {tM tC : Nat} {kK kV : Nat → Nat} {post : Int32 → St → Prop} (hx : p.tables.exec = Jvm.exec) (hb : c.code = b_Opn_lookAtFrame) (hml : c.maxLocals = 7) (hown : s.vm.findClass R_Opn = some m.cls) (hT : ∀ w ∈ TG, w.before args s = true) (hK : va_K (dC, dI) CL (TY cI cB cJ cZ) s) (hN : NW s) (hA : ∀ q : Nat, s.heap.size ≤ q → A q) (hRc : cells ≤ R.cells) (hRs : slots ≤ R.slots) (hRf : 2 ≤ R.frames) (hRl : 102 ≤ R.locals) (hNN : 152 ≤ NN) (hE : CE E tM tC kK kV A s) (hret : ∀ (r : Int32) (x : St) (H : Heap) (locs : List Loc) (pc : Nat) (ls : Array Slot), decode b_Opn_lookAtFrame pc = .ok (.ireturn, 1) → post r x → Wd dC dI cI cB cJ cZ ad stC kcC NN A x H → va_S A s.heap H locs → W p l e R s m args below meth c H locs cells slots Q (F0 m pc ls [.int r]))  : ∀ (o : Nat) (l1 : Nat) (l2 : Int32) (l3 : Int32) (x : St) (H : Heap) (locs : List Loc) (ls : Array Slot), (o < NN ∧ kcC o = 7) → (l1 < NN ∧ kcC l1 = 21) → j_Opn_lookAtFrame_91 post o l1 l2 l3 x → Wd dC dI cI cB cJ cZ ad stC kcC NN A x H → va_S A s.heap H locs → lv_has ls 7 [(0, .ref (ad o)), (1, .ref (ad l1)), (2, .int l2), (3, .int l3)] → W p l e R s m args below meth c H locs cells slots Q (F0 m 91 ls []) := by
  intro o l1 l2 l3 x H locs ls fo fl1 hw hW hS hl
  unfold j_Opn_lookAtFrame_91 at hw
  refine lv_bipush (v := 13) hx hb d_Opn_lookAtFrame_91 (by decide) ?_
  exact hret 13 x H locs 93 ls d_Opn_lookAtFrame_93 hw hW hS
set_option maxRecDepth 100000 in
set_option maxHeartbeats 4000000 in
set_option maxRecDepth 100000 in
theorem t_Opn_lookAtFrame_60 {p : Program} {l : Launch} {e : Env} {R : Room} {s : State} {m : MethodId} {args : Array Value} {below : List Frame} {meth : Method} {c : Code} {cells slots : Nat} {Q : State → Prop} {dC : Nat → ClassId} {dI : Nat → Nat → Nat} {cI cB cJ cZ : ClassId} {A : Nat → Prop} {ad : Nat → Nat} {NN : Nat} {E : Heap} {tM tC : Nat} {kK kV : Nat → Nat} {post : Int32 → St → Prop} {rec60 : Nat → Nat → Int32 → Int32 → St → Prop} (hx : p.tables.exec = Jvm.exec) (hb : c.code = b_Opn_lookAtFrame) (hml : c.maxLocals = 7) (hown : s.vm.findClass R_Opn = some m.cls) (hT : ∀ w ∈ TG, w.before args s = true) (hK : va_K (dC, dI) CL (TY cI cB cJ cZ) s) (hN : NW s) (hA : ∀ q : Nat, s.heap.size ≤ q → A q) (hRc : cells ≤ R.cells) (hRs : slots ≤ R.slots) (hRf : 2 ≤ R.frames) (hRl : 102 ≤ R.locals) (hNN : 152 ≤ NN) (hE : CE E tM tC kK kV A s) (hret : ∀ (r : Int32) (x : St) (H : Heap) (locs : List Loc) (pc : Nat) (ls : Array Slot), decode b_Opn_lookAtFrame pc = .ok (.ireturn, 1) → post r x → Wd dC dI cI cB cJ cZ ad stC kcC NN A x H → va_S A s.heap H locs → W p l e R s m args below meth c H locs cells slots Q (F0 m pc ls [.int r])) (hrec60 : ∀ (o : Nat) (l1 : Nat) (l2 : Int32) (l3 : Int32) (x : St) (H : Heap) (locs : List Loc) (ls : Array Slot), (o < NN ∧ kcC o = 7) → (l1 < NN ∧ kcC l1 = 21) → rec60 o l1 l2 l3 x → Wd dC dI cI cB cJ cZ ad stC kcC NN A x H → va_S A s.heap H locs → lv_has ls 7 [(0, .ref (ad o)), (1, .ref (ad l1)), (2, .int l2), (3, .int l3)] → W p l e R s m args below meth c H locs cells slots Q (F0 m 60 ls [])) : ∀ (o : Nat) (l1 : Nat) (l2 : Int32) (l3 : Int32) (x : St) (H : Heap) (locs : List Loc) (ls : Array Slot), (o < NN ∧ kcC o = 7) → (l1 < NN ∧ kcC l1 = 21) → j_Opn_lookAtFrame_60 post rec60 o l1 l2 l3 x → Wd dC dI cI cB cJ cZ ad stC kcC NN A x H → va_S A s.heap H locs → lv_has ls 7 [(0, .ref (ad o)), (1, .ref (ad l1)), (2, .int l2), (3, .int l3)] → W p l e R s m args below meth c H locs cells slots Q (F0 m 60 ls []) := by
  intro o l1 l2 l3 x H locs ls fo fl1 hw hW hS hl
  unfold j_Opn_lookAtFrame_60 at hw
  refine lv_iload_n hx hb d_Opn_lookAtFrame_60 rfl (lv_at hl 3 rfl) ?_
  refine lv_iconst (v := 4) hx hb d_Opn_lookAtFrame_61 (by decide) ?_
  refine lv_icmp_ge (tgt := 100) hx hb d_Opn_lookAtFrame_62 (by decide) (fun c1 => ?_) (fun c1 => ?_)
  · have hw := hw.1 c1
    refine lv_aload_n hx hb d_Opn_lookAtFrame_100 rfl (lv_at hl 0 rfl) ?_
    refine w_getf (q := (stC o 1)) (k := 1) (t := 7) (C := R_Opn) (T := F_Opn) (N := 17) hx hb hT hown hK hW fo.1 fo.2 (by decide) in_Opn rfl rfl (by decide) rfl fr_Opn_1 w_3_16 d_Opn_lookAtFrame_101 rfl ?_
    refine lv_iload_n hx hb d_Opn_lookAtFrame_104 rfl (lv_at hl 2 rfl) ?_
    refine lv_bipush (v := 12) hx hb d_Opn_lookAtFrame_105 (by decide) ?_
    refine lv_isub hx hb d_Opn_lookAtFrame_107 ?_
    refine lv_iload_n hx hb d_Opn_lookAtFrame_108 rfl (lv_at hl 2 rfl) ?_
    refine lv_iconst (v := 4) hx hb d_Opn_lookAtFrame_109 (by decide) ?_
    refine lv_isub hx hb d_Opn_lookAtFrame_110 ?_
    have hF := hW.free hS hA
    refine va_callv (va_runV (C := R_Src) (As := [.int (l2 - 12), .int (l2 - 4)]) (rest := []) ⟨hx, hb, hml, hown, hT⟩ (k_Src_begin l dC dI cI cB cJ cZ ad NN E tM tC kK kV hNN H.size (stC o 1) (l2 - 12) (l2 - 4) x (st_ty hNN fo.1 fo.2 rfl) hw) ⟨callB_of 2 hT (gwt_in w_6_88) rfl rfl rfl (hT _ w_1_11) (hT _ w_6_85) (by decide +kernel) ⟨Nat.le_trans (Nat.le_of_ble_eq_true rfl) hRf, Nat.le_trans (Nat.le_of_ble_eq_true rfl) hRl⟩, hT _ w_6_86, hT _ w_6_87⟩ ⟨PVc.blind, va_recv hK hW.1 (ci := 8) (q0 := (stC o 1)) rfl (pic_obj (st_ty hNN fo.1 fo.2 rfl).1 (st_ty hNN fo.1 fo.2 rfl).2 (by decide)), PVc.at _ hW hK hN hE hS hF⟩ rfl rfl hl.1 rfl (lv_room (Nat.le_of_ble_eq_true rfl)) d_Opn_lookAtFrame_111 ⟨hRc, hRs⟩) hS (fun q _ h => hF q h) hF (fun  x2 t H locs ht hvm hw hB hz1 hk1 hS => ?_)
    have hW := Wd.back hB ht hF
    clear hB ht hF hz1 hk1 hvm
    refine lv_aload_n hx hb d_Opn_lookAtFrame_114 rfl (lv_at hl 0 rfl) ?_
    refine w_getf (q := (stC o 1)) (k := 1) (t := 7) (C := R_Opn) (T := F_Opn) (N := 17) hx hb hT hown hK hW fo.1 fo.2 (by decide) in_Opn rfl rfl (by decide) rfl fr_Opn_1 w_3_16 d_Opn_lookAtFrame_115 rfl ?_
    refine lv_iconst (v := 4) hx hb d_Opn_lookAtFrame_118 (by decide) ?_
    have hF := hW.free hS hA
    refine va_calll (va_runV (C := R_Src) (As := [.int 4]) (rest := []) ⟨hx, hb, hml, hown, hT⟩ (k_Src_readFixed l dC dI cI cB cJ cZ ad NN E tM tC kK kV hNN H.size (stC o 1) 4 x2 (st_ty hNN fo.1 fo.2 rfl) hw) ⟨callB_of 1 hT (gwt_in w_6_93) rfl rfl rfl (hT _ w_1_11) (hT _ w_6_90) (by decide +kernel) ⟨Nat.le_trans (Nat.le_of_ble_eq_true rfl) hRf, Nat.le_trans (Nat.le_of_ble_eq_true rfl) hRl⟩, hT _ w_6_91, hT _ w_6_92⟩ ⟨PVc.blind, va_recv hK hW.1 (ci := 8) (q0 := (stC o 1)) rfl (pic_obj (st_ty hNN fo.1 fo.2 rfl).1 (st_ty hNN fo.1 fo.2 rfl).2 (by decide)), PVc.at _ hW hK hN hE hS hF⟩ rfl rfl hl.1 rfl (lv_room (Nat.le_of_ble_eq_true rfl)) d_Opn_lookAtFrame_119 ⟨hRc, hRs⟩) hS (fun q _ h => hF q h) hF (fun r4 x3 t H locs ht hvm hw hB hz1 hk1 hS => ?_)
    have hW := Wd.back hB ht hF
    clear hB ht hF hz1 hk1 hvm
    refine lv_lstore_n (lv' := [(3, .long r4), (0, .ref (ad o)), (1, .ref (ad l1)), (2, .int l2)]) hx hb d_Opn_lookAtFrame_122 rfl hl (by decide) rfl (fun ls hl => ?_)
    refine lv_aload_n hx hb d_Opn_lookAtFrame_123 rfl (lv_at hl 1 rfl) ?_
    refine w_getf (q := (stC o 1)) (k := 1) (t := 7) (C := R_Opn) (T := F_Opn) (N := 17) hx hb hT hown hK hW fo.1 fo.2 (by decide) in_Opn rfl rfl (by decide) rfl fr_Opn_1 w_3_16 d_Opn_lookAtFrame_124 rfl ?_
    refine lv_iconst (v := 4) hx hb d_Opn_lookAtFrame_127 (by decide) ?_
    have hF := hW.free hS hA
    refine va_calll (va_runV (C := R_Src) (As := [.int 4]) (rest := []) ⟨hx, hb, hml, hown, hT⟩ (k_Src_readFixed l dC dI cI cB cJ cZ ad NN E tM tC kK kV hNN H.size (stC o 1) 4 x3 (st_ty hNN fo.1 fo.2 rfl) hw) ⟨callB_of 1 hT (gwt_in w_6_93) rfl rfl rfl (hT _ w_1_11) (hT _ w_6_90) (by decide +kernel) ⟨Nat.le_trans (Nat.le_of_ble_eq_true rfl) hRf, Nat.le_trans (Nat.le_of_ble_eq_true rfl) hRl⟩, hT _ w_6_91, hT _ w_6_92⟩ ⟨PVc.blind, va_recv hK hW.1 (ci := 8) (q0 := (stC o 1)) rfl (pic_obj (st_ty hNN fo.1 fo.2 rfl).1 (st_ty hNN fo.1 fo.2 rfl).2 (by decide)), PVc.at _ hW hK hN hE hS hF⟩ rfl rfl hl.1 rfl (lv_room (Nat.le_of_ble_eq_true rfl)) d_Opn_lookAtFrame_128 ⟨hRc, hRs⟩) hS (fun q _ h => hF q h) hF (fun r6 x5 t H locs ht hvm hw hB hz1 hk1 hS => ?_)
    have hW := Wd.back hB ht hF
    clear hB ht hF hz1 hk1 hvm
    refine lv_l2i hx hb d_Opn_lookAtFrame_131 rfl ?_
    refine lv_topi (fun v7 ev7 => ?_)
    have hw := hw v7 ev7
    refine lv_istore (lv' := [(5, .int v7), (3, .long r4), (0, .ref (ad o)), (1, .ref (ad l1)), (2, .int l2)]) hx hb d_Opn_lookAtFrame_132 hl (by decide) rfl (fun ls hl => ?_)
    refine lv_lload_n hx hb d_Opn_lookAtFrame_134 rfl (lv_at hl 1 rfl) ?_
    refine lv_iload_n hx hb d_Opn_lookAtFrame_135 rfl (lv_at hl 4 rfl) ?_
    refine lv_bipush (v := 16) hx hb d_Opn_lookAtFrame_136 (by decide) ?_
    refine lv_isub hx hb d_Opn_lookAtFrame_138 ?_
    refine lv_i2l hx hb d_Opn_lookAtFrame_139 rfl ?_
    refine W.lcmp hx hb d_Opn_lookAtFrame_140 ?_
    refine lv_if_le (tgt := 147) hx hb d_Opn_lookAtFrame_141 (by decide) (fun c8 => ?_) (fun c8 => ?_)
    · have hw := hw.1 c8
      refine lv_iload_n hx hb d_Opn_lookAtFrame_147 rfl (lv_at hl 4 rfl) ?_
      refine lv_bipush (v := 12) hx hb d_Opn_lookAtFrame_148 (by decide) ?_
      refine lv_isub hx hb d_Opn_lookAtFrame_150 ?_
      refine lv_lload_n hx hb d_Opn_lookAtFrame_151 rfl (lv_at hl 1 rfl) ?_
      refine lv_l2i hx hb d_Opn_lookAtFrame_152 rfl ?_
      refine lv_isub hx hb d_Opn_lookAtFrame_153 ?_
      refine lv_topi (fun v9 ev9 => ?_)
      have hw := hw v9 ev9
      refine lv_istore (lv' := [(6, .int v9), (5, .int v7), (3, .long r4), (0, .ref (ad o)), (1, .ref (ad l1)), (2, .int l2)]) hx hb d_Opn_lookAtFrame_154 hl (by decide) rfl (fun ls hl => ?_)
      refine lv_aload_n hx hb d_Opn_lookAtFrame_156 rfl (lv_at hl 3 rfl) ?_
      refine w_getf (q := (stC o 1)) (k := 1) (t := 7) (C := R_Opn) (T := F_Opn) (N := 17) hx hb hT hown hK hW fo.1 fo.2 (by decide) in_Opn rfl rfl (by decide) rfl fr_Opn_1 w_3_16 d_Opn_lookAtFrame_157 rfl ?_
      refine lv_iload hx hb d_Opn_lookAtFrame_160 (lv_at hl 0 rfl) ?_
      refine lv_iload_n hx hb d_Opn_lookAtFrame_162 rfl (lv_at hl 5 rfl) ?_
      refine lv_bipush (v := 12) hx hb d_Opn_lookAtFrame_163 (by decide) ?_
      refine lv_isub hx hb d_Opn_lookAtFrame_165 ?_
      have hF := hW.free hS hA
      refine va_callv (va_runV (C := R_Src) (As := [.int v9, .int (l2 - 12)]) (rest := []) ⟨hx, hb, hml, hown, hT⟩ (k_Src_begin l dC dI cI cB cJ cZ ad NN E tM tC kK kV hNN H.size (stC o 1) v9 (l2 - 12) x5 (st_ty hNN fo.1 fo.2 rfl) hw) ⟨callB_of 2 hT (gwt_in w_6_88) rfl rfl rfl (hT _ w_1_11) (hT _ w_6_85) (by decide +kernel) ⟨Nat.le_trans (Nat.le_of_ble_eq_true rfl) hRf, Nat.le_trans (Nat.le_of_ble_eq_true rfl) hRl⟩, hT _ w_6_86, hT _ w_6_87⟩ ⟨PVc.blind, va_recv hK hW.1 (ci := 8) (q0 := (stC o 1)) rfl (pic_obj (st_ty hNN fo.1 fo.2 rfl).1 (st_ty hNN fo.1 fo.2 rfl).2 (by decide)), PVc.at _ hW hK hN hE hS hF⟩ rfl rfl hl.1 rfl (lv_room (Nat.le_of_ble_eq_true rfl)) d_Opn_lookAtFrame_166 ⟨hRc, hRs⟩) hS (fun q _ h => hF q h) hF (fun  x10 t H locs ht hvm hw hB hz1 hk1 hS => ?_)
      have hW := Wd.back hB ht hF
      clear hB ht hF hz1 hk1 hvm
      refine lv_aload_n hx hb d_Opn_lookAtFrame_169 rfl (lv_at hl 3 rfl) ?_
      refine w_getf (q := (stC o 2)) (k := 2) (t := 7) (C := R_Opn) (T := F_Opn) (N := 17) hx hb hT hown hK hW fo.1 fo.2 (by decide) in_Opn rfl rfl (by decide) rfl fr_Opn_2 w_3_17 d_Opn_lookAtFrame_170 rfl ?_
      refine lv_iconst (v := 4) hx hb d_Opn_lookAtFrame_173 (by decide) ?_
      refine lv_iload hx hb d_Opn_lookAtFrame_174 (lv_at hl 0 rfl) ?_
      have hF := hW.free hS hA
      refine va_callv (va_runV (C := R_Src) (As := [.int 4, .int v9]) (rest := []) ⟨hx, hb, hml, hown, hT⟩ (k_Src_begin l dC dI cI cB cJ cZ ad NN E tM tC kK kV hNN H.size (stC o 2) 4 v9 x10 (st_ty hNN fo.1 fo.2 rfl) hw) ⟨callB_of 2 hT (gwt_in w_6_88) rfl rfl rfl (hT _ w_1_11) (hT _ w_6_85) (by decide +kernel) ⟨Nat.le_trans (Nat.le_of_ble_eq_true rfl) hRf, Nat.le_trans (Nat.le_of_ble_eq_true rfl) hRl⟩, hT _ w_6_86, hT _ w_6_87⟩ ⟨PVc.blind, va_recv hK hW.1 (ci := 8) (q0 := (stC o 2)) rfl (pic_obj (st_ty hNN fo.1 fo.2 rfl).1 (st_ty hNN fo.1 fo.2 rfl).2 (by decide)), PVc.at _ hW hK hN hE hS hF⟩ rfl rfl hl.1 rfl (lv_room (Nat.le_of_ble_eq_true rfl)) d_Opn_lookAtFrame_176 ⟨hRc, hRs⟩) hS (fun q _ h => hF q h) hF (fun  x11 t H locs ht hvm hw hB hz1 hk1 hS => ?_)
      have hW := Wd.back hB ht hF
      clear hB ht hF hz1 hk1 hvm
      refine lv_iload hx hb d_Opn_lookAtFrame_179 (lv_at hl 1 rfl) ?_
      refine lv_aload_n hx hb d_Opn_lookAtFrame_181 rfl (lv_at hl 3 rfl) ?_
      refine w_getf (q := (stC o 0)) (k := 0) (t := 7) (C := R_Opn) (T := F_Opn) (N := 17) hx hb hT hown hK hW fo.1 fo.2 (by decide) in_Opn rfl rfl (by decide) rfl fr_Opn_0 w_3_15 d_Opn_lookAtFrame_182 rfl ?_
      refine w_getf (q := (stC (stC o 0) 6)) (k := 6) (t := 6) (C := R_Vlt) (T := F_Vlt) (N := 20) hx hb hT hown hK hW (st_ty hNN fo.1 fo.2 rfl).1 (st_ty hNN fo.1 fo.2 rfl).2 (by decide) in_Vlt rfl rfl (by decide) rfl fr_Vlt_6 w_2_140 d_Opn_lookAtFrame_185 rfl ?_
      refine lv_iload hx hb d_Opn_lookAtFrame_188 (lv_at hl 0 rfl) ?_
      refine lv_iload_n hx hb d_Opn_lookAtFrame_190 rfl (lv_at hl 5 rfl) ?_
      refine lv_bipush (v := 12) hx hb d_Opn_lookAtFrame_191 (by decide) ?_
      refine lv_isub hx hb d_Opn_lookAtFrame_193 ?_
      have hF := hW.free hS hA
      refine va_calli (va_runSN (As := [.ref (ad (stC (stC o 0) 6)), .int v9, .int (l2 - 12)]) (rest := [.int v7]) ⟨hx, hb, hml, hown, hT⟩ (k_V_checkOf l dC dI cI cB cJ cZ ad NN E tM tC kK kV hNN H.size (stC (stC o 0) 6) v9 (l2 - 12) x11 (st_ty hNN (st_ty hNN fo.1 fo.2 rfl).1 (st_ty hNN fo.1 fo.2 rfl).2 rfl) hw) ⟨va_cnB 3 hT (gwt_in w_6_43) rfl rfl rfl (hN _ wn_6_95 rfl) (hT _ w_1_1) (by decide +kernel) ⟨Nat.le_trans (Nat.le_of_ble_eq_true rfl) hRf, Nat.le_trans (Nat.le_of_ble_eq_true rfl) hRl⟩, hT _ w_6_42, trivial⟩ ⟨PVc.blind, PVc.at _ hW hK hN hE hS hF⟩ rfl rfl hl.1 rfl (lv_room (Nat.le_of_ble_eq_true rfl)) d_Opn_lookAtFrame_194 ⟨hRc, hRs⟩) hS (fun q _ h => hF q h) hF (fun r13 x12 t H locs ht hvm hw hB hz1 hk1 hS => ?_)
      have hW := Wd.back hB ht hF
      clear hB ht hF hz1 hk1 hvm
      refine lv_icmp_ne (tgt := 204) hx hb d_Opn_lookAtFrame_197 (by decide) (fun c14 => ?_) (fun c14 => ?_)
      · have hw := hw.1 c14
        refine lv_bipush (v := 14) hx hb d_Opn_lookAtFrame_204 (by decide) ?_
        exact hret 14 x12 H locs 206 ls d_Opn_lookAtFrame_206 hw hW hS
      · have hw := hw.2 c14
        refine lv_iconst (v := 0) hx hb d_Opn_lookAtFrame_200 (by decide) ?_
        refine lv_goto (tgt := 206) hx hb d_Opn_lookAtFrame_201 (by decide) ?_
        exact hret 0 x12 H locs 206 ls d_Opn_lookAtFrame_206 hw hW hS
    · have hw := hw.2 c8
      refine lv_bipush (v := 13) hx hb d_Opn_lookAtFrame_144 (by decide) ?_
      exact hret 13 x5 H locs 146 ls d_Opn_lookAtFrame_146 hw hW hS
  · have hw := hw.2 c1
    refine lv_aload_n hx hb d_Opn_lookAtFrame_65 rfl (lv_at hl 1 rfl) ?_
    refine lv_iload_n hx hb d_Opn_lookAtFrame_66 rfl (lv_at hl 3 rfl) ?_
    obtain ⟨hi, hw⟩ := hw
    refine w_bald (o := l1) hx hb hK hW fl1.1 fl1.2 hi d_Opn_lookAtFrame_67 ?_
    refine va_getsN hx hb hE.zM hS hown (va_Nw.use rfl (hN _ wn_6_84 rfl)) (fun _ h => h) d_Opn_lookAtFrame_68 ?_
    refine lv_iload_n hx hb d_Opn_lookAtFrame_71 rfl (lv_at hl 3 rfl) ?_
    obtain ⟨hi, hw⟩ := hw
    refine va_tb hx hb hE.rM hS hi (v := .int (magicI (l3 : Int32).toNatClampNeg)) rfl d_Opn_lookAtFrame_72 ?_
    refine lv_icmp_ne (tgt := 91) hx hb d_Opn_lookAtFrame_73 (by decide) (fun c15 => ?_) (fun c15 => ?_)
    · have hw := hw.1 c15
      exact t_Opn_lookAtFrame_91 hx hb hml hown hT hK hN hA hRc hRs hRf hRl hNN hE hret  o l1 l2 l3 x H locs ls fo fl1 hw hW hS (lv_sub hl [0, 1, 2, 3] rfl)
    · have hw := hw.2 c15
      refine lv_aload_n hx hb d_Opn_lookAtFrame_76 rfl (lv_at hl 1 rfl) ?_
      refine lv_iload_n hx hb d_Opn_lookAtFrame_77 rfl (lv_at hl 2 rfl) ?_
      refine lv_iconst (v := 4) hx hb d_Opn_lookAtFrame_78 (by decide) ?_
      refine lv_isub hx hb d_Opn_lookAtFrame_79 ?_
      refine lv_iload_n hx hb d_Opn_lookAtFrame_80 rfl (lv_at hl 3 rfl) ?_
      refine lv_iadd hx hb d_Opn_lookAtFrame_81 ?_
      obtain ⟨hi, hw⟩ := hw
      refine w_bald (o := l1) hx hb hK hW fl1.1 fl1.2 hi d_Opn_lookAtFrame_82 ?_
      refine va_getsN hx hb hE.zM hS hown (va_Nw.use rfl (hN _ wn_6_84 rfl)) (fun _ h => h) d_Opn_lookAtFrame_83 ?_
      refine lv_iload_n hx hb d_Opn_lookAtFrame_86 rfl (lv_at hl 3 rfl) ?_
      obtain ⟨hi, hw⟩ := hw
      refine va_tb hx hb hE.rM hS hi (v := .int (magicI (l3 : Int32).toNatClampNeg)) rfl d_Opn_lookAtFrame_87 ?_
      refine lv_icmp_eq (tgt := 94) hx hb d_Opn_lookAtFrame_88 (by decide) (fun c16 => ?_) (fun c16 => ?_)
      · have hw := hw.1 c16
        refine lv_iinc (v := (l3 + 1)) (lv' := [(3, .int (l3 + 1)), (0, .ref (ad o)), (1, .ref (ad l1)), (2, .int l2)]) hx hb d_Opn_lookAtFrame_94 hl (k := 3) rfl rfl (by decide) rfl (fun ls hl => ?_)
        refine lv_goto (tgt := 60) hx hb d_Opn_lookAtFrame_97 (by decide) ?_
        exact hrec60 o l1 l2 (l3 + 1) x H locs ls fo fl1 hw hW hS (lv_sub hl [1, 2, 3, 0] rfl)
      · have hw := hw.2 c16
        exact t_Opn_lookAtFrame_91 hx hb hml hown hT hK hN hA hRc hRs hRf hRl hNN hE hret  o l1 l2 l3 x H locs ls fo fl1 hw hW hS (lv_sub hl [0, 1, 2, 3] rfl)
set_option maxHeartbeats 4000000 in
set_option maxRecDepth 100000 in
theorem tl_Opn_lookAtFrame_60 {p : Program} {l : Launch} {e : Env} {R : Room} {s : State} {m : MethodId} {args : Array Value} {below : List Frame} {meth : Method} {c : Code} {cells slots : Nat} {Q : State → Prop} {dC : Nat → ClassId} {dI : Nat → Nat → Nat} {cI cB cJ cZ : ClassId} {A : Nat → Prop} {ad : Nat → Nat} {NN : Nat} {E : Heap} {tM tC : Nat} {kK kV : Nat → Nat} {post : Int32 → St → Prop} (hx : p.tables.exec = Jvm.exec) (hb : c.code = b_Opn_lookAtFrame) (hml : c.maxLocals = 7) (hown : s.vm.findClass R_Opn = some m.cls) (hT : ∀ w ∈ TG, w.before args s = true) (hK : va_K (dC, dI) CL (TY cI cB cJ cZ) s) (hN : NW s) (hA : ∀ q : Nat, s.heap.size ≤ q → A q) (hRc : cells ≤ R.cells) (hRs : slots ≤ R.slots) (hRf : 2 ≤ R.frames) (hRl : 102 ≤ R.locals) (hNN : 152 ≤ NN) (hE : CE E tM tC kK kV A s) (hret : ∀ (r : Int32) (x : St) (H : Heap) (locs : List Loc) (pc : Nat) (ls : Array Slot), decode b_Opn_lookAtFrame pc = .ok (.ireturn, 1) → post r x → Wd dC dI cI cB cJ cZ ad stC kcC NN A x H → va_S A s.heap H locs → W p l e R s m args below meth c H locs cells slots Q (F0 m pc ls [.int r]))  : ∀ n : Nat, ∀ (o : Nat) (l1 : Nat) (l2 : Int32) (l3 : Int32) (x : St) (H : Heap) (locs : List Loc) (ls : Array Slot), (o < NN ∧ kcC o = 7) → (l1 < NN ∧ kcC l1 = 21) → wl_Opn_lookAtFrame_60 post n o l1 l2 l3 x → Wd dC dI cI cB cJ cZ ad stC kcC NN A x H → va_S A s.heap H locs → lv_has ls 7 [(0, .ref (ad o)), (1, .ref (ad l1)), (2, .int l2), (3, .int l3)] → W p l e R s m args below meth c H locs cells slots Q (F0 m 60 ls []) := by
  intro n
  induction n with
  | zero => intro o l1 l2 l3 x H locs ls fo fl1 hw; exact hw.elim
  | succ n ih => intro o l1 l2 l3 x H locs ls fo fl1 hw hW hS hl; exact t_Opn_lookAtFrame_60 hx hb hml hown hT hK hN hA hRc hRs hRf hRl hNN hE hret  ih o l1 l2 l3 x H locs ls fo fl1 hw hW hS hl
set_option maxRecDepth 100000 in
set_option maxHeartbeats 4000000 in
set_option maxRecDepth 100000 in
theorem t_Opn_lookAtFrame_41 {p : Program} {l : Launch} {e : Env} {R : Room} {s : State} {m : MethodId} {args : Array Value} {below : List Frame} {meth : Method} {c : Code} {cells slots : Nat} {Q : State → Prop} {dC : Nat → ClassId} {dI : Nat → Nat → Nat} {cI cB cJ cZ : ClassId} {A : Nat → Prop} {ad : Nat → Nat} {NN : Nat} {E : Heap} {tM tC : Nat} {kK kV : Nat → Nat} {post : Int32 → St → Prop} (hx : p.tables.exec = Jvm.exec) (hb : c.code = b_Opn_lookAtFrame) (hml : c.maxLocals = 7) (hown : s.vm.findClass R_Opn = some m.cls) (hT : ∀ w ∈ TG, w.before args s = true) (hK : va_K (dC, dI) CL (TY cI cB cJ cZ) s) (hN : NW s) (hA : ∀ q : Nat, s.heap.size ≤ q → A q) (hRc : cells ≤ R.cells) (hRs : slots ≤ R.slots) (hRf : 2 ≤ R.frames) (hRl : 102 ≤ R.locals) (hNN : 152 ≤ NN) (hE : CE E tM tC kK kV A s) (hret : ∀ (r : Int32) (x : St) (H : Heap) (locs : List Loc) (pc : Nat) (ls : Array Slot), decode b_Opn_lookAtFrame pc = .ok (.ireturn, 1) → post r x → Wd dC dI cI cB cJ cZ ad stC kcC NN A x H → va_S A s.heap H locs → W p l e R s m args below meth c H locs cells slots Q (F0 m pc ls [.int r]))  : ∀ (o : Nat) (l1 : Nat) (l2 : Int32) (x : St) (H : Heap) (locs : List Loc) (ls : Array Slot), (o < NN ∧ kcC o = 7) → (l1 < NN ∧ kcC l1 = 21) → j_Opn_lookAtFrame_41 post o l1 l2 x → Wd dC dI cI cB cJ cZ ad stC kcC NN A x H → va_S A s.heap H locs → lv_has ls 7 [(0, .ref (ad o)), (1, .ref (ad l1)), (2, .int l2)] → W p l e R s m args below meth c H locs cells slots Q (F0 m 41 ls []) := by
  intro o l1 l2 x H locs ls fo fl1 hw hW hS hl
  unfold j_Opn_lookAtFrame_41 at hw
  refine lv_bipush (v := 13) hx hb d_Opn_lookAtFrame_41 (by decide) ?_
  exact hret 13 x H locs 43 ls d_Opn_lookAtFrame_43 hw hW hS
set_option maxRecDepth 100000 in
set_option maxHeartbeats 4000000 in
set_option maxRecDepth 100000 in
theorem t_Opn_lookAtFrame_e {p : Program} {l : Launch} {e : Env} {R : Room} {s : State} {m : MethodId} {args : Array Value} {below : List Frame} {meth : Method} {c : Code} {cells slots : Nat} {Q : State → Prop} {dC : Nat → ClassId} {dI : Nat → Nat → Nat} {cI cB cJ cZ : ClassId} {A : Nat → Prop} {ad : Nat → Nat} {NN : Nat} {E : Heap} {tM tC : Nat} {kK kV : Nat → Nat} {post : Int32 → St → Prop} (hx : p.tables.exec = Jvm.exec) (hb : c.code = b_Opn_lookAtFrame) (hml : c.maxLocals = 7) (hown : s.vm.findClass R_Opn = some m.cls) (hT : ∀ w ∈ TG, w.before args s = true) (hK : va_K (dC, dI) CL (TY cI cB cJ cZ) s) (hN : NW s) (hA : ∀ q : Nat, s.heap.size ≤ q → A q) (hRc : cells ≤ R.cells) (hRs : slots ≤ R.slots) (hRf : 2 ≤ R.frames) (hRl : 102 ≤ R.locals) (hNN : 152 ≤ NN) (hE : CE E tM tC kK kV A s) (hret : ∀ (r : Int32) (x : St) (H : Heap) (locs : List Loc) (pc : Nat) (ls : Array Slot), decode b_Opn_lookAtFrame pc = .ok (.ireturn, 1) → post r x → Wd dC dI cI cB cJ cZ ad stC kcC NN A x H → va_S A s.heap H locs → W p l e R s m args below meth c H locs cells slots Q (F0 m pc ls [.int r])) : ∀ (o : Nat) (l1 : Nat) (l2 : Int32) (x : St) (H : Heap) (locs : List Loc) (ls : Array Slot), (o < NN ∧ kcC o = 7) → (l1 < NN ∧ kcC l1 = 21) → wp_Opn_lookAtFrame post o l1 l2 x → Wd dC dI cI cB cJ cZ ad stC kcC NN A x H → va_S A s.heap H locs → lv_has ls 7 [(0, .ref (ad o)), (1, .ref (ad l1)), (2, .int l2)] → W p l e R s m args below meth c H locs cells slots Q (F0 m 0 ls []) := by
  intro o l1 l2 x H locs ls fo fl1 hw hW hS hl
  unfold wp_Opn_lookAtFrame at hw
  refine lv_aload_n hx hb d_Opn_lookAtFrame_0 rfl (lv_at hl 0 rfl) ?_
  refine lv_iconst (v := (-1)) hx hb d_Opn_lookAtFrame_1 (by decide) ?_
  refine lv_iconst (v := (-1)) hx hb d_Opn_lookAtFrame_2 (by decide) ?_
  refine lv_iconst (v := (-1)) hx hb d_Opn_lookAtFrame_3 (by decide) ?_
  have hF := hW.free hS hA
  refine va_callv (va_runV (C := R_Opn) (As := [.int (-1), .int (-1), .int (-1)]) (rest := []) ⟨hx, hb, hml, hown, hT⟩ (k_Opn_lookAt l dC dI cI cB cJ cZ ad NN E tM tC kK kV hNN H.size o (-1) (-1) (-1) x fo hw) ⟨callB_of 3 hT (gwt_in w_6_81) rfl rfl rfl (hT _ w_1_10) (hT _ w_6_78) (by decide +kernel) ⟨Nat.le_trans (Nat.le_of_ble_eq_true rfl) hRf, Nat.le_trans (Nat.le_of_ble_eq_true rfl) hRl⟩, hT _ w_6_80, hT _ ws_33⟩ ⟨PVc.blind, va_recv hK hW.1 (ci := 7) (q0 := o) rfl (pic_obj fo.1 fo.2 (by decide)), PVc.at _ hW hK hN hE hS hF⟩ rfl rfl hl.1 rfl (lv_room (Nat.le_of_ble_eq_true rfl)) d_Opn_lookAtFrame_4 ⟨hRc, hRs⟩) hS (fun q _ h => hF q h) hF (fun  x17 t H locs ht hvm hw hB hz1 hk1 hS => ?_)
  have hW := Wd.back hB ht hF
  clear hB ht hF hz1 hk1 hvm
  refine lv_aload_n hx hb d_Opn_lookAtFrame_7 rfl (lv_at hl 0 rfl) ?_
  refine w_geti (k := 3) (t := 7) (C := R_Opn) (T := F_Opn) (N := 17) hx hb hT hown hK hW fo.1 fo.2 (by decide) in_Opn rfl rfl (by decide) rfl fr_Opn_3 w_3_18 d_Opn_lookAtFrame_8 ?_
  refine lv_bipush (v := 100) hx hb d_Opn_lookAtFrame_11 (by decide) ?_
  refine lv_icmp_lt (tgt := 19) hx hb d_Opn_lookAtFrame_13 (by decide) (fun c18 => ?_) (fun c18 => ?_)
  · have hw := hw.1 c18
    refine lv_aload_n hx hb d_Opn_lookAtFrame_19 rfl (lv_at hl 0 rfl) ?_
    refine lv_dup hx hb d_Opn_lookAtFrame_20 rfl ?_
    refine w_geti (k := 3) (t := 7) (C := R_Opn) (T := F_Opn) (N := 17) hx hb hT hown hK hW fo.1 fo.2 (by decide) in_Opn rfl rfl (by decide) rfl fr_Opn_3 w_3_18 d_Opn_lookAtFrame_21 ?_
    refine lv_iconst (v := 1) hx hb d_Opn_lookAtFrame_24 (by decide) ?_
    refine lv_iadd hx hb d_Opn_lookAtFrame_25 ?_
    refine w_puti (ty := .int) (k := 3) (t := 7) (C := R_Opn) (T := F_Opn) (N := 17) hx hb hT hown hK hW hS fo.1 fo.2 (by decide) in_Opn t_Opn t_Opn_ok n_Opn rfl rfl (by decide) rfl fr_Opn_3 w_3_18 (by decide +kernel) rfl rfl d_Opn_lookAtFrame_26 (fun H locs hW hS => ?_)
    obtain ⟨x19, ex19⟩ : ∃ y : St, y = setI x17 o 3 ((fI x17 o 3) + 1) := ⟨_, rfl⟩
    rw [← ex19] at hW
    have hw := hw x19 ex19
    refine lv_iload_n hx hb d_Opn_lookAtFrame_29 rfl (lv_at hl 2 rfl) ?_
    refine lv_bipush (v := 16) hx hb d_Opn_lookAtFrame_30 (by decide) ?_
    refine lv_icmp_lt (tgt := 41) hx hb d_Opn_lookAtFrame_32 (by decide) (fun c20 => ?_) (fun c20 => ?_)
    · have hw := hw.1 c20
      exact t_Opn_lookAtFrame_41 hx hb hml hown hT hK hN hA hRc hRs hRf hRl hNN hE hret  o l1 l2 x19 H locs ls fo fl1 hw hW hS (lv_sub hl [0, 1, 2] rfl)
    · have hw := hw.2 c20
      refine lv_iload_n hx hb d_Opn_lookAtFrame_35 rfl (lv_at hl 2 rfl) ?_
      refine lv_ldc hx hb hown (hT _ w_6_82) d_Opn_lookAtFrame_36 ?_
      refine lv_icmp_le (tgt := 44) hx hb d_Opn_lookAtFrame_38 (by decide) (fun c21 => ?_) (fun c21 => ?_)
      · have hw := hw.1 c21
        refine lv_aload_n hx hb d_Opn_lookAtFrame_44 rfl (lv_at hl 1 rfl) ?_
        refine lv_iconst (v := 0) hx hb d_Opn_lookAtFrame_45 (by decide) ?_
        refine lv_aload_n hx hb d_Opn_lookAtFrame_46 rfl (lv_at hl 0 rfl) ?_
        refine w_getf (q := (stC o 0)) (k := 0) (t := 7) (C := R_Opn) (T := F_Opn) (N := 17) hx hb hT hown hK hW fo.1 fo.2 (by decide) in_Opn rfl rfl (by decide) rfl fr_Opn_0 w_3_15 d_Opn_lookAtFrame_47 rfl ?_
        refine w_getf (q := (stC (stC o 0) 6)) (k := 6) (t := 6) (C := R_Vlt) (T := F_Vlt) (N := 20) hx hb hT hown hK hW (st_ty hNN fo.1 fo.2 rfl).1 (st_ty hNN fo.1 fo.2 rfl).2 (by decide) in_Vlt rfl rfl (by decide) rfl fr_Vlt_6 w_2_140 d_Opn_lookAtFrame_50 rfl ?_
        refine lv_iconst (v := 0) hx hb d_Opn_lookAtFrame_53 (by decide) ?_
        refine lv_iload_n hx hb d_Opn_lookAtFrame_54 rfl (lv_at hl 2 rfl) ?_
        obtain ⟨⟨h1, h2, h3, h4, h5, h6⟩, hw⟩ := hw
        refine va_copyi (a := ad (stC (stC o 0) 6)) (a0 := ad l1) hx hb (hml.trans hl.1.symm) hown (hT _ w_6_83) (hT _ w_4_73) (hT _ w_4_72) (hT _ w_1_16) hK hW.1 hW.2.1 hS l1 (stC (stC o 0) 6) 1 1 (pic_byte fl1.1 fl1.2) (pic_byte (st_ty hNN (st_ty hNN fo.1 fo.2 rfl).1 (st_ty hNN fo.1 fo.2 rfl).2 rfl).1 (st_ty hNN (st_ty hNN fo.1 fo.2 rfl).1 (st_ty hNN fo.1 fo.2 rfl).2 rfl).2) rfl rfl rfl h1 h2 h3 h4 h5 h6 (Nat.le_trans (by decide) hRf) (Nat.le_trans (Nat.le_of_ble_eq_true rfl) hRl) d_Opn_lookAtFrame_55 (fun H locs hP hD hS => ?_)
        have hW := Wd.rowb (st_ty hNN (st_ty hNN fo.1 fo.2 rfl).1 (st_ty hNN fo.1 fo.2 rfl).2 rfl).1 (st_ty hNN (st_ty hNN fo.1 fo.2 rfl).1 (st_ty hNN fo.1 fo.2 rfl).2 rfl).2 hP hD hW.2.2
        obtain ⟨x22, ex22⟩ : ∃ y : St, y = setW x19 (stC (stC o 0) 6) (va_cpy (fA x19 l1) (fA x19 (stC (stC o 0) 6)) (0 : Int32).toNatClampNeg (0 : Int32).toNatClampNeg (l2 : Int32).toNatClampNeg) := ⟨_, rfl⟩
        rw [← ex22] at hW
        have hw := hw x22 ex22
        refine lv_iconst (v := 0) hx hb d_Opn_lookAtFrame_58 (by decide) ?_
        refine lv_istore_n (lv' := [(3, .int 0), (0, .ref (ad o)), (1, .ref (ad l1)), (2, .int l2)]) hx hb d_Opn_lookAtFrame_59 rfl hl (by decide) rfl (fun ls hl => ?_)
        obtain ⟨n, hw⟩ := hw
        exact tl_Opn_lookAtFrame_60 hx hb hml hown hT hK hN hA hRc hRs hRf hRl hNN hE hret  n o l1 l2 0 x22 H locs ls fo fl1 hw hW hS (lv_sub hl [1, 2, 3, 0] rfl)
      · have hw := hw.2 c21
        exact t_Opn_lookAtFrame_41 hx hb hml hown hT hK hN hA hRc hRs hRf hRl hNN hE hret  o l1 l2 x19 H locs ls fo fl1 hw hW hS (lv_sub hl [0, 1, 2] rfl)
  · have hw := hw.2 c18
    refine lv_bipush (v := 23) hx hb d_Opn_lookAtFrame_16 (by decide) ?_
    exact hret 23 x17 H locs 18 ls d_Opn_lookAtFrame_18 hw hW hS
set_option maxHeartbeats 4000000 in
set_option maxRecDepth 100000 in
theorem k_Opn_lookAtFrame (l : Launch) (dC : Nat → ClassId) (dI : Nat → Nat → Nat) (cI cB cJ cZ : ClassId) (ad : Nat → Nat) (NN : Nat) (E : Heap) (tM tC : Nat) (kK kV : Nat → Nat) (hNN : 152 ≤ NN) (sz : Nat) (o : Nat) (l1 : Nat) (l2 : Int32) (x : St) (fo : o < NN ∧ kcC o = 7) (fl1 : l1 < NN ∧ kcC l1 = 21) {post : Int32 → St → Prop} (hw : wp_Opn_lookAtFrame post o l1 l2 x) : Met l y_Opn_lookAtFrame (wsOf y_Opn_lookAtFrame b_Opn_lookAtFrame 7 (some (.int))) ({ frames := 2, cells := 0, slots := 0, locals := 102 }) (va_Pc [.ref (ad o), .ref (ad l1), .int l2] (PVc dC dI cI cB cJ cZ ad stC kcC NN E tM tC kK kV sz x)) (va_Qi (fun (r : Int32) (y : St) => post r y) (fun y t => Wd dC dI cI cB cJ cZ ad stC kcC NN (va_A (pic ad stC kcC NN cI cB cJ cZ x) sz) y t.heap) (va_A (pic ad stC kcC NN cI cB cJ cZ x) sz)) 0 0 (va_A (pic ad stC kcC NN cI cB cJ cZ x) sz) := by
  refine Met.ofW (cc := b_Opn_lookAtFrame) (maxL := 7) (ret := some (.int)) (by decide) rfl ?_
  intro p e s m args below meth c s₁ B hml hv
  obtain ⟨rfl, ⟨hsz, hW0, hK, hN⟩, hE⟩ := hv
  have hx := B.exec
  have hb := B.bytes
  have hr := B.returns
  have hts := atoms_spec B.pre
  have hT : ∀ w ∈ TG, w.before _ s = true := fun w h => hts w (List.mem_cons_of_mem _ h)
  have hown : s.vm.findClass R_Opn = some m.cls := findClass_of_methodNamed B.named
  have hlocks := B.notSynchronized
  subst hsz
  have hW : Wd dC dI cI cB cJ cZ ad stC kcC NN (va_A (pic ad stC kcC NN cI cB cJ cZ x) s.heap.size) x s.heap := ⟨hW0.1, hW0.2.1.self (sz := s.heap.size), hW0.2.2⟩
  generalize hAe : va_A (pic ad stC kcC NN cI cB cJ cZ x) s.heap.size = A at hW hE ⊢
  have hA : ∀ q : Nat, s.heap.size ≤ q → A q := fun q h => by rw [← hAe]; exact Or.inr h
  have hS : va_S A s.heap s.heap [] := va_S.rf
  have hl := lv_entry ([.ref (ad o), .ref (ad l1), .int l2]) (n := 7) (Nat.le_of_ble_eq_true rfl)
  rw [lg_entry_eq]
  generalize (lg_sl ([.ref (ad o), .ref (ad l1), .int l2]) ++ List.replicate (7 - (lg_sl ([.ref (ad o), .ref (ad l1), .int l2])).length) Slot.unset).toArray = ls at hl ⊢
  have hl : lv_has ls 7 [(0, .ref (ad o)), (1, .ref (ad l1)), (2, .int l2)] := hl
  exact t_Opn_lookAtFrame_e hx hb hml hown hT hK hN hA (Nat.le_refl 0) (Nat.le_refl 0) (Nat.le_refl 2) (Nat.le_refl 102) hNN hE (fun r x H locs pc ls hd hp hW hS => W.iret (v := r) hx hb hr (fun t ht hM => ⟨⟨r, x, rfl, hp, Wd.back hW ht.symm (fun _ z => z)⟩, hS.F ht⟩) hS.2.2 hd hlocks)  o l1 l2 x _ _ ls fo fl1 hw hW hS hl
set_option maxRecDepth 100000 in
set_option maxHeartbeats 4000000 in
set_option maxRecDepth 100000 in
theorem t_Src_readVarint_118 {p : Program} {l : Launch} {e : Env} {R : Room} {s : State} {m : MethodId} {args : Array Value} {below : List Frame} {meth : Method} {c : Code} {cells slots : Nat} {Q : State → Prop} {dC : Nat → ClassId} {dI : Nat → Nat → Nat} {cI cB cJ cZ : ClassId} {A : Nat → Prop} {ad : Nat → Nat} {NN : Nat} {E : Heap} {tM tC : Nat} {kK kV : Nat → Nat} {post : Int64 → St → Prop} (hx : p.tables.exec = Jvm.exec) (hb : c.code = b_Src_readVarint) (hml : c.maxLocals = 5) (hown : s.vm.findClass R_Src = some m.cls) (hT : ∀ w ∈ TG, w.before args s = true) (hK : va_K (dC, dI) CL (TY cI cB cJ cZ) s) (hN : NW s) (hA : ∀ q : Nat, s.heap.size ≤ q → A q) (hRc : cells ≤ R.cells) (hRs : slots ≤ R.slots) (hRf : 0 ≤ R.frames) (hRl : 0 ≤ R.locals) (hNN : 152 ≤ NN) (hE : CE E tM tC kK kV A s) (hret : ∀ (r : Int64) (x : St) (H : Heap) (locs : List Loc) (pc : Nat) (ls : Array Slot), decode b_Src_readVarint pc = .ok (.lreturn, 1) → post r x → Wd dC dI cI cB cJ cZ ad stC kcC NN A x H → va_S A s.heap H locs → W p l e R s m args below meth c H locs cells slots Q (F0 m pc ls [.long r]))  : ∀ (o : Nat) (l1 : Int64) (l3 : Int32) (x : St) (H : Heap) (locs : List Loc) (ls : Array Slot), (o < NN ∧ kcC o = 8) → j_Src_readVarint_118 post o l1 l3 x → Wd dC dI cI cB cJ cZ ad stC kcC NN A x H → va_S A s.heap H locs → lv_has ls 5 [(0, .ref (ad o)), (1, .long l1), (3, .int l3)] → W p l e R s m args below meth c H locs cells slots Q (F0 m 118 ls []) := by
  intro o l1 l3 x H locs ls fo hw hW hS hl
  unfold j_Src_readVarint_118 at hw
  refine lv_lconst (v := 0) hx hb d_Src_readVarint_118 (by decide) ?_
  exact hret 0 x H locs 119 ls d_Src_readVarint_119 hw hW hS
set_option maxRecDepth 100000 in
set_option maxHeartbeats 4000000 in
set_option maxRecDepth 100000 in
theorem t_Src_readVarint_88 {p : Program} {l : Launch} {e : Env} {R : Room} {s : State} {m : MethodId} {args : Array Value} {below : List Frame} {meth : Method} {c : Code} {cells slots : Nat} {Q : State → Prop} {dC : Nat → ClassId} {dI : Nat → Nat → Nat} {cI cB cJ cZ : ClassId} {A : Nat → Prop} {ad : Nat → Nat} {NN : Nat} {E : Heap} {tM tC : Nat} {kK kV : Nat → Nat} {post : Int64 → St → Prop} {rec4 : Nat → Int64 → Int32 → St → Prop} (hx : p.tables.exec = Jvm.exec) (hb : c.code = b_Src_readVarint) (hml : c.maxLocals = 5) (hown : s.vm.findClass R_Src = some m.cls) (hT : ∀ w ∈ TG, w.before args s = true) (hK : va_K (dC, dI) CL (TY cI cB cJ cZ) s) (hN : NW s) (hA : ∀ q : Nat, s.heap.size ≤ q → A q) (hRc : cells ≤ R.cells) (hRs : slots ≤ R.slots) (hRf : 0 ≤ R.frames) (hRl : 0 ≤ R.locals) (hNN : 152 ≤ NN) (hE : CE E tM tC kK kV A s) (hret : ∀ (r : Int64) (x : St) (H : Heap) (locs : List Loc) (pc : Nat) (ls : Array Slot), decode b_Src_readVarint pc = .ok (.lreturn, 1) → post r x → Wd dC dI cI cB cJ cZ ad stC kcC NN A x H → va_S A s.heap H locs → W p l e R s m args below meth c H locs cells slots Q (F0 m pc ls [.long r])) (hrec4 : ∀ (o : Nat) (l1 : Int64) (l3 : Int32) (x : St) (H : Heap) (locs : List Loc) (ls : Array Slot), (o < NN ∧ kcC o = 8) → rec4 o l1 l3 x → Wd dC dI cI cB cJ cZ ad stC kcC NN A x H → va_S A s.heap H locs → lv_has ls 5 [(0, .ref (ad o)), (1, .long l1), (3, .int l3)] → W p l e R s m args below meth c H locs cells slots Q (F0 m 4 ls [])) : ∀ (o : Nat) (l1 : Int64) (l3 : Int32) (l4 : Int32) (x : St) (H : Heap) (locs : List Loc) (ls : Array Slot), (o < NN ∧ kcC o = 8) → j_Src_readVarint_88 post rec4 o l1 l3 l4 x → Wd dC dI cI cB cJ cZ ad stC kcC NN A x H → va_S A s.heap H locs → lv_has ls 5 [(0, .ref (ad o)), (1, .long l1), (3, .int l3), (4, .int l4)] → W p l e R s m args below meth c H locs cells slots Q (F0 m 88 ls []) := by
  intro o l1 l3 l4 x H locs ls fo hw hW hS hl
  unfold j_Src_readVarint_88 at hw
  refine lv_lload_n hx hb d_Src_readVarint_88 rfl (lv_at hl 1 rfl) ?_
  refine lv_iload hx hb d_Src_readVarint_89 (lv_at hl 3 rfl) ?_
  refine lv_bipush (v := 127) hx hb d_Src_readVarint_91 (by decide) ?_
  refine lv_iand hx hb d_Src_readVarint_93 ?_
  refine lv_i2l hx hb d_Src_readVarint_94 rfl ?_
  refine lv_bipush (v := 7) hx hb d_Src_readVarint_95 (by decide) ?_
  refine lv_iload_n hx hb d_Src_readVarint_97 rfl (lv_at hl 2 rfl) ?_
  refine lv_imul hx hb d_Src_readVarint_98 ?_
  refine lv_lshl hx hb d_Src_readVarint_99 rfl ?_
  refine lv_lor hx hb d_Src_readVarint_100 ?_
  refine lv_topl (fun v1 ev1 => ?_)
  have hw := hw v1 ev1
  refine lv_lstore_n (lv' := [(1, .long v1), (0, .ref (ad o)), (3, .int l3), (4, .int l4)]) hx hb d_Src_readVarint_101 rfl hl (by decide) rfl (fun ls hl => ?_)
  refine lv_iload hx hb d_Src_readVarint_102 (lv_at hl 3 rfl) ?_
  refine lv_sipush (v := 128) hx hb d_Src_readVarint_104 (by decide) ?_
  refine lv_icmp_ge (tgt := 112) hx hb d_Src_readVarint_107 (by decide) (fun c2 => ?_) (fun c2 => ?_)
  · have hw := hw.1 c2
    refine lv_iinc (v := (l3 + 1)) (lv' := [(3, .int (l3 + 1)), (1, .long v1), (0, .ref (ad o)), (4, .int l4)]) hx hb d_Src_readVarint_112 hl (k := 2) rfl rfl (by decide) rfl (fun ls hl => ?_)
    refine lv_goto (tgt := 4) hx hb d_Src_readVarint_115 (by decide) ?_
    exact hrec4 o v1 (l3 + 1) x H locs ls fo hw hW hS (lv_sub hl [2, 1, 0] rfl)
  · have hw := hw.2 c2
    refine lv_lload_n hx hb d_Src_readVarint_110 rfl (lv_at hl 0 rfl) ?_
    exact hret v1 x H locs 111 ls d_Src_readVarint_111 hw hW hS
set_option maxRecDepth 100000 in
set_option maxHeartbeats 4000000 in
set_option maxRecDepth 100000 in
theorem t_Src_readVarint_81 {p : Program} {l : Launch} {e : Env} {R : Room} {s : State} {m : MethodId} {args : Array Value} {below : List Frame} {meth : Method} {c : Code} {cells slots : Nat} {Q : State → Prop} {dC : Nat → ClassId} {dI : Nat → Nat → Nat} {cI cB cJ cZ : ClassId} {A : Nat → Prop} {ad : Nat → Nat} {NN : Nat} {E : Heap} {tM tC : Nat} {kK kV : Nat → Nat} {post : Int64 → St → Prop} (hx : p.tables.exec = Jvm.exec) (hb : c.code = b_Src_readVarint) (hml : c.maxLocals = 5) (hown : s.vm.findClass R_Src = some m.cls) (hT : ∀ w ∈ TG, w.before args s = true) (hK : va_K (dC, dI) CL (TY cI cB cJ cZ) s) (hN : NW s) (hA : ∀ q : Nat, s.heap.size ≤ q → A q) (hRc : cells ≤ R.cells) (hRs : slots ≤ R.slots) (hRf : 0 ≤ R.frames) (hRl : 0 ≤ R.locals) (hNN : 152 ≤ NN) (hE : CE E tM tC kK kV A s) (hret : ∀ (r : Int64) (x : St) (H : Heap) (locs : List Loc) (pc : Nat) (ls : Array Slot), decode b_Src_readVarint pc = .ok (.lreturn, 1) → post r x → Wd dC dI cI cB cJ cZ ad stC kcC NN A x H → va_S A s.heap H locs → W p l e R s m args below meth c H locs cells slots Q (F0 m pc ls [.long r]))  : ∀ (o : Nat) (l1 : Int64) (l3 : Int32) (l4 : Int32) (x : St) (H : Heap) (locs : List Loc) (ls : Array Slot), (o < NN ∧ kcC o = 8) → j_Src_readVarint_81 post o l1 l3 l4 x → Wd dC dI cI cB cJ cZ ad stC kcC NN A x H → va_S A s.heap H locs → lv_has ls 5 [(0, .ref (ad o)), (1, .long l1), (3, .int l3), (4, .int l4)] → W p l e R s m args below meth c H locs cells slots Q (F0 m 81 ls []) := by
  intro o l1 l3 l4 x H locs ls fo hw hW hS hl
  unfold j_Src_readVarint_81 at hw
  refine lv_aload_n hx hb d_Src_readVarint_81 rfl (lv_at hl 0 rfl) ?_
  refine lv_iconst (v := 2) hx hb d_Src_readVarint_82 (by decide) ?_
  refine w_puti (ty := .int) (k := 3) (t := 8) (C := R_Src) (T := F_Src) (N := 5) hx hb hT hown hK hW hS fo.1 fo.2 (by decide) in_Src t_Src t_Src_ok n_Src rfl rfl (by decide) rfl fr_Src_3 w_3_1 (by decide +kernel) rfl rfl d_Src_readVarint_83 (fun H locs hW hS => ?_)
  obtain ⟨x3, ex3⟩ : ∃ y : St, y = setI x o 3 2 := ⟨_, rfl⟩
  rw [← ex3] at hW
  have hw := hw x3 ex3
  refine lv_lconst (v := 0) hx hb d_Src_readVarint_86 (by decide) ?_
  exact hret 0 x3 H locs 87 ls d_Src_readVarint_87 hw hW hS
set_option maxRecDepth 100000 in
set_option maxHeartbeats 4000000 in
set_option maxRecDepth 100000 in
theorem t_Src_readVarint_72 {p : Program} {l : Launch} {e : Env} {R : Room} {s : State} {m : MethodId} {args : Array Value} {below : List Frame} {meth : Method} {c : Code} {cells slots : Nat} {Q : State → Prop} {dC : Nat → ClassId} {dI : Nat → Nat → Nat} {cI cB cJ cZ : ClassId} {A : Nat → Prop} {ad : Nat → Nat} {NN : Nat} {E : Heap} {tM tC : Nat} {kK kV : Nat → Nat} {post : Int64 → St → Prop} {rec4 : Nat → Int64 → Int32 → St → Prop} (hx : p.tables.exec = Jvm.exec) (hb : c.code = b_Src_readVarint) (hml : c.maxLocals = 5) (hown : s.vm.findClass R_Src = some m.cls) (hT : ∀ w ∈ TG, w.before args s = true) (hK : va_K (dC, dI) CL (TY cI cB cJ cZ) s) (hN : NW s) (hA : ∀ q : Nat, s.heap.size ≤ q → A q) (hRc : cells ≤ R.cells) (hRs : slots ≤ R.slots) (hRf : 0 ≤ R.frames) (hRl : 0 ≤ R.locals) (hNN : 152 ≤ NN) (hE : CE E tM tC kK kV A s) (hret : ∀ (r : Int64) (x : St) (H : Heap) (locs : List Loc) (pc : Nat) (ls : Array Slot), decode b_Src_readVarint pc = .ok (.lreturn, 1) → post r x → Wd dC dI cI cB cJ cZ ad stC kcC NN A x H → va_S A s.heap H locs → W p l e R s m args below meth c H locs cells slots Q (F0 m pc ls [.long r])) (hrec4 : ∀ (o : Nat) (l1 : Int64) (l3 : Int32) (x : St) (H : Heap) (locs : List Loc) (ls : Array Slot), (o < NN ∧ kcC o = 8) → rec4 o l1 l3 x → Wd dC dI cI cB cJ cZ ad stC kcC NN A x H → va_S A s.heap H locs → lv_has ls 5 [(0, .ref (ad o)), (1, .long l1), (3, .int l3)] → W p l e R s m args below meth c H locs cells slots Q (F0 m 4 ls [])) : ∀ (o : Nat) (l1 : Int64) (l3 : Int32) (l4 : Int32) (x : St) (H : Heap) (locs : List Loc) (ls : Array Slot), (o < NN ∧ kcC o = 8) → j_Src_readVarint_72 post rec4 o l1 l3 l4 x → Wd dC dI cI cB cJ cZ ad stC kcC NN A x H → va_S A s.heap H locs → lv_has ls 5 [(0, .ref (ad o)), (1, .long l1), (3, .int l3), (4, .int l4)] → W p l e R s m args below meth c H locs cells slots Q (F0 m 72 ls []) := by
  intro o l1 l3 l4 x H locs ls fo hw hW hS hl
  unfold j_Src_readVarint_72 at hw
  refine lv_iload_n hx hb d_Src_readVarint_72 rfl (lv_at hl 2 rfl) ?_
  refine lv_if_le (tgt := 88) hx hb d_Src_readVarint_73 (by decide) (fun c4 => ?_) (fun c4 => ?_)
  · have hw := hw.1 c4
    exact t_Src_readVarint_88 hx hb hml hown hT hK hN hA hRc hRs hRf hRl hNN hE hret hrec4 o l1 l3 l4 x H locs ls fo hw hW hS (lv_sub hl [0, 1, 2, 3] rfl)
  · have hw := hw.2 c4
    refine lv_iload hx hb d_Src_readVarint_76 (lv_at hl 3 rfl) ?_
    refine lv_if_ne (tgt := 88) hx hb d_Src_readVarint_78 (by decide) (fun c5 => ?_) (fun c5 => ?_)
    · have hw := hw.1 c5
      exact t_Src_readVarint_88 hx hb hml hown hT hK hN hA hRc hRs hRf hRl hNN hE hret hrec4 o l1 l3 l4 x H locs ls fo hw hW hS (lv_sub hl [0, 1, 2, 3] rfl)
    · have hw := hw.2 c5
      exact t_Src_readVarint_81 hx hb hml hown hT hK hN hA hRc hRs hRf hRl hNN hE hret  o l1 l3 l4 x H locs ls fo hw hW hS (lv_sub hl [0, 1, 2, 3] rfl)
set_option maxRecDepth 100000 in
set_option maxHeartbeats 4000000 in
set_option maxRecDepth 100000 in
theorem t_Src_readVarint_4 {p : Program} {l : Launch} {e : Env} {R : Room} {s : State} {m : MethodId} {args : Array Value} {below : List Frame} {meth : Method} {c : Code} {cells slots : Nat} {Q : State → Prop} {dC : Nat → ClassId} {dI : Nat → Nat → Nat} {cI cB cJ cZ : ClassId} {A : Nat → Prop} {ad : Nat → Nat} {NN : Nat} {E : Heap} {tM tC : Nat} {kK kV : Nat → Nat} {post : Int64 → St → Prop} {rec4 : Nat → Int64 → Int32 → St → Prop} (hx : p.tables.exec = Jvm.exec) (hb : c.code = b_Src_readVarint) (hml : c.maxLocals = 5) (hown : s.vm.findClass R_Src = some m.cls) (hT : ∀ w ∈ TG, w.before args s = true) (hK : va_K (dC, dI) CL (TY cI cB cJ cZ) s) (hN : NW s) (hA : ∀ q : Nat, s.heap.size ≤ q → A q) (hRc : cells ≤ R.cells) (hRs : slots ≤ R.slots) (hRf : 0 ≤ R.frames) (hRl : 0 ≤ R.locals) (hNN : 152 ≤ NN) (hE : CE E tM tC kK kV A s) (hret : ∀ (r : Int64) (x : St) (H : Heap) (locs : List Loc) (pc : Nat) (ls : Array Slot), decode b_Src_readVarint pc = .ok (.lreturn, 1) → post r x → Wd dC dI cI cB cJ cZ ad stC kcC NN A x H → va_S A s.heap H locs → W p l e R s m args below meth c H locs cells slots Q (F0 m pc ls [.long r])) (hrec4 : ∀ (o : Nat) (l1 : Int64) (l3 : Int32) (x : St) (H : Heap) (locs : List Loc) (ls : Array Slot), (o < NN ∧ kcC o = 8) → rec4 o l1 l3 x → Wd dC dI cI cB cJ cZ ad stC kcC NN A x H → va_S A s.heap H locs → lv_has ls 5 [(0, .ref (ad o)), (1, .long l1), (3, .int l3)] → W p l e R s m args below meth c H locs cells slots Q (F0 m 4 ls [])) : ∀ (o : Nat) (l1 : Int64) (l3 : Int32) (x : St) (H : Heap) (locs : List Loc) (ls : Array Slot), (o < NN ∧ kcC o = 8) → j_Src_readVarint_4 post rec4 o l1 l3 x → Wd dC dI cI cB cJ cZ ad stC kcC NN A x H → va_S A s.heap H locs → lv_has ls 5 [(0, .ref (ad o)), (1, .long l1), (3, .int l3)] → W p l e R s m args below meth c H locs cells slots Q (F0 m 4 ls []) := by
  intro o l1 l3 x H locs ls fo hw hW hS hl
  unfold j_Src_readVarint_4 at hw
  refine lv_iload_n hx hb d_Src_readVarint_4 rfl (lv_at hl 2 rfl) ?_
  refine lv_bipush (v := 10) hx hb d_Src_readVarint_5 (by decide) ?_
  refine lv_icmp_ge (tgt := 118) hx hb d_Src_readVarint_7 (by decide) (fun c6 => ?_) (fun c6 => ?_)
  · have hw := hw.1 c6
    exact t_Src_readVarint_118 hx hb hml hown hT hK hN hA hRc hRs hRf hRl hNN hE hret  o l1 l3 x H locs ls fo hw hW hS (lv_sub hl [0, 1, 2] rfl)
  · have hw := hw.2 c6
    refine lv_aload_n hx hb d_Src_readVarint_10 rfl (lv_at hl 0 rfl) ?_
    refine w_geti (k := 3) (t := 8) (C := R_Src) (T := F_Src) (N := 5) hx hb hT hown hK hW fo.1 fo.2 (by decide) in_Src rfl rfl (by decide) rfl fr_Src_3 w_3_1 d_Src_readVarint_11 ?_
    refine lv_if_ne (tgt := 118) hx hb d_Src_readVarint_14 (by decide) (fun c7 => ?_) (fun c7 => ?_)
    · have hw := hw.1 c7
      exact t_Src_readVarint_118 hx hb hml hown hT hK hN hA hRc hRs hRf hRl hNN hE hret  o l1 l3 x H locs ls fo hw hW hS (lv_sub hl [0, 1, 2] rfl)
    · have hw := hw.2 c7
      refine lv_aload_n hx hb d_Src_readVarint_17 rfl (lv_at hl 0 rfl) ?_
      refine w_geti (k := 1) (t := 8) (C := R_Src) (T := F_Src) (N := 5) hx hb hT hown hK hW fo.1 fo.2 (by decide) in_Src rfl rfl (by decide) rfl fr_Src_1 w_2_237 d_Src_readVarint_18 ?_
      refine lv_aload_n hx hb d_Src_readVarint_21 rfl (lv_at hl 0 rfl) ?_
      refine w_geti (k := 2) (t := 8) (C := R_Src) (T := F_Src) (N := 5) hx hb hT hown hK hW fo.1 fo.2 (by decide) in_Src rfl rfl (by decide) rfl fr_Src_2 w_2_239 d_Src_readVarint_22 ?_
      refine lv_icmp_lt (tgt := 35) hx hb d_Src_readVarint_25 (by decide) (fun c8 => ?_) (fun c8 => ?_)
      · have hw := hw.1 c8
        refine lv_aload_n hx hb d_Src_readVarint_35 rfl (lv_at hl 0 rfl) ?_
        refine w_getf (q := (stC o 0)) (k := 0) (t := 8) (C := R_Src) (T := F_Src) (N := 5) hx hb hT hown hK hW fo.1 fo.2 (by decide) in_Src rfl rfl (by decide) rfl fr_Src_0 w_2_236 d_Src_readVarint_36 rfl ?_
        refine lv_aload_n hx hb d_Src_readVarint_39 rfl (lv_at hl 0 rfl) ?_
        refine w_geti (k := 1) (t := 8) (C := R_Src) (T := F_Src) (N := 5) hx hb hT hown hK hW fo.1 fo.2 (by decide) in_Src rfl rfl (by decide) rfl fr_Src_1 w_2_237 d_Src_readVarint_40 ?_
        obtain ⟨hi, hw⟩ := hw
        refine w_bald (o := (stC o 0)) hx hb hK hW (st_ty hNN fo.1 fo.2 rfl).1 (st_ty hNN fo.1 fo.2 rfl).2 hi d_Src_readVarint_43 ?_
        refine lv_sipush (v := 255) hx hb d_Src_readVarint_44 (by decide) ?_
        refine lv_iand hx hb d_Src_readVarint_47 ?_
        refine lv_topi (fun v9 ev9 => ?_)
        have hw := hw v9 ev9
        refine lv_istore (lv' := [(4, .int v9), (0, .ref (ad o)), (1, .long l1), (3, .int l3)]) hx hb d_Src_readVarint_48 hl (by decide) rfl (fun ls hl => ?_)
        refine lv_aload_n hx hb d_Src_readVarint_50 rfl (lv_at hl 1 rfl) ?_
        refine lv_dup hx hb d_Src_readVarint_51 rfl ?_
        refine w_geti (k := 1) (t := 8) (C := R_Src) (T := F_Src) (N := 5) hx hb hT hown hK hW fo.1 fo.2 (by decide) in_Src rfl rfl (by decide) rfl fr_Src_1 w_2_237 d_Src_readVarint_52 ?_
        refine lv_iconst (v := 1) hx hb d_Src_readVarint_55 (by decide) ?_
        refine lv_iadd hx hb d_Src_readVarint_56 ?_
        refine w_puti (ty := .int) (k := 1) (t := 8) (C := R_Src) (T := F_Src) (N := 5) hx hb hT hown hK hW hS fo.1 fo.2 (by decide) in_Src t_Src t_Src_ok n_Src rfl rfl (by decide) rfl fr_Src_1 w_2_237 (by decide +kernel) rfl rfl d_Src_readVarint_57 (fun H locs hW hS => ?_)
        obtain ⟨x10, ex10⟩ : ∃ y : St, y = setI x o 1 ((fI x o 1) + 1) := ⟨_, rfl⟩
        rw [← ex10] at hW
        have hw := hw x10 ex10
        refine lv_iload_n hx hb d_Src_readVarint_60 rfl (lv_at hl 3 rfl) ?_
        refine lv_bipush (v := 9) hx hb d_Src_readVarint_61 (by decide) ?_
        refine lv_icmp_ne (tgt := 72) hx hb d_Src_readVarint_63 (by decide) (fun c11 => ?_) (fun c11 => ?_)
        · have hw := hw.1 c11
          exact t_Src_readVarint_72 hx hb hml hown hT hK hN hA hRc hRs hRf hRl hNN hE hret hrec4 o l1 l3 v9 x10 H locs ls fo hw hW hS (lv_sub hl [1, 2, 3, 0] rfl)
        · have hw := hw.2 c11
          refine lv_iload hx hb d_Src_readVarint_66 (lv_at hl 0 rfl) ?_
          refine lv_iconst (v := 1) hx hb d_Src_readVarint_68 (by decide) ?_
          refine lv_icmp_gt (tgt := 81) hx hb d_Src_readVarint_69 (by decide) (fun c12 => ?_) (fun c12 => ?_)
          · have hw := hw.1 c12
            exact t_Src_readVarint_81 hx hb hml hown hT hK hN hA hRc hRs hRf hRl hNN hE hret  o l1 l3 v9 x10 H locs ls fo hw hW hS (lv_sub hl [1, 2, 3, 0] rfl)
          · have hw := hw.2 c12
            exact t_Src_readVarint_72 hx hb hml hown hT hK hN hA hRc hRs hRf hRl hNN hE hret hrec4 o l1 l3 v9 x10 H locs ls fo hw hW hS (lv_sub hl [1, 2, 3, 0] rfl)
      · have hw := hw.2 c8
        refine lv_aload_n hx hb d_Src_readVarint_28 rfl (lv_at hl 0 rfl) ?_
        refine lv_iconst (v := 1) hx hb d_Src_readVarint_29 (by decide) ?_
        refine w_puti (ty := .int) (k := 3) (t := 8) (C := R_Src) (T := F_Src) (N := 5) hx hb hT hown hK hW hS fo.1 fo.2 (by decide) in_Src t_Src t_Src_ok n_Src rfl rfl (by decide) rfl fr_Src_3 w_3_1 (by decide +kernel) rfl rfl d_Src_readVarint_30 (fun H locs hW hS => ?_)
        obtain ⟨x13, ex13⟩ : ∃ y : St, y = setI x o 3 1 := ⟨_, rfl⟩
        rw [← ex13] at hW
        have hw := hw x13 ex13
        refine lv_lconst (v := 0) hx hb d_Src_readVarint_33 (by decide) ?_
        exact hret 0 x13 H locs 34 ls d_Src_readVarint_34 hw hW hS
set_option maxHeartbeats 4000000 in
set_option maxRecDepth 100000 in
theorem tl_Src_readVarint_4 {p : Program} {l : Launch} {e : Env} {R : Room} {s : State} {m : MethodId} {args : Array Value} {below : List Frame} {meth : Method} {c : Code} {cells slots : Nat} {Q : State → Prop} {dC : Nat → ClassId} {dI : Nat → Nat → Nat} {cI cB cJ cZ : ClassId} {A : Nat → Prop} {ad : Nat → Nat} {NN : Nat} {E : Heap} {tM tC : Nat} {kK kV : Nat → Nat} {post : Int64 → St → Prop} (hx : p.tables.exec = Jvm.exec) (hb : c.code = b_Src_readVarint) (hml : c.maxLocals = 5) (hown : s.vm.findClass R_Src = some m.cls) (hT : ∀ w ∈ TG, w.before args s = true) (hK : va_K (dC, dI) CL (TY cI cB cJ cZ) s) (hN : NW s) (hA : ∀ q : Nat, s.heap.size ≤ q → A q) (hRc : cells ≤ R.cells) (hRs : slots ≤ R.slots) (hRf : 0 ≤ R.frames) (hRl : 0 ≤ R.locals) (hNN : 152 ≤ NN) (hE : CE E tM tC kK kV A s) (hret : ∀ (r : Int64) (x : St) (H : Heap) (locs : List Loc) (pc : Nat) (ls : Array Slot), decode b_Src_readVarint pc = .ok (.lreturn, 1) → post r x → Wd dC dI cI cB cJ cZ ad stC kcC NN A x H → va_S A s.heap H locs → W p l e R s m args below meth c H locs cells slots Q (F0 m pc ls [.long r]))  : ∀ n : Nat, ∀ (o : Nat) (l1 : Int64) (l3 : Int32) (x : St) (H : Heap) (locs : List Loc) (ls : Array Slot), (o < NN ∧ kcC o = 8) → wl_Src_readVarint_4 post n o l1 l3 x → Wd dC dI cI cB cJ cZ ad stC kcC NN A x H → va_S A s.heap H locs → lv_has ls 5 [(0, .ref (ad o)), (1, .long l1), (3, .int l3)] → W p l e R s m args below meth c H locs cells slots Q (F0 m 4 ls []) := by
  intro n
  induction n with
  | zero => intro o l1 l3 x H locs ls fo hw; exact hw.elim
  | succ n ih => intro o l1 l3 x H locs ls fo hw hW hS hl; exact t_Src_readVarint_4 hx hb hml hown hT hK hN hA hRc hRs hRf hRl hNN hE hret  ih o l1 l3 x H locs ls fo hw hW hS hl
set_option maxRecDepth 100000 in
set_option maxHeartbeats 4000000 in
set_option maxRecDepth 100000 in
theorem t_Src_readVarint_e {p : Program} {l : Launch} {e : Env} {R : Room} {s : State} {m : MethodId} {args : Array Value} {below : List Frame} {meth : Method} {c : Code} {cells slots : Nat} {Q : State → Prop} {dC : Nat → ClassId} {dI : Nat → Nat → Nat} {cI cB cJ cZ : ClassId} {A : Nat → Prop} {ad : Nat → Nat} {NN : Nat} {E : Heap} {tM tC : Nat} {kK kV : Nat → Nat} {post : Int64 → St → Prop} (hx : p.tables.exec = Jvm.exec) (hb : c.code = b_Src_readVarint) (hml : c.maxLocals = 5) (hown : s.vm.findClass R_Src = some m.cls) (hT : ∀ w ∈ TG, w.before args s = true) (hK : va_K (dC, dI) CL (TY cI cB cJ cZ) s) (hN : NW s) (hA : ∀ q : Nat, s.heap.size ≤ q → A q) (hRc : cells ≤ R.cells) (hRs : slots ≤ R.slots) (hRf : 0 ≤ R.frames) (hRl : 0 ≤ R.locals) (hNN : 152 ≤ NN) (hE : CE E tM tC kK kV A s) (hret : ∀ (r : Int64) (x : St) (H : Heap) (locs : List Loc) (pc : Nat) (ls : Array Slot), decode b_Src_readVarint pc = .ok (.lreturn, 1) → post r x → Wd dC dI cI cB cJ cZ ad stC kcC NN A x H → va_S A s.heap H locs → W p l e R s m args below meth c H locs cells slots Q (F0 m pc ls [.long r])) : ∀ (o : Nat) (x : St) (H : Heap) (locs : List Loc) (ls : Array Slot), (o < NN ∧ kcC o = 8) → wp_Src_readVarint post o x → Wd dC dI cI cB cJ cZ ad stC kcC NN A x H → va_S A s.heap H locs → lv_has ls 5 [(0, .ref (ad o))] → W p l e R s m args below meth c H locs cells slots Q (F0 m 0 ls []) := by
  intro o x H locs ls fo hw hW hS hl
  unfold wp_Src_readVarint at hw
  refine lv_lconst (v := 0) hx hb d_Src_readVarint_0 (by decide) ?_
  refine lv_lstore_n (lv' := [(1, .long 0), (0, .ref (ad o))]) hx hb d_Src_readVarint_1 rfl hl (by decide) rfl (fun ls hl => ?_)
  refine lv_iconst (v := 0) hx hb d_Src_readVarint_2 (by decide) ?_
  refine lv_istore_n (lv' := [(3, .int 0), (1, .long 0), (0, .ref (ad o))]) hx hb d_Src_readVarint_3 rfl hl (by decide) rfl (fun ls hl => ?_)
  obtain ⟨n, hw⟩ := hw
  exact tl_Src_readVarint_4 hx hb hml hown hT hK hN hA hRc hRs hRf hRl hNN hE hret  n o 0 0 x H locs ls fo hw hW hS (lv_sub hl [2, 1, 0] rfl)
set_option maxHeartbeats 4000000 in
set_option maxRecDepth 100000 in
theorem k_Src_readVarint (l : Launch) (dC : Nat → ClassId) (dI : Nat → Nat → Nat) (cI cB cJ cZ : ClassId) (ad : Nat → Nat) (NN : Nat) (E : Heap) (tM tC : Nat) (kK kV : Nat → Nat) (hNN : 152 ≤ NN) (sz : Nat) (o : Nat) (x : St) (fo : o < NN ∧ kcC o = 8) {post : Int64 → St → Prop} (hw : wp_Src_readVarint post o x) : Met l y_Src_readVarint (wsOf y_Src_readVarint b_Src_readVarint 5 (some (.long))) ({ frames := 0, cells := 0, slots := 0, locals := 0 }) (va_Pc [.ref (ad o)] (PVc dC dI cI cB cJ cZ ad stC kcC NN E tM tC kK kV sz x)) (va_Ql (fun (r : Int64) (y : St) => post r y) (fun y t => Wd dC dI cI cB cJ cZ ad stC kcC NN (va_A (pic ad stC kcC NN cI cB cJ cZ x) sz) y t.heap) (va_A (pic ad stC kcC NN cI cB cJ cZ x) sz)) 0 0 (va_A (pic ad stC kcC NN cI cB cJ cZ x) sz) := by
  refine Met.ofW (cc := b_Src_readVarint) (maxL := 5) (ret := some (.long)) (by decide) rfl ?_
  intro p e s m args below meth c s₁ B hml hv
  obtain ⟨rfl, ⟨hsz, hW0, hK, hN⟩, hE⟩ := hv
  have hx := B.exec
  have hb := B.bytes
  have hr := B.returns
  have hts := atoms_spec B.pre
  have hT : ∀ w ∈ TG, w.before _ s = true := fun w h => hts w (List.mem_cons_of_mem _ h)
  have hown : s.vm.findClass R_Src = some m.cls := findClass_of_methodNamed B.named
  have hlocks := B.notSynchronized
  subst hsz
  have hW : Wd dC dI cI cB cJ cZ ad stC kcC NN (va_A (pic ad stC kcC NN cI cB cJ cZ x) s.heap.size) x s.heap := ⟨hW0.1, hW0.2.1.self (sz := s.heap.size), hW0.2.2⟩
  generalize hAe : va_A (pic ad stC kcC NN cI cB cJ cZ x) s.heap.size = A at hW hE ⊢
  have hA : ∀ q : Nat, s.heap.size ≤ q → A q := fun q h => by rw [← hAe]; exact Or.inr h
  have hS : va_S A s.heap s.heap [] := va_S.rf
  have hl := lv_entry ([.ref (ad o)]) (n := 5) (Nat.le_of_ble_eq_true rfl)
  rw [lg_entry_eq]
  generalize (lg_sl ([.ref (ad o)]) ++ List.replicate (5 - (lg_sl ([.ref (ad o)])).length) Slot.unset).toArray = ls at hl ⊢
  have hl : lv_has ls 5 [(0, .ref (ad o))] := hl
  exact t_Src_readVarint_e hx hb hml hown hT hK hN hA (Nat.le_refl 0) (Nat.le_refl 0) (Nat.le_refl 0) (Nat.le_refl 0) hNN hE (fun r x H locs pc ls hd hp hW hS => W.lret (v := r) hx hb hr (fun t ht hM => ⟨⟨r, x, rfl, hp, Wd.back hW ht.symm (fun _ z => z)⟩, hS.F ht⟩) hS.2.2 hd hlocks)  o x _ _ ls fo hw hW hS hl
set_option maxRecDepth 100000 in
set_option maxHeartbeats 4000000 in
set_option maxRecDepth 100000 in
theorem t_V_within_16 {p : Program} {l : Launch} {e : Env} {R : Room} {s : State} {m : MethodId} {args : Array Value} {below : List Frame} {meth : Method} {c : Code} {cells slots : Nat} {Q : State → Prop} {dC : Nat → ClassId} {dI : Nat → Nat → Nat} {cI cB cJ cZ : ClassId} {A : Nat → Prop} {ad : Nat → Nat} {NN : Nat} {E : Heap} {tM tC : Nat} {kK kV : Nat → Nat} {post : Int32 → St → Prop} (hx : p.tables.exec = Jvm.exec) (hb : c.code = b_V_within) (hml : c.maxLocals = 4) (hown : s.vm.findClass R_V = some m.cls) (hT : ∀ w ∈ TG, w.before args s = true) (hK : va_K (dC, dI) CL (TY cI cB cJ cZ) s) (hN : NW s) (hA : ∀ q : Nat, s.heap.size ≤ q → A q) (hRc : cells ≤ R.cells) (hRs : slots ≤ R.slots) (hRf : 0 ≤ R.frames) (hRl : 0 ≤ R.locals) (hNN : 152 ≤ NN) (hE : CE E tM tC kK kV A s) (hret : ∀ (r : Int32) (x : St) (H : Heap) (locs : List Loc) (pc : Nat) (ls : Array Slot), decode b_V_within pc = .ok (.ireturn, 1) → narrow .boolean (.int r) = .int r → post r x → Wd dC dI cI cB cJ cZ ad stC kcC NN A x H → va_S A s.heap H locs → W p l e R s m args below meth c H locs cells slots Q (F0 m pc ls [.int r]))  : ∀ (l0 : Int64) (l2 : Int64) (x : St) (H : Heap) (locs : List Loc) (ls : Array Slot), j_V_within_16 post l0 l2 x → Wd dC dI cI cB cJ cZ ad stC kcC NN A x H → va_S A s.heap H locs → lv_has ls 4 [(0, .long l0), (2, .long l2)] → W p l e R s m args below meth c H locs cells slots Q (F0 m 16 ls []) := by
  intro l0 l2 x H locs ls  hw hW hS hl
  unfold j_V_within_16 at hw
  refine lv_iconst (v := 0) hx hb d_V_within_16 (by decide) ?_
  exact hret 0 x H locs 17 ls d_V_within_17 rfl hw hW hS
set_option maxRecDepth 100000 in
set_option maxHeartbeats 4000000 in
set_option maxRecDepth 100000 in
theorem t_V_within_e {p : Program} {l : Launch} {e : Env} {R : Room} {s : State} {m : MethodId} {args : Array Value} {below : List Frame} {meth : Method} {c : Code} {cells slots : Nat} {Q : State → Prop} {dC : Nat → ClassId} {dI : Nat → Nat → Nat} {cI cB cJ cZ : ClassId} {A : Nat → Prop} {ad : Nat → Nat} {NN : Nat} {E : Heap} {tM tC : Nat} {kK kV : Nat → Nat} {post : Int32 → St → Prop} (hx : p.tables.exec = Jvm.exec) (hb : c.code = b_V_within) (hml : c.maxLocals = 4) (hown : s.vm.findClass R_V = some m.cls) (hT : ∀ w ∈ TG, w.before args s = true) (hK : va_K (dC, dI) CL (TY cI cB cJ cZ) s) (hN : NW s) (hA : ∀ q : Nat, s.heap.size ≤ q → A q) (hRc : cells ≤ R.cells) (hRs : slots ≤ R.slots) (hRf : 0 ≤ R.frames) (hRl : 0 ≤ R.locals) (hNN : 152 ≤ NN) (hE : CE E tM tC kK kV A s) (hret : ∀ (r : Int32) (x : St) (H : Heap) (locs : List Loc) (pc : Nat) (ls : Array Slot), decode b_V_within pc = .ok (.ireturn, 1) → narrow .boolean (.int r) = .int r → post r x → Wd dC dI cI cB cJ cZ ad stC kcC NN A x H → va_S A s.heap H locs → W p l e R s m args below meth c H locs cells slots Q (F0 m pc ls [.int r])) : ∀ (l0 : Int64) (l2 : Int64) (x : St) (H : Heap) (locs : List Loc) (ls : Array Slot), wp_V_within post l0 l2 x → Wd dC dI cI cB cJ cZ ad stC kcC NN A x H → va_S A s.heap H locs → lv_has ls 4 [(0, .long l0), (2, .long l2)] → W p l e R s m args below meth c H locs cells slots Q (F0 m 0 ls []) := by
  intro l0 l2 x H locs ls  hw hW hS hl
  unfold wp_V_within at hw
  refine lv_lload_n hx hb d_V_within_0 rfl (lv_at hl 0 rfl) ?_
  refine lv_lconst (v := 0) hx hb d_V_within_1 (by decide) ?_
  refine W.lcmp hx hb d_V_within_2 ?_
  refine lv_if_lt (tgt := 16) hx hb d_V_within_3 (by decide) (fun c1 => ?_) (fun c1 => ?_)
  · have hw := hw.1 c1
    exact t_V_within_16 hx hb hml hown hT hK hN hA hRc hRs hRf hRl hNN hE hret  l0 l2 x H locs ls  hw hW hS (lv_sub hl [0, 1] rfl)
  · have hw := hw.2 c1
    refine lv_lload_n hx hb d_V_within_6 rfl (lv_at hl 0 rfl) ?_
    refine lv_lload_n hx hb d_V_within_7 rfl (lv_at hl 1 rfl) ?_
    refine W.lcmp hx hb d_V_within_8 ?_
    refine lv_if_gt (tgt := 16) hx hb d_V_within_9 (by decide) (fun c2 => ?_) (fun c2 => ?_)
    · have hw := hw.1 c2
      exact t_V_within_16 hx hb hml hown hT hK hN hA hRc hRs hRf hRl hNN hE hret  l0 l2 x H locs ls  hw hW hS (lv_sub hl [0, 1] rfl)
    · have hw := hw.2 c2
      refine lv_iconst (v := 1) hx hb d_V_within_12 (by decide) ?_
      refine lv_goto (tgt := 17) hx hb d_V_within_13 (by decide) ?_
      exact hret 1 x H locs 17 ls d_V_within_17 rfl hw hW hS
set_option maxHeartbeats 4000000 in
set_option maxRecDepth 100000 in
theorem k_V_within (l : Launch) (dC : Nat → ClassId) (dI : Nat → Nat → Nat) (cI cB cJ cZ : ClassId) (ad : Nat → Nat) (NN : Nat) (E : Heap) (tM tC : Nat) (kK kV : Nat → Nat) (hNN : 152 ≤ NN) (sz : Nat) (l0 : Int64) (l2 : Int64) (x : St) {post : Int32 → St → Prop} (hw : wp_V_within post l0 l2 x) : Met l y_V_within (wsOf y_V_within b_V_within 4 (some (.boolean))) ({ frames := 0, cells := 0, slots := 0, locals := 0 }) (va_Pc [.long l0, .long l2] (PVc dC dI cI cB cJ cZ ad stC kcC NN E tM tC kK kV sz x)) (va_Qi (fun (r : Int32) (y : St) => post r y) (fun y t => Wd dC dI cI cB cJ cZ ad stC kcC NN (va_A (pic ad stC kcC NN cI cB cJ cZ x) sz) y t.heap) (va_A (pic ad stC kcC NN cI cB cJ cZ x) sz)) 0 0 (va_A (pic ad stC kcC NN cI cB cJ cZ x) sz) := by
  refine Met.ofW (cc := b_V_within) (maxL := 4) (ret := some (.boolean)) (by decide) rfl ?_
  intro p e s m args below meth c s₁ B hml hv
  obtain ⟨rfl, ⟨hsz, hW0, hK, hN⟩, hE⟩ := hv
  have hx := B.exec
  have hb := B.bytes
  have hr := B.returns
  have hts := atoms_spec B.pre
  have hT : ∀ w ∈ TG, w.before _ s = true := fun w h => hts w (List.mem_cons_of_mem _ h)
  have hown : s.vm.findClass R_V = some m.cls := findClass_of_methodNamed B.named
  have hlocks := B.notSynchronized
  subst hsz
  have hW : Wd dC dI cI cB cJ cZ ad stC kcC NN (va_A (pic ad stC kcC NN cI cB cJ cZ x) s.heap.size) x s.heap := ⟨hW0.1, hW0.2.1.self (sz := s.heap.size), hW0.2.2⟩
  generalize hAe : va_A (pic ad stC kcC NN cI cB cJ cZ x) s.heap.size = A at hW hE ⊢
  have hA : ∀ q : Nat, s.heap.size ≤ q → A q := fun q h => by rw [← hAe]; exact Or.inr h
  have hS : va_S A s.heap s.heap [] := va_S.rf
  have hl := lv_entry ([.long l0, .long l2]) (n := 4) (Nat.le_of_ble_eq_true rfl)
  rw [lg_entry_eq]
  generalize (lg_sl ([.long l0, .long l2]) ++ List.replicate (4 - (lg_sl ([.long l0, .long l2])).length) Slot.unset).toArray = ls at hl ⊢
  have hl : lv_has ls 4 [(0, .long l0), (2, .long l2)] := hl
  exact t_V_within_e hx hb hml hown hT hK hN hA (Nat.le_refl 0) (Nat.le_refl 0) (Nat.le_refl 0) (Nat.le_refl 0) hNN hE (fun r x H locs pc ls hd hz hp hW hS => W.zret (v := r) (ty := .boolean) hx hb hr hz (fun t ht hM => ⟨⟨r, x, rfl, hp, Wd.back hW ht.symm (fun _ z => z)⟩, hS.F ht⟩) hS.2.2 hd hlocks)  l0 l2 x _ _ ls  hw hW hS hl
set_option maxRecDepth 100000 in
set_option maxHeartbeats 4000000 in
set_option maxRecDepth 100000 in
theorem t_Src_check_e {p : Program} {l : Launch} {e : Env} {R : Room} {s : State} {m : MethodId} {args : Array Value} {below : List Frame} {meth : Method} {c : Code} {cells slots : Nat} {Q : State → Prop} {dC : Nat → ClassId} {dI : Nat → Nat → Nat} {cI cB cJ cZ : ClassId} {A : Nat → Prop} {ad : Nat → Nat} {NN : Nat} {E : Heap} {tM tC : Nat} {kK kV : Nat → Nat} {post : St → Prop} (hx : p.tables.exec = Jvm.exec) (hb : c.code = b_Src_check) (hml : c.maxLocals = 3) (hown : s.vm.findClass R_Src = some m.cls) (hT : ∀ w ∈ TG, w.before args s = true) (hK : va_K (dC, dI) CL (TY cI cB cJ cZ) s) (hN : NW s) (hA : ∀ q : Nat, s.heap.size ≤ q → A q) (hRc : cells ≤ R.cells) (hRs : slots ≤ R.slots) (hRf : 0 ≤ R.frames) (hRl : 0 ≤ R.locals) (hNN : 152 ≤ NN) (hE : CE E tM tC kK kV A s) (hret : ∀ (x : St) (H : Heap) (locs : List Loc) (pc : Nat) (ls : Array Slot), decode b_Src_check pc = .ok (.return_, 1) → post x → Wd dC dI cI cB cJ cZ ad stC kcC NN A x H → va_S A s.heap H locs → W p l e R s m args below meth c H locs cells slots Q (F0 m pc ls [])) : ∀ (o : Nat) (l1 : Int32) (l2 : Int32) (x : St) (H : Heap) (locs : List Loc) (ls : Array Slot), (o < NN ∧ kcC o = 8) → wp_Src_check post o l1 l2 x → Wd dC dI cI cB cJ cZ ad stC kcC NN A x H → va_S A s.heap H locs → lv_has ls 3 [(0, .ref (ad o)), (1, .int l1), (2, .int l2)] → W p l e R s m args below meth c H locs cells slots Q (F0 m 0 ls []) := by
  intro o l1 l2 x H locs ls fo hw hW hS hl
  unfold wp_Src_check at hw
  refine lv_aload_n hx hb d_Src_check_0 rfl (lv_at hl 0 rfl) ?_
  refine w_geti (k := 3) (t := 8) (C := R_Src) (T := F_Src) (N := 5) hx hb hT hown hK hW fo.1 fo.2 (by decide) in_Src rfl rfl (by decide) rfl fr_Src_3 w_3_1 d_Src_check_1 ?_
  refine lv_if_ne (tgt := 16) hx hb d_Src_check_4 (by decide) (fun c1 => ?_) (fun c1 => ?_)
  · have hw := hw.1 c1
    exact hret x H locs 16 ls d_Src_check_16 hw hW hS
  · have hw := hw.2 c1
    refine lv_iload_n hx hb d_Src_check_7 rfl (lv_at hl 1 rfl) ?_
    refine lv_if_ne (tgt := 16) hx hb d_Src_check_8 (by decide) (fun c2 => ?_) (fun c2 => ?_)
    · have hw := hw.1 c2
      exact hret x H locs 16 ls d_Src_check_16 hw hW hS
    · have hw := hw.2 c2
      refine lv_aload_n hx hb d_Src_check_11 rfl (lv_at hl 0 rfl) ?_
      refine lv_iload_n hx hb d_Src_check_12 rfl (lv_at hl 2 rfl) ?_
      refine w_puti (ty := .int) (k := 3) (t := 8) (C := R_Src) (T := F_Src) (N := 5) hx hb hT hown hK hW hS fo.1 fo.2 (by decide) in_Src t_Src t_Src_ok n_Src rfl rfl (by decide) rfl fr_Src_3 w_3_1 (by decide +kernel) rfl rfl d_Src_check_13 (fun H locs hW hS => ?_)
      obtain ⟨x3, ex3⟩ : ∃ y : St, y = setI x o 3 l2 := ⟨_, rfl⟩
      rw [← ex3] at hW
      have hw := hw x3 ex3
      exact hret x3 H locs 16 ls d_Src_check_16 hw hW hS
set_option maxHeartbeats 4000000 in
set_option maxRecDepth 100000 in
theorem k_Src_check (l : Launch) (dC : Nat → ClassId) (dI : Nat → Nat → Nat) (cI cB cJ cZ : ClassId) (ad : Nat → Nat) (NN : Nat) (E : Heap) (tM tC : Nat) (kK kV : Nat → Nat) (hNN : 152 ≤ NN) (sz : Nat) (o : Nat) (l1 : Int32) (l2 : Int32) (x : St) (fo : o < NN ∧ kcC o = 8) {post : St → Prop} (hw : wp_Src_check post o l1 l2 x) : Met l y_Src_check (wsOf y_Src_check b_Src_check 3 (none)) ({ frames := 0, cells := 0, slots := 0, locals := 0 }) (va_Pc [.ref (ad o), .int l1, .int l2] (PVc dC dI cI cB cJ cZ ad stC kcC NN E tM tC kK kV sz x)) (va_Qv (fun (y : St) => post y) (fun y t => Wd dC dI cI cB cJ cZ ad stC kcC NN (va_A (pic ad stC kcC NN cI cB cJ cZ x) sz) y t.heap) (va_A (pic ad stC kcC NN cI cB cJ cZ x) sz)) 0 0 (va_A (pic ad stC kcC NN cI cB cJ cZ x) sz) := by
  refine Met.ofW (cc := b_Src_check) (maxL := 3) (ret := none) (by decide) rfl ?_
  intro p e s m args below meth c s₁ B hml hv
  obtain ⟨rfl, ⟨hsz, hW0, hK, hN⟩, hE⟩ := hv
  have hx := B.exec
  have hb := B.bytes
  have hr := B.returns
  have hts := atoms_spec B.pre
  have hT : ∀ w ∈ TG, w.before _ s = true := fun w h => hts w (List.mem_cons_of_mem _ h)
  have hown : s.vm.findClass R_Src = some m.cls := findClass_of_methodNamed B.named
  have hlocks := B.notSynchronized
  subst hsz
  have hW : Wd dC dI cI cB cJ cZ ad stC kcC NN (va_A (pic ad stC kcC NN cI cB cJ cZ x) s.heap.size) x s.heap := ⟨hW0.1, hW0.2.1.self (sz := s.heap.size), hW0.2.2⟩
  generalize hAe : va_A (pic ad stC kcC NN cI cB cJ cZ x) s.heap.size = A at hW hE ⊢
  have hA : ∀ q : Nat, s.heap.size ≤ q → A q := fun q h => by rw [← hAe]; exact Or.inr h
  have hS : va_S A s.heap s.heap [] := va_S.rf
  have hl := lv_entry ([.ref (ad o), .int l1, .int l2]) (n := 3) (Nat.le_of_ble_eq_true rfl)
  rw [lg_entry_eq]
  generalize (lg_sl ([.ref (ad o), .int l1, .int l2]) ++ List.replicate (3 - (lg_sl ([.ref (ad o), .int l1, .int l2])).length) Slot.unset).toArray = ls at hl ⊢
  have hl : lv_has ls 3 [(0, .ref (ad o)), (1, .int l1), (2, .int l2)] := hl
  exact t_Src_check_e hx hb hml hown hT hK hN hA (Nat.le_refl 0) (Nat.le_refl 0) (Nat.le_refl 0) (Nat.le_refl 0) hNN hE (fun x H locs pc ls hd hp hW hS => W.vret hx hb hr (fun t ht hM => ⟨⟨x, rfl, hp, Wd.back hW ht.symm (fun _ z => z)⟩, hS.F ht⟩) hS.2.2 hd hlocks)  o l1 l2 x _ _ ls fo hw hW hS hl
set_option maxRecDepth 100000 in
set_option maxHeartbeats 4000000 in
set_option maxRecDepth 100000 in
theorem t_Src_readByte_23 {p : Program} {l : Launch} {e : Env} {R : Room} {s : State} {m : MethodId} {args : Array Value} {below : List Frame} {meth : Method} {c : Code} {cells slots : Nat} {Q : State → Prop} {dC : Nat → ClassId} {dI : Nat → Nat → Nat} {cI cB cJ cZ : ClassId} {A : Nat → Prop} {ad : Nat → Nat} {NN : Nat} {E : Heap} {tM tC : Nat} {kK kV : Nat → Nat} {post : Int32 → St → Prop} (hx : p.tables.exec = Jvm.exec) (hb : c.code = b_Src_readByte) (hml : c.maxLocals = 1) (hown : s.vm.findClass R_Src = some m.cls) (hT : ∀ w ∈ TG, w.before args s = true) (hK : va_K (dC, dI) CL (TY cI cB cJ cZ) s) (hN : NW s) (hA : ∀ q : Nat, s.heap.size ≤ q → A q) (hRc : cells ≤ R.cells) (hRs : slots ≤ R.slots) (hRf : 0 ≤ R.frames) (hRl : 0 ≤ R.locals) (hNN : 152 ≤ NN) (hE : CE E tM tC kK kV A s) (hret : ∀ (r : Int32) (x : St) (H : Heap) (locs : List Loc) (pc : Nat) (ls : Array Slot), decode b_Src_readByte pc = .ok (.ireturn, 1) → post r x → Wd dC dI cI cB cJ cZ ad stC kcC NN A x H → va_S A s.heap H locs → W p l e R s m args below meth c H locs cells slots Q (F0 m pc ls [.int r]))  : ∀ (o : Nat) (x : St) (H : Heap) (locs : List Loc) (ls : Array Slot), (o < NN ∧ kcC o = 8) → j_Src_readByte_23 post o x → Wd dC dI cI cB cJ cZ ad stC kcC NN A x H → va_S A s.heap H locs → lv_has ls 1 [(0, .ref (ad o))] → W p l e R s m args below meth c H locs cells slots Q (F0 m 23 ls []) := by
  intro o x H locs ls fo hw hW hS hl
  unfold j_Src_readByte_23 at hw
  refine lv_aload_n hx hb d_Src_readByte_23 rfl (lv_at hl 0 rfl) ?_
  refine w_geti (k := 3) (t := 8) (C := R_Src) (T := F_Src) (N := 5) hx hb hT hown hK hW fo.1 fo.2 (by decide) in_Src rfl rfl (by decide) rfl fr_Src_3 w_3_1 d_Src_readByte_24 ?_
  refine lv_if_eq (tgt := 32) hx hb d_Src_readByte_27 (by decide) (fun c1 => ?_) (fun c1 => ?_)
  · have hw := hw.1 c1
    refine lv_aload_n hx hb d_Src_readByte_32 rfl (lv_at hl 0 rfl) ?_
    refine lv_dup hx hb d_Src_readByte_33 rfl ?_
    refine w_geti (k := 1) (t := 8) (C := R_Src) (T := F_Src) (N := 5) hx hb hT hown hK hW fo.1 fo.2 (by decide) in_Src rfl rfl (by decide) rfl fr_Src_1 w_2_237 d_Src_readByte_34 ?_
    refine lv_iconst (v := 1) hx hb d_Src_readByte_37 (by decide) ?_
    refine lv_iadd hx hb d_Src_readByte_38 ?_
    refine w_puti (ty := .int) (k := 1) (t := 8) (C := R_Src) (T := F_Src) (N := 5) hx hb hT hown hK hW hS fo.1 fo.2 (by decide) in_Src t_Src t_Src_ok n_Src rfl rfl (by decide) rfl fr_Src_1 w_2_237 (by decide +kernel) rfl rfl d_Src_readByte_39 (fun H locs hW hS => ?_)
    obtain ⟨x2, ex2⟩ : ∃ y : St, y = setI x o 1 ((fI x o 1) + 1) := ⟨_, rfl⟩
    rw [← ex2] at hW
    have hw := hw x2 ex2
    refine lv_aload_n hx hb d_Src_readByte_42 rfl (lv_at hl 0 rfl) ?_
    refine w_getf (q := (stC o 0)) (k := 0) (t := 8) (C := R_Src) (T := F_Src) (N := 5) hx hb hT hown hK hW fo.1 fo.2 (by decide) in_Src rfl rfl (by decide) rfl fr_Src_0 w_2_236 d_Src_readByte_43 rfl ?_
    refine lv_aload_n hx hb d_Src_readByte_46 rfl (lv_at hl 0 rfl) ?_
    refine w_geti (k := 1) (t := 8) (C := R_Src) (T := F_Src) (N := 5) hx hb hT hown hK hW fo.1 fo.2 (by decide) in_Src rfl rfl (by decide) rfl fr_Src_1 w_2_237 d_Src_readByte_47 ?_
    refine lv_iconst (v := 1) hx hb d_Src_readByte_50 (by decide) ?_
    refine lv_isub hx hb d_Src_readByte_51 ?_
    obtain ⟨hi, hw⟩ := hw
    refine w_bald (o := (stC o 0)) hx hb hK hW (st_ty hNN fo.1 fo.2 rfl).1 (st_ty hNN fo.1 fo.2 rfl).2 hi d_Src_readByte_52 ?_
    refine lv_sipush (v := 255) hx hb d_Src_readByte_53 (by decide) ?_
    refine lv_iand hx hb d_Src_readByte_56 ?_
    exact hret ((rA x2 (stC o 0) ((fI x2 o 1) - 1)) &&& 255) x2 H locs 57 ls d_Src_readByte_57 hw hW hS
  · have hw := hw.2 c1
    refine lv_iconst (v := 0) hx hb d_Src_readByte_30 (by decide) ?_
    exact hret 0 x H locs 31 ls d_Src_readByte_31 hw hW hS
set_option maxRecDepth 100000 in
set_option maxHeartbeats 4000000 in
set_option maxRecDepth 100000 in
theorem t_Src_readByte_e {p : Program} {l : Launch} {e : Env} {R : Room} {s : State} {m : MethodId} {args : Array Value} {below : List Frame} {meth : Method} {c : Code} {cells slots : Nat} {Q : State → Prop} {dC : Nat → ClassId} {dI : Nat → Nat → Nat} {cI cB cJ cZ : ClassId} {A : Nat → Prop} {ad : Nat → Nat} {NN : Nat} {E : Heap} {tM tC : Nat} {kK kV : Nat → Nat} {post : Int32 → St → Prop} (hx : p.tables.exec = Jvm.exec) (hb : c.code = b_Src_readByte) (hml : c.maxLocals = 1) (hown : s.vm.findClass R_Src = some m.cls) (hT : ∀ w ∈ TG, w.before args s = true) (hK : va_K (dC, dI) CL (TY cI cB cJ cZ) s) (hN : NW s) (hA : ∀ q : Nat, s.heap.size ≤ q → A q) (hRc : cells ≤ R.cells) (hRs : slots ≤ R.slots) (hRf : 0 ≤ R.frames) (hRl : 0 ≤ R.locals) (hNN : 152 ≤ NN) (hE : CE E tM tC kK kV A s) (hret : ∀ (r : Int32) (x : St) (H : Heap) (locs : List Loc) (pc : Nat) (ls : Array Slot), decode b_Src_readByte pc = .ok (.ireturn, 1) → post r x → Wd dC dI cI cB cJ cZ ad stC kcC NN A x H → va_S A s.heap H locs → W p l e R s m args below meth c H locs cells slots Q (F0 m pc ls [.int r])) : ∀ (o : Nat) (x : St) (H : Heap) (locs : List Loc) (ls : Array Slot), (o < NN ∧ kcC o = 8) → wp_Src_readByte post o x → Wd dC dI cI cB cJ cZ ad stC kcC NN A x H → va_S A s.heap H locs → lv_has ls 1 [(0, .ref (ad o))] → W p l e R s m args below meth c H locs cells slots Q (F0 m 0 ls []) := by
  intro o x H locs ls fo hw hW hS hl
  unfold wp_Src_readByte at hw
  refine lv_aload_n hx hb d_Src_readByte_0 rfl (lv_at hl 0 rfl) ?_
  refine w_geti (k := 3) (t := 8) (C := R_Src) (T := F_Src) (N := 5) hx hb hT hown hK hW fo.1 fo.2 (by decide) in_Src rfl rfl (by decide) rfl fr_Src_3 w_3_1 d_Src_readByte_1 ?_
  refine lv_if_ne (tgt := 23) hx hb d_Src_readByte_4 (by decide) (fun c3 => ?_) (fun c3 => ?_)
  · have hw := hw.1 c3
    exact t_Src_readByte_23 hx hb hml hown hT hK hN hA hRc hRs hRf hRl hNN hE hret  o x H locs ls fo hw hW hS (lv_sub hl [0] rfl)
  · have hw := hw.2 c3
    refine lv_aload_n hx hb d_Src_readByte_7 rfl (lv_at hl 0 rfl) ?_
    refine w_geti (k := 1) (t := 8) (C := R_Src) (T := F_Src) (N := 5) hx hb hT hown hK hW fo.1 fo.2 (by decide) in_Src rfl rfl (by decide) rfl fr_Src_1 w_2_237 d_Src_readByte_8 ?_
    refine lv_aload_n hx hb d_Src_readByte_11 rfl (lv_at hl 0 rfl) ?_
    refine w_geti (k := 2) (t := 8) (C := R_Src) (T := F_Src) (N := 5) hx hb hT hown hK hW fo.1 fo.2 (by decide) in_Src rfl rfl (by decide) rfl fr_Src_2 w_2_239 d_Src_readByte_12 ?_
    refine lv_icmp_lt (tgt := 23) hx hb d_Src_readByte_15 (by decide) (fun c4 => ?_) (fun c4 => ?_)
    · have hw := hw.1 c4
      exact t_Src_readByte_23 hx hb hml hown hT hK hN hA hRc hRs hRf hRl hNN hE hret  o x H locs ls fo hw hW hS (lv_sub hl [0] rfl)
    · have hw := hw.2 c4
      refine lv_aload_n hx hb d_Src_readByte_18 rfl (lv_at hl 0 rfl) ?_
      refine lv_iconst (v := 1) hx hb d_Src_readByte_19 (by decide) ?_
      refine w_puti (ty := .int) (k := 3) (t := 8) (C := R_Src) (T := F_Src) (N := 5) hx hb hT hown hK hW hS fo.1 fo.2 (by decide) in_Src t_Src t_Src_ok n_Src rfl rfl (by decide) rfl fr_Src_3 w_3_1 (by decide +kernel) rfl rfl d_Src_readByte_20 (fun H locs hW hS => ?_)
      obtain ⟨x5, ex5⟩ : ∃ y : St, y = setI x o 3 1 := ⟨_, rfl⟩
      rw [← ex5] at hW
      have hw := hw x5 ex5
      exact t_Src_readByte_23 hx hb hml hown hT hK hN hA hRc hRs hRf hRl hNN hE hret  o x5 H locs ls fo hw hW hS (lv_sub hl [0] rfl)
set_option maxHeartbeats 4000000 in
set_option maxRecDepth 100000 in
theorem k_Src_readByte (l : Launch) (dC : Nat → ClassId) (dI : Nat → Nat → Nat) (cI cB cJ cZ : ClassId) (ad : Nat → Nat) (NN : Nat) (E : Heap) (tM tC : Nat) (kK kV : Nat → Nat) (hNN : 152 ≤ NN) (sz : Nat) (o : Nat) (x : St) (fo : o < NN ∧ kcC o = 8) {post : Int32 → St → Prop} (hw : wp_Src_readByte post o x) : Met l y_Src_readByte (wsOf y_Src_readByte b_Src_readByte 1 (some (.int))) ({ frames := 0, cells := 0, slots := 0, locals := 0 }) (va_Pc [.ref (ad o)] (PVc dC dI cI cB cJ cZ ad stC kcC NN E tM tC kK kV sz x)) (va_Qi (fun (r : Int32) (y : St) => post r y) (fun y t => Wd dC dI cI cB cJ cZ ad stC kcC NN (va_A (pic ad stC kcC NN cI cB cJ cZ x) sz) y t.heap) (va_A (pic ad stC kcC NN cI cB cJ cZ x) sz)) 0 0 (va_A (pic ad stC kcC NN cI cB cJ cZ x) sz) := by
  refine Met.ofW (cc := b_Src_readByte) (maxL := 1) (ret := some (.int)) (by decide) rfl ?_
  intro p e s m args below meth c s₁ B hml hv
  obtain ⟨rfl, ⟨hsz, hW0, hK, hN⟩, hE⟩ := hv
  have hx := B.exec
  have hb := B.bytes
  have hr := B.returns
  have hts := atoms_spec B.pre
  have hT : ∀ w ∈ TG, w.before _ s = true := fun w h => hts w (List.mem_cons_of_mem _ h)
  have hown : s.vm.findClass R_Src = some m.cls := findClass_of_methodNamed B.named
  have hlocks := B.notSynchronized
  subst hsz
  have hW : Wd dC dI cI cB cJ cZ ad stC kcC NN (va_A (pic ad stC kcC NN cI cB cJ cZ x) s.heap.size) x s.heap := ⟨hW0.1, hW0.2.1.self (sz := s.heap.size), hW0.2.2⟩
  generalize hAe : va_A (pic ad stC kcC NN cI cB cJ cZ x) s.heap.size = A at hW hE ⊢
  have hA : ∀ q : Nat, s.heap.size ≤ q → A q := fun q h => by rw [← hAe]; exact Or.inr h
  have hS : va_S A s.heap s.heap [] := va_S.rf
  have hl := lv_entry ([.ref (ad o)]) (n := 1) (Nat.le_of_ble_eq_true rfl)
  rw [lg_entry_eq]
  generalize (lg_sl ([.ref (ad o)]) ++ List.replicate (1 - (lg_sl ([.ref (ad o)])).length) Slot.unset).toArray = ls at hl ⊢
  have hl : lv_has ls 1 [(0, .ref (ad o))] := hl
  exact t_Src_readByte_e hx hb hml hown hT hK hN hA (Nat.le_refl 0) (Nat.le_refl 0) (Nat.le_refl 0) (Nat.le_refl 0) hNN hE (fun r x H locs pc ls hd hp hW hS => W.iret (v := r) hx hb hr (fun t ht hM => ⟨⟨r, x, rfl, hp, Wd.back hW ht.symm (fun _ z => z)⟩, hS.F ht⟩) hS.2.2 hd hlocks)  o x _ _ ls fo hw hW hS hl
set_option maxRecDepth 100000 in
set_option maxHeartbeats 4000000 in
set_option maxRecDepth 100000 in
theorem t_Src_has_33 {p : Program} {l : Launch} {e : Env} {R : Room} {s : State} {m : MethodId} {args : Array Value} {below : List Frame} {meth : Method} {c : Code} {cells slots : Nat} {Q : State → Prop} {dC : Nat → ClassId} {dI : Nat → Nat → Nat} {cI cB cJ cZ : ClassId} {A : Nat → Prop} {ad : Nat → Nat} {NN : Nat} {E : Heap} {tM tC : Nat} {kK kV : Nat → Nat} {post : Int32 → St → Prop} (hx : p.tables.exec = Jvm.exec) (hb : c.code = b_Src_has) (hml : c.maxLocals = 3) (hown : s.vm.findClass R_Src = some m.cls) (hT : ∀ w ∈ TG, w.before args s = true) (hK : va_K (dC, dI) CL (TY cI cB cJ cZ) s) (hN : NW s) (hA : ∀ q : Nat, s.heap.size ≤ q → A q) (hRc : cells ≤ R.cells) (hRs : slots ≤ R.slots) (hRf : 0 ≤ R.frames) (hRl : 0 ≤ R.locals) (hNN : 152 ≤ NN) (hE : CE E tM tC kK kV A s) (hret : ∀ (r : Int32) (x : St) (H : Heap) (locs : List Loc) (pc : Nat) (ls : Array Slot), decode b_Src_has pc = .ok (.ireturn, 1) → narrow .boolean (.int r) = .int r → post r x → Wd dC dI cI cB cJ cZ ad stC kcC NN A x H → va_S A s.heap H locs → W p l e R s m args below meth c H locs cells slots Q (F0 m pc ls [.int r]))  : ∀ (o : Nat) (l1 : Int64) (x : St) (H : Heap) (locs : List Loc) (ls : Array Slot), (o < NN ∧ kcC o = 8) → j_Src_has_33 post o l1 x → Wd dC dI cI cB cJ cZ ad stC kcC NN A x H → va_S A s.heap H locs → lv_has ls 3 [(0, .ref (ad o)), (1, .long l1)] → W p l e R s m args below meth c H locs cells slots Q (F0 m 33 ls []) := by
  intro o l1 x H locs ls fo hw hW hS hl
  unfold j_Src_has_33 at hw
  refine lv_aload_n hx hb d_Src_has_33 rfl (lv_at hl 0 rfl) ?_
  refine w_geti (k := 3) (t := 8) (C := R_Src) (T := F_Src) (N := 5) hx hb hT hown hK hW fo.1 fo.2 (by decide) in_Src rfl rfl (by decide) rfl fr_Src_3 w_3_1 d_Src_has_34 ?_
  refine lv_if_ne (tgt := 44) hx hb d_Src_has_37 (by decide) (fun c1 => ?_) (fun c1 => ?_)
  · have hw := hw.1 c1
    refine lv_iconst (v := 0) hx hb d_Src_has_44 (by decide) ?_
    exact hret 0 x H locs 45 ls d_Src_has_45 rfl hw hW hS
  · have hw := hw.2 c1
    refine lv_iconst (v := 1) hx hb d_Src_has_40 (by decide) ?_
    refine lv_goto (tgt := 45) hx hb d_Src_has_41 (by decide) ?_
    exact hret 1 x H locs 45 ls d_Src_has_45 rfl hw hW hS
set_option maxRecDepth 100000 in
set_option maxHeartbeats 4000000 in
set_option maxRecDepth 100000 in
theorem t_Src_has_28 {p : Program} {l : Launch} {e : Env} {R : Room} {s : State} {m : MethodId} {args : Array Value} {below : List Frame} {meth : Method} {c : Code} {cells slots : Nat} {Q : State → Prop} {dC : Nat → ClassId} {dI : Nat → Nat → Nat} {cI cB cJ cZ : ClassId} {A : Nat → Prop} {ad : Nat → Nat} {NN : Nat} {E : Heap} {tM tC : Nat} {kK kV : Nat → Nat} {post : Int32 → St → Prop} (hx : p.tables.exec = Jvm.exec) (hb : c.code = b_Src_has) (hml : c.maxLocals = 3) (hown : s.vm.findClass R_Src = some m.cls) (hT : ∀ w ∈ TG, w.before args s = true) (hK : va_K (dC, dI) CL (TY cI cB cJ cZ) s) (hN : NW s) (hA : ∀ q : Nat, s.heap.size ≤ q → A q) (hRc : cells ≤ R.cells) (hRs : slots ≤ R.slots) (hRf : 0 ≤ R.frames) (hRl : 0 ≤ R.locals) (hNN : 152 ≤ NN) (hE : CE E tM tC kK kV A s) (hret : ∀ (r : Int32) (x : St) (H : Heap) (locs : List Loc) (pc : Nat) (ls : Array Slot), decode b_Src_has pc = .ok (.ireturn, 1) → narrow .boolean (.int r) = .int r → post r x → Wd dC dI cI cB cJ cZ ad stC kcC NN A x H → va_S A s.heap H locs → W p l e R s m args below meth c H locs cells slots Q (F0 m pc ls [.int r]))  : ∀ (o : Nat) (l1 : Int64) (x : St) (H : Heap) (locs : List Loc) (ls : Array Slot), (o < NN ∧ kcC o = 8) → j_Src_has_28 post o l1 x → Wd dC dI cI cB cJ cZ ad stC kcC NN A x H → va_S A s.heap H locs → lv_has ls 3 [(0, .ref (ad o)), (1, .long l1)] → W p l e R s m args below meth c H locs cells slots Q (F0 m 28 ls []) := by
  intro o l1 x H locs ls fo hw hW hS hl
  unfold j_Src_has_28 at hw
  refine lv_aload_n hx hb d_Src_has_28 rfl (lv_at hl 0 rfl) ?_
  refine lv_iconst (v := 1) hx hb d_Src_has_29 (by decide) ?_
  refine w_puti (ty := .int) (k := 3) (t := 8) (C := R_Src) (T := F_Src) (N := 5) hx hb hT hown hK hW hS fo.1 fo.2 (by decide) in_Src t_Src t_Src_ok n_Src rfl rfl (by decide) rfl fr_Src_3 w_3_1 (by decide +kernel) rfl rfl d_Src_has_30 (fun H locs hW hS => ?_)
  obtain ⟨x2, ex2⟩ : ∃ y : St, y = setI x o 3 1 := ⟨_, rfl⟩
  rw [← ex2] at hW
  have hw := hw x2 ex2
  exact t_Src_has_33 hx hb hml hown hT hK hN hA hRc hRs hRf hRl hNN hE hret  o l1 x2 H locs ls fo hw hW hS (lv_sub hl [0, 1] rfl)
set_option maxRecDepth 100000 in
set_option maxHeartbeats 4000000 in
set_option maxRecDepth 100000 in
theorem t_Src_has_e {p : Program} {l : Launch} {e : Env} {R : Room} {s : State} {m : MethodId} {args : Array Value} {below : List Frame} {meth : Method} {c : Code} {cells slots : Nat} {Q : State → Prop} {dC : Nat → ClassId} {dI : Nat → Nat → Nat} {cI cB cJ cZ : ClassId} {A : Nat → Prop} {ad : Nat → Nat} {NN : Nat} {E : Heap} {tM tC : Nat} {kK kV : Nat → Nat} {post : Int32 → St → Prop} (hx : p.tables.exec = Jvm.exec) (hb : c.code = b_Src_has) (hml : c.maxLocals = 3) (hown : s.vm.findClass R_Src = some m.cls) (hT : ∀ w ∈ TG, w.before args s = true) (hK : va_K (dC, dI) CL (TY cI cB cJ cZ) s) (hN : NW s) (hA : ∀ q : Nat, s.heap.size ≤ q → A q) (hRc : cells ≤ R.cells) (hRs : slots ≤ R.slots) (hRf : 0 ≤ R.frames) (hRl : 0 ≤ R.locals) (hNN : 152 ≤ NN) (hE : CE E tM tC kK kV A s) (hret : ∀ (r : Int32) (x : St) (H : Heap) (locs : List Loc) (pc : Nat) (ls : Array Slot), decode b_Src_has pc = .ok (.ireturn, 1) → narrow .boolean (.int r) = .int r → post r x → Wd dC dI cI cB cJ cZ ad stC kcC NN A x H → va_S A s.heap H locs → W p l e R s m args below meth c H locs cells slots Q (F0 m pc ls [.int r])) : ∀ (o : Nat) (l1 : Int64) (x : St) (H : Heap) (locs : List Loc) (ls : Array Slot), (o < NN ∧ kcC o = 8) → wp_Src_has post o l1 x → Wd dC dI cI cB cJ cZ ad stC kcC NN A x H → va_S A s.heap H locs → lv_has ls 3 [(0, .ref (ad o)), (1, .long l1)] → W p l e R s m args below meth c H locs cells slots Q (F0 m 0 ls []) := by
  intro o l1 x H locs ls fo hw hW hS hl
  unfold wp_Src_has at hw
  refine lv_aload_n hx hb d_Src_has_0 rfl (lv_at hl 0 rfl) ?_
  refine w_geti (k := 3) (t := 8) (C := R_Src) (T := F_Src) (N := 5) hx hb hT hown hK hW fo.1 fo.2 (by decide) in_Src rfl rfl (by decide) rfl fr_Src_3 w_3_1 d_Src_has_1 ?_
  refine lv_if_ne (tgt := 33) hx hb d_Src_has_4 (by decide) (fun c3 => ?_) (fun c3 => ?_)
  · have hw := hw.1 c3
    exact t_Src_has_33 hx hb hml hown hT hK hN hA hRc hRs hRf hRl hNN hE hret  o l1 x H locs ls fo hw hW hS (lv_sub hl [0, 1] rfl)
  · have hw := hw.2 c3
    refine lv_lload_n hx hb d_Src_has_7 rfl (lv_at hl 1 rfl) ?_
    refine lv_lconst (v := 0) hx hb d_Src_has_8 (by decide) ?_
    refine W.lcmp hx hb d_Src_has_9 ?_
    refine lv_if_lt (tgt := 28) hx hb d_Src_has_10 (by decide) (fun c4 => ?_) (fun c4 => ?_)
    · have hw := hw.1 c4
      exact t_Src_has_28 hx hb hml hown hT hK hN hA hRc hRs hRf hRl hNN hE hret  o l1 x H locs ls fo hw hW hS (lv_sub hl [0, 1] rfl)
    · have hw := hw.2 c4
      refine lv_lload_n hx hb d_Src_has_13 rfl (lv_at hl 1 rfl) ?_
      refine lv_aload_n hx hb d_Src_has_14 rfl (lv_at hl 0 rfl) ?_
      refine w_geti (k := 2) (t := 8) (C := R_Src) (T := F_Src) (N := 5) hx hb hT hown hK hW fo.1 fo.2 (by decide) in_Src rfl rfl (by decide) rfl fr_Src_2 w_2_239 d_Src_has_15 ?_
      refine lv_aload_n hx hb d_Src_has_18 rfl (lv_at hl 0 rfl) ?_
      refine w_geti (k := 1) (t := 8) (C := R_Src) (T := F_Src) (N := 5) hx hb hT hown hK hW fo.1 fo.2 (by decide) in_Src rfl rfl (by decide) rfl fr_Src_1 w_2_237 d_Src_has_19 ?_
      refine lv_isub hx hb d_Src_has_22 ?_
      refine lv_i2l hx hb d_Src_has_23 rfl ?_
      refine W.lcmp hx hb d_Src_has_24 ?_
      refine lv_if_le (tgt := 33) hx hb d_Src_has_25 (by decide) (fun c5 => ?_) (fun c5 => ?_)
      · have hw := hw.1 c5
        exact t_Src_has_33 hx hb hml hown hT hK hN hA hRc hRs hRf hRl hNN hE hret  o l1 x H locs ls fo hw hW hS (lv_sub hl [0, 1] rfl)
      · have hw := hw.2 c5
        exact t_Src_has_28 hx hb hml hown hT hK hN hA hRc hRs hRf hRl hNN hE hret  o l1 x H locs ls fo hw hW hS (lv_sub hl [0, 1] rfl)
set_option maxHeartbeats 4000000 in
set_option maxRecDepth 100000 in
theorem k_Src_has (l : Launch) (dC : Nat → ClassId) (dI : Nat → Nat → Nat) (cI cB cJ cZ : ClassId) (ad : Nat → Nat) (NN : Nat) (E : Heap) (tM tC : Nat) (kK kV : Nat → Nat) (hNN : 152 ≤ NN) (sz : Nat) (o : Nat) (l1 : Int64) (x : St) (fo : o < NN ∧ kcC o = 8) {post : Int32 → St → Prop} (hw : wp_Src_has post o l1 x) : Met l y_Src_has (wsOf y_Src_has b_Src_has 3 (some (.boolean))) ({ frames := 0, cells := 0, slots := 0, locals := 0 }) (va_Pc [.ref (ad o), .long l1] (PVc dC dI cI cB cJ cZ ad stC kcC NN E tM tC kK kV sz x)) (va_Qi (fun (r : Int32) (y : St) => post r y) (fun y t => Wd dC dI cI cB cJ cZ ad stC kcC NN (va_A (pic ad stC kcC NN cI cB cJ cZ x) sz) y t.heap) (va_A (pic ad stC kcC NN cI cB cJ cZ x) sz)) 0 0 (va_A (pic ad stC kcC NN cI cB cJ cZ x) sz) := by
  refine Met.ofW (cc := b_Src_has) (maxL := 3) (ret := some (.boolean)) (by decide) rfl ?_
  intro p e s m args below meth c s₁ B hml hv
  obtain ⟨rfl, ⟨hsz, hW0, hK, hN⟩, hE⟩ := hv
  have hx := B.exec
  have hb := B.bytes
  have hr := B.returns
  have hts := atoms_spec B.pre
  have hT : ∀ w ∈ TG, w.before _ s = true := fun w h => hts w (List.mem_cons_of_mem _ h)
  have hown : s.vm.findClass R_Src = some m.cls := findClass_of_methodNamed B.named
  have hlocks := B.notSynchronized
  subst hsz
  have hW : Wd dC dI cI cB cJ cZ ad stC kcC NN (va_A (pic ad stC kcC NN cI cB cJ cZ x) s.heap.size) x s.heap := ⟨hW0.1, hW0.2.1.self (sz := s.heap.size), hW0.2.2⟩
  generalize hAe : va_A (pic ad stC kcC NN cI cB cJ cZ x) s.heap.size = A at hW hE ⊢
  have hA : ∀ q : Nat, s.heap.size ≤ q → A q := fun q h => by rw [← hAe]; exact Or.inr h
  have hS : va_S A s.heap s.heap [] := va_S.rf
  have hl := lv_entry ([.ref (ad o), .long l1]) (n := 3) (Nat.le_of_ble_eq_true rfl)
  rw [lg_entry_eq]
  generalize (lg_sl ([.ref (ad o), .long l1]) ++ List.replicate (3 - (lg_sl ([.ref (ad o), .long l1])).length) Slot.unset).toArray = ls at hl ⊢
  have hl : lv_has ls 3 [(0, .ref (ad o)), (1, .long l1)] := hl
  exact t_Src_has_e hx hb hml hown hT hK hN hA (Nat.le_refl 0) (Nat.le_refl 0) (Nat.le_refl 0) (Nat.le_refl 0) hNN hE (fun r x H locs pc ls hd hz hp hW hS => W.zret (v := r) (ty := .boolean) hx hb hr hz (fun t ht hM => ⟨⟨r, x, rfl, hp, Wd.back hW ht.symm (fun _ z => z)⟩, hS.F ht⟩) hS.2.2 hd hlocks)  o l1 x _ _ ls fo hw hW hS hl
set_option maxRecDepth 100000 in
set_option maxHeartbeats 4000000 in
set_option maxRecDepth 100000 in
theorem t_Opn_isGroupAround_80 {p : Program} {l : Launch} {e : Env} {R : Room} {s : State} {m : MethodId} {args : Array Value} {below : List Frame} {meth : Method} {c : Code} {cells slots : Nat} {Q : State → Prop} {dC : Nat → ClassId} {dI : Nat → Nat → Nat} {cI cB cJ cZ : ClassId} {A : Nat → Prop} {ad : Nat → Nat} {NN : Nat} {E : Heap} {tM tC : Nat} {kK kV : Nat → Nat} {post : Int32 → St → Prop} (hx : p.tables.exec = Jvm.exec) (hb : c.code = b_Opn_isGroupAround) (hml : c.maxLocals = 6) (hown : s.vm.findClass R_Opn = some m.cls) (hT : ∀ w ∈ TG, w.before args s = true) (hK : va_K (dC, dI) CL (TY cI cB cJ cZ) s) (hN : NW s) (hA : ∀ q : Nat, s.heap.size ≤ q → A q) (hRc : cells ≤ R.cells) (hRs : slots ≤ R.slots) (hRf : 0 ≤ R.frames) (hRl : 0 ≤ R.locals) (hNN : 152 ≤ NN) (hE : CE E tM tC kK kV A s) (hret : ∀ (r : Int32) (x : St) (H : Heap) (locs : List Loc) (pc : Nat) (ls : Array Slot), decode b_Opn_isGroupAround pc = .ok (.ireturn, 1) → narrow .boolean (.int r) = .int r → post r x → Wd dC dI cI cB cJ cZ ad stC kcC NN A x H → va_S A s.heap H locs → W p l e R s m args below meth c H locs cells slots Q (F0 m pc ls [.int r]))  : ∀ (l0 : Nat) (l1 : Int64) (l3 : Int32) (l4 : Int32) (l5 : Int32) (x : St) (H : Heap) (locs : List Loc) (ls : Array Slot), (l0 < NN ∧ kcC l0 = 3) → j_Opn_isGroupAround_80 post l0 l1 l3 l4 l5 x → Wd dC dI cI cB cJ cZ ad stC kcC NN A x H → va_S A s.heap H locs → lv_has ls 6 [(0, .ref (ad l0)), (1, .long l1), (3, .int l3), (4, .int l4), (5, .int l5)] → W p l e R s m args below meth c H locs cells slots Q (F0 m 80 ls []) := by
  intro l0 l1 l3 l4 l5 x H locs ls fl0 hw hW hS hl
  unfold j_Opn_isGroupAround_80 at hw
  refine lv_iconst (v := 0) hx hb d_Opn_isGroupAround_80 (by decide) ?_
  exact hret 0 x H locs 81 ls d_Opn_isGroupAround_81 rfl hw hW hS
set_option maxRecDepth 100000 in
set_option maxHeartbeats 4000000 in
set_option maxRecDepth 100000 in
theorem t_Opn_isGroupAround_41 {p : Program} {l : Launch} {e : Env} {R : Room} {s : State} {m : MethodId} {args : Array Value} {below : List Frame} {meth : Method} {c : Code} {cells slots : Nat} {Q : State → Prop} {dC : Nat → ClassId} {dI : Nat → Nat → Nat} {cI cB cJ cZ : ClassId} {A : Nat → Prop} {ad : Nat → Nat} {NN : Nat} {E : Heap} {tM tC : Nat} {kK kV : Nat → Nat} {post : Int32 → St → Prop} {rec41 : Nat → Int64 → Int32 → Int32 → Int32 → St → Prop} (hx : p.tables.exec = Jvm.exec) (hb : c.code = b_Opn_isGroupAround) (hml : c.maxLocals = 6) (hown : s.vm.findClass R_Opn = some m.cls) (hT : ∀ w ∈ TG, w.before args s = true) (hK : va_K (dC, dI) CL (TY cI cB cJ cZ) s) (hN : NW s) (hA : ∀ q : Nat, s.heap.size ≤ q → A q) (hRc : cells ≤ R.cells) (hRs : slots ≤ R.slots) (hRf : 0 ≤ R.frames) (hRl : 0 ≤ R.locals) (hNN : 152 ≤ NN) (hE : CE E tM tC kK kV A s) (hret : ∀ (r : Int32) (x : St) (H : Heap) (locs : List Loc) (pc : Nat) (ls : Array Slot), decode b_Opn_isGroupAround pc = .ok (.ireturn, 1) → narrow .boolean (.int r) = .int r → post r x → Wd dC dI cI cB cJ cZ ad stC kcC NN A x H → va_S A s.heap H locs → W p l e R s m args below meth c H locs cells slots Q (F0 m pc ls [.int r])) (hrec41 : ∀ (l0 : Nat) (l1 : Int64) (l3 : Int32) (l4 : Int32) (l5 : Int32) (x : St) (H : Heap) (locs : List Loc) (ls : Array Slot), (l0 < NN ∧ kcC l0 = 3) → rec41 l0 l1 l3 l4 l5 x → Wd dC dI cI cB cJ cZ ad stC kcC NN A x H → va_S A s.heap H locs → lv_has ls 6 [(0, .ref (ad l0)), (1, .long l1), (3, .int l3), (4, .int l4), (5, .int l5)] → W p l e R s m args below meth c H locs cells slots Q (F0 m 41 ls [])) : ∀ (l0 : Nat) (l1 : Int64) (l3 : Int32) (l4 : Int32) (l5 : Int32) (x : St) (H : Heap) (locs : List Loc) (ls : Array Slot), (l0 < NN ∧ kcC l0 = 3) → j_Opn_isGroupAround_41 post rec41 l0 l1 l3 l4 l5 x → Wd dC dI cI cB cJ cZ ad stC kcC NN A x H → va_S A s.heap H locs → lv_has ls 6 [(0, .ref (ad l0)), (1, .long l1), (3, .int l3), (4, .int l4), (5, .int l5)] → W p l e R s m args below meth c H locs cells slots Q (F0 m 41 ls []) := by
  intro l0 l1 l3 l4 l5 x H locs ls fl0 hw hW hS hl
  unfold j_Opn_isGroupAround_41 at hw
  refine lv_iload hx hb d_Opn_isGroupAround_41 (lv_at hl 4 rfl) ?_
  refine lv_bipush (v := 16) hx hb d_Opn_isGroupAround_43 (by decide) ?_
  refine lv_icmp_gt (tgt := 80) hx hb d_Opn_isGroupAround_45 (by decide) (fun c1 => ?_) (fun c1 => ?_)
  · have hw := hw.1 c1
    exact t_Opn_isGroupAround_80 hx hb hml hown hT hK hN hA hRc hRs hRf hRl hNN hE hret  l0 l1 l3 l4 l5 x H locs ls fl0 hw hW hS (lv_sub hl [0, 1, 2, 3, 4] rfl)
  · have hw := hw.2 c1
    refine lv_iload hx hb d_Opn_isGroupAround_48 (lv_at hl 3 rfl) ?_
    refine lv_if_lt (tgt := 80) hx hb d_Opn_isGroupAround_50 (by decide) (fun c2 => ?_) (fun c2 => ?_)
    · have hw := hw.1 c2
      exact t_Opn_isGroupAround_80 hx hb hml hown hT hK hN hA hRc hRs hRf hRl hNN hE hret  l0 l1 l3 l4 l5 x H locs ls fl0 hw hW hS (lv_sub hl [0, 1, 2, 3, 4] rfl)
    · have hw := hw.2 c2
      refine lv_lload_n hx hb d_Opn_isGroupAround_53 rfl (lv_at hl 1 rfl) ?_
      refine lv_lconst (v := 1) hx hb d_Opn_isGroupAround_54 (by decide) ?_
      refine lv_lsub hx hb d_Opn_isGroupAround_55 ?_
      refine lv_iload hx hb d_Opn_isGroupAround_56 (lv_at hl 3 rfl) ?_
      refine lv_i2l hx hb d_Opn_isGroupAround_58 rfl ?_
      refine W.lcmp hx hb d_Opn_isGroupAround_59 ?_
      refine lv_if_ne (tgt := 65) hx hb d_Opn_isGroupAround_60 (by decide) (fun c3 => ?_) (fun c3 => ?_)
      · have hw := hw.1 c3
        refine lv_aload_n hx hb d_Opn_isGroupAround_65 rfl (lv_at hl 0 rfl) ?_
        refine w_getf (q := (stC l0 4)) (k := 4) (t := 3) (C := R_Sch) (T := F_Sch) (N := 13) hx hb hT hown hK hW fl0.1 fl0.2 (by decide) in_Sch rfl rfl (by decide) rfl fr_Sch_4 w_1_155 d_Opn_isGroupAround_66 rfl ?_
        refine lv_iload hx hb d_Opn_isGroupAround_69 (lv_at hl 3 rfl) ?_
        obtain ⟨hi, hw⟩ := hw
        refine w_iald (o := (stC l0 4)) hx hb hK hW (st_ty hNN fl0.1 fl0.2 rfl).1 (st_ty hNN fl0.1 fl0.2 rfl).2 hi d_Opn_isGroupAround_71 ?_
        refine lv_topi (fun v4 ev4 => ?_)
        have hw := hw v4 ev4
        refine lv_istore (lv' := [(4, .int v4), (0, .ref (ad l0)), (1, .long l1), (3, .int l3), (5, .int l5)]) hx hb d_Opn_isGroupAround_72 hl (by decide) rfl (fun ls hl => ?_)
        refine lv_iinc (v := (l5 + 1)) (lv' := [(5, .int (l5 + 1)), (4, .int v4), (0, .ref (ad l0)), (1, .long l1), (3, .int l3)]) hx hb d_Opn_isGroupAround_74 hl (k := 4) rfl rfl (by decide) rfl (fun ls hl => ?_)
        refine lv_goto (tgt := 41) hx hb d_Opn_isGroupAround_77 (by decide) ?_
        exact hrec41 l0 l1 l3 v4 (l5 + 1) x H locs ls fl0 hw hW hS (lv_sub hl [2, 3, 4, 1, 0] rfl)
      · have hw := hw.2 c3
        refine lv_iconst (v := 1) hx hb d_Opn_isGroupAround_63 (by decide) ?_
        exact hret 1 x H locs 64 ls d_Opn_isGroupAround_64 rfl hw hW hS
set_option maxHeartbeats 4000000 in
set_option maxRecDepth 100000 in
theorem tl_Opn_isGroupAround_41 {p : Program} {l : Launch} {e : Env} {R : Room} {s : State} {m : MethodId} {args : Array Value} {below : List Frame} {meth : Method} {c : Code} {cells slots : Nat} {Q : State → Prop} {dC : Nat → ClassId} {dI : Nat → Nat → Nat} {cI cB cJ cZ : ClassId} {A : Nat → Prop} {ad : Nat → Nat} {NN : Nat} {E : Heap} {tM tC : Nat} {kK kV : Nat → Nat} {post : Int32 → St → Prop} (hx : p.tables.exec = Jvm.exec) (hb : c.code = b_Opn_isGroupAround) (hml : c.maxLocals = 6) (hown : s.vm.findClass R_Opn = some m.cls) (hT : ∀ w ∈ TG, w.before args s = true) (hK : va_K (dC, dI) CL (TY cI cB cJ cZ) s) (hN : NW s) (hA : ∀ q : Nat, s.heap.size ≤ q → A q) (hRc : cells ≤ R.cells) (hRs : slots ≤ R.slots) (hRf : 0 ≤ R.frames) (hRl : 0 ≤ R.locals) (hNN : 152 ≤ NN) (hE : CE E tM tC kK kV A s) (hret : ∀ (r : Int32) (x : St) (H : Heap) (locs : List Loc) (pc : Nat) (ls : Array Slot), decode b_Opn_isGroupAround pc = .ok (.ireturn, 1) → narrow .boolean (.int r) = .int r → post r x → Wd dC dI cI cB cJ cZ ad stC kcC NN A x H → va_S A s.heap H locs → W p l e R s m args below meth c H locs cells slots Q (F0 m pc ls [.int r]))  : ∀ n : Nat, ∀ (l0 : Nat) (l1 : Int64) (l3 : Int32) (l4 : Int32) (l5 : Int32) (x : St) (H : Heap) (locs : List Loc) (ls : Array Slot), (l0 < NN ∧ kcC l0 = 3) → wl_Opn_isGroupAround_41 post n l0 l1 l3 l4 l5 x → Wd dC dI cI cB cJ cZ ad stC kcC NN A x H → va_S A s.heap H locs → lv_has ls 6 [(0, .ref (ad l0)), (1, .long l1), (3, .int l3), (4, .int l4), (5, .int l5)] → W p l e R s m args below meth c H locs cells slots Q (F0 m 41 ls []) := by
  intro n
  induction n with
  | zero => intro l0 l1 l3 l4 l5 x H locs ls fl0 hw; exact hw.elim
  | succ n ih => intro l0 l1 l3 l4 l5 x H locs ls fl0 hw hW hS hl; exact t_Opn_isGroupAround_41 hx hb hml hown hT hK hN hA hRc hRs hRf hRl hNN hE hret  ih l0 l1 l3 l4 l5 x H locs ls fl0 hw hW hS hl
set_option maxRecDepth 100000 in
set_option maxHeartbeats 4000000 in
set_option maxRecDepth 100000 in
theorem t_Opn_isGroupAround_38 {p : Program} {l : Launch} {e : Env} {R : Room} {s : State} {m : MethodId} {args : Array Value} {below : List Frame} {meth : Method} {c : Code} {cells slots : Nat} {Q : State → Prop} {dC : Nat → ClassId} {dI : Nat → Nat → Nat} {cI cB cJ cZ : ClassId} {A : Nat → Prop} {ad : Nat → Nat} {NN : Nat} {E : Heap} {tM tC : Nat} {kK kV : Nat → Nat} {post : Int32 → St → Prop} (hx : p.tables.exec = Jvm.exec) (hb : c.code = b_Opn_isGroupAround) (hml : c.maxLocals = 6) (hown : s.vm.findClass R_Opn = some m.cls) (hT : ∀ w ∈ TG, w.before args s = true) (hK : va_K (dC, dI) CL (TY cI cB cJ cZ) s) (hN : NW s) (hA : ∀ q : Nat, s.heap.size ≤ q → A q) (hRc : cells ≤ R.cells) (hRs : slots ≤ R.slots) (hRf : 0 ≤ R.frames) (hRl : 0 ≤ R.locals) (hNN : 152 ≤ NN) (hE : CE E tM tC kK kV A s) (hret : ∀ (r : Int32) (x : St) (H : Heap) (locs : List Loc) (pc : Nat) (ls : Array Slot), decode b_Opn_isGroupAround pc = .ok (.ireturn, 1) → narrow .boolean (.int r) = .int r → post r x → Wd dC dI cI cB cJ cZ ad stC kcC NN A x H → va_S A s.heap H locs → W p l e R s m args below meth c H locs cells slots Q (F0 m pc ls [.int r]))  : ∀ (l0 : Nat) (l1 : Int64) (l3 : Int32) (l4 : Int32) (x : St) (H : Heap) (locs : List Loc) (ls : Array Slot), (l0 < NN ∧ kcC l0 = 3) → j_Opn_isGroupAround_38 post l0 l1 l3 l4 x → Wd dC dI cI cB cJ cZ ad stC kcC NN A x H → va_S A s.heap H locs → lv_has ls 6 [(0, .ref (ad l0)), (1, .long l1), (3, .int l3), (4, .int l4)] → W p l e R s m args below meth c H locs cells slots Q (F0 m 38 ls []) := by
  intro l0 l1 l3 l4 x H locs ls fl0 hw hW hS hl
  unfold j_Opn_isGroupAround_38 at hw
  refine lv_iconst (v := 0) hx hb d_Opn_isGroupAround_38 (by decide) ?_
  refine lv_istore (lv' := [(5, .int 0), (0, .ref (ad l0)), (1, .long l1), (3, .int l3), (4, .int l4)]) hx hb d_Opn_isGroupAround_39 hl (by decide) rfl (fun ls hl => ?_)
  obtain ⟨n, hw⟩ := hw
  exact tl_Opn_isGroupAround_41 hx hb hml hown hT hK hN hA hRc hRs hRf hRl hNN hE hret  n l0 l1 l3 l4 0 x H locs ls fl0 hw hW hS (lv_sub hl [1, 2, 3, 4, 0] rfl)
set_option maxRecDepth 100000 in
set_option maxHeartbeats 4000000 in
set_option maxRecDepth 100000 in
theorem t_Opn_isGroupAround_e {p : Program} {l : Launch} {e : Env} {R : Room} {s : State} {m : MethodId} {args : Array Value} {below : List Frame} {meth : Method} {c : Code} {cells slots : Nat} {Q : State → Prop} {dC : Nat → ClassId} {dI : Nat → Nat → Nat} {cI cB cJ cZ : ClassId} {A : Nat → Prop} {ad : Nat → Nat} {NN : Nat} {E : Heap} {tM tC : Nat} {kK kV : Nat → Nat} {post : Int32 → St → Prop} (hx : p.tables.exec = Jvm.exec) (hb : c.code = b_Opn_isGroupAround) (hml : c.maxLocals = 6) (hown : s.vm.findClass R_Opn = some m.cls) (hT : ∀ w ∈ TG, w.before args s = true) (hK : va_K (dC, dI) CL (TY cI cB cJ cZ) s) (hN : NW s) (hA : ∀ q : Nat, s.heap.size ≤ q → A q) (hRc : cells ≤ R.cells) (hRs : slots ≤ R.slots) (hRf : 0 ≤ R.frames) (hRl : 0 ≤ R.locals) (hNN : 152 ≤ NN) (hE : CE E tM tC kK kV A s) (hret : ∀ (r : Int32) (x : St) (H : Heap) (locs : List Loc) (pc : Nat) (ls : Array Slot), decode b_Opn_isGroupAround pc = .ok (.ireturn, 1) → narrow .boolean (.int r) = .int r → post r x → Wd dC dI cI cB cJ cZ ad stC kcC NN A x H → va_S A s.heap H locs → W p l e R s m args below meth c H locs cells slots Q (F0 m pc ls [.int r])) : ∀ (l0 : Nat) (l1 : Int64) (l3 : Int32) (x : St) (H : Heap) (locs : List Loc) (ls : Array Slot), (l0 < NN ∧ kcC l0 = 3) → wp_Opn_isGroupAround post l0 l1 l3 x → Wd dC dI cI cB cJ cZ ad stC kcC NN A x H → va_S A s.heap H locs → lv_has ls 6 [(0, .ref (ad l0)), (1, .long l1), (3, .int l3)] → W p l e R s m args below meth c H locs cells slots Q (F0 m 0 ls []) := by
  intro l0 l1 l3 x H locs ls fl0 hw hW hS hl
  unfold wp_Opn_isGroupAround at hw
  refine lv_lload_n hx hb d_Opn_isGroupAround_0 rfl (lv_at hl 1 rfl) ?_
  refine lv_lconst (v := 0) hx hb d_Opn_isGroupAround_1 (by decide) ?_
  refine W.lcmp hx hb d_Opn_isGroupAround_2 ?_
  refine lv_if_ne (tgt := 8) hx hb d_Opn_isGroupAround_3 (by decide) (fun c5 => ?_) (fun c5 => ?_)
  · have hw := hw.1 c5
    refine lv_iload_n hx hb d_Opn_isGroupAround_8 rfl (lv_at hl 2 rfl) ?_
    refine lv_iconst (v := 1) hx hb d_Opn_isGroupAround_9 (by decide) ?_
    refine lv_isub hx hb d_Opn_isGroupAround_10 ?_
    refine lv_topi (fun v6 ev6 => ?_)
    have hw := hw v6 ev6
    refine lv_istore (lv' := [(4, .int v6), (0, .ref (ad l0)), (1, .long l1), (3, .int l3)]) hx hb d_Opn_isGroupAround_11 hl (by decide) rfl (fun ls hl => ?_)
    refine lv_iload hx hb d_Opn_isGroupAround_13 (lv_at hl 0 rfl) ?_
    refine lv_if_lt (tgt := 38) hx hb d_Opn_isGroupAround_15 (by decide) (fun c7 => ?_) (fun c7 => ?_)
    · have hw := hw.1 c7
      exact t_Opn_isGroupAround_38 hx hb hml hown hT hK hN hA hRc hRs hRf hRl hNN hE hret  l0 l1 l3 v6 x H locs ls fl0 hw hW hS (lv_sub hl [1, 2, 3, 0] rfl)
    · have hw := hw.2 c7
      refine lv_aload_n hx hb d_Opn_isGroupAround_18 rfl (lv_at hl 1 rfl) ?_
      refine w_getf (q := (stC l0 3)) (k := 3) (t := 3) (C := R_Sch) (T := F_Sch) (N := 13) hx hb hT hown hK hW fl0.1 fl0.2 (by decide) in_Sch rfl rfl (by decide) rfl fr_Sch_3 w_1_147 d_Opn_isGroupAround_19 rfl ?_
      refine lv_iload hx hb d_Opn_isGroupAround_22 (lv_at hl 0 rfl) ?_
      obtain ⟨hi, hw⟩ := hw
      refine w_iald (o := (stC l0 3)) hx hb hK hW (st_ty hNN fl0.1 fl0.2 rfl).1 (st_ty hNN fl0.1 fl0.2 rfl).2 hi d_Opn_isGroupAround_24 ?_
      refine lv_iconst (v := 4) hx hb d_Opn_isGroupAround_25 (by decide) ?_
      refine lv_icmp_eq (tgt := 38) hx hb d_Opn_isGroupAround_26 (by decide) (fun c8 => ?_) (fun c8 => ?_)
      · have hw := hw.1 c8
        exact t_Opn_isGroupAround_38 hx hb hml hown hT hK hN hA hRc hRs hRf hRl hNN hE hret  l0 l1 l3 v6 x H locs ls fl0 hw hW hS (lv_sub hl [1, 2, 3, 0] rfl)
      · have hw := hw.2 c8
        refine lv_aload_n hx hb d_Opn_isGroupAround_29 rfl (lv_at hl 1 rfl) ?_
        refine w_getf (q := (stC l0 4)) (k := 4) (t := 3) (C := R_Sch) (T := F_Sch) (N := 13) hx hb hT hown hK hW fl0.1 fl0.2 (by decide) in_Sch rfl rfl (by decide) rfl fr_Sch_4 w_1_155 d_Opn_isGroupAround_30 rfl ?_
        refine lv_iload hx hb d_Opn_isGroupAround_33 (lv_at hl 0 rfl) ?_
        obtain ⟨hi, hw⟩ := hw
        refine w_iald (o := (stC l0 4)) hx hb hK hW (st_ty hNN fl0.1 fl0.2 rfl).1 (st_ty hNN fl0.1 fl0.2 rfl).2 hi d_Opn_isGroupAround_35 ?_
        refine lv_topi (fun v9 ev9 => ?_)
        have hw := hw v9 ev9
        refine lv_istore (lv' := [(4, .int v9), (0, .ref (ad l0)), (1, .long l1), (3, .int l3)]) hx hb d_Opn_isGroupAround_36 hl (by decide) rfl (fun ls hl => ?_)
        exact t_Opn_isGroupAround_38 hx hb hml hown hT hK hN hA hRc hRs hRf hRl hNN hE hret  l0 l1 l3 v9 x H locs ls fl0 hw hW hS (lv_sub hl [1, 2, 3, 0] rfl)
  · have hw := hw.2 c5
    refine lv_iconst (v := 1) hx hb d_Opn_isGroupAround_6 (by decide) ?_
    exact hret 1 x H locs 7 ls d_Opn_isGroupAround_7 rfl hw hW hS
set_option maxHeartbeats 4000000 in
set_option maxRecDepth 100000 in
theorem k_Opn_isGroupAround (l : Launch) (dC : Nat → ClassId) (dI : Nat → Nat → Nat) (cI cB cJ cZ : ClassId) (ad : Nat → Nat) (NN : Nat) (E : Heap) (tM tC : Nat) (kK kV : Nat → Nat) (hNN : 152 ≤ NN) (sz : Nat) (l0 : Nat) (l1 : Int64) (l3 : Int32) (x : St) (fl0 : l0 < NN ∧ kcC l0 = 3) {post : Int32 → St → Prop} (hw : wp_Opn_isGroupAround post l0 l1 l3 x) : Met l y_Opn_isGroupAround (wsOf y_Opn_isGroupAround b_Opn_isGroupAround 6 (some (.boolean))) ({ frames := 0, cells := 0, slots := 0, locals := 0 }) (va_Pc [.ref (ad l0), .long l1, .int l3] (PVc dC dI cI cB cJ cZ ad stC kcC NN E tM tC kK kV sz x)) (va_Qi (fun (r : Int32) (y : St) => post r y) (fun y t => Wd dC dI cI cB cJ cZ ad stC kcC NN (va_A (pic ad stC kcC NN cI cB cJ cZ x) sz) y t.heap) (va_A (pic ad stC kcC NN cI cB cJ cZ x) sz)) 0 0 (va_A (pic ad stC kcC NN cI cB cJ cZ x) sz) := by
  refine Met.ofW (cc := b_Opn_isGroupAround) (maxL := 6) (ret := some (.boolean)) (by decide) rfl ?_
  intro p e s m args below meth c s₁ B hml hv
  obtain ⟨rfl, ⟨hsz, hW0, hK, hN⟩, hE⟩ := hv
  have hx := B.exec
  have hb := B.bytes
  have hr := B.returns
  have hts := atoms_spec B.pre
  have hT : ∀ w ∈ TG, w.before _ s = true := fun w h => hts w (List.mem_cons_of_mem _ h)
  have hown : s.vm.findClass R_Opn = some m.cls := findClass_of_methodNamed B.named
  have hlocks := B.notSynchronized
  subst hsz
  have hW : Wd dC dI cI cB cJ cZ ad stC kcC NN (va_A (pic ad stC kcC NN cI cB cJ cZ x) s.heap.size) x s.heap := ⟨hW0.1, hW0.2.1.self (sz := s.heap.size), hW0.2.2⟩
  generalize hAe : va_A (pic ad stC kcC NN cI cB cJ cZ x) s.heap.size = A at hW hE ⊢
  have hA : ∀ q : Nat, s.heap.size ≤ q → A q := fun q h => by rw [← hAe]; exact Or.inr h
  have hS : va_S A s.heap s.heap [] := va_S.rf
  have hl := lv_entry ([.ref (ad l0), .long l1, .int l3]) (n := 6) (Nat.le_of_ble_eq_true rfl)
  rw [lg_entry_eq]
  generalize (lg_sl ([.ref (ad l0), .long l1, .int l3]) ++ List.replicate (6 - (lg_sl ([.ref (ad l0), .long l1, .int l3])).length) Slot.unset).toArray = ls at hl ⊢
  have hl : lv_has ls 6 [(0, .ref (ad l0)), (1, .long l1), (3, .int l3)] := hl
  exact t_Opn_isGroupAround_e hx hb hml hown hT hK hN hA (Nat.le_refl 0) (Nat.le_refl 0) (Nat.le_refl 0) (Nat.le_refl 0) hNN hE (fun r x H locs pc ls hd hz hp hW hS => W.zret (v := r) (ty := .boolean) hx hb hr hz (fun t ht hM => ⟨⟨r, x, rfl, hp, Wd.back hW ht.symm (fun _ z => z)⟩, hS.F ht⟩) hS.2.2 hd hlocks)  l0 l1 l3 x _ _ ls fl0 hw hW hS hl
end
