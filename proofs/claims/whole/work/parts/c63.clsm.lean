theorem w_1_131 : (Jvm.Cond.fieldLink "StripedVault$Writer" (92 : Nat) "StripedVault$Schema" "fields" "I") ∈ TG := tw_1 131 (by decide +kernel) (by decide +kernel)
theorem w_1_141 : (Jvm.Cond.fieldLink "StripedVault$Writer" (102 : Nat) "StripedVault$Schema" "mode" "[I") ∈ TG := tw_1 141 (by decide +kernel) (by decide +kernel)
theorem w_1_153 : (Jvm.Cond.fieldLink "StripedVault$Writer" (111 : Nat) "StripedVault$Schema" "parent" "[I") ∈ TG := tw_1 153 (by decide +kernel) (by decide +kernel)
theorem w_1_185 : (Jvm.Cond.fieldLink "StripedVault$Writer" (114 : Nat) "StripedVault$Schema" "nameSize" "[I") ∈ TG := tw_1 185 (by decide +kernel) (by decide +kernel)
theorem w_1_188 : (Jvm.Cond.fieldLink "StripedVault$Writer" (117 : Nat) "StripedVault$Schema" "names" "[B") ∈ TG := tw_1 188 (by decide +kernel) (by decide +kernel)
theorem w_1_228 : (Jvm.Cond.fieldLink "StripedVault$Writer" (120 : Nat) "StripedVault$Records" "count" "I") ∈ TG := tw_1 228 (by decide +kernel) (by decide +kernel)
theorem w_2_4 : (Jvm.Cond.fieldLink "StripedVault$Writer" (70 : Nat) "StripedVault$Records" "head" "[I") ∈ TG := tw_2 4 (by decide +kernel) (by decide +kernel)
theorem w_5_131 : (Jvm.Cond.methodLink "StripedVault$Writer" (75 : Nat) ({ cls := "java/lang/System", name := "arraycopy", desc := "(Ljava/lang/Object;ILjava/lang/Object;II)V" } : Jvm.MethodName)) ∈ TG := tw_5 131 (by decide +kernel) (by decide +kernel)
theorem w_5_132 : (Jvm.Cond.methodLink "StripedVault$Writer" (81 : Nat) ({ cls := "StripedVault$Sink", name := "forget", desc := "()V" } : Jvm.MethodName)) ∈ TG := tw_5 132 (by decide +kernel) (by decide +kernel)
theorem w_5_135 : (Jvm.Cond.methodLink "StripedVault$Writer" (88 : Nat) ({ cls := "StripedVault$Sink", name := "putAll", desc := "([BII)V" } : Jvm.MethodName)) ∈ TG := tw_5 135 (by decide +kernel) (by decide +kernel)
theorem w_5_136 : (Jvm.Cond.instanceMethod ({ cls := "StripedVault$Sink", name := "putAll", desc := "([BII)V" } : Jvm.MethodName)) ∈ TG := tw_5 136 (by decide +kernel) (by decide +kernel)
theorem w_5_137 : (Jvm.Cond.selects "StripedVault$Sink" ({ cls := "StripedVault$Sink", name := "putAll", desc := "([BII)V" } : Jvm.MethodName) ({ cls := "StripedVault$Sink", name := "putAll", desc := "([BII)V" } : Jvm.MethodName)) ∈ TG := tw_5 137 (by decide +kernel) (by decide +kernel)
theorem w_5_138 : (Jvm.Cond.code ({ cls := "StripedVault$Sink", name := "putAll", desc := "([BII)V" } : Jvm.MethodName) prog_9_method_5_code (4 : Nat) (Option.none : Option Jvm.ClassFile.FieldType)) ∈ TG := tw_5 138 (by decide +kernel) (by decide +kernel)
theorem w_5_140 : (Jvm.Cond.methodLink "StripedVault$Writer" (98 : Nat) ({ cls := "StripedVault$Sink", name := "putVarint", desc := "(J)V" } : Jvm.MethodName)) ∈ TG := tw_5 140 (by decide +kernel) (by decide +kernel)
theorem w_5_141 : (Jvm.Cond.instanceMethod ({ cls := "StripedVault$Sink", name := "putVarint", desc := "(J)V" } : Jvm.MethodName)) ∈ TG := tw_5 141 (by decide +kernel) (by decide +kernel)
theorem w_5_142 : (Jvm.Cond.selects "StripedVault$Sink" ({ cls := "StripedVault$Sink", name := "putVarint", desc := "(J)V" } : Jvm.MethodName) ({ cls := "StripedVault$Sink", name := "putVarint", desc := "(J)V" } : Jvm.MethodName)) ∈ TG := tw_5 142 (by decide +kernel) (by decide +kernel)
theorem w_5_143 : (Jvm.Cond.code ({ cls := "StripedVault$Sink", name := "putVarint", desc := "(J)V" } : Jvm.MethodName) prog_9_method_6_code (7 : Nat) (Option.none : Option Jvm.ClassFile.FieldType)) ∈ TG := tw_5 143 (by decide +kernel) (by decide +kernel)
theorem w_5_145 : (Jvm.Cond.methodLink "StripedVault$Writer" (108 : Nat) ({ cls := "StripedVault$Sink", name := "put", desc := "(I)V" } : Jvm.MethodName)) ∈ TG := tw_5 145 (by decide +kernel) (by decide +kernel)
theorem w_5_175 : (Jvm.Cond.methodLink "StripedVault$Writer" (241 : Nat) ({ cls := "StripedVault$Sink", name := "putText", desc := "([BJ)V" } : Jvm.MethodName)) ∈ TG := tw_5 175 (by decide +kernel) (by decide +kernel)
theorem w_5_176 : (Jvm.Cond.instanceMethod ({ cls := "StripedVault$Sink", name := "putText", desc := "([BJ)V" } : Jvm.MethodName)) ∈ TG := tw_5 176 (by decide +kernel) (by decide +kernel)
theorem w_5_177 : (Jvm.Cond.selects "StripedVault$Sink" ({ cls := "StripedVault$Sink", name := "putText", desc := "([BJ)V" } : Jvm.MethodName) ({ cls := "StripedVault$Sink", name := "putText", desc := "([BJ)V" } : Jvm.MethodName)) ∈ TG := tw_5 177 (by decide +kernel) (by decide +kernel)
theorem w_5_178 : (Jvm.Cond.code ({ cls := "StripedVault$Sink", name := "putText", desc := "([BJ)V" } : Jvm.MethodName) prog_9_method_8_code (4 : Nat) (Option.none : Option Jvm.ClassFile.FieldType)) ∈ TG := tw_5 178 (by decide +kernel) (by decide +kernel)
theorem w_5_180 : (Jvm.Cond.methodLink "StripedVault$Sink" (65 : Nat) ({ cls := "StripedVault$Sink", name := "putVarint", desc := "(J)V" } : Jvm.MethodName)) ∈ TG := tw_5 180 (by decide +kernel) (by decide +kernel)
theorem w_5_184 : (Jvm.Cond.methodLink "StripedVault$Sink" (72 : Nat) ({ cls := "StripedVault$Sink", name := "putAll", desc := "([BII)V" } : Jvm.MethodName)) ∈ TG := tw_5 184 (by decide +kernel) (by decide +kernel)
theorem w_5_185 : (Jvm.Cond.methodLink "StripedVault$Writer" (127 : Nat) ({ cls := "StripedVault$Sink", name := "putFixed", desc := "(JI)V" } : Jvm.MethodName)) ∈ TG := tw_5 185 (by decide +kernel) (by decide +kernel)
theorem w_5_186 : (Jvm.Cond.instanceMethod ({ cls := "StripedVault$Sink", name := "putFixed", desc := "(JI)V" } : Jvm.MethodName)) ∈ TG := tw_5 186 (by decide +kernel) (by decide +kernel)
theorem w_5_187 : (Jvm.Cond.selects "StripedVault$Sink" ({ cls := "StripedVault$Sink", name := "putFixed", desc := "(JI)V" } : Jvm.MethodName) ({ cls := "StripedVault$Sink", name := "putFixed", desc := "(JI)V" } : Jvm.MethodName)) ∈ TG := tw_5 187 (by decide +kernel) (by decide +kernel)
theorem w_5_188 : (Jvm.Cond.code ({ cls := "StripedVault$Sink", name := "putFixed", desc := "(JI)V" } : Jvm.MethodName) prog_9_method_7_code (5 : Nat) (Option.none : Option Jvm.ClassFile.FieldType)) ∈ TG := tw_5 188 (by decide +kernel) (by decide +kernel)
theorem w_5_189 : (Jvm.Cond.methodLink "StripedVault$Sink" (57 : Nat) ({ cls := "StripedVault$Sink", name := "put", desc := "(I)V" } : Jvm.MethodName)) ∈ TG := tw_5 189 (by decide +kernel) (by decide +kernel)
theorem wn_5_133 : (Jvm.Cond.fieldLinkNest "StripedVault$Writer" (84 : Nat) "StripedVault" "MAGIC" "[B" "StripedVault") ∈ lw_tbl := tb_5 _ (List.mem_of_getElem? (i := 133) (by decide +kernel))
theorem wn_5_179 : (Jvm.Cond.methodLinkNest "StripedVault$Sink" (61 : Nat) ({ cls := "StripedVault", name := "sizeOf", desc := "(J)I" } : Jvm.MethodName) "StripedVault") ∈ lw_tbl := tb_5 _ (List.mem_of_getElem? (i := 179) (by decide +kernel))
theorem wn_5_181 : (Jvm.Cond.methodLinkNest "StripedVault$Sink" (69 : Nat) ({ cls := "StripedVault", name := "placeOf", desc := "(J)I" } : Jvm.MethodName) "StripedVault") ∈ lw_tbl := tb_5 _ (List.mem_of_getElem? (i := 181) (by decide +kernel))
theorem d_Wrt_begin_72 : decode b_Wrt_begin 72 = .ok (.iload 4, 2) := by decide +kernel
theorem d_Wrt_begin_74 : decode b_Wrt_begin 74 = .ok (.aload_n 0, 1) := by decide +kernel
theorem d_Wrt_begin_75 : decode b_Wrt_begin 75 = .ok (.getfield 62, 3) := by decide +kernel
theorem d_Wrt_begin_78 : decode b_Wrt_begin 78 = .ok (.getfield 92, 3) := by decide +kernel
theorem d_Wrt_begin_81 : decode b_Wrt_begin 81 = .ok (.if_icmp .ge 106, 3) := by decide +kernel
theorem d_Wrt_begin_187 : decode b_Wrt_begin 187 = .ok (.aload_n 0, 1) := by decide +kernel
theorem d_Wrt_begin_188 : decode b_Wrt_begin 188 = .ok (.getfield 21, 3) := by decide +kernel
theorem d_Wrt_begin_191 : decode b_Wrt_begin 191 = .ok (.aload_n 0, 1) := by decide +kernel
theorem d_Wrt_begin_192 : decode b_Wrt_begin 192 = .ok (.getfield 66, 3) := by decide +kernel
theorem d_Wrt_begin_195 : decode b_Wrt_begin 195 = .ok (.getfield 120, 3) := by decide +kernel
theorem d_Wrt_begin_198 : decode b_Wrt_begin 198 = .ok (.i2l, 1) := by decide +kernel
theorem d_Wrt_begin_199 : decode b_Wrt_begin 199 = .ok (.invokevirtual 98, 3) := by decide +kernel
theorem d_Wrt_begin_202 : decode b_Wrt_begin 202 = .ok (.aload_n 0, 1) := by decide +kernel
theorem d_Wrt_begin_203 : decode b_Wrt_begin 203 = .ok (.getfield 21, 3) := by decide +kernel
theorem d_Wrt_begin_206 : decode b_Wrt_begin 206 = .ok (.iload_n 3, 1) := by decide +kernel
theorem d_Wrt_begin_207 : decode b_Wrt_begin 207 = .ok (.i2l, 1) := by decide +kernel
theorem d_Wrt_begin_208 : decode b_Wrt_begin 208 = .ok (.invokevirtual 98, 3) := by decide +kernel
theorem d_Wrt_begin_211 : decode b_Wrt_begin 211 = .ok (.return_, 1) := by decide +kernel
theorem d_Wrt_begin_84 : decode b_Wrt_begin 84 = .ok (.aload_n 0, 1) := by decide +kernel
theorem d_Wrt_begin_85 : decode b_Wrt_begin 85 = .ok (.getfield 21, 3) := by decide +kernel
theorem d_Wrt_begin_88 : decode b_Wrt_begin 88 = .ok (.aload_n 0, 1) := by decide +kernel
theorem d_Wrt_begin_89 : decode b_Wrt_begin 89 = .ok (.getfield 62, 3) := by decide +kernel
theorem d_Wrt_begin_92 : decode b_Wrt_begin 92 = .ok (.getfield 102, 3) := by decide +kernel
theorem d_Wrt_begin_95 : decode b_Wrt_begin 95 = .ok (.iload 4, 2) := by decide +kernel
theorem d_Wrt_begin_97 : decode b_Wrt_begin 97 = .ok (.iaload, 1) := by decide +kernel
theorem d_Wrt_begin_98 : decode b_Wrt_begin 98 = .ok (.iconst 3, 1) := by decide +kernel
theorem d_Wrt_begin_99 : decode b_Wrt_begin 99 = .ok (.aload_n 0, 1) := by decide +kernel
theorem d_Wrt_begin_100 : decode b_Wrt_begin 100 = .ok (.getfield 62, 3) := by decide +kernel
theorem d_Wrt_begin_103 : decode b_Wrt_begin 103 = .ok (.getfield 105, 3) := by decide +kernel
theorem d_Wrt_begin_106 : decode b_Wrt_begin 106 = .ok (.iload 4, 2) := by decide +kernel
theorem d_Wrt_begin_108 : decode b_Wrt_begin 108 = .ok (.iaload, 1) := by decide +kernel
theorem d_Wrt_begin_109 : decode b_Wrt_begin 109 = .ok (.imul, 1) := by decide +kernel
theorem d_Wrt_begin_110 : decode b_Wrt_begin 110 = .ok (.iadd, 1) := by decide +kernel
theorem d_Wrt_begin_111 : decode b_Wrt_begin 111 = .ok (.invokevirtual 108, 3) := by decide +kernel
theorem d_Wrt_begin_114 : decode b_Wrt_begin 114 = .ok (.aload_n 0, 1) := by decide +kernel
theorem d_Wrt_begin_115 : decode b_Wrt_begin 115 = .ok (.getfield 21, 3) := by decide +kernel
theorem d_Wrt_begin_118 : decode b_Wrt_begin 118 = .ok (.aload_n 0, 1) := by decide +kernel
theorem d_Wrt_begin_119 : decode b_Wrt_begin 119 = .ok (.getfield 62, 3) := by decide +kernel
theorem d_Wrt_begin_122 : decode b_Wrt_begin 122 = .ok (.getfield 111, 3) := by decide +kernel
theorem d_Wrt_begin_125 : decode b_Wrt_begin 125 = .ok (.iload 4, 2) := by decide +kernel
theorem d_Wrt_begin_127 : decode b_Wrt_begin 127 = .ok (.iaload, 1) := by decide +kernel
theorem d_Wrt_begin_128 : decode b_Wrt_begin 128 = .ok (.iconst 1, 1) := by decide +kernel
theorem d_Wrt_begin_129 : decode b_Wrt_begin 129 = .ok (.iadd, 1) := by decide +kernel
theorem d_Wrt_begin_130 : decode b_Wrt_begin 130 = .ok (.i2l, 1) := by decide +kernel
theorem d_Wrt_begin_131 : decode b_Wrt_begin 131 = .ok (.invokevirtual 98, 3) := by decide +kernel
theorem d_Wrt_begin_134 : decode b_Wrt_begin 134 = .ok (.aload_n 0, 1) := by decide +kernel
theorem d_Wrt_begin_135 : decode b_Wrt_begin 135 = .ok (.getfield 21, 3) := by decide +kernel
theorem d_Wrt_begin_138 : decode b_Wrt_begin 138 = .ok (.aload_n 0, 1) := by decide +kernel
theorem d_Wrt_begin_139 : decode b_Wrt_begin 139 = .ok (.getfield 62, 3) := by decide +kernel
theorem d_Wrt_begin_142 : decode b_Wrt_begin 142 = .ok (.getfield 114, 3) := by decide +kernel
theorem d_Wrt_begin_145 : decode b_Wrt_begin 145 = .ok (.iload 4, 2) := by decide +kernel
theorem d_Wrt_begin_147 : decode b_Wrt_begin 147 = .ok (.iaload, 1) := by decide +kernel
theorem d_Wrt_begin_148 : decode b_Wrt_begin 148 = .ok (.i2l, 1) := by decide +kernel
theorem d_Wrt_begin_149 : decode b_Wrt_begin 149 = .ok (.invokevirtual 98, 3) := by decide +kernel
theorem d_Wrt_begin_152 : decode b_Wrt_begin 152 = .ok (.aload_n 0, 1) := by decide +kernel
theorem d_Wrt_begin_153 : decode b_Wrt_begin 153 = .ok (.getfield 21, 3) := by decide +kernel
theorem d_Wrt_begin_156 : decode b_Wrt_begin 156 = .ok (.aload_n 0, 1) := by decide +kernel
theorem d_Wrt_begin_157 : decode b_Wrt_begin 157 = .ok (.getfield 62, 3) := by decide +kernel
theorem d_Wrt_begin_160 : decode b_Wrt_begin 160 = .ok (.getfield 117, 3) := by decide +kernel
theorem d_Wrt_begin_163 : decode b_Wrt_begin 163 = .ok (.iload 4, 2) := by decide +kernel
theorem d_Wrt_begin_165 : decode b_Wrt_begin 165 = .ok (.bipush 16, 2) := by decide +kernel
theorem d_Wrt_begin_167 : decode b_Wrt_begin 167 = .ok (.imul, 1) := by decide +kernel
theorem d_Wrt_begin_168 : decode b_Wrt_begin 168 = .ok (.aload_n 0, 1) := by decide +kernel
theorem d_Wrt_begin_169 : decode b_Wrt_begin 169 = .ok (.getfield 62, 3) := by decide +kernel
theorem d_Wrt_begin_172 : decode b_Wrt_begin 172 = .ok (.getfield 114, 3) := by decide +kernel
theorem d_Wrt_begin_175 : decode b_Wrt_begin 175 = .ok (.iload 4, 2) := by decide +kernel
theorem d_Wrt_begin_177 : decode b_Wrt_begin 177 = .ok (.iaload, 1) := by decide +kernel
theorem d_Wrt_begin_178 : decode b_Wrt_begin 178 = .ok (.invokevirtual 88, 3) := by decide +kernel
theorem d_Wrt_begin_181 : decode b_Wrt_begin 181 = .ok (.iinc 4 1, 3) := by decide +kernel
theorem d_Wrt_begin_184 : decode b_Wrt_begin 184 = .ok (.goto (-112), 3) := by decide +kernel
theorem d_Wrt_begin_0 : decode b_Wrt_begin 0 = .ok (.aload_n 0, 1) := by decide +kernel
theorem d_Wrt_begin_1 : decode b_Wrt_begin 1 = .ok (.aload_n 1, 1) := by decide +kernel
theorem d_Wrt_begin_2 : decode b_Wrt_begin 2 = .ok (.putfield 62, 3) := by decide +kernel
theorem d_Wrt_begin_5 : decode b_Wrt_begin 5 = .ok (.aload_n 0, 1) := by decide +kernel
theorem d_Wrt_begin_6 : decode b_Wrt_begin 6 = .ok (.aload_n 2, 1) := by decide +kernel
theorem d_Wrt_begin_7 : decode b_Wrt_begin 7 = .ok (.putfield 66, 3) := by decide +kernel
theorem d_Wrt_begin_10 : decode b_Wrt_begin 10 = .ok (.aload_n 0, 1) := by decide +kernel
theorem d_Wrt_begin_11 : decode b_Wrt_begin 11 = .ok (.getfield 66, 3) := by decide +kernel
theorem d_Wrt_begin_14 : decode b_Wrt_begin 14 = .ok (.getfield 70, 3) := by decide +kernel
theorem d_Wrt_begin_17 : decode b_Wrt_begin 17 = .ok (.iconst 0, 1) := by decide +kernel
theorem d_Wrt_begin_18 : decode b_Wrt_begin 18 = .ok (.aload_n 0, 1) := by decide +kernel
theorem d_Wrt_begin_19 : decode b_Wrt_begin 19 = .ok (.getfield 33, 3) := by decide +kernel
theorem d_Wrt_begin_22 : decode b_Wrt_begin 22 = .ok (.iconst 0, 1) := by decide +kernel
theorem d_Wrt_begin_23 : decode b_Wrt_begin 23 = .ok (.bipush 64, 2) := by decide +kernel
theorem d_Wrt_begin_25 : decode b_Wrt_begin 25 = .ok (.invokestatic 75, 3) := by decide +kernel
theorem d_Wrt_begin_28 : decode b_Wrt_begin 28 = .ok (.aload_n 0, 1) := by decide +kernel
theorem d_Wrt_begin_29 : decode b_Wrt_begin 29 = .ok (.getfield 15, 3) := by decide +kernel
theorem d_Wrt_begin_32 : decode b_Wrt_begin 32 = .ok (.invokevirtual 81, 3) := by decide +kernel
theorem d_Wrt_begin_35 : decode b_Wrt_begin 35 = .ok (.aload_n 0, 1) := by decide +kernel
theorem d_Wrt_begin_36 : decode b_Wrt_begin 36 = .ok (.getfield 15, 3) := by decide +kernel
theorem d_Wrt_begin_39 : decode b_Wrt_begin 39 = .ok (.getstatic 84, 3) := by decide +kernel
theorem d_Wrt_begin_42 : decode b_Wrt_begin 42 = .ok (.iconst 0, 1) := by decide +kernel
theorem d_Wrt_begin_43 : decode b_Wrt_begin 43 = .ok (.iconst 4, 1) := by decide +kernel
theorem d_Wrt_begin_44 : decode b_Wrt_begin 44 = .ok (.invokevirtual 88, 3) := by decide +kernel
theorem d_Wrt_begin_47 : decode b_Wrt_begin 47 = .ok (.aload_n 0, 1) := by decide +kernel
theorem d_Wrt_begin_48 : decode b_Wrt_begin 48 = .ok (.getfield 21, 3) := by decide +kernel
theorem d_Wrt_begin_51 : decode b_Wrt_begin 51 = .ok (.invokevirtual 81, 3) := by decide +kernel
theorem d_Wrt_begin_54 : decode b_Wrt_begin 54 = .ok (.aload_n 0, 1) := by decide +kernel
theorem d_Wrt_begin_55 : decode b_Wrt_begin 55 = .ok (.getfield 21, 3) := by decide +kernel
theorem d_Wrt_begin_58 : decode b_Wrt_begin 58 = .ok (.aload_n 0, 1) := by decide +kernel
theorem d_Wrt_begin_59 : decode b_Wrt_begin 59 = .ok (.getfield 62, 3) := by decide +kernel
theorem d_Wrt_begin_62 : decode b_Wrt_begin 62 = .ok (.getfield 92, 3) := by decide +kernel
theorem d_Wrt_begin_65 : decode b_Wrt_begin 65 = .ok (.i2l, 1) := by decide +kernel
theorem d_Wrt_begin_66 : decode b_Wrt_begin 66 = .ok (.invokevirtual 98, 3) := by decide +kernel
theorem d_Wrt_begin_69 : decode b_Wrt_begin 69 = .ok (.iconst 0, 1) := by decide +kernel
theorem d_Wrt_begin_70 : decode b_Wrt_begin 70 = .ok (.istore 4, 2) := by decide +kernel
theorem d_Wrt_beginGroup_0 : decode b_Wrt_beginGroup 0 = .ok (.aload_n 0, 1) := by decide +kernel
theorem d_Wrt_beginGroup_1 : decode b_Wrt_beginGroup 1 = .ok (.getfield 21, 3) := by decide +kernel
theorem d_Wrt_beginGroup_4 : decode b_Wrt_beginGroup 4 = .ok (.iload_n 1, 1) := by decide +kernel
theorem d_Wrt_beginGroup_5 : decode b_Wrt_beginGroup 5 = .ok (.i2l, 1) := by decide +kernel
theorem d_Wrt_beginGroup_6 : decode b_Wrt_beginGroup 6 = .ok (.invokevirtual 98, 3) := by decide +kernel
theorem d_Wrt_beginGroup_9 : decode b_Wrt_beginGroup 9 = .ok (.return_, 1) := by decide +kernel
theorem d_Snk_putText_0 : decode b_Snk_putText 0 = .ok (.aload_n 0, 1) := by decide +kernel
theorem d_Snk_putText_1 : decode b_Snk_putText 1 = .ok (.lload_n 2, 1) := by decide +kernel
theorem d_Snk_putText_2 : decode b_Snk_putText 2 = .ok (.invokestatic 61, 3) := by decide +kernel
theorem d_Snk_putText_5 : decode b_Snk_putText 5 = .ok (.i2l, 1) := by decide +kernel
theorem d_Snk_putText_6 : decode b_Snk_putText 6 = .ok (.invokevirtual 65, 3) := by decide +kernel
theorem d_Snk_putText_9 : decode b_Snk_putText 9 = .ok (.aload_n 0, 1) := by decide +kernel
theorem d_Snk_putText_10 : decode b_Snk_putText 10 = .ok (.aload_n 1, 1) := by decide +kernel
theorem d_Snk_putText_11 : decode b_Snk_putText 11 = .ok (.lload_n 2, 1) := by decide +kernel
theorem d_Snk_putText_12 : decode b_Snk_putText 12 = .ok (.invokestatic 69, 3) := by decide +kernel
theorem d_Snk_putText_15 : decode b_Snk_putText 15 = .ok (.lload_n 2, 1) := by decide +kernel
theorem d_Snk_putText_16 : decode b_Snk_putText 16 = .ok (.invokestatic 61, 3) := by decide +kernel
theorem d_Snk_putText_19 : decode b_Snk_putText 19 = .ok (.invokevirtual 72, 3) := by decide +kernel
theorem d_Snk_putText_22 : decode b_Snk_putText 22 = .ok (.return_, 1) := by decide +kernel
theorem d_Snk_putFixed_3 : decode b_Snk_putFixed 3 = .ok (.iload 4, 2) := by decide +kernel
theorem d_Snk_putFixed_5 : decode b_Snk_putFixed 5 = .ok (.iload_n 3, 1) := by decide +kernel
theorem d_Snk_putFixed_6 : decode b_Snk_putFixed 6 = .ok (.if_icmp .ge 21, 3) := by decide +kernel
theorem d_Snk_putFixed_27 : decode b_Snk_putFixed 27 = .ok (.return_, 1) := by decide +kernel
theorem d_Snk_putFixed_9 : decode b_Snk_putFixed 9 = .ok (.aload_n 0, 1) := by decide +kernel
theorem d_Snk_putFixed_10 : decode b_Snk_putFixed 10 = .ok (.lload_n 1, 1) := by decide +kernel
theorem d_Snk_putFixed_11 : decode b_Snk_putFixed 11 = .ok (.bipush 8, 2) := by decide +kernel
theorem d_Snk_putFixed_13 : decode b_Snk_putFixed 13 = .ok (.iload 4, 2) := by decide +kernel
theorem d_Snk_putFixed_15 : decode b_Snk_putFixed 15 = .ok (.imul, 1) := by decide +kernel
theorem d_Snk_putFixed_16 : decode b_Snk_putFixed 16 = .ok (.lushr, 1) := by decide +kernel
theorem d_Snk_putFixed_17 : decode b_Snk_putFixed 17 = .ok (.l2i, 1) := by decide +kernel
theorem d_Snk_putFixed_18 : decode b_Snk_putFixed 18 = .ok (.invokevirtual 57, 3) := by decide +kernel
theorem d_Snk_putFixed_21 : decode b_Snk_putFixed 21 = .ok (.iinc 4 1, 3) := by decide +kernel
theorem d_Snk_putFixed_24 : decode b_Snk_putFixed 24 = .ok (.goto (-21), 3) := by decide +kernel
theorem d_Snk_putFixed_0 : decode b_Snk_putFixed 0 = .ok (.iconst 0, 1) := by decide +kernel
theorem d_Snk_putFixed_1 : decode b_Snk_putFixed 1 = .ok (.istore 4, 2) := by decide +kernel
theorem d_Wrt_putPlain_131 : decode b_Wrt_putPlain 131 = .ok (.iinc 4 1, 3) := by decide +kernel
theorem d_Wrt_putPlain_134 : decode b_Wrt_putPlain 134 = .ok (.goto (-57), 3) := by decide +kernel
theorem d_Wrt_putPlain_128 : decode b_Wrt_putPlain 128 = .ok (.invokevirtual 127, 3) := by decide +kernel
theorem d_Wrt_putPlain_77 : decode b_Wrt_putPlain 77 = .ok (.iload 4, 2) := by decide +kernel
theorem d_Wrt_putPlain_79 : decode b_Wrt_putPlain 79 = .ok (.iload_n 3, 1) := by decide +kernel
theorem d_Wrt_putPlain_80 : decode b_Wrt_putPlain 80 = .ok (.if_icmp .ge 57, 3) := by decide +kernel
theorem d_Wrt_putPlain_137 : decode b_Wrt_putPlain 137 = .ok (.return_, 1) := by decide +kernel
theorem d_Wrt_putPlain_83 : decode b_Wrt_putPlain 83 = .ok (.iload_n 1, 1) := by decide +kernel
theorem d_Wrt_putPlain_84 : decode b_Wrt_putPlain 84 = .ok (.iconst 3, 1) := by decide +kernel
theorem d_Wrt_putPlain_85 : decode b_Wrt_putPlain 85 = .ok (.if_icmp .ne 24, 3) := by decide +kernel
theorem d_Wrt_putPlain_109 : decode b_Wrt_putPlain 109 = .ok (.aload_n 0, 1) := by decide +kernel
theorem d_Wrt_putPlain_110 : decode b_Wrt_putPlain 110 = .ok (.getfield 30, 3) := by decide +kernel
theorem d_Wrt_putPlain_113 : decode b_Wrt_putPlain 113 = .ok (.aload_n 2, 1) := by decide +kernel
theorem d_Wrt_putPlain_114 : decode b_Wrt_putPlain 114 = .ok (.iload 4, 2) := by decide +kernel
theorem d_Wrt_putPlain_116 : decode b_Wrt_putPlain 116 = .ok (.laload, 1) := by decide +kernel
theorem d_Wrt_putPlain_117 : decode b_Wrt_putPlain 117 = .ok (.iload_n 1, 1) := by decide +kernel
theorem d_Wrt_putPlain_118 : decode b_Wrt_putPlain 118 = .ok (.iconst 1, 1) := by decide +kernel
theorem d_Wrt_putPlain_119 : decode b_Wrt_putPlain 119 = .ok (.if_icmp .ne 7, 3) := by decide +kernel
theorem d_Wrt_putPlain_126 : decode b_Wrt_putPlain 126 = .ok (.bipush 8, 2) := by decide +kernel
theorem d_Wrt_putPlain_122 : decode b_Wrt_putPlain 122 = .ok (.iconst 4, 1) := by decide +kernel
theorem d_Wrt_putPlain_123 : decode b_Wrt_putPlain 123 = .ok (.goto 5, 3) := by decide +kernel
theorem d_Wrt_putPlain_88 : decode b_Wrt_putPlain 88 = .ok (.aload_n 0, 1) := by decide +kernel
theorem d_Wrt_putPlain_89 : decode b_Wrt_putPlain 89 = .ok (.getfield 30, 3) := by decide +kernel
theorem d_Wrt_putPlain_92 : decode b_Wrt_putPlain 92 = .ok (.aload_n 0, 1) := by decide +kernel
theorem d_Wrt_putPlain_93 : decode b_Wrt_putPlain 93 = .ok (.getfield 66, 3) := by decide +kernel
theorem d_Wrt_putPlain_96 : decode b_Wrt_putPlain 96 = .ok (.getfield 171, 3) := by decide +kernel
theorem d_Wrt_putPlain_99 : decode b_Wrt_putPlain 99 = .ok (.aload_n 2, 1) := by decide +kernel
theorem d_Wrt_putPlain_100 : decode b_Wrt_putPlain 100 = .ok (.iload 4, 2) := by decide +kernel
theorem d_Wrt_putPlain_102 : decode b_Wrt_putPlain 102 = .ok (.laload, 1) := by decide +kernel
theorem d_Wrt_putPlain_103 : decode b_Wrt_putPlain 103 = .ok (.invokevirtual 241, 3) := by decide +kernel
theorem d_Wrt_putPlain_106 : decode b_Wrt_putPlain 106 = .ok (.goto 25, 3) := by decide +kernel
theorem d_Wrt_putPlain_58 : decode b_Wrt_putPlain 58 = .ok (.aload_n 0, 1) := by decide +kernel
theorem d_Wrt_putPlain_59 : decode b_Wrt_putPlain 59 = .ok (.getfield 30, 3) := by decide +kernel
theorem d_Wrt_putPlain_62 : decode b_Wrt_putPlain 62 = .ok (.iload 5, 2) := by decide +kernel
theorem d_Wrt_putPlain_64 : decode b_Wrt_putPlain 64 = .ok (.invokevirtual 108, 3) := by decide +kernel
theorem d_Wrt_putPlain_67 : decode b_Wrt_putPlain 67 = .ok (.iinc 4 8, 3) := by decide +kernel
theorem d_Wrt_putPlain_70 : decode b_Wrt_putPlain 70 = .ok (.goto (-63), 3) := by decide +kernel
theorem d_Wrt_putPlain_20 : decode b_Wrt_putPlain 20 = .ok (.iload 6, 2) := by decide +kernel
theorem d_Wrt_putPlain_22 : decode b_Wrt_putPlain 22 = .ok (.iload 4, 2) := by decide +kernel
theorem d_Wrt_putPlain_24 : decode b_Wrt_putPlain 24 = .ok (.bipush 8, 2) := by decide +kernel
theorem d_Wrt_putPlain_26 : decode b_Wrt_putPlain 26 = .ok (.iadd, 1) := by decide +kernel
theorem d_Wrt_putPlain_27 : decode b_Wrt_putPlain 27 = .ok (.if_icmp .ge 31, 3) := by decide +kernel
theorem d_Wrt_putPlain_30 : decode b_Wrt_putPlain 30 = .ok (.iload 6, 2) := by decide +kernel
theorem d_Wrt_putPlain_32 : decode b_Wrt_putPlain 32 = .ok (.iload_n 3, 1) := by decide +kernel
theorem d_Wrt_putPlain_33 : decode b_Wrt_putPlain 33 = .ok (.if_icmp .ge 25, 3) := by decide +kernel
theorem d_Wrt_putPlain_36 : decode b_Wrt_putPlain 36 = .ok (.iload 5, 2) := by decide +kernel
theorem d_Wrt_putPlain_38 : decode b_Wrt_putPlain 38 = .ok (.aload_n 2, 1) := by decide +kernel
theorem d_Wrt_putPlain_39 : decode b_Wrt_putPlain 39 = .ok (.iload 6, 2) := by decide +kernel
theorem d_Wrt_putPlain_41 : decode b_Wrt_putPlain 41 = .ok (.laload, 1) := by decide +kernel
theorem d_Wrt_putPlain_42 : decode b_Wrt_putPlain 42 = .ok (.l2i, 1) := by decide +kernel
theorem d_Wrt_putPlain_43 : decode b_Wrt_putPlain 43 = .ok (.iload 6, 2) := by decide +kernel
theorem d_Wrt_putPlain_45 : decode b_Wrt_putPlain 45 = .ok (.iload 4, 2) := by decide +kernel
theorem d_Wrt_putPlain_47 : decode b_Wrt_putPlain 47 = .ok (.isub, 1) := by decide +kernel
theorem d_Wrt_putPlain_48 : decode b_Wrt_putPlain 48 = .ok (.ishl, 1) := by decide +kernel
theorem d_Wrt_putPlain_49 : decode b_Wrt_putPlain 49 = .ok (.ior, 1) := by decide +kernel
theorem d_Wrt_putPlain_50 : decode b_Wrt_putPlain 50 = .ok (.istore 5, 2) := by decide +kernel
theorem d_Wrt_putPlain_52 : decode b_Wrt_putPlain 52 = .ok (.iinc 6 1, 3) := by decide +kernel
theorem d_Wrt_putPlain_55 : decode b_Wrt_putPlain 55 = .ok (.goto (-35), 3) := by decide +kernel
theorem d_Wrt_putPlain_7 : decode b_Wrt_putPlain 7 = .ok (.iload 4, 2) := by decide +kernel
theorem d_Wrt_putPlain_9 : decode b_Wrt_putPlain 9 = .ok (.iload_n 3, 1) := by decide +kernel
theorem d_Wrt_putPlain_10 : decode b_Wrt_putPlain 10 = .ok (.if_icmp .ge 63, 3) := by decide +kernel
theorem d_Wrt_putPlain_73 : decode b_Wrt_putPlain 73 = .ok (.return_, 1) := by decide +kernel
theorem d_Wrt_putPlain_13 : decode b_Wrt_putPlain 13 = .ok (.iconst 0, 1) := by decide +kernel
theorem d_Wrt_putPlain_14 : decode b_Wrt_putPlain 14 = .ok (.istore 5, 2) := by decide +kernel
theorem d_Wrt_putPlain_16 : decode b_Wrt_putPlain 16 = .ok (.iload 4, 2) := by decide +kernel
theorem d_Wrt_putPlain_18 : decode b_Wrt_putPlain 18 = .ok (.istore 6, 2) := by decide +kernel
theorem d_Wrt_putPlain_0 : decode b_Wrt_putPlain 0 = .ok (.iload_n 1, 1) := by decide +kernel
theorem d_Wrt_putPlain_1 : decode b_Wrt_putPlain 1 = .ok (.ifCond .ne 73, 3) := by decide +kernel
theorem d_Wrt_putPlain_74 : decode b_Wrt_putPlain 74 = .ok (.iconst 0, 1) := by decide +kernel
theorem d_Wrt_putPlain_75 : decode b_Wrt_putPlain 75 = .ok (.istore 4, 2) := by decide +kernel
theorem d_Wrt_putPlain_4 : decode b_Wrt_putPlain 4 = .ok (.iconst 0, 1) := by decide +kernel
theorem d_Wrt_putPlain_5 : decode b_Wrt_putPlain 5 = .ok (.istore 4, 2) := by decide +kernel
section
variable (l : Launch) (dC : Nat → ClassId) (dI : Nat → Nat → Nat) (cI cB cJ cZ : ClassId)
set_option maxRecDepth 100000 in
set_option maxHeartbeats 4000000 in
set_option maxRecDepth 100000 in
theorem t_Wrt_begin_72 {p : Program} {l : Launch} {e : Env} {R : Room} {s : State} {m : MethodId} {args : Array Value} {below : List Frame} {meth : Method} {c : Code} {Q : State → Prop} {dC : Nat → ClassId} {dI : Nat → Nat → Nat} {cI cB cJ cZ : ClassId} {A : Nat → Prop} {E : Heap} {tM tC : Nat} {kK kV : Nat → Nat} {ad0 : Nat → Nat} {NN0 : Nat} {post : St → Prop} {rec72 : Nat → Nat → Nat → Int32 → Int32 → Nat → Nat → St → Prop} (hx : p.tables.exec = Jvm.exec) (hb : c.code = b_Wrt_begin) (hml : c.maxLocals = 5) (hown : s.vm.findClass R_Wrt = some m.cls) (hT : ∀ w ∈ TG, w.before args s = true) (hK : va_K (dC, dI) CL (TY cI cB cJ cZ) s) (hN : NW s) (hA : ∀ q : Nat, s.heap.size ≤ q → A q) (hRf : 4 ≤ R.frames) (hRl : 247 ≤ R.locals) (hE : CE E tM tC kK kV A s) (hret : ∀ (ad : Nat → Nat) (NN cells slots : Nat) (x : St) (H : Heap) (locs : List Loc) (pc : Nat) (ls : Array Slot), decode b_Wrt_begin pc = .ok (.return_, 1) → (NN0 ≤ NN ∧ ∀ o : Nat, o < NN0 → ad o = ad0 o) → cells ≤ R.cells → slots ≤ R.slots → post x → Wd dC dI cI cB cJ cZ ad stC kcC NN A x H → va_S A s.heap H locs → W p l e R s m args below meth c H locs cells slots Q (F0 m pc ls [])) (hrec72 : ∀ (ad : Nat → Nat) (NN cells slots : Nat) (o : Nat) (l1 : Nat) (l2 : Nat) (l3 : Int32) (l4 : Int32) (kb : Nat) (nb : Nat) (x : St) (H : Heap) (locs : List Loc) (ls : Array Slot), (152 ≤ NN) → (NN0 ≤ NN ∧ ∀ o : Nat, o < NN0 → ad o = ad0 o) → (cells + kb ≤ R.cells) → (slots + nb ≤ R.slots) → (o < NN ∧ kcC o = 5) → (l1 < NN ∧ kcC l1 = 3) → (l2 < NN ∧ kcC l2 = 4) → rec72 o l1 l2 l3 l4 kb nb x → Wd dC dI cI cB cJ cZ ad stC kcC NN A x H → va_S A s.heap H locs → lv_has ls 5 [(0, .ref (ad o)), (1, .ref (ad l1)), (2, .ref (ad l2)), (3, .int l3), (4, .int l4)] → W p l e R s m args below meth c H locs cells slots Q (F0 m 72 ls [])) : ∀ (ad : Nat → Nat) (NN cells slots : Nat) (o : Nat) (l1 : Nat) (l2 : Nat) (l3 : Int32) (l4 : Int32) (kb : Nat) (nb : Nat) (x : St) (H : Heap) (locs : List Loc) (ls : Array Slot), (152 ≤ NN) → (NN0 ≤ NN ∧ ∀ o : Nat, o < NN0 → ad o = ad0 o) → (cells + kb ≤ R.cells) → (slots + nb ≤ R.slots) → (o < NN ∧ kcC o = 5) → (l1 < NN ∧ kcC l1 = 3) → (l2 < NN ∧ kcC l2 = 4) → j_Wrt_begin_72 post rec72 o l1 l2 l3 l4 kb nb x → Wd dC dI cI cB cJ cZ ad stC kcC NN A x H → va_S A s.heap H locs → lv_has ls 5 [(0, .ref (ad o)), (1, .ref (ad l1)), (2, .ref (ad l2)), (3, .int l3), (4, .int l4)] → W p l e R s m args below meth c H locs cells slots Q (F0 m 72 ls []) := by
  intro ad NN cells slots o l1 l2 l3 l4 kb nb x H locs ls hNN hag hRc hRs fo fl1 fl2 hw hW hS hl
  unfold j_Wrt_begin_72 at hw
  refine lv_iload hx hb d_Wrt_begin_72 (lv_at hl 4 rfl) ?_
  refine lv_aload_n hx hb d_Wrt_begin_74 rfl (lv_at hl 0 rfl) ?_
  obtain ⟨q1, hq1, hw⟩ := hw
  refine w_getr (q := q1) (k := 5) (t := 5) (C := R_Wrt) (T := F_Wrt) (N := 20) hx hb hT hown hK hW fo.1 fo.2 (by decide) in_Wrt rfl rfl (by decide) rfl fr_Wrt_5 w_2_56 d_Wrt_begin_75 hq1 (fun aq1 bq1 => ?_)
  have fq1 : q1 < NN ∧ kcC q1 = 3 := ⟨aq1, bq1⟩
  refine w_geti (k := 0) (t := 3) (C := R_Sch) (T := F_Sch) (N := 13) hx hb hT hown hK hW fq1.1 fq1.2 (by decide) in_Sch rfl rfl (by decide) rfl fr_Sch_0 w_1_131 d_Wrt_begin_78 ?_
  refine lv_icmp_ge (tgt := 187) hx hb d_Wrt_begin_81 (by decide) (fun c2 => ?_) (fun c2 => ?_)
  · have hw := hw.1 c2
    refine lv_aload_n hx hb d_Wrt_begin_187 rfl (lv_at hl 0 rfl) ?_
    refine w_getf (q := (stC o 1)) (k := 1) (t := 5) (C := R_Wrt) (T := F_Wrt) (N := 20) hx hb hT hown hK hW fo.1 fo.2 (by decide) in_Wrt rfl rfl (by decide) rfl fr_Wrt_1 w_2_52 d_Wrt_begin_188 rfl ?_
    refine lv_aload_n hx hb d_Wrt_begin_191 rfl (lv_at hl 0 rfl) ?_
    obtain ⟨q3, hq3, hw⟩ := hw
    refine w_getr (q := q3) (k := 6) (t := 5) (C := R_Wrt) (T := F_Wrt) (N := 20) hx hb hT hown hK hW fo.1 fo.2 (by decide) in_Wrt rfl rfl (by decide) rfl fr_Wrt_6 w_2_57 d_Wrt_begin_192 hq3 (fun aq3 bq3 => ?_)
    have fq3 : q3 < NN ∧ kcC q3 = 4 := ⟨aq3, bq3⟩
    refine w_geti (k := 0) (t := 4) (C := R_Rec) (T := F_Rec) (N := 15) hx hb hT hown hK hW fq3.1 fq3.2 (by decide) in_Rec rfl rfl (by decide) rfl fr_Rec_0 w_1_228 d_Wrt_begin_195 ?_
    refine lv_i2l hx hb d_Wrt_begin_198 rfl ?_
    obtain ⟨k4, n5, k6, n7, ek4, en5, hw⟩ := hw
    have hF := hW.free hS hA
    refine va_callv (va_runV (C := R_Snk) (As := [.long ((fI x q3 0) : Int32).toInt64]) (rest := []) ⟨hx, hb, hml, hown, hT⟩ (k_Snk_putVarint l dC dI cI cB cJ cZ ad NN E tM tC kK kV hNN H.size (stC o 1) ((fI x q3 0) : Int32).toInt64 k4 n5 x (st_ty hNN fo.1 fo.2 rfl) hw) ⟨callB_of 1 hT (gwt_in w_5_143) rfl rfl rfl (hT _ w_1_2) (hT _ w_5_140) (by decide +kernel) ⟨Nat.le_trans (Nat.le_of_ble_eq_true rfl) hRf, Nat.le_trans (Nat.le_of_ble_eq_true rfl) hRl⟩, hT _ w_5_141, hT _ w_5_142⟩ ⟨PVc.blind, va_recv hK hW.1 (ci := 1) (q0 := (stC o 1)) rfl (pic_obj (st_ty hNN fo.1 fo.2 rfl).1 (st_ty hNN fo.1 fo.2 rfl).2 (by decide)), PVc.at _ hW hK hN hE hS hF⟩ rfl rfl hl.1 rfl (lv_room (Nat.le_of_ble_eq_true rfl)) d_Wrt_begin_199 ⟨show cells + k4 ≤ R.cells by omega, show slots + n5 ≤ R.slots by omega⟩) hS (fun q _ h => hF q h) hF (fun  x8 t H locs ht hvm hw hB hz1 hk1 hS => ?_)
    obtain ⟨x8, ad, NN⟩ := x8
    obtain ⟨hB, hle, hg⟩ := hB
    try dsimp only at hw hB hle hg
    have hW := Wd.back hB ht hF
    rw [← hg o fo.1] at hl
    rw [← hg l1 fl1.1] at hl
    rw [← hg l2 fl2.1] at hl
    have fl1 : l1 < NN ∧ kcC l1 = 3 := ⟨Nat.lt_of_lt_of_le fl1.1 hle, fl1.2⟩
    have fl2 : l2 < NN ∧ kcC l2 = 4 := ⟨Nat.lt_of_lt_of_le fl2.1 hle, fl2.2⟩
    have fo : o < NN ∧ kcC o = 5 := ⟨Nat.lt_of_lt_of_le fo.1 hle, fo.2⟩
    have fq1 : q1 < NN ∧ kcC q1 = 3 := ⟨Nat.lt_of_lt_of_le fq1.1 hle, fq1.2⟩
    have fq3 : q3 < NN ∧ kcC q3 = 4 := ⟨Nat.lt_of_lt_of_le fq3.1 hle, fq3.2⟩
    have hag : NN0 ≤ NN ∧ ∀ o : Nat, o < NN0 → ad o = ad0 o := ⟨Nat.le_trans hag.1 hle, fun o h => (hg o (Nat.lt_of_lt_of_le h hag.1)).trans (hag.2 o h)⟩
    have hNN : 152 ≤ NN := Nat.le_trans hNN hle
    clear hg hle
    obtain ⟨cells, ec⟩ : ∃ z, z = cells + k4 := ⟨_, rfl⟩
    obtain ⟨slots, es⟩ : ∃ z, z = slots + n5 := ⟨_, rfl⟩
    first | rw [← ec, ← es] | rw [Nat.add_zero, Nat.add_zero, ← ec, ← es]
    have hRc : cells + k6 ≤ R.cells := by omega
    have hRs : slots + n7 ≤ R.slots := by omega
    clear ec es hB ht hF hz1 hk1 hvm ek4 en5
    refine lv_aload_n hx hb d_Wrt_begin_202 rfl (lv_at hl 0 rfl) ?_
    refine w_getf (q := (stC o 1)) (k := 1) (t := 5) (C := R_Wrt) (T := F_Wrt) (N := 20) hx hb hT hown hK hW fo.1 fo.2 (by decide) in_Wrt rfl rfl (by decide) rfl fr_Wrt_1 w_2_52 d_Wrt_begin_203 rfl ?_
    refine lv_iload_n hx hb d_Wrt_begin_206 rfl (lv_at hl 3 rfl) ?_
    refine lv_i2l hx hb d_Wrt_begin_207 rfl ?_
    obtain ⟨k9, n10, k11, n12, ek9, en10, hw⟩ := hw
    have hF := hW.free hS hA
    refine va_callv (va_runV (C := R_Snk) (As := [.long (l3 : Int32).toInt64]) (rest := []) ⟨hx, hb, hml, hown, hT⟩ (k_Snk_putVarint l dC dI cI cB cJ cZ ad NN E tM tC kK kV hNN H.size (stC o 1) (l3 : Int32).toInt64 k9 n10 x8 (st_ty hNN fo.1 fo.2 rfl) hw) ⟨callB_of 1 hT (gwt_in w_5_143) rfl rfl rfl (hT _ w_1_2) (hT _ w_5_140) (by decide +kernel) ⟨Nat.le_trans (Nat.le_of_ble_eq_true rfl) hRf, Nat.le_trans (Nat.le_of_ble_eq_true rfl) hRl⟩, hT _ w_5_141, hT _ w_5_142⟩ ⟨PVc.blind, va_recv hK hW.1 (ci := 1) (q0 := (stC o 1)) rfl (pic_obj (st_ty hNN fo.1 fo.2 rfl).1 (st_ty hNN fo.1 fo.2 rfl).2 (by decide)), PVc.at _ hW hK hN hE hS hF⟩ rfl rfl hl.1 rfl (lv_room (Nat.le_of_ble_eq_true rfl)) d_Wrt_begin_208 ⟨show cells + k9 ≤ R.cells by omega, show slots + n10 ≤ R.slots by omega⟩) hS (fun q _ h => hF q h) hF (fun  x13 t H locs ht hvm hw hB hz1 hk1 hS => ?_)
    obtain ⟨x13, ad, NN⟩ := x13
    obtain ⟨hB, hle, hg⟩ := hB
    try dsimp only at hw hB hle hg
    have hW := Wd.back hB ht hF
    rw [← hg o fo.1] at hl
    rw [← hg l1 fl1.1] at hl
    rw [← hg l2 fl2.1] at hl
    have fl1 : l1 < NN ∧ kcC l1 = 3 := ⟨Nat.lt_of_lt_of_le fl1.1 hle, fl1.2⟩
    have fl2 : l2 < NN ∧ kcC l2 = 4 := ⟨Nat.lt_of_lt_of_le fl2.1 hle, fl2.2⟩
    have fo : o < NN ∧ kcC o = 5 := ⟨Nat.lt_of_lt_of_le fo.1 hle, fo.2⟩
    have fq1 : q1 < NN ∧ kcC q1 = 3 := ⟨Nat.lt_of_lt_of_le fq1.1 hle, fq1.2⟩
    have fq3 : q3 < NN ∧ kcC q3 = 4 := ⟨Nat.lt_of_lt_of_le fq3.1 hle, fq3.2⟩
    have hag : NN0 ≤ NN ∧ ∀ o : Nat, o < NN0 → ad o = ad0 o := ⟨Nat.le_trans hag.1 hle, fun o h => (hg o (Nat.lt_of_lt_of_le h hag.1)).trans (hag.2 o h)⟩
    have hNN : 152 ≤ NN := Nat.le_trans hNN hle
    clear hg hle
    obtain ⟨cells, ec⟩ : ∃ z, z = cells + k9 := ⟨_, rfl⟩
    obtain ⟨slots, es⟩ : ∃ z, z = slots + n10 := ⟨_, rfl⟩
    first | rw [← ec, ← es] | rw [Nat.add_zero, Nat.add_zero, ← ec, ← es]
    have hRc : cells + k11 ≤ R.cells := by omega
    have hRs : slots + n12 ≤ R.slots := by omega
    clear ec es hB ht hF hz1 hk1 hvm ek9 en10
    exact hret ad NN cells slots x13 H locs 211 ls d_Wrt_begin_211 hag (Nat.le_trans (Nat.le_add_right _ _) hRc) (Nat.le_trans (Nat.le_add_right _ _) hRs) hw hW hS
  · have hw := hw.2 c2
    refine lv_aload_n hx hb d_Wrt_begin_84 rfl (lv_at hl 0 rfl) ?_
    refine w_getf (q := (stC o 1)) (k := 1) (t := 5) (C := R_Wrt) (T := F_Wrt) (N := 20) hx hb hT hown hK hW fo.1 fo.2 (by decide) in_Wrt rfl rfl (by decide) rfl fr_Wrt_1 w_2_52 d_Wrt_begin_85 rfl ?_
    refine lv_aload_n hx hb d_Wrt_begin_88 rfl (lv_at hl 0 rfl) ?_
    obtain ⟨q14, hq14, hw⟩ := hw
    refine w_getr (q := q14) (k := 5) (t := 5) (C := R_Wrt) (T := F_Wrt) (N := 20) hx hb hT hown hK hW fo.1 fo.2 (by decide) in_Wrt rfl rfl (by decide) rfl fr_Wrt_5 w_2_56 d_Wrt_begin_89 hq14 (fun aq14 bq14 => ?_)
    have fq14 : q14 < NN ∧ kcC q14 = 3 := ⟨aq14, bq14⟩
    refine w_getf (q := (stC q14 2)) (k := 2) (t := 3) (C := R_Sch) (T := F_Sch) (N := 13) hx hb hT hown hK hW fq14.1 fq14.2 (by decide) in_Sch rfl rfl (by decide) rfl fr_Sch_2 w_1_141 d_Wrt_begin_92 rfl ?_
    refine lv_iload hx hb d_Wrt_begin_95 (lv_at hl 4 rfl) ?_
    obtain ⟨hi, hw⟩ := hw
    refine w_iald (o := (stC q14 2)) hx hb hK hW (st_ty hNN fq14.1 fq14.2 rfl).1 (st_ty hNN fq14.1 fq14.2 rfl).2 hi d_Wrt_begin_97 ?_
    refine lv_iconst (v := 3) hx hb d_Wrt_begin_98 (by decide) ?_
    refine lv_aload_n hx hb d_Wrt_begin_99 rfl (lv_at hl 0 rfl) ?_
    obtain ⟨q15, hq15, hw⟩ := hw
    refine w_getr (q := q15) (k := 5) (t := 5) (C := R_Wrt) (T := F_Wrt) (N := 20) hx hb hT hown hK hW fo.1 fo.2 (by decide) in_Wrt rfl rfl (by decide) rfl fr_Wrt_5 w_2_56 d_Wrt_begin_100 hq15 (fun aq15 bq15 => ?_)
    have fq15 : q15 < NN ∧ kcC q15 = 3 := ⟨aq15, bq15⟩
    refine w_getf (q := (stC q15 3)) (k := 3) (t := 3) (C := R_Sch) (T := F_Sch) (N := 13) hx hb hT hown hK hW fq15.1 fq15.2 (by decide) in_Sch rfl rfl (by decide) rfl fr_Sch_3 w_1_146 d_Wrt_begin_103 rfl ?_
    refine lv_iload hx hb d_Wrt_begin_106 (lv_at hl 4 rfl) ?_
    obtain ⟨hi, hw⟩ := hw
    refine w_iald (o := (stC q15 3)) hx hb hK hW (st_ty hNN fq15.1 fq15.2 rfl).1 (st_ty hNN fq15.1 fq15.2 rfl).2 hi d_Wrt_begin_108 ?_
    refine lv_imul hx hb d_Wrt_begin_109 ?_
    refine lv_iadd hx hb d_Wrt_begin_110 ?_
    obtain ⟨k16, n17, k18, n19, ek16, en17, hw⟩ := hw
    have hF := hW.free hS hA
    refine va_callv (va_runV (C := R_Snk) (As := [.int ((rA x (stC q14 2) l4) + (3 * (rA x (stC q15 3) l4)))]) (rest := []) ⟨hx, hb, hml, hown, hT⟩ (k_Snk_put l dC dI cI cB cJ cZ ad NN E tM tC kK kV hNN H.size (stC o 1) ((rA x (stC q14 2) l4) + (3 * (rA x (stC q15 3) l4))) k16 n17 x (st_ty hNN fo.1 fo.2 rfl) hw) ⟨callB_of 1 hT (gwt_in w_4_52) rfl rfl rfl (hT _ w_1_2) (hT _ w_5_145) (by decide +kernel) ⟨Nat.le_trans (Nat.le_of_ble_eq_true rfl) hRf, Nat.le_trans (Nat.le_of_ble_eq_true rfl) hRl⟩, hT _ w_4_50, hT _ w_4_51⟩ ⟨PVc.blind, va_recv hK hW.1 (ci := 1) (q0 := (stC o 1)) rfl (pic_obj (st_ty hNN fo.1 fo.2 rfl).1 (st_ty hNN fo.1 fo.2 rfl).2 (by decide)), PVc.at _ hW hK hN hE hS hF⟩ rfl rfl hl.1 rfl (lv_room (Nat.le_of_ble_eq_true rfl)) d_Wrt_begin_111 ⟨show cells + k16 ≤ R.cells by omega, show slots + n17 ≤ R.slots by omega⟩) hS (fun q _ h => hF q h) hF (fun  x20 t H locs ht hvm hw hB hz1 hk1 hS => ?_)
    obtain ⟨x20, ad, NN⟩ := x20
    obtain ⟨hB, hle, hg⟩ := hB
    try dsimp only at hw hB hle hg
    have hW := Wd.back hB ht hF
    rw [← hg o fo.1] at hl
    rw [← hg l1 fl1.1] at hl
    rw [← hg l2 fl2.1] at hl
    have fl1 : l1 < NN ∧ kcC l1 = 3 := ⟨Nat.lt_of_lt_of_le fl1.1 hle, fl1.2⟩
    have fl2 : l2 < NN ∧ kcC l2 = 4 := ⟨Nat.lt_of_lt_of_le fl2.1 hle, fl2.2⟩
    have fo : o < NN ∧ kcC o = 5 := ⟨Nat.lt_of_lt_of_le fo.1 hle, fo.2⟩
    have fq1 : q1 < NN ∧ kcC q1 = 3 := ⟨Nat.lt_of_lt_of_le fq1.1 hle, fq1.2⟩
    have fq14 : q14 < NN ∧ kcC q14 = 3 := ⟨Nat.lt_of_lt_of_le fq14.1 hle, fq14.2⟩
    have fq15 : q15 < NN ∧ kcC q15 = 3 := ⟨Nat.lt_of_lt_of_le fq15.1 hle, fq15.2⟩
    have hag : NN0 ≤ NN ∧ ∀ o : Nat, o < NN0 → ad o = ad0 o := ⟨Nat.le_trans hag.1 hle, fun o h => (hg o (Nat.lt_of_lt_of_le h hag.1)).trans (hag.2 o h)⟩
    have hNN : 152 ≤ NN := Nat.le_trans hNN hle
    clear hg hle
    obtain ⟨cells, ec⟩ : ∃ z, z = cells + k16 := ⟨_, rfl⟩
    obtain ⟨slots, es⟩ : ∃ z, z = slots + n17 := ⟨_, rfl⟩
    first | rw [← ec, ← es] | rw [Nat.add_zero, Nat.add_zero, ← ec, ← es]
    have hRc : cells + k18 ≤ R.cells := by omega
    have hRs : slots + n19 ≤ R.slots := by omega
    clear ec es hB ht hF hz1 hk1 hvm ek16 en17
    refine lv_aload_n hx hb d_Wrt_begin_114 rfl (lv_at hl 0 rfl) ?_
    refine w_getf (q := (stC o 1)) (k := 1) (t := 5) (C := R_Wrt) (T := F_Wrt) (N := 20) hx hb hT hown hK hW fo.1 fo.2 (by decide) in_Wrt rfl rfl (by decide) rfl fr_Wrt_1 w_2_52 d_Wrt_begin_115 rfl ?_
    refine lv_aload_n hx hb d_Wrt_begin_118 rfl (lv_at hl 0 rfl) ?_
    obtain ⟨q21, hq21, hw⟩ := hw
    refine w_getr (q := q21) (k := 5) (t := 5) (C := R_Wrt) (T := F_Wrt) (N := 20) hx hb hT hown hK hW fo.1 fo.2 (by decide) in_Wrt rfl rfl (by decide) rfl fr_Wrt_5 w_2_56 d_Wrt_begin_119 hq21 (fun aq21 bq21 => ?_)
    have fq21 : q21 < NN ∧ kcC q21 = 3 := ⟨aq21, bq21⟩
    refine w_getf (q := (stC q21 4)) (k := 4) (t := 3) (C := R_Sch) (T := F_Sch) (N := 13) hx hb hT hown hK hW fq21.1 fq21.2 (by decide) in_Sch rfl rfl (by decide) rfl fr_Sch_4 w_1_153 d_Wrt_begin_122 rfl ?_
    refine lv_iload hx hb d_Wrt_begin_125 (lv_at hl 4 rfl) ?_
    obtain ⟨hi, hw⟩ := hw
    refine w_iald (o := (stC q21 4)) hx hb hK hW (st_ty hNN fq21.1 fq21.2 rfl).1 (st_ty hNN fq21.1 fq21.2 rfl).2 hi d_Wrt_begin_127 ?_
    refine lv_iconst (v := 1) hx hb d_Wrt_begin_128 (by decide) ?_
    refine lv_iadd hx hb d_Wrt_begin_129 ?_
    refine lv_i2l hx hb d_Wrt_begin_130 rfl ?_
    obtain ⟨k22, n23, k24, n25, ek22, en23, hw⟩ := hw
    have hF := hW.free hS hA
    refine va_callv (va_runV (C := R_Snk) (As := [.long (((rA x20 (stC q21 4) l4) + 1) : Int32).toInt64]) (rest := []) ⟨hx, hb, hml, hown, hT⟩ (k_Snk_putVarint l dC dI cI cB cJ cZ ad NN E tM tC kK kV hNN H.size (stC o 1) (((rA x20 (stC q21 4) l4) + 1) : Int32).toInt64 k22 n23 x20 (st_ty hNN fo.1 fo.2 rfl) hw) ⟨callB_of 1 hT (gwt_in w_5_143) rfl rfl rfl (hT _ w_1_2) (hT _ w_5_140) (by decide +kernel) ⟨Nat.le_trans (Nat.le_of_ble_eq_true rfl) hRf, Nat.le_trans (Nat.le_of_ble_eq_true rfl) hRl⟩, hT _ w_5_141, hT _ w_5_142⟩ ⟨PVc.blind, va_recv hK hW.1 (ci := 1) (q0 := (stC o 1)) rfl (pic_obj (st_ty hNN fo.1 fo.2 rfl).1 (st_ty hNN fo.1 fo.2 rfl).2 (by decide)), PVc.at _ hW hK hN hE hS hF⟩ rfl rfl hl.1 rfl (lv_room (Nat.le_of_ble_eq_true rfl)) d_Wrt_begin_131 ⟨show cells + k22 ≤ R.cells by omega, show slots + n23 ≤ R.slots by omega⟩) hS (fun q _ h => hF q h) hF (fun  x26 t H locs ht hvm hw hB hz1 hk1 hS => ?_)
    obtain ⟨x26, ad, NN⟩ := x26
    obtain ⟨hB, hle, hg⟩ := hB
    try dsimp only at hw hB hle hg
    have hW := Wd.back hB ht hF
    rw [← hg o fo.1] at hl
    rw [← hg l1 fl1.1] at hl
    rw [← hg l2 fl2.1] at hl
    have fl1 : l1 < NN ∧ kcC l1 = 3 := ⟨Nat.lt_of_lt_of_le fl1.1 hle, fl1.2⟩
    have fl2 : l2 < NN ∧ kcC l2 = 4 := ⟨Nat.lt_of_lt_of_le fl2.1 hle, fl2.2⟩
    have fo : o < NN ∧ kcC o = 5 := ⟨Nat.lt_of_lt_of_le fo.1 hle, fo.2⟩
    have fq1 : q1 < NN ∧ kcC q1 = 3 := ⟨Nat.lt_of_lt_of_le fq1.1 hle, fq1.2⟩
    have fq14 : q14 < NN ∧ kcC q14 = 3 := ⟨Nat.lt_of_lt_of_le fq14.1 hle, fq14.2⟩
    have fq15 : q15 < NN ∧ kcC q15 = 3 := ⟨Nat.lt_of_lt_of_le fq15.1 hle, fq15.2⟩
    have fq21 : q21 < NN ∧ kcC q21 = 3 := ⟨Nat.lt_of_lt_of_le fq21.1 hle, fq21.2⟩
    have hag : NN0 ≤ NN ∧ ∀ o : Nat, o < NN0 → ad o = ad0 o := ⟨Nat.le_trans hag.1 hle, fun o h => (hg o (Nat.lt_of_lt_of_le h hag.1)).trans (hag.2 o h)⟩
    have hNN : 152 ≤ NN := Nat.le_trans hNN hle
    clear hg hle
    obtain ⟨cells, ec⟩ : ∃ z, z = cells + k22 := ⟨_, rfl⟩
    obtain ⟨slots, es⟩ : ∃ z, z = slots + n23 := ⟨_, rfl⟩
    first | rw [← ec, ← es] | rw [Nat.add_zero, Nat.add_zero, ← ec, ← es]
    have hRc : cells + k24 ≤ R.cells := by omega
    have hRs : slots + n25 ≤ R.slots := by omega
    clear ec es hB ht hF hz1 hk1 hvm ek22 en23
    refine lv_aload_n hx hb d_Wrt_begin_134 rfl (lv_at hl 0 rfl) ?_
    refine w_getf (q := (stC o 1)) (k := 1) (t := 5) (C := R_Wrt) (T := F_Wrt) (N := 20) hx hb hT hown hK hW fo.1 fo.2 (by decide) in_Wrt rfl rfl (by decide) rfl fr_Wrt_1 w_2_52 d_Wrt_begin_135 rfl ?_
    refine lv_aload_n hx hb d_Wrt_begin_138 rfl (lv_at hl 0 rfl) ?_
    obtain ⟨q27, hq27, hw⟩ := hw
    refine w_getr (q := q27) (k := 5) (t := 5) (C := R_Wrt) (T := F_Wrt) (N := 20) hx hb hT hown hK hW fo.1 fo.2 (by decide) in_Wrt rfl rfl (by decide) rfl fr_Wrt_5 w_2_56 d_Wrt_begin_139 hq27 (fun aq27 bq27 => ?_)
    have fq27 : q27 < NN ∧ kcC q27 = 3 := ⟨aq27, bq27⟩
    refine w_getf (q := (stC q27 11)) (k := 11) (t := 3) (C := R_Sch) (T := F_Sch) (N := 13) hx hb hT hown hK hW fq27.1 fq27.2 (by decide) in_Sch rfl rfl (by decide) rfl fr_Sch_11 w_1_185 d_Wrt_begin_142 rfl ?_
    refine lv_iload hx hb d_Wrt_begin_145 (lv_at hl 4 rfl) ?_
    obtain ⟨hi, hw⟩ := hw
    refine w_iald (o := (stC q27 11)) hx hb hK hW (st_ty hNN fq27.1 fq27.2 rfl).1 (st_ty hNN fq27.1 fq27.2 rfl).2 hi d_Wrt_begin_147 ?_
    refine lv_i2l hx hb d_Wrt_begin_148 rfl ?_
    obtain ⟨k28, n29, k30, n31, ek28, en29, hw⟩ := hw
    have hF := hW.free hS hA
    refine va_callv (va_runV (C := R_Snk) (As := [.long ((rA x26 (stC q27 11) l4) : Int32).toInt64]) (rest := []) ⟨hx, hb, hml, hown, hT⟩ (k_Snk_putVarint l dC dI cI cB cJ cZ ad NN E tM tC kK kV hNN H.size (stC o 1) ((rA x26 (stC q27 11) l4) : Int32).toInt64 k28 n29 x26 (st_ty hNN fo.1 fo.2 rfl) hw) ⟨callB_of 1 hT (gwt_in w_5_143) rfl rfl rfl (hT _ w_1_2) (hT _ w_5_140) (by decide +kernel) ⟨Nat.le_trans (Nat.le_of_ble_eq_true rfl) hRf, Nat.le_trans (Nat.le_of_ble_eq_true rfl) hRl⟩, hT _ w_5_141, hT _ w_5_142⟩ ⟨PVc.blind, va_recv hK hW.1 (ci := 1) (q0 := (stC o 1)) rfl (pic_obj (st_ty hNN fo.1 fo.2 rfl).1 (st_ty hNN fo.1 fo.2 rfl).2 (by decide)), PVc.at _ hW hK hN hE hS hF⟩ rfl rfl hl.1 rfl (lv_room (Nat.le_of_ble_eq_true rfl)) d_Wrt_begin_149 ⟨show cells + k28 ≤ R.cells by omega, show slots + n29 ≤ R.slots by omega⟩) hS (fun q _ h => hF q h) hF (fun  x32 t H locs ht hvm hw hB hz1 hk1 hS => ?_)
    obtain ⟨x32, ad, NN⟩ := x32
    obtain ⟨hB, hle, hg⟩ := hB
    try dsimp only at hw hB hle hg
    have hW := Wd.back hB ht hF
    rw [← hg o fo.1] at hl
    rw [← hg l1 fl1.1] at hl
    rw [← hg l2 fl2.1] at hl
    have fl1 : l1 < NN ∧ kcC l1 = 3 := ⟨Nat.lt_of_lt_of_le fl1.1 hle, fl1.2⟩
    have fl2 : l2 < NN ∧ kcC l2 = 4 := ⟨Nat.lt_of_lt_of_le fl2.1 hle, fl2.2⟩
    have fo : o < NN ∧ kcC o = 5 := ⟨Nat.lt_of_lt_of_le fo.1 hle, fo.2⟩
    have fq1 : q1 < NN ∧ kcC q1 = 3 := ⟨Nat.lt_of_lt_of_le fq1.1 hle, fq1.2⟩
    have fq14 : q14 < NN ∧ kcC q14 = 3 := ⟨Nat.lt_of_lt_of_le fq14.1 hle, fq14.2⟩
    have fq15 : q15 < NN ∧ kcC q15 = 3 := ⟨Nat.lt_of_lt_of_le fq15.1 hle, fq15.2⟩
    have fq21 : q21 < NN ∧ kcC q21 = 3 := ⟨Nat.lt_of_lt_of_le fq21.1 hle, fq21.2⟩
    have fq27 : q27 < NN ∧ kcC q27 = 3 := ⟨Nat.lt_of_lt_of_le fq27.1 hle, fq27.2⟩
    have hag : NN0 ≤ NN ∧ ∀ o : Nat, o < NN0 → ad o = ad0 o := ⟨Nat.le_trans hag.1 hle, fun o h => (hg o (Nat.lt_of_lt_of_le h hag.1)).trans (hag.2 o h)⟩
    have hNN : 152 ≤ NN := Nat.le_trans hNN hle
    clear hg hle
    obtain ⟨cells, ec⟩ : ∃ z, z = cells + k28 := ⟨_, rfl⟩
    obtain ⟨slots, es⟩ : ∃ z, z = slots + n29 := ⟨_, rfl⟩
    first | rw [← ec, ← es] | rw [Nat.add_zero, Nat.add_zero, ← ec, ← es]
    have hRc : cells + k30 ≤ R.cells := by omega
    have hRs : slots + n31 ≤ R.slots := by omega
    clear ec es hB ht hF hz1 hk1 hvm ek28 en29
    refine lv_aload_n hx hb d_Wrt_begin_152 rfl (lv_at hl 0 rfl) ?_
    refine w_getf (q := (stC o 1)) (k := 1) (t := 5) (C := R_Wrt) (T := F_Wrt) (N := 20) hx hb hT hown hK hW fo.1 fo.2 (by decide) in_Wrt rfl rfl (by decide) rfl fr_Wrt_1 w_2_52 d_Wrt_begin_153 rfl ?_
    refine lv_aload_n hx hb d_Wrt_begin_156 rfl (lv_at hl 0 rfl) ?_
    obtain ⟨q33, hq33, hw⟩ := hw
    refine w_getr (q := q33) (k := 5) (t := 5) (C := R_Wrt) (T := F_Wrt) (N := 20) hx hb hT hown hK hW fo.1 fo.2 (by decide) in_Wrt rfl rfl (by decide) rfl fr_Wrt_5 w_2_56 d_Wrt_begin_157 hq33 (fun aq33 bq33 => ?_)
    have fq33 : q33 < NN ∧ kcC q33 = 3 := ⟨aq33, bq33⟩
    refine w_getf (q := (stC q33 12)) (k := 12) (t := 3) (C := R_Sch) (T := F_Sch) (N := 13) hx hb hT hown hK hW fq33.1 fq33.2 (by decide) in_Sch rfl rfl (by decide) rfl fr_Sch_12 w_1_188 d_Wrt_begin_160 rfl ?_
    refine lv_iload hx hb d_Wrt_begin_163 (lv_at hl 4 rfl) ?_
    refine lv_bipush (v := 16) hx hb d_Wrt_begin_165 (by decide) ?_
    refine lv_imul hx hb d_Wrt_begin_167 ?_
    refine lv_aload_n hx hb d_Wrt_begin_168 rfl (lv_at hl 0 rfl) ?_
    obtain ⟨q34, hq34, hw⟩ := hw
    refine w_getr (q := q34) (k := 5) (t := 5) (C := R_Wrt) (T := F_Wrt) (N := 20) hx hb hT hown hK hW fo.1 fo.2 (by decide) in_Wrt rfl rfl (by decide) rfl fr_Wrt_5 w_2_56 d_Wrt_begin_169 hq34 (fun aq34 bq34 => ?_)
    have fq34 : q34 < NN ∧ kcC q34 = 3 := ⟨aq34, bq34⟩
    refine w_getf (q := (stC q34 11)) (k := 11) (t := 3) (C := R_Sch) (T := F_Sch) (N := 13) hx hb hT hown hK hW fq34.1 fq34.2 (by decide) in_Sch rfl rfl (by decide) rfl fr_Sch_11 w_1_185 d_Wrt_begin_172 rfl ?_
    refine lv_iload hx hb d_Wrt_begin_175 (lv_at hl 4 rfl) ?_
    obtain ⟨hi, hw⟩ := hw
    refine w_iald (o := (stC q34 11)) hx hb hK hW (st_ty hNN fq34.1 fq34.2 rfl).1 (st_ty hNN fq34.1 fq34.2 rfl).2 hi d_Wrt_begin_177 ?_
    obtain ⟨k35, n36, k37, n38, ek35, en36, hw⟩ := hw
    have hF := hW.free hS hA
    refine va_callv (va_runV (C := R_Snk) (As := [.ref (ad (stC q33 12)), .int (l4 * 16), .int (rA x32 (stC q34 11) l4)]) (rest := []) ⟨hx, hb, hml, hown, hT⟩ (k_Snk_putAll l dC dI cI cB cJ cZ ad NN E tM tC kK kV hNN H.size (stC o 1) (stC q33 12) (l4 * 16) (rA x32 (stC q34 11) l4) k35 n36 x32 (st_ty hNN fo.1 fo.2 rfl) (st_ty hNN fq33.1 fq33.2 rfl) hw) ⟨callB_of 3 hT (gwt_in w_5_138) rfl rfl rfl (hT _ w_1_2) (hT _ w_5_135) (by decide +kernel) ⟨Nat.le_trans (Nat.le_of_ble_eq_true rfl) hRf, Nat.le_trans (Nat.le_of_ble_eq_true rfl) hRl⟩, hT _ w_5_136, hT _ w_5_137⟩ ⟨PVc.blind, va_recv hK hW.1 (ci := 1) (q0 := (stC o 1)) rfl (pic_obj (st_ty hNN fo.1 fo.2 rfl).1 (st_ty hNN fo.1 fo.2 rfl).2 (by decide)), PVc.at _ hW hK hN hE hS hF⟩ rfl rfl hl.1 rfl (lv_room (Nat.le_of_ble_eq_true rfl)) d_Wrt_begin_178 ⟨show cells + k35 ≤ R.cells by omega, show slots + n36 ≤ R.slots by omega⟩) hS (fun q _ h => hF q h) hF (fun  x39 t H locs ht hvm hw hB hz1 hk1 hS => ?_)
    obtain ⟨x39, ad, NN⟩ := x39
    obtain ⟨hB, hle, hg⟩ := hB
    try dsimp only at hw hB hle hg
    have hW := Wd.back hB ht hF
    rw [← hg o fo.1] at hl
    rw [← hg l1 fl1.1] at hl
    rw [← hg l2 fl2.1] at hl
    have fl1 : l1 < NN ∧ kcC l1 = 3 := ⟨Nat.lt_of_lt_of_le fl1.1 hle, fl1.2⟩
    have fl2 : l2 < NN ∧ kcC l2 = 4 := ⟨Nat.lt_of_lt_of_le fl2.1 hle, fl2.2⟩
    have fo : o < NN ∧ kcC o = 5 := ⟨Nat.lt_of_lt_of_le fo.1 hle, fo.2⟩
    have fq1 : q1 < NN ∧ kcC q1 = 3 := ⟨Nat.lt_of_lt_of_le fq1.1 hle, fq1.2⟩
    have fq14 : q14 < NN ∧ kcC q14 = 3 := ⟨Nat.lt_of_lt_of_le fq14.1 hle, fq14.2⟩
    have fq15 : q15 < NN ∧ kcC q15 = 3 := ⟨Nat.lt_of_lt_of_le fq15.1 hle, fq15.2⟩
    have fq21 : q21 < NN ∧ kcC q21 = 3 := ⟨Nat.lt_of_lt_of_le fq21.1 hle, fq21.2⟩
    have fq27 : q27 < NN ∧ kcC q27 = 3 := ⟨Nat.lt_of_lt_of_le fq27.1 hle, fq27.2⟩
    have fq33 : q33 < NN ∧ kcC q33 = 3 := ⟨Nat.lt_of_lt_of_le fq33.1 hle, fq33.2⟩
    have fq34 : q34 < NN ∧ kcC q34 = 3 := ⟨Nat.lt_of_lt_of_le fq34.1 hle, fq34.2⟩
    have hag : NN0 ≤ NN ∧ ∀ o : Nat, o < NN0 → ad o = ad0 o := ⟨Nat.le_trans hag.1 hle, fun o h => (hg o (Nat.lt_of_lt_of_le h hag.1)).trans (hag.2 o h)⟩
    have hNN : 152 ≤ NN := Nat.le_trans hNN hle
    clear hg hle
    obtain ⟨cells, ec⟩ : ∃ z, z = cells + k35 := ⟨_, rfl⟩
    obtain ⟨slots, es⟩ : ∃ z, z = slots + n36 := ⟨_, rfl⟩
    first | rw [← ec, ← es] | rw [Nat.add_zero, Nat.add_zero, ← ec, ← es]
    have hRc : cells + k37 ≤ R.cells := by omega
    have hRs : slots + n38 ≤ R.slots := by omega
    clear ec es hB ht hF hz1 hk1 hvm ek35 en36
    refine lv_iinc (v := (l4 + 1)) (lv' := [(4, .int (l4 + 1)), (0, .ref (ad o)), (1, .ref (ad l1)), (2, .ref (ad l2)), (3, .int l3)]) hx hb d_Wrt_begin_181 hl (k := 4) rfl rfl (by decide) rfl (fun ls hl => ?_)
    refine lv_goto (tgt := 72) hx hb d_Wrt_begin_184 (by decide) ?_
    exact hrec72 ad NN cells slots o l1 l2 l3 (l4 + 1) k37 n38 x39 H locs ls hNN hag hRc hRs fo fl1 fl2 hw hW hS (lv_sub hl [1, 2, 3, 4, 0] rfl)
set_option maxHeartbeats 4000000 in
set_option maxRecDepth 100000 in
theorem tl_Wrt_begin_72 {p : Program} {l : Launch} {e : Env} {R : Room} {s : State} {m : MethodId} {args : Array Value} {below : List Frame} {meth : Method} {c : Code} {Q : State → Prop} {dC : Nat → ClassId} {dI : Nat → Nat → Nat} {cI cB cJ cZ : ClassId} {A : Nat → Prop} {E : Heap} {tM tC : Nat} {kK kV : Nat → Nat} {ad0 : Nat → Nat} {NN0 : Nat} {post : St → Prop} (hx : p.tables.exec = Jvm.exec) (hb : c.code = b_Wrt_begin) (hml : c.maxLocals = 5) (hown : s.vm.findClass R_Wrt = some m.cls) (hT : ∀ w ∈ TG, w.before args s = true) (hK : va_K (dC, dI) CL (TY cI cB cJ cZ) s) (hN : NW s) (hA : ∀ q : Nat, s.heap.size ≤ q → A q) (hRf : 4 ≤ R.frames) (hRl : 247 ≤ R.locals) (hE : CE E tM tC kK kV A s) (hret : ∀ (ad : Nat → Nat) (NN cells slots : Nat) (x : St) (H : Heap) (locs : List Loc) (pc : Nat) (ls : Array Slot), decode b_Wrt_begin pc = .ok (.return_, 1) → (NN0 ≤ NN ∧ ∀ o : Nat, o < NN0 → ad o = ad0 o) → cells ≤ R.cells → slots ≤ R.slots → post x → Wd dC dI cI cB cJ cZ ad stC kcC NN A x H → va_S A s.heap H locs → W p l e R s m args below meth c H locs cells slots Q (F0 m pc ls []))  : ∀ n : Nat, ∀ (ad : Nat → Nat) (NN cells slots : Nat) (o : Nat) (l1 : Nat) (l2 : Nat) (l3 : Int32) (l4 : Int32) (kb : Nat) (nb : Nat) (x : St) (H : Heap) (locs : List Loc) (ls : Array Slot), (152 ≤ NN) → (NN0 ≤ NN ∧ ∀ o : Nat, o < NN0 → ad o = ad0 o) → (cells + kb ≤ R.cells) → (slots + nb ≤ R.slots) → (o < NN ∧ kcC o = 5) → (l1 < NN ∧ kcC l1 = 3) → (l2 < NN ∧ kcC l2 = 4) → wl_Wrt_begin_72 post n o l1 l2 l3 l4 kb nb x → Wd dC dI cI cB cJ cZ ad stC kcC NN A x H → va_S A s.heap H locs → lv_has ls 5 [(0, .ref (ad o)), (1, .ref (ad l1)), (2, .ref (ad l2)), (3, .int l3), (4, .int l4)] → W p l e R s m args below meth c H locs cells slots Q (F0 m 72 ls []) := by
  intro n
  induction n with
  | zero => intro ad NN cells slots o l1 l2 l3 l4 kb nb x H locs ls hNN hag hRc hRs fo fl1 fl2 hw; exact hw.elim
  | succ n ih => intro ad NN cells slots o l1 l2 l3 l4 kb nb x H locs ls hNN hag hRc hRs fo fl1 fl2 hw hW hS hl; exact t_Wrt_begin_72 hx hb hml hown hT hK hN hA hRf hRl hE hret  ih ad NN cells slots o l1 l2 l3 l4 kb nb x H locs ls hNN hag hRc hRs fo fl1 fl2 hw hW hS hl
set_option maxRecDepth 100000 in
set_option maxHeartbeats 4000000 in
set_option maxRecDepth 100000 in
theorem t_Wrt_begin_e {p : Program} {l : Launch} {e : Env} {R : Room} {s : State} {m : MethodId} {args : Array Value} {below : List Frame} {meth : Method} {c : Code} {Q : State → Prop} {dC : Nat → ClassId} {dI : Nat → Nat → Nat} {cI cB cJ cZ : ClassId} {A : Nat → Prop} {E : Heap} {tM tC : Nat} {kK kV : Nat → Nat} {ad0 : Nat → Nat} {NN0 : Nat} {post : St → Prop} (hx : p.tables.exec = Jvm.exec) (hb : c.code = b_Wrt_begin) (hml : c.maxLocals = 5) (hown : s.vm.findClass R_Wrt = some m.cls) (hT : ∀ w ∈ TG, w.before args s = true) (hK : va_K (dC, dI) CL (TY cI cB cJ cZ) s) (hN : NW s) (hA : ∀ q : Nat, s.heap.size ≤ q → A q) (hRf : 4 ≤ R.frames) (hRl : 247 ≤ R.locals) (hE : CE E tM tC kK kV A s) (hret : ∀ (ad : Nat → Nat) (NN cells slots : Nat) (x : St) (H : Heap) (locs : List Loc) (pc : Nat) (ls : Array Slot), decode b_Wrt_begin pc = .ok (.return_, 1) → (NN0 ≤ NN ∧ ∀ o : Nat, o < NN0 → ad o = ad0 o) → cells ≤ R.cells → slots ≤ R.slots → post x → Wd dC dI cI cB cJ cZ ad stC kcC NN A x H → va_S A s.heap H locs → W p l e R s m args below meth c H locs cells slots Q (F0 m pc ls [])) : ∀ (ad : Nat → Nat) (NN cells slots : Nat) (o : Nat) (l1 : Nat) (l2 : Nat) (l3 : Int32) (kb : Nat) (nb : Nat) (x : St) (H : Heap) (locs : List Loc) (ls : Array Slot), (152 ≤ NN) → (NN0 ≤ NN ∧ ∀ o : Nat, o < NN0 → ad o = ad0 o) → (cells + kb ≤ R.cells) → (slots + nb ≤ R.slots) → (o < NN ∧ kcC o = 5) → (l1 < NN ∧ kcC l1 = 3) → (l2 < NN ∧ kcC l2 = 4) → wp_Wrt_begin post o l1 l2 l3 kb nb x → Wd dC dI cI cB cJ cZ ad stC kcC NN A x H → va_S A s.heap H locs → lv_has ls 5 [(0, .ref (ad o)), (1, .ref (ad l1)), (2, .ref (ad l2)), (3, .int l3)] → W p l e R s m args below meth c H locs cells slots Q (F0 m 0 ls []) := by
  intro ad NN cells slots o l1 l2 l3 kb nb x H locs ls hNN hag hRc hRs fo fl1 fl2 hw hW hS hl
  unfold wp_Wrt_begin at hw
  refine lv_aload_n hx hb d_Wrt_begin_0 rfl (lv_at hl 0 rfl) ?_
  refine lv_aload_n hx hb d_Wrt_begin_1 rfl (lv_at hl 1 rfl) ?_
  refine w_putr (q := l1) (ty := .object "StripedVault$Schema") (k := 5) (t := 5) (C := R_Wrt) (T := F_Wrt) (N := 20) hx hb hT hown hK hW hS fo.1 fo.2 (by decide) in_Wrt t_Wrt t_Wrt_ok n_Wrt rfl rfl (by decide) rfl fr_Wrt_5 w_2_56 (by decide +kernel) rfl rfl fl1.1 fl1.2 d_Wrt_begin_2 (fun H locs hW hS => ?_)
  obtain ⟨x40, ex40⟩ : ∃ y : St, y = setR x o 5 (some l1) := ⟨_, rfl⟩
  rw [← ex40] at hW
  have hw := hw x40 ex40
  refine lv_aload_n hx hb d_Wrt_begin_5 rfl (lv_at hl 0 rfl) ?_
  refine lv_aload_n hx hb d_Wrt_begin_6 rfl (lv_at hl 2 rfl) ?_
  refine w_putr (q := l2) (ty := .object "StripedVault$Records") (k := 6) (t := 5) (C := R_Wrt) (T := F_Wrt) (N := 20) hx hb hT hown hK hW hS fo.1 fo.2 (by decide) in_Wrt t_Wrt t_Wrt_ok n_Wrt rfl rfl (by decide) rfl fr_Wrt_6 w_2_57 (by decide +kernel) rfl rfl fl2.1 fl2.2 d_Wrt_begin_7 (fun H locs hW hS => ?_)
  obtain ⟨x41, ex41⟩ : ∃ y : St, y = setR x40 o 6 (some l2) := ⟨_, rfl⟩
  rw [← ex41] at hW
  have hw := hw x41 ex41
  refine lv_aload_n hx hb d_Wrt_begin_10 rfl (lv_at hl 0 rfl) ?_
  obtain ⟨q42, hq42, hw⟩ := hw
  refine w_getr (q := q42) (k := 6) (t := 5) (C := R_Wrt) (T := F_Wrt) (N := 20) hx hb hT hown hK hW fo.1 fo.2 (by decide) in_Wrt rfl rfl (by decide) rfl fr_Wrt_6 w_2_57 d_Wrt_begin_11 hq42 (fun aq42 bq42 => ?_)
  have fq42 : q42 < NN ∧ kcC q42 = 4 := ⟨aq42, bq42⟩
  refine w_getf (q := (stC q42 10)) (k := 10) (t := 4) (C := R_Rec) (T := F_Rec) (N := 15) hx hb hT hown hK hW fq42.1 fq42.2 (by decide) in_Rec rfl rfl (by decide) rfl fr_Rec_10 w_2_4 d_Wrt_begin_14 rfl ?_
  refine lv_iconst (v := 0) hx hb d_Wrt_begin_17 (by decide) ?_
  refine lv_aload_n hx hb d_Wrt_begin_18 rfl (lv_at hl 0 rfl) ?_
  refine w_getf (q := (stC o 7)) (k := 7) (t := 5) (C := R_Wrt) (T := F_Wrt) (N := 20) hx hb hT hown hK hW fo.1 fo.2 (by decide) in_Wrt rfl rfl (by decide) rfl fr_Wrt_7 w_2_58 d_Wrt_begin_19 rfl ?_
  refine lv_iconst (v := 0) hx hb d_Wrt_begin_22 (by decide) ?_
  refine lv_bipush (v := 64) hx hb d_Wrt_begin_23 (by decide) ?_
  obtain ⟨⟨h1, h2, h3, h4, h5, h6⟩, hw⟩ := hw
  refine va_copyi (a := ad (stC o 7)) (a0 := ad (stC q42 10)) hx hb (hml.trans hl.1.symm) hown (hT _ w_5_131) (hT _ w_4_73) (hT _ w_4_72) (hT _ w_1_16) hK hW.1 hW.2.1 hS (stC q42 10) (stC o 7) 0 0 (pic_int (st_ty hNN fq42.1 fq42.2 rfl).1 (st_ty hNN fq42.1 fq42.2 rfl).2) (pic_int (st_ty hNN fo.1 fo.2 rfl).1 (st_ty hNN fo.1 fo.2 rfl).2) rfl rfl rfl h1 h2 h3 h4 h5 h6 (Nat.le_trans (by decide) hRf) (Nat.le_trans (Nat.le_of_ble_eq_true rfl) hRl) d_Wrt_begin_25 (fun H locs hP hD hS => ?_)
  have hW := Wd.rowi (st_ty hNN fo.1 fo.2 rfl).1 (st_ty hNN fo.1 fo.2 rfl).2 hP hD hW.2.2
  obtain ⟨x43, ex43⟩ : ∃ y : St, y = setW x41 (stC o 7) (va_cpy (fA x41 (stC q42 10)) (fA x41 (stC o 7)) (0 : Int32).toNatClampNeg (0 : Int32).toNatClampNeg (64 : Int32).toNatClampNeg) := ⟨_, rfl⟩
  rw [← ex43] at hW
  have hw := hw x43 ex43
  refine lv_aload_n hx hb d_Wrt_begin_28 rfl (lv_at hl 0 rfl) ?_
  obtain ⟨q44, hq44, hw⟩ := hw
  refine w_getr (q := q44) (k := 0) (t := 5) (C := R_Wrt) (T := F_Wrt) (N := 20) hx hb hT hown hK hW fo.1 fo.2 (by decide) in_Wrt rfl rfl (by decide) rfl fr_Wrt_0 w_2_51 d_Wrt_begin_29 hq44 (fun aq44 bq44 => ?_)
  have fq44 : q44 < NN ∧ kcC q44 = 1 := ⟨aq44, bq44⟩
  have hF := hW.free hS hA
  refine va_callv (va_runV (C := R_Snk) (As := []) (rest := []) ⟨hx, hb, hml, hown, hT⟩ (k_Snk_forget l dC dI cI cB cJ cZ ad NN E tM tC kK kV hNN H.size q44 x43 fq44 hw) ⟨callB_of 0 hT (gwt_in w_4_81) rfl rfl rfl (hT _ w_1_2) (hT _ w_5_132) (by decide +kernel) ⟨Nat.le_trans (Nat.le_of_ble_eq_true rfl) hRf, Nat.le_trans (Nat.le_of_ble_eq_true rfl) hRl⟩, hT _ w_4_79, hT _ w_4_80⟩ ⟨PVc.blind, va_recv hK hW.1 (ci := 1) (q0 := q44) rfl (pic_obj fq44.1 fq44.2 (by decide)), PVc.at _ hW hK hN hE hS hF⟩ rfl rfl hl.1 rfl (lv_room (Nat.le_of_ble_eq_true rfl)) d_Wrt_begin_32 ⟨(Nat.le_trans (Nat.le_add_right _ _) hRc), (Nat.le_trans (Nat.le_add_right _ _) hRs)⟩) hS (fun q _ h => hF q h) hF (fun  x45 t H locs ht hvm hw hB hz1 hk1 hS => ?_)
  have hW := Wd.back hB ht hF
  clear hB ht hF hz1 hk1 hvm
  refine lv_aload_n hx hb d_Wrt_begin_35 rfl (lv_at hl 0 rfl) ?_
  obtain ⟨q46, hq46, hw⟩ := hw
  refine w_getr (q := q46) (k := 0) (t := 5) (C := R_Wrt) (T := F_Wrt) (N := 20) hx hb hT hown hK hW fo.1 fo.2 (by decide) in_Wrt rfl rfl (by decide) rfl fr_Wrt_0 w_2_51 d_Wrt_begin_36 hq46 (fun aq46 bq46 => ?_)
  have fq46 : q46 < NN ∧ kcC q46 = 1 := ⟨aq46, bq46⟩
  refine va_getsN hx hb hE.zM hS hown (va_Nw.use rfl (hN _ wn_5_133 rfl)) (fun _ h => h) d_Wrt_begin_39 ?_
  refine lv_iconst (v := 0) hx hb d_Wrt_begin_42 (by decide) ?_
  refine lv_iconst (v := 4) hx hb d_Wrt_begin_43 (by decide) ?_
  obtain ⟨k47, n48, k49, n50, ek47, en48, hw⟩ := hw
  have hF := hW.free hS hA
  refine va_callv (va_runV (C := R_Snk) (As := [.ref tM, .int 0, .int 4]) (rest := []) ⟨hx, hb, hml, hown, hT⟩ (k_Snk_putAllT l dC dI cI cB cJ cZ ad NN E tM tC kK kV hNN H.size q46 0 4 k47 n48 x45 fq46 hw) ⟨callB_of 3 hT (gwt_in w_5_138) rfl rfl rfl (hT _ w_1_2) (hT _ w_5_135) (by decide +kernel) ⟨Nat.le_trans (Nat.le_of_ble_eq_true rfl) hRf, Nat.le_trans (Nat.le_of_ble_eq_true rfl) hRl⟩, hT _ w_5_136, hT _ w_5_137⟩ ⟨PVc.blind, va_recv hK hW.1 (ci := 1) (q0 := q46) rfl (pic_obj fq46.1 fq46.2 (by decide)), PVc.at _ hW hK hN hE hS hF⟩ rfl rfl hl.1 rfl (lv_room (Nat.le_of_ble_eq_true rfl)) d_Wrt_begin_44 ⟨show cells + k47 ≤ R.cells by omega, show slots + n48 ≤ R.slots by omega⟩) hS (fun q _ h => hF q h) hF (fun  x51 t H locs ht hvm hw hB hz1 hk1 hS => ?_)
  obtain ⟨x51, ad, NN⟩ := x51
  obtain ⟨hB, hle, hg⟩ := hB
  try dsimp only at hw hB hle hg
  have hW := Wd.back hB ht hF
  rw [← hg o fo.1] at hl
  rw [← hg l1 fl1.1] at hl
  rw [← hg l2 fl2.1] at hl
  have fl1 : l1 < NN ∧ kcC l1 = 3 := ⟨Nat.lt_of_lt_of_le fl1.1 hle, fl1.2⟩
  have fl2 : l2 < NN ∧ kcC l2 = 4 := ⟨Nat.lt_of_lt_of_le fl2.1 hle, fl2.2⟩
  have fo : o < NN ∧ kcC o = 5 := ⟨Nat.lt_of_lt_of_le fo.1 hle, fo.2⟩
  have fq42 : q42 < NN ∧ kcC q42 = 4 := ⟨Nat.lt_of_lt_of_le fq42.1 hle, fq42.2⟩
  have fq44 : q44 < NN ∧ kcC q44 = 1 := ⟨Nat.lt_of_lt_of_le fq44.1 hle, fq44.2⟩
  have fq46 : q46 < NN ∧ kcC q46 = 1 := ⟨Nat.lt_of_lt_of_le fq46.1 hle, fq46.2⟩
  have hag : NN0 ≤ NN ∧ ∀ o : Nat, o < NN0 → ad o = ad0 o := ⟨Nat.le_trans hag.1 hle, fun o h => (hg o (Nat.lt_of_lt_of_le h hag.1)).trans (hag.2 o h)⟩
  have hNN : 152 ≤ NN := Nat.le_trans hNN hle
  clear hg hle
  obtain ⟨cells, ec⟩ : ∃ z, z = cells + k47 := ⟨_, rfl⟩
  obtain ⟨slots, es⟩ : ∃ z, z = slots + n48 := ⟨_, rfl⟩
  first | rw [← ec, ← es] | rw [Nat.add_zero, Nat.add_zero, ← ec, ← es]
  have hRc : cells + k49 ≤ R.cells := by omega
  have hRs : slots + n50 ≤ R.slots := by omega
  clear ec es hB ht hF hz1 hk1 hvm ek47 en48
  refine lv_aload_n hx hb d_Wrt_begin_47 rfl (lv_at hl 0 rfl) ?_
  refine w_getf (q := (stC o 1)) (k := 1) (t := 5) (C := R_Wrt) (T := F_Wrt) (N := 20) hx hb hT hown hK hW fo.1 fo.2 (by decide) in_Wrt rfl rfl (by decide) rfl fr_Wrt_1 w_2_52 d_Wrt_begin_48 rfl ?_
  have hF := hW.free hS hA
  refine va_callv (va_runV (C := R_Snk) (As := []) (rest := []) ⟨hx, hb, hml, hown, hT⟩ (k_Snk_forget l dC dI cI cB cJ cZ ad NN E tM tC kK kV hNN H.size (stC o 1) x51 (st_ty hNN fo.1 fo.2 rfl) hw) ⟨callB_of 0 hT (gwt_in w_4_81) rfl rfl rfl (hT _ w_1_2) (hT _ w_5_132) (by decide +kernel) ⟨Nat.le_trans (Nat.le_of_ble_eq_true rfl) hRf, Nat.le_trans (Nat.le_of_ble_eq_true rfl) hRl⟩, hT _ w_4_79, hT _ w_4_80⟩ ⟨PVc.blind, va_recv hK hW.1 (ci := 1) (q0 := (stC o 1)) rfl (pic_obj (st_ty hNN fo.1 fo.2 rfl).1 (st_ty hNN fo.1 fo.2 rfl).2 (by decide)), PVc.at _ hW hK hN hE hS hF⟩ rfl rfl hl.1 rfl (lv_room (Nat.le_of_ble_eq_true rfl)) d_Wrt_begin_51 ⟨(Nat.le_trans (Nat.le_add_right _ _) hRc), (Nat.le_trans (Nat.le_add_right _ _) hRs)⟩) hS (fun q _ h => hF q h) hF (fun  x52 t H locs ht hvm hw hB hz1 hk1 hS => ?_)
  have hW := Wd.back hB ht hF
  clear hB ht hF hz1 hk1 hvm
  refine lv_aload_n hx hb d_Wrt_begin_54 rfl (lv_at hl 0 rfl) ?_
  refine w_getf (q := (stC o 1)) (k := 1) (t := 5) (C := R_Wrt) (T := F_Wrt) (N := 20) hx hb hT hown hK hW fo.1 fo.2 (by decide) in_Wrt rfl rfl (by decide) rfl fr_Wrt_1 w_2_52 d_Wrt_begin_55 rfl ?_
  refine lv_aload_n hx hb d_Wrt_begin_58 rfl (lv_at hl 0 rfl) ?_
  obtain ⟨q53, hq53, hw⟩ := hw
  refine w_getr (q := q53) (k := 5) (t := 5) (C := R_Wrt) (T := F_Wrt) (N := 20) hx hb hT hown hK hW fo.1 fo.2 (by decide) in_Wrt rfl rfl (by decide) rfl fr_Wrt_5 w_2_56 d_Wrt_begin_59 hq53 (fun aq53 bq53 => ?_)
  have fq53 : q53 < NN ∧ kcC q53 = 3 := ⟨aq53, bq53⟩
  refine w_geti (k := 0) (t := 3) (C := R_Sch) (T := F_Sch) (N := 13) hx hb hT hown hK hW fq53.1 fq53.2 (by decide) in_Sch rfl rfl (by decide) rfl fr_Sch_0 w_1_131 d_Wrt_begin_62 ?_
  refine lv_i2l hx hb d_Wrt_begin_65 rfl ?_
  obtain ⟨k54, n55, k56, n57, ek54, en55, hw⟩ := hw
  have hF := hW.free hS hA
  refine va_callv (va_runV (C := R_Snk) (As := [.long ((fI x52 q53 0) : Int32).toInt64]) (rest := []) ⟨hx, hb, hml, hown, hT⟩ (k_Snk_putVarint l dC dI cI cB cJ cZ ad NN E tM tC kK kV hNN H.size (stC o 1) ((fI x52 q53 0) : Int32).toInt64 k54 n55 x52 (st_ty hNN fo.1 fo.2 rfl) hw) ⟨callB_of 1 hT (gwt_in w_5_143) rfl rfl rfl (hT _ w_1_2) (hT _ w_5_140) (by decide +kernel) ⟨Nat.le_trans (Nat.le_of_ble_eq_true rfl) hRf, Nat.le_trans (Nat.le_of_ble_eq_true rfl) hRl⟩, hT _ w_5_141, hT _ w_5_142⟩ ⟨PVc.blind, va_recv hK hW.1 (ci := 1) (q0 := (stC o 1)) rfl (pic_obj (st_ty hNN fo.1 fo.2 rfl).1 (st_ty hNN fo.1 fo.2 rfl).2 (by decide)), PVc.at _ hW hK hN hE hS hF⟩ rfl rfl hl.1 rfl (lv_room (Nat.le_of_ble_eq_true rfl)) d_Wrt_begin_66 ⟨show cells + k54 ≤ R.cells by omega, show slots + n55 ≤ R.slots by omega⟩) hS (fun q _ h => hF q h) hF (fun  x58 t H locs ht hvm hw hB hz1 hk1 hS => ?_)
  obtain ⟨x58, ad, NN⟩ := x58
  obtain ⟨hB, hle, hg⟩ := hB
  try dsimp only at hw hB hle hg
  have hW := Wd.back hB ht hF
  rw [← hg o fo.1] at hl
  rw [← hg l1 fl1.1] at hl
  rw [← hg l2 fl2.1] at hl
  have fl1 : l1 < NN ∧ kcC l1 = 3 := ⟨Nat.lt_of_lt_of_le fl1.1 hle, fl1.2⟩
  have fl2 : l2 < NN ∧ kcC l2 = 4 := ⟨Nat.lt_of_lt_of_le fl2.1 hle, fl2.2⟩
  have fo : o < NN ∧ kcC o = 5 := ⟨Nat.lt_of_lt_of_le fo.1 hle, fo.2⟩
  have fq42 : q42 < NN ∧ kcC q42 = 4 := ⟨Nat.lt_of_lt_of_le fq42.1 hle, fq42.2⟩
  have fq44 : q44 < NN ∧ kcC q44 = 1 := ⟨Nat.lt_of_lt_of_le fq44.1 hle, fq44.2⟩
  have fq46 : q46 < NN ∧ kcC q46 = 1 := ⟨Nat.lt_of_lt_of_le fq46.1 hle, fq46.2⟩
  have fq53 : q53 < NN ∧ kcC q53 = 3 := ⟨Nat.lt_of_lt_of_le fq53.1 hle, fq53.2⟩
  have hag : NN0 ≤ NN ∧ ∀ o : Nat, o < NN0 → ad o = ad0 o := ⟨Nat.le_trans hag.1 hle, fun o h => (hg o (Nat.lt_of_lt_of_le h hag.1)).trans (hag.2 o h)⟩
  have hNN : 152 ≤ NN := Nat.le_trans hNN hle
  clear hg hle
  obtain ⟨cells, ec⟩ : ∃ z, z = cells + k54 := ⟨_, rfl⟩
  obtain ⟨slots, es⟩ : ∃ z, z = slots + n55 := ⟨_, rfl⟩
  first | rw [← ec, ← es] | rw [Nat.add_zero, Nat.add_zero, ← ec, ← es]
  have hRc : cells + k56 ≤ R.cells := by omega
  have hRs : slots + n57 ≤ R.slots := by omega
  clear ec es hB ht hF hz1 hk1 hvm ek54 en55
  refine lv_iconst (v := 0) hx hb d_Wrt_begin_69 (by decide) ?_
  refine lv_istore (lv' := [(4, .int 0), (0, .ref (ad o)), (1, .ref (ad l1)), (2, .ref (ad l2)), (3, .int l3)]) hx hb d_Wrt_begin_70 hl (by decide) rfl (fun ls hl => ?_)
  obtain ⟨n, hw⟩ := hw
  exact tl_Wrt_begin_72 hx hb hml hown hT hK hN hA hRf hRl hE hret  n ad NN cells slots o l1 l2 l3 0 k56 n57 x58 H locs ls hNN hag hRc hRs fo fl1 fl2 hw hW hS (lv_sub hl [1, 2, 3, 4, 0] rfl)
set_option maxHeartbeats 4000000 in
set_option maxRecDepth 100000 in
theorem k_Wrt_begin (l : Launch) (dC : Nat → ClassId) (dI : Nat → Nat → Nat) (cI cB cJ cZ : ClassId) (ad : Nat → Nat) (NN : Nat) (E : Heap) (tM tC : Nat) (kK kV : Nat → Nat) (hNN : 152 ≤ NN) (sz : Nat) (o : Nat) (l1 : Nat) (l2 : Nat) (l3 : Int32) (kb : Nat) (nb : Nat) (x : St) (fo : o < NN ∧ kcC o = 5) (fl1 : l1 < NN ∧ kcC l1 = 3) (fl2 : l2 < NN ∧ kcC l2 = 4) {post : St → Prop} (hw : wp_Wrt_begin post o l1 l2 l3 kb nb x) : Met l y_Wrt_begin (wsOf y_Wrt_begin b_Wrt_begin 5 (none)) ({ frames := 4, cells := kb, slots := nb, locals := 247 }) (va_Pc [.ref (ad o), .ref (ad l1), .ref (ad l2), .int l3] (PVc dC dI cI cB cJ cZ ad stC kcC NN E tM tC kK kV sz x)) (va_Qv (fun (u : St × (Nat → Nat) × Nat) => post u.1) (fun u t => Wd dC dI cI cB cJ cZ u.2.1 stC kcC u.2.2 (va_A (pic ad stC kcC NN cI cB cJ cZ x) sz) u.1 t.heap ∧ NN ≤ u.2.2 ∧ ∀ o : Nat, o < NN → u.2.1 o = ad o) (va_A (pic ad stC kcC NN cI cB cJ cZ x) sz)) kb nb (va_A (pic ad stC kcC NN cI cB cJ cZ x) sz) := by
  refine Met.ofW (cc := b_Wrt_begin) (maxL := 5) (ret := none) (by decide) rfl ?_
  intro p e s m args below meth c s₁ B hml hv
  obtain ⟨rfl, ⟨hsz, hW0, hK, hN⟩, hE⟩ := hv
  have hx := B.exec
  have hb := B.bytes
  have hr := B.returns
  have hts := atoms_spec B.pre
  have hT : ∀ w ∈ TG, w.before _ s = true := fun w h => hts w (List.mem_cons_of_mem _ h)
  have hown : s.vm.findClass R_Wrt = some m.cls := findClass_of_methodNamed B.named
  have hlocks := B.notSynchronized
  subst hsz
  have hW : Wd dC dI cI cB cJ cZ ad stC kcC NN (va_A (pic ad stC kcC NN cI cB cJ cZ x) s.heap.size) x s.heap := ⟨hW0.1, hW0.2.1.self (sz := s.heap.size), hW0.2.2⟩
  generalize hAe : va_A (pic ad stC kcC NN cI cB cJ cZ x) s.heap.size = A at hW hE ⊢
  have hA : ∀ q : Nat, s.heap.size ≤ q → A q := fun q h => by rw [← hAe]; exact Or.inr h
  have hS : va_S A s.heap s.heap [] := va_S.rf
  have hl := lv_entry ([.ref (ad o), .ref (ad l1), .ref (ad l2), .int l3]) (n := 5) (Nat.le_of_ble_eq_true rfl)
  rw [lg_entry_eq]
  generalize (lg_sl ([.ref (ad o), .ref (ad l1), .ref (ad l2), .int l3]) ++ List.replicate (5 - (lg_sl ([.ref (ad o), .ref (ad l1), .ref (ad l2), .int l3])).length) Slot.unset).toArray = ls at hl ⊢
  have hl : lv_has ls 5 [(0, .ref (ad o)), (1, .ref (ad l1)), (2, .ref (ad l2)), (3, .int l3)] := hl
  exact t_Wrt_begin_e hx hb hml hown hT hK hN hA (Nat.le_refl 4) (Nat.le_refl 247) hE (fun ad1 NN1 cells slots x1 H locs pc ls hd hag hc hs hp hW hS => W.widen (k := kb) (n := nb) hc hs (W.vret hx hb hr (fun t ht hM => ⟨⟨(x1, ad1, NN1), rfl, hp, Wd.back hW ht.symm (fun _ z => z), hag.1, hag.2⟩, hS.F ht⟩) hS.2.2 hd hlocks))  ad NN 0 0 o l1 l2 l3 kb nb x _ _ ls hNN ⟨Nat.le_refl _, fun _ _ => rfl⟩ (Nat.le_of_eq (Nat.zero_add kb)) (Nat.le_of_eq (Nat.zero_add nb)) fo fl1 fl2 hw hW hS hl
set_option maxRecDepth 100000 in
set_option maxHeartbeats 4000000 in
set_option maxRecDepth 100000 in
theorem t_Wrt_beginGroup_e {p : Program} {l : Launch} {e : Env} {R : Room} {s : State} {m : MethodId} {args : Array Value} {below : List Frame} {meth : Method} {c : Code} {Q : State → Prop} {dC : Nat → ClassId} {dI : Nat → Nat → Nat} {cI cB cJ cZ : ClassId} {A : Nat → Prop} {E : Heap} {tM tC : Nat} {kK kV : Nat → Nat} {ad0 : Nat → Nat} {NN0 : Nat} {post : St → Prop} (hx : p.tables.exec = Jvm.exec) (hb : c.code = b_Wrt_beginGroup) (hml : c.maxLocals = 2) (hown : s.vm.findClass R_Wrt = some m.cls) (hT : ∀ w ∈ TG, w.before args s = true) (hK : va_K (dC, dI) CL (TY cI cB cJ cZ) s) (hN : NW s) (hA : ∀ q : Nat, s.heap.size ≤ q → A q) (hRf : 4 ≤ R.frames) (hRl : 247 ≤ R.locals) (hE : CE E tM tC kK kV A s) (hret : ∀ (ad : Nat → Nat) (NN cells slots : Nat) (x : St) (H : Heap) (locs : List Loc) (pc : Nat) (ls : Array Slot), decode b_Wrt_beginGroup pc = .ok (.return_, 1) → (NN0 ≤ NN ∧ ∀ o : Nat, o < NN0 → ad o = ad0 o) → cells ≤ R.cells → slots ≤ R.slots → post x → Wd dC dI cI cB cJ cZ ad stC kcC NN A x H → va_S A s.heap H locs → W p l e R s m args below meth c H locs cells slots Q (F0 m pc ls [])) : ∀ (ad : Nat → Nat) (NN cells slots : Nat) (o : Nat) (l1 : Int32) (kb : Nat) (nb : Nat) (x : St) (H : Heap) (locs : List Loc) (ls : Array Slot), (152 ≤ NN) → (NN0 ≤ NN ∧ ∀ o : Nat, o < NN0 → ad o = ad0 o) → (cells + kb ≤ R.cells) → (slots + nb ≤ R.slots) → (o < NN ∧ kcC o = 5) → wp_Wrt_beginGroup post o l1 kb nb x → Wd dC dI cI cB cJ cZ ad stC kcC NN A x H → va_S A s.heap H locs → lv_has ls 2 [(0, .ref (ad o)), (1, .int l1)] → W p l e R s m args below meth c H locs cells slots Q (F0 m 0 ls []) := by
  intro ad NN cells slots o l1 kb nb x H locs ls hNN hag hRc hRs fo hw hW hS hl
  unfold wp_Wrt_beginGroup at hw
  refine lv_aload_n hx hb d_Wrt_beginGroup_0 rfl (lv_at hl 0 rfl) ?_
  refine w_getf (q := (stC o 1)) (k := 1) (t := 5) (C := R_Wrt) (T := F_Wrt) (N := 20) hx hb hT hown hK hW fo.1 fo.2 (by decide) in_Wrt rfl rfl (by decide) rfl fr_Wrt_1 w_2_52 d_Wrt_beginGroup_1 rfl ?_
  refine lv_iload_n hx hb d_Wrt_beginGroup_4 rfl (lv_at hl 1 rfl) ?_
  refine lv_i2l hx hb d_Wrt_beginGroup_5 rfl ?_
  obtain ⟨k1, n2, k3, n4, ek1, en2, hw⟩ := hw
  have hF := hW.free hS hA
  refine va_callv (va_runV (C := R_Snk) (As := [.long (l1 : Int32).toInt64]) (rest := []) ⟨hx, hb, hml, hown, hT⟩ (k_Snk_putVarint l dC dI cI cB cJ cZ ad NN E tM tC kK kV hNN H.size (stC o 1) (l1 : Int32).toInt64 k1 n2 x (st_ty hNN fo.1 fo.2 rfl) hw) ⟨callB_of 1 hT (gwt_in w_5_143) rfl rfl rfl (hT _ w_1_2) (hT _ w_5_140) (by decide +kernel) ⟨Nat.le_trans (Nat.le_of_ble_eq_true rfl) hRf, Nat.le_trans (Nat.le_of_ble_eq_true rfl) hRl⟩, hT _ w_5_141, hT _ w_5_142⟩ ⟨PVc.blind, va_recv hK hW.1 (ci := 1) (q0 := (stC o 1)) rfl (pic_obj (st_ty hNN fo.1 fo.2 rfl).1 (st_ty hNN fo.1 fo.2 rfl).2 (by decide)), PVc.at _ hW hK hN hE hS hF⟩ rfl rfl hl.1 rfl (lv_room (Nat.le_of_ble_eq_true rfl)) d_Wrt_beginGroup_6 ⟨show cells + k1 ≤ R.cells by omega, show slots + n2 ≤ R.slots by omega⟩) hS (fun q _ h => hF q h) hF (fun  x5 t H locs ht hvm hw hB hz1 hk1 hS => ?_)
  obtain ⟨x5, ad, NN⟩ := x5
  obtain ⟨hB, hle, hg⟩ := hB
  try dsimp only at hw hB hle hg
  have hW := Wd.back hB ht hF
  rw [← hg o fo.1] at hl
  have fo : o < NN ∧ kcC o = 5 := ⟨Nat.lt_of_lt_of_le fo.1 hle, fo.2⟩
  have hag : NN0 ≤ NN ∧ ∀ o : Nat, o < NN0 → ad o = ad0 o := ⟨Nat.le_trans hag.1 hle, fun o h => (hg o (Nat.lt_of_lt_of_le h hag.1)).trans (hag.2 o h)⟩
  have hNN : 152 ≤ NN := Nat.le_trans hNN hle
  clear hg hle
  obtain ⟨cells, ec⟩ : ∃ z, z = cells + k1 := ⟨_, rfl⟩
  obtain ⟨slots, es⟩ : ∃ z, z = slots + n2 := ⟨_, rfl⟩
  first | rw [← ec, ← es] | rw [Nat.add_zero, Nat.add_zero, ← ec, ← es]
  have hRc : cells + k3 ≤ R.cells := by omega
  have hRs : slots + n4 ≤ R.slots := by omega
  clear ec es hB ht hF hz1 hk1 hvm ek1 en2
  exact hret ad NN cells slots x5 H locs 9 ls d_Wrt_beginGroup_9 hag (Nat.le_trans (Nat.le_add_right _ _) hRc) (Nat.le_trans (Nat.le_add_right _ _) hRs) hw hW hS
set_option maxHeartbeats 4000000 in
set_option maxRecDepth 100000 in
theorem k_Wrt_beginGroup (l : Launch) (dC : Nat → ClassId) (dI : Nat → Nat → Nat) (cI cB cJ cZ : ClassId) (ad : Nat → Nat) (NN : Nat) (E : Heap) (tM tC : Nat) (kK kV : Nat → Nat) (hNN : 152 ≤ NN) (sz : Nat) (o : Nat) (l1 : Int32) (kb : Nat) (nb : Nat) (x : St) (fo : o < NN ∧ kcC o = 5) {post : St → Prop} (hw : wp_Wrt_beginGroup post o l1 kb nb x) : Met l y_Wrt_beginGroup (wsOf y_Wrt_beginGroup b_Wrt_beginGroup 2 (none)) ({ frames := 4, cells := kb, slots := nb, locals := 247 }) (va_Pc [.ref (ad o), .int l1] (PVc dC dI cI cB cJ cZ ad stC kcC NN E tM tC kK kV sz x)) (va_Qv (fun (u : St × (Nat → Nat) × Nat) => post u.1) (fun u t => Wd dC dI cI cB cJ cZ u.2.1 stC kcC u.2.2 (va_A (pic ad stC kcC NN cI cB cJ cZ x) sz) u.1 t.heap ∧ NN ≤ u.2.2 ∧ ∀ o : Nat, o < NN → u.2.1 o = ad o) (va_A (pic ad stC kcC NN cI cB cJ cZ x) sz)) kb nb (va_A (pic ad stC kcC NN cI cB cJ cZ x) sz) := by
  refine Met.ofW (cc := b_Wrt_beginGroup) (maxL := 2) (ret := none) (by decide) rfl ?_
  intro p e s m args below meth c s₁ B hml hv
  obtain ⟨rfl, ⟨hsz, hW0, hK, hN⟩, hE⟩ := hv
  have hx := B.exec
  have hb := B.bytes
  have hr := B.returns
  have hts := atoms_spec B.pre
  have hT : ∀ w ∈ TG, w.before _ s = true := fun w h => hts w (List.mem_cons_of_mem _ h)
  have hown : s.vm.findClass R_Wrt = some m.cls := findClass_of_methodNamed B.named
  have hlocks := B.notSynchronized
  subst hsz
  have hW : Wd dC dI cI cB cJ cZ ad stC kcC NN (va_A (pic ad stC kcC NN cI cB cJ cZ x) s.heap.size) x s.heap := ⟨hW0.1, hW0.2.1.self (sz := s.heap.size), hW0.2.2⟩
  generalize hAe : va_A (pic ad stC kcC NN cI cB cJ cZ x) s.heap.size = A at hW hE ⊢
  have hA : ∀ q : Nat, s.heap.size ≤ q → A q := fun q h => by rw [← hAe]; exact Or.inr h
  have hS : va_S A s.heap s.heap [] := va_S.rf
  have hl := lv_entry ([.ref (ad o), .int l1]) (n := 2) (Nat.le_of_ble_eq_true rfl)
  rw [lg_entry_eq]
  generalize (lg_sl ([.ref (ad o), .int l1]) ++ List.replicate (2 - (lg_sl ([.ref (ad o), .int l1])).length) Slot.unset).toArray = ls at hl ⊢
  have hl : lv_has ls 2 [(0, .ref (ad o)), (1, .int l1)] := hl
  exact t_Wrt_beginGroup_e hx hb hml hown hT hK hN hA (Nat.le_refl 4) (Nat.le_refl 247) hE (fun ad1 NN1 cells slots x1 H locs pc ls hd hag hc hs hp hW hS => W.widen (k := kb) (n := nb) hc hs (W.vret hx hb hr (fun t ht hM => ⟨⟨(x1, ad1, NN1), rfl, hp, Wd.back hW ht.symm (fun _ z => z), hag.1, hag.2⟩, hS.F ht⟩) hS.2.2 hd hlocks))  ad NN 0 0 o l1 kb nb x _ _ ls hNN ⟨Nat.le_refl _, fun _ _ => rfl⟩ (Nat.le_of_eq (Nat.zero_add kb)) (Nat.le_of_eq (Nat.zero_add nb)) fo hw hW hS hl
set_option maxRecDepth 100000 in
set_option maxHeartbeats 4000000 in
set_option maxRecDepth 100000 in
theorem t_Snk_putText_e {p : Program} {l : Launch} {e : Env} {R : Room} {s : State} {m : MethodId} {args : Array Value} {below : List Frame} {meth : Method} {c : Code} {Q : State → Prop} {dC : Nat → ClassId} {dI : Nat → Nat → Nat} {cI cB cJ cZ : ClassId} {A : Nat → Prop} {E : Heap} {tM tC : Nat} {kK kV : Nat → Nat} {ad0 : Nat → Nat} {NN0 : Nat} {post : St → Prop} (hx : p.tables.exec = Jvm.exec) (hb : c.code = b_Snk_putText) (hml : c.maxLocals = 4) (hown : s.vm.findClass R_Snk = some m.cls) (hT : ∀ w ∈ TG, w.before args s = true) (hK : va_K (dC, dI) CL (TY cI cB cJ cZ) s) (hN : NW s) (hA : ∀ q : Nat, s.heap.size ≤ q → A q) (hRf : 4 ≤ R.frames) (hRl : 247 ≤ R.locals) (hE : CE E tM tC kK kV A s) (hret : ∀ (ad : Nat → Nat) (NN cells slots : Nat) (x : St) (H : Heap) (locs : List Loc) (pc : Nat) (ls : Array Slot), decode b_Snk_putText pc = .ok (.return_, 1) → (NN0 ≤ NN ∧ ∀ o : Nat, o < NN0 → ad o = ad0 o) → cells ≤ R.cells → slots ≤ R.slots → post x → Wd dC dI cI cB cJ cZ ad stC kcC NN A x H → va_S A s.heap H locs → W p l e R s m args below meth c H locs cells slots Q (F0 m pc ls [])) : ∀ (ad : Nat → Nat) (NN cells slots : Nat) (o : Nat) (l1 : Nat) (l2 : Int64) (kb : Nat) (nb : Nat) (x : St) (H : Heap) (locs : List Loc) (ls : Array Slot), (152 ≤ NN) → (NN0 ≤ NN ∧ ∀ o : Nat, o < NN0 → ad o = ad0 o) → (cells + kb ≤ R.cells) → (slots + nb ≤ R.slots) → (o < NN ∧ kcC o = 1) → (l1 < NN ∧ kcC l1 = 21) → wp_Snk_putText post o l1 l2 kb nb x → Wd dC dI cI cB cJ cZ ad stC kcC NN A x H → va_S A s.heap H locs → lv_has ls 4 [(0, .ref (ad o)), (1, .ref (ad l1)), (2, .long l2)] → W p l e R s m args below meth c H locs cells slots Q (F0 m 0 ls []) := by
  intro ad NN cells slots o l1 l2 kb nb x H locs ls hNN hag hRc hRs fo fl1 hw hW hS hl
  unfold wp_Snk_putText at hw
  refine lv_aload_n hx hb d_Snk_putText_0 rfl (lv_at hl 0 rfl) ?_
  refine lv_lload_n hx hb d_Snk_putText_1 rfl (lv_at hl 2 rfl) ?_
  have hF := hW.free hS hA
  refine va_calli (va_runSN (As := [.long l2]) (rest := [.ref (ad o)]) ⟨hx, hb, hml, hown, hT⟩ (k_V_sizeOf l dC dI cI cB cJ cZ ad NN E tM tC kK kV hNN H.size l2 x  hw) ⟨va_cnB 1 hT (gwt_in w_5_161) rfl rfl rfl (hN _ wn_5_179 rfl) (hT _ w_1_1) (by decide +kernel) ⟨Nat.le_trans (Nat.le_of_ble_eq_true rfl) hRf, Nat.le_trans (Nat.le_of_ble_eq_true rfl) hRl⟩, hT _ w_5_160, trivial⟩ ⟨PVc.blind, PVc.at _ hW hK hN hE hS hF⟩ rfl rfl hl.1 rfl (lv_room (Nat.le_of_ble_eq_true rfl)) d_Snk_putText_2 ⟨(Nat.le_trans (Nat.le_add_right _ _) hRc), (Nat.le_trans (Nat.le_add_right _ _) hRs)⟩) hS (fun q _ h => hF q h) hF (fun r2 x1 t H locs ht hvm hw hB hz1 hk1 hS => ?_)
  have hW := Wd.back hB ht hF
  clear hB ht hF hz1 hk1 hvm
  refine lv_i2l hx hb d_Snk_putText_5 rfl ?_
  obtain ⟨k3, n4, k5, n6, ek3, en4, hw⟩ := hw
  have hF := hW.free hS hA
  refine va_callv (va_runV (C := R_Snk) (As := [.long (r2 : Int32).toInt64]) (rest := []) ⟨hx, hb, hml, hown, hT⟩ (k_Snk_putVarint l dC dI cI cB cJ cZ ad NN E tM tC kK kV hNN H.size o (r2 : Int32).toInt64 k3 n4 x1 fo hw) ⟨callB_of 1 hT (gwt_in w_5_143) rfl rfl rfl (hT _ w_1_2) (hT _ w_5_180) (by decide +kernel) ⟨Nat.le_trans (Nat.le_of_ble_eq_true rfl) hRf, Nat.le_trans (Nat.le_of_ble_eq_true rfl) hRl⟩, hT _ w_5_141, hT _ w_5_142⟩ ⟨PVc.blind, va_recv hK hW.1 (ci := 1) (q0 := o) rfl (pic_obj fo.1 fo.2 (by decide)), PVc.at _ hW hK hN hE hS hF⟩ rfl rfl hl.1 rfl (lv_room (Nat.le_of_ble_eq_true rfl)) d_Snk_putText_6 ⟨show cells + k3 ≤ R.cells by omega, show slots + n4 ≤ R.slots by omega⟩) hS (fun q _ h => hF q h) hF (fun  x7 t H locs ht hvm hw hB hz1 hk1 hS => ?_)
  obtain ⟨x7, ad, NN⟩ := x7
  obtain ⟨hB, hle, hg⟩ := hB
  try dsimp only at hw hB hle hg
  have hW := Wd.back hB ht hF
  rw [← hg o fo.1] at hl
  rw [← hg l1 fl1.1] at hl
  have fl1 : l1 < NN ∧ kcC l1 = 21 := ⟨Nat.lt_of_lt_of_le fl1.1 hle, fl1.2⟩
  have fo : o < NN ∧ kcC o = 1 := ⟨Nat.lt_of_lt_of_le fo.1 hle, fo.2⟩
  have hag : NN0 ≤ NN ∧ ∀ o : Nat, o < NN0 → ad o = ad0 o := ⟨Nat.le_trans hag.1 hle, fun o h => (hg o (Nat.lt_of_lt_of_le h hag.1)).trans (hag.2 o h)⟩
  have hNN : 152 ≤ NN := Nat.le_trans hNN hle
  clear hg hle
  obtain ⟨cells, ec⟩ : ∃ z, z = cells + k3 := ⟨_, rfl⟩
  obtain ⟨slots, es⟩ : ∃ z, z = slots + n4 := ⟨_, rfl⟩
  first | rw [← ec, ← es] | rw [Nat.add_zero, Nat.add_zero, ← ec, ← es]
  have hRc : cells + k5 ≤ R.cells := by omega
  have hRs : slots + n6 ≤ R.slots := by omega
  clear ec es hB ht hF hz1 hk1 hvm ek3 en4
  refine lv_aload_n hx hb d_Snk_putText_9 rfl (lv_at hl 0 rfl) ?_
  refine lv_aload_n hx hb d_Snk_putText_10 rfl (lv_at hl 1 rfl) ?_
  refine lv_lload_n hx hb d_Snk_putText_11 rfl (lv_at hl 2 rfl) ?_
  have hF := hW.free hS hA
  refine va_calli (va_runSN (As := [.long l2]) (rest := [.ref (ad l1), .ref (ad o)]) ⟨hx, hb, hml, hown, hT⟩ (k_V_placeOf l dC dI cI cB cJ cZ ad NN E tM tC kK kV hNN H.size l2 x7  hw) ⟨va_cnB 1 hT (gwt_in w_5_183) rfl rfl rfl (hN _ wn_5_181 rfl) (hT _ w_1_1) (by decide +kernel) ⟨Nat.le_trans (Nat.le_of_ble_eq_true rfl) hRf, Nat.le_trans (Nat.le_of_ble_eq_true rfl) hRl⟩, hT _ w_5_182, trivial⟩ ⟨PVc.blind, PVc.at _ hW hK hN hE hS hF⟩ rfl rfl hl.1 rfl (lv_room (Nat.le_of_ble_eq_true rfl)) d_Snk_putText_12 ⟨(Nat.le_trans (Nat.le_add_right _ _) hRc), (Nat.le_trans (Nat.le_add_right _ _) hRs)⟩) hS (fun q _ h => hF q h) hF (fun r9 x8 t H locs ht hvm hw hB hz1 hk1 hS => ?_)
  have hW := Wd.back hB ht hF
  clear hB ht hF hz1 hk1 hvm
  refine lv_lload_n hx hb d_Snk_putText_15 rfl (lv_at hl 2 rfl) ?_
  have hF := hW.free hS hA
  refine va_calli (va_runSN (As := [.long l2]) (rest := [.int r9, .ref (ad l1), .ref (ad o)]) ⟨hx, hb, hml, hown, hT⟩ (k_V_sizeOf l dC dI cI cB cJ cZ ad NN E tM tC kK kV hNN H.size l2 x8  hw) ⟨va_cnB 1 hT (gwt_in w_5_161) rfl rfl rfl (hN _ wn_5_179 rfl) (hT _ w_1_1) (by decide +kernel) ⟨Nat.le_trans (Nat.le_of_ble_eq_true rfl) hRf, Nat.le_trans (Nat.le_of_ble_eq_true rfl) hRl⟩, hT _ w_5_160, trivial⟩ ⟨PVc.blind, PVc.at _ hW hK hN hE hS hF⟩ rfl rfl hl.1 rfl (lv_room (Nat.le_of_ble_eq_true rfl)) d_Snk_putText_16 ⟨(Nat.le_trans (Nat.le_add_right _ _) hRc), (Nat.le_trans (Nat.le_add_right _ _) hRs)⟩) hS (fun q _ h => hF q h) hF (fun r11 x10 t H locs ht hvm hw hB hz1 hk1 hS => ?_)
  have hW := Wd.back hB ht hF
  clear hB ht hF hz1 hk1 hvm
  obtain ⟨k12, n13, k14, n15, ek12, en13, hw⟩ := hw
  have hF := hW.free hS hA
  refine va_callv (va_runV (C := R_Snk) (As := [.ref (ad l1), .int r9, .int r11]) (rest := []) ⟨hx, hb, hml, hown, hT⟩ (k_Snk_putAll l dC dI cI cB cJ cZ ad NN E tM tC kK kV hNN H.size o l1 r9 r11 k12 n13 x10 fo fl1 hw) ⟨callB_of 3 hT (gwt_in w_5_138) rfl rfl rfl (hT _ w_1_2) (hT _ w_5_184) (by decide +kernel) ⟨Nat.le_trans (Nat.le_of_ble_eq_true rfl) hRf, Nat.le_trans (Nat.le_of_ble_eq_true rfl) hRl⟩, hT _ w_5_136, hT _ w_5_137⟩ ⟨PVc.blind, va_recv hK hW.1 (ci := 1) (q0 := o) rfl (pic_obj fo.1 fo.2 (by decide)), PVc.at _ hW hK hN hE hS hF⟩ rfl rfl hl.1 rfl (lv_room (Nat.le_of_ble_eq_true rfl)) d_Snk_putText_19 ⟨show cells + k12 ≤ R.cells by omega, show slots + n13 ≤ R.slots by omega⟩) hS (fun q _ h => hF q h) hF (fun  x16 t H locs ht hvm hw hB hz1 hk1 hS => ?_)
  obtain ⟨x16, ad, NN⟩ := x16
  obtain ⟨hB, hle, hg⟩ := hB
  try dsimp only at hw hB hle hg
  have hW := Wd.back hB ht hF
  rw [← hg o fo.1] at hl
  rw [← hg l1 fl1.1] at hl
  have fl1 : l1 < NN ∧ kcC l1 = 21 := ⟨Nat.lt_of_lt_of_le fl1.1 hle, fl1.2⟩
  have fo : o < NN ∧ kcC o = 1 := ⟨Nat.lt_of_lt_of_le fo.1 hle, fo.2⟩
  have hag : NN0 ≤ NN ∧ ∀ o : Nat, o < NN0 → ad o = ad0 o := ⟨Nat.le_trans hag.1 hle, fun o h => (hg o (Nat.lt_of_lt_of_le h hag.1)).trans (hag.2 o h)⟩
  have hNN : 152 ≤ NN := Nat.le_trans hNN hle
  clear hg hle
  obtain ⟨cells, ec⟩ : ∃ z, z = cells + k12 := ⟨_, rfl⟩
  obtain ⟨slots, es⟩ : ∃ z, z = slots + n13 := ⟨_, rfl⟩
  first | rw [← ec, ← es] | rw [Nat.add_zero, Nat.add_zero, ← ec, ← es]
  have hRc : cells + k14 ≤ R.cells := by omega
  have hRs : slots + n15 ≤ R.slots := by omega
  clear ec es hB ht hF hz1 hk1 hvm ek12 en13
  exact hret ad NN cells slots x16 H locs 22 ls d_Snk_putText_22 hag (Nat.le_trans (Nat.le_add_right _ _) hRc) (Nat.le_trans (Nat.le_add_right _ _) hRs) hw hW hS
set_option maxHeartbeats 4000000 in
set_option maxRecDepth 100000 in
theorem k_Snk_putText (l : Launch) (dC : Nat → ClassId) (dI : Nat → Nat → Nat) (cI cB cJ cZ : ClassId) (ad : Nat → Nat) (NN : Nat) (E : Heap) (tM tC : Nat) (kK kV : Nat → Nat) (hNN : 152 ≤ NN) (sz : Nat) (o : Nat) (l1 : Nat) (l2 : Int64) (kb : Nat) (nb : Nat) (x : St) (fo : o < NN ∧ kcC o = 1) (fl1 : l1 < NN ∧ kcC l1 = 21) {post : St → Prop} (hw : wp_Snk_putText post o l1 l2 kb nb x) : Met l y_Snk_putText (wsOf y_Snk_putText b_Snk_putText 4 (none)) ({ frames := 4, cells := kb, slots := nb, locals := 247 }) (va_Pc [.ref (ad o), .ref (ad l1), .long l2] (PVc dC dI cI cB cJ cZ ad stC kcC NN E tM tC kK kV sz x)) (va_Qv (fun (u : St × (Nat → Nat) × Nat) => post u.1) (fun u t => Wd dC dI cI cB cJ cZ u.2.1 stC kcC u.2.2 (va_A (pic ad stC kcC NN cI cB cJ cZ x) sz) u.1 t.heap ∧ NN ≤ u.2.2 ∧ ∀ o : Nat, o < NN → u.2.1 o = ad o) (va_A (pic ad stC kcC NN cI cB cJ cZ x) sz)) kb nb (va_A (pic ad stC kcC NN cI cB cJ cZ x) sz) := by
  refine Met.ofW (cc := b_Snk_putText) (maxL := 4) (ret := none) (by decide) rfl ?_
  intro p e s m args below meth c s₁ B hml hv
  obtain ⟨rfl, ⟨hsz, hW0, hK, hN⟩, hE⟩ := hv
  have hx := B.exec
  have hb := B.bytes
  have hr := B.returns
  have hts := atoms_spec B.pre
  have hT : ∀ w ∈ TG, w.before _ s = true := fun w h => hts w (List.mem_cons_of_mem _ h)
  have hown : s.vm.findClass R_Snk = some m.cls := findClass_of_methodNamed B.named
  have hlocks := B.notSynchronized
  subst hsz
  have hW : Wd dC dI cI cB cJ cZ ad stC kcC NN (va_A (pic ad stC kcC NN cI cB cJ cZ x) s.heap.size) x s.heap := ⟨hW0.1, hW0.2.1.self (sz := s.heap.size), hW0.2.2⟩
  generalize hAe : va_A (pic ad stC kcC NN cI cB cJ cZ x) s.heap.size = A at hW hE ⊢
  have hA : ∀ q : Nat, s.heap.size ≤ q → A q := fun q h => by rw [← hAe]; exact Or.inr h
  have hS : va_S A s.heap s.heap [] := va_S.rf
  have hl := lv_entry ([.ref (ad o), .ref (ad l1), .long l2]) (n := 4) (Nat.le_of_ble_eq_true rfl)
  rw [lg_entry_eq]
  generalize (lg_sl ([.ref (ad o), .ref (ad l1), .long l2]) ++ List.replicate (4 - (lg_sl ([.ref (ad o), .ref (ad l1), .long l2])).length) Slot.unset).toArray = ls at hl ⊢
  have hl : lv_has ls 4 [(0, .ref (ad o)), (1, .ref (ad l1)), (2, .long l2)] := hl
  exact t_Snk_putText_e hx hb hml hown hT hK hN hA (Nat.le_refl 4) (Nat.le_refl 247) hE (fun ad1 NN1 cells slots x1 H locs pc ls hd hag hc hs hp hW hS => W.widen (k := kb) (n := nb) hc hs (W.vret hx hb hr (fun t ht hM => ⟨⟨(x1, ad1, NN1), rfl, hp, Wd.back hW ht.symm (fun _ z => z), hag.1, hag.2⟩, hS.F ht⟩) hS.2.2 hd hlocks))  ad NN 0 0 o l1 l2 kb nb x _ _ ls hNN ⟨Nat.le_refl _, fun _ _ => rfl⟩ (Nat.le_of_eq (Nat.zero_add kb)) (Nat.le_of_eq (Nat.zero_add nb)) fo fl1 hw hW hS hl
set_option maxRecDepth 100000 in
set_option maxHeartbeats 4000000 in
set_option maxRecDepth 100000 in
theorem t_Snk_putFixed_3 {p : Program} {l : Launch} {e : Env} {R : Room} {s : State} {m : MethodId} {args : Array Value} {below : List Frame} {meth : Method} {c : Code} {Q : State → Prop} {dC : Nat → ClassId} {dI : Nat → Nat → Nat} {cI cB cJ cZ : ClassId} {A : Nat → Prop} {E : Heap} {tM tC : Nat} {kK kV : Nat → Nat} {ad0 : Nat → Nat} {NN0 : Nat} {post : St → Prop} {rec3 : Nat → Int64 → Int32 → Int32 → Nat → Nat → St → Prop} (hx : p.tables.exec = Jvm.exec) (hb : c.code = b_Snk_putFixed) (hml : c.maxLocals = 5) (hown : s.vm.findClass R_Snk = some m.cls) (hT : ∀ w ∈ TG, w.before args s = true) (hK : va_K (dC, dI) CL (TY cI cB cJ cZ) s) (hN : NW s) (hA : ∀ q : Nat, s.heap.size ≤ q → A q) (hRf : 4 ≤ R.frames) (hRl : 242 ≤ R.locals) (hE : CE E tM tC kK kV A s) (hret : ∀ (ad : Nat → Nat) (NN cells slots : Nat) (x : St) (H : Heap) (locs : List Loc) (pc : Nat) (ls : Array Slot), decode b_Snk_putFixed pc = .ok (.return_, 1) → (NN0 ≤ NN ∧ ∀ o : Nat, o < NN0 → ad o = ad0 o) → cells ≤ R.cells → slots ≤ R.slots → post x → Wd dC dI cI cB cJ cZ ad stC kcC NN A x H → va_S A s.heap H locs → W p l e R s m args below meth c H locs cells slots Q (F0 m pc ls [])) (hrec3 : ∀ (ad : Nat → Nat) (NN cells slots : Nat) (o : Nat) (l1 : Int64) (l3 : Int32) (l4 : Int32) (kb : Nat) (nb : Nat) (x : St) (H : Heap) (locs : List Loc) (ls : Array Slot), (152 ≤ NN) → (NN0 ≤ NN ∧ ∀ o : Nat, o < NN0 → ad o = ad0 o) → (cells + kb ≤ R.cells) → (slots + nb ≤ R.slots) → (o < NN ∧ kcC o = 1) → rec3 o l1 l3 l4 kb nb x → Wd dC dI cI cB cJ cZ ad stC kcC NN A x H → va_S A s.heap H locs → lv_has ls 5 [(0, .ref (ad o)), (1, .long l1), (3, .int l3), (4, .int l4)] → W p l e R s m args below meth c H locs cells slots Q (F0 m 3 ls [])) : ∀ (ad : Nat → Nat) (NN cells slots : Nat) (o : Nat) (l1 : Int64) (l3 : Int32) (l4 : Int32) (kb : Nat) (nb : Nat) (x : St) (H : Heap) (locs : List Loc) (ls : Array Slot), (152 ≤ NN) → (NN0 ≤ NN ∧ ∀ o : Nat, o < NN0 → ad o = ad0 o) → (cells + kb ≤ R.cells) → (slots + nb ≤ R.slots) → (o < NN ∧ kcC o = 1) → j_Snk_putFixed_3 post rec3 o l1 l3 l4 kb nb x → Wd dC dI cI cB cJ cZ ad stC kcC NN A x H → va_S A s.heap H locs → lv_has ls 5 [(0, .ref (ad o)), (1, .long l1), (3, .int l3), (4, .int l4)] → W p l e R s m args below meth c H locs cells slots Q (F0 m 3 ls []) := by
  intro ad NN cells slots o l1 l3 l4 kb nb x H locs ls hNN hag hRc hRs fo hw hW hS hl
  unfold j_Snk_putFixed_3 at hw
  refine lv_iload hx hb d_Snk_putFixed_3 (lv_at hl 3 rfl) ?_
  refine lv_iload_n hx hb d_Snk_putFixed_5 rfl (lv_at hl 2 rfl) ?_
  refine lv_icmp_ge (tgt := 27) hx hb d_Snk_putFixed_6 (by decide) (fun c1 => ?_) (fun c1 => ?_)
  · have hw := hw.1 c1
    exact hret ad NN cells slots x H locs 27 ls d_Snk_putFixed_27 hag (Nat.le_trans (Nat.le_add_right _ _) hRc) (Nat.le_trans (Nat.le_add_right _ _) hRs) hw hW hS
  · have hw := hw.2 c1
    refine lv_aload_n hx hb d_Snk_putFixed_9 rfl (lv_at hl 0 rfl) ?_
    refine lv_lload_n hx hb d_Snk_putFixed_10 rfl (lv_at hl 1 rfl) ?_
    refine lv_bipush (v := 8) hx hb d_Snk_putFixed_11 (by decide) ?_
    refine lv_iload hx hb d_Snk_putFixed_13 (lv_at hl 3 rfl) ?_
    refine lv_imul hx hb d_Snk_putFixed_15 ?_
    refine lv_lushr hx hb d_Snk_putFixed_16 rfl ?_
    refine lv_l2i hx hb d_Snk_putFixed_17 rfl ?_
    obtain ⟨k2, n3, k4, n5, ek2, en3, hw⟩ := hw
    have hF := hW.free hS hA
    refine va_callv (va_runV (C := R_Snk) (As := [.int (((l1 : Int64).toUInt64 >>> (((8 * l4) : Int32).toInt64.toUInt64 &&& Int64.toUInt64 63)).toInt64 : Int64).toInt32]) (rest := []) ⟨hx, hb, hml, hown, hT⟩ (k_Snk_put l dC dI cI cB cJ cZ ad NN E tM tC kK kV hNN H.size o (((l1 : Int64).toUInt64 >>> (((8 * l4) : Int32).toInt64.toUInt64 &&& Int64.toUInt64 63)).toInt64 : Int64).toInt32 k2 n3 x fo hw) ⟨callB_of 1 hT (gwt_in w_4_52) rfl rfl rfl (hT _ w_1_2) (hT _ w_5_189) (by decide +kernel) ⟨Nat.le_trans (Nat.le_of_ble_eq_true rfl) hRf, Nat.le_trans (Nat.le_of_ble_eq_true rfl) hRl⟩, hT _ w_4_50, hT _ w_4_51⟩ ⟨PVc.blind, va_recv hK hW.1 (ci := 1) (q0 := o) rfl (pic_obj fo.1 fo.2 (by decide)), PVc.at _ hW hK hN hE hS hF⟩ rfl rfl hl.1 rfl (lv_room (Nat.le_of_ble_eq_true rfl)) d_Snk_putFixed_18 ⟨show cells + k2 ≤ R.cells by omega, show slots + n3 ≤ R.slots by omega⟩) hS (fun q _ h => hF q h) hF (fun  x6 t H locs ht hvm hw hB hz1 hk1 hS => ?_)
    obtain ⟨x6, ad, NN⟩ := x6
    obtain ⟨hB, hle, hg⟩ := hB
    try dsimp only at hw hB hle hg
    have hW := Wd.back hB ht hF
    rw [← hg o fo.1] at hl
    have fo : o < NN ∧ kcC o = 1 := ⟨Nat.lt_of_lt_of_le fo.1 hle, fo.2⟩
    have hag : NN0 ≤ NN ∧ ∀ o : Nat, o < NN0 → ad o = ad0 o := ⟨Nat.le_trans hag.1 hle, fun o h => (hg o (Nat.lt_of_lt_of_le h hag.1)).trans (hag.2 o h)⟩
    have hNN : 152 ≤ NN := Nat.le_trans hNN hle
    clear hg hle
    obtain ⟨cells, ec⟩ : ∃ z, z = cells + k2 := ⟨_, rfl⟩
    obtain ⟨slots, es⟩ : ∃ z, z = slots + n3 := ⟨_, rfl⟩
    first | rw [← ec, ← es] | rw [Nat.add_zero, Nat.add_zero, ← ec, ← es]
    have hRc : cells + k4 ≤ R.cells := by omega
    have hRs : slots + n5 ≤ R.slots := by omega
    clear ec es hB ht hF hz1 hk1 hvm ek2 en3
    refine lv_iinc (v := (l4 + 1)) (lv' := [(4, .int (l4 + 1)), (0, .ref (ad o)), (1, .long l1), (3, .int l3)]) hx hb d_Snk_putFixed_21 hl (k := 3) rfl rfl (by decide) rfl (fun ls hl => ?_)
    refine lv_goto (tgt := 3) hx hb d_Snk_putFixed_24 (by decide) ?_
    exact hrec3 ad NN cells slots o l1 l3 (l4 + 1) k4 n5 x6 H locs ls hNN hag hRc hRs fo hw hW hS (lv_sub hl [1, 2, 3, 0] rfl)
set_option maxHeartbeats 4000000 in
set_option maxRecDepth 100000 in
theorem tl_Snk_putFixed_3 {p : Program} {l : Launch} {e : Env} {R : Room} {s : State} {m : MethodId} {args : Array Value} {below : List Frame} {meth : Method} {c : Code} {Q : State → Prop} {dC : Nat → ClassId} {dI : Nat → Nat → Nat} {cI cB cJ cZ : ClassId} {A : Nat → Prop} {E : Heap} {tM tC : Nat} {kK kV : Nat → Nat} {ad0 : Nat → Nat} {NN0 : Nat} {post : St → Prop} (hx : p.tables.exec = Jvm.exec) (hb : c.code = b_Snk_putFixed) (hml : c.maxLocals = 5) (hown : s.vm.findClass R_Snk = some m.cls) (hT : ∀ w ∈ TG, w.before args s = true) (hK : va_K (dC, dI) CL (TY cI cB cJ cZ) s) (hN : NW s) (hA : ∀ q : Nat, s.heap.size ≤ q → A q) (hRf : 4 ≤ R.frames) (hRl : 242 ≤ R.locals) (hE : CE E tM tC kK kV A s) (hret : ∀ (ad : Nat → Nat) (NN cells slots : Nat) (x : St) (H : Heap) (locs : List Loc) (pc : Nat) (ls : Array Slot), decode b_Snk_putFixed pc = .ok (.return_, 1) → (NN0 ≤ NN ∧ ∀ o : Nat, o < NN0 → ad o = ad0 o) → cells ≤ R.cells → slots ≤ R.slots → post x → Wd dC dI cI cB cJ cZ ad stC kcC NN A x H → va_S A s.heap H locs → W p l e R s m args below meth c H locs cells slots Q (F0 m pc ls []))  : ∀ n : Nat, ∀ (ad : Nat → Nat) (NN cells slots : Nat) (o : Nat) (l1 : Int64) (l3 : Int32) (l4 : Int32) (kb : Nat) (nb : Nat) (x : St) (H : Heap) (locs : List Loc) (ls : Array Slot), (152 ≤ NN) → (NN0 ≤ NN ∧ ∀ o : Nat, o < NN0 → ad o = ad0 o) → (cells + kb ≤ R.cells) → (slots + nb ≤ R.slots) → (o < NN ∧ kcC o = 1) → wl_Snk_putFixed_3 post n o l1 l3 l4 kb nb x → Wd dC dI cI cB cJ cZ ad stC kcC NN A x H → va_S A s.heap H locs → lv_has ls 5 [(0, .ref (ad o)), (1, .long l1), (3, .int l3), (4, .int l4)] → W p l e R s m args below meth c H locs cells slots Q (F0 m 3 ls []) := by
  intro n
  induction n with
  | zero => intro ad NN cells slots o l1 l3 l4 kb nb x H locs ls hNN hag hRc hRs fo hw; exact hw.elim
  | succ n ih => intro ad NN cells slots o l1 l3 l4 kb nb x H locs ls hNN hag hRc hRs fo hw hW hS hl; exact t_Snk_putFixed_3 hx hb hml hown hT hK hN hA hRf hRl hE hret  ih ad NN cells slots o l1 l3 l4 kb nb x H locs ls hNN hag hRc hRs fo hw hW hS hl
set_option maxRecDepth 100000 in
set_option maxHeartbeats 4000000 in
set_option maxRecDepth 100000 in
theorem t_Snk_putFixed_e {p : Program} {l : Launch} {e : Env} {R : Room} {s : State} {m : MethodId} {args : Array Value} {below : List Frame} {meth : Method} {c : Code} {Q : State → Prop} {dC : Nat → ClassId} {dI : Nat → Nat → Nat} {cI cB cJ cZ : ClassId} {A : Nat → Prop} {E : Heap} {tM tC : Nat} {kK kV : Nat → Nat} {ad0 : Nat → Nat} {NN0 : Nat} {post : St → Prop} (hx : p.tables.exec = Jvm.exec) (hb : c.code = b_Snk_putFixed) (hml : c.maxLocals = 5) (hown : s.vm.findClass R_Snk = some m.cls) (hT : ∀ w ∈ TG, w.before args s = true) (hK : va_K (dC, dI) CL (TY cI cB cJ cZ) s) (hN : NW s) (hA : ∀ q : Nat, s.heap.size ≤ q → A q) (hRf : 4 ≤ R.frames) (hRl : 242 ≤ R.locals) (hE : CE E tM tC kK kV A s) (hret : ∀ (ad : Nat → Nat) (NN cells slots : Nat) (x : St) (H : Heap) (locs : List Loc) (pc : Nat) (ls : Array Slot), decode b_Snk_putFixed pc = .ok (.return_, 1) → (NN0 ≤ NN ∧ ∀ o : Nat, o < NN0 → ad o = ad0 o) → cells ≤ R.cells → slots ≤ R.slots → post x → Wd dC dI cI cB cJ cZ ad stC kcC NN A x H → va_S A s.heap H locs → W p l e R s m args below meth c H locs cells slots Q (F0 m pc ls [])) : ∀ (ad : Nat → Nat) (NN cells slots : Nat) (o : Nat) (l1 : Int64) (l3 : Int32) (kb : Nat) (nb : Nat) (x : St) (H : Heap) (locs : List Loc) (ls : Array Slot), (152 ≤ NN) → (NN0 ≤ NN ∧ ∀ o : Nat, o < NN0 → ad o = ad0 o) → (cells + kb ≤ R.cells) → (slots + nb ≤ R.slots) → (o < NN ∧ kcC o = 1) → wp_Snk_putFixed post o l1 l3 kb nb x → Wd dC dI cI cB cJ cZ ad stC kcC NN A x H → va_S A s.heap H locs → lv_has ls 5 [(0, .ref (ad o)), (1, .long l1), (3, .int l3)] → W p l e R s m args below meth c H locs cells slots Q (F0 m 0 ls []) := by
  intro ad NN cells slots o l1 l3 kb nb x H locs ls hNN hag hRc hRs fo hw hW hS hl
  unfold wp_Snk_putFixed at hw
  refine lv_iconst (v := 0) hx hb d_Snk_putFixed_0 (by decide) ?_
  refine lv_istore (lv' := [(4, .int 0), (0, .ref (ad o)), (1, .long l1), (3, .int l3)]) hx hb d_Snk_putFixed_1 hl (by decide) rfl (fun ls hl => ?_)
  obtain ⟨n, hw⟩ := hw
  exact tl_Snk_putFixed_3 hx hb hml hown hT hK hN hA hRf hRl hE hret  n ad NN cells slots o l1 l3 0 kb nb x H locs ls hNN hag hRc hRs fo hw hW hS (lv_sub hl [1, 2, 3, 0] rfl)
set_option maxHeartbeats 4000000 in
set_option maxRecDepth 100000 in
theorem k_Snk_putFixed (l : Launch) (dC : Nat → ClassId) (dI : Nat → Nat → Nat) (cI cB cJ cZ : ClassId) (ad : Nat → Nat) (NN : Nat) (E : Heap) (tM tC : Nat) (kK kV : Nat → Nat) (hNN : 152 ≤ NN) (sz : Nat) (o : Nat) (l1 : Int64) (l3 : Int32) (kb : Nat) (nb : Nat) (x : St) (fo : o < NN ∧ kcC o = 1) {post : St → Prop} (hw : wp_Snk_putFixed post o l1 l3 kb nb x) : Met l y_Snk_putFixed (wsOf y_Snk_putFixed b_Snk_putFixed 5 (none)) ({ frames := 4, cells := kb, slots := nb, locals := 242 }) (va_Pc [.ref (ad o), .long l1, .int l3] (PVc dC dI cI cB cJ cZ ad stC kcC NN E tM tC kK kV sz x)) (va_Qv (fun (u : St × (Nat → Nat) × Nat) => post u.1) (fun u t => Wd dC dI cI cB cJ cZ u.2.1 stC kcC u.2.2 (va_A (pic ad stC kcC NN cI cB cJ cZ x) sz) u.1 t.heap ∧ NN ≤ u.2.2 ∧ ∀ o : Nat, o < NN → u.2.1 o = ad o) (va_A (pic ad stC kcC NN cI cB cJ cZ x) sz)) kb nb (va_A (pic ad stC kcC NN cI cB cJ cZ x) sz) := by
  refine Met.ofW (cc := b_Snk_putFixed) (maxL := 5) (ret := none) (by decide) rfl ?_
  intro p e s m args below meth c s₁ B hml hv
  obtain ⟨rfl, ⟨hsz, hW0, hK, hN⟩, hE⟩ := hv
  have hx := B.exec
  have hb := B.bytes
  have hr := B.returns
  have hts := atoms_spec B.pre
  have hT : ∀ w ∈ TG, w.before _ s = true := fun w h => hts w (List.mem_cons_of_mem _ h)
  have hown : s.vm.findClass R_Snk = some m.cls := findClass_of_methodNamed B.named
  have hlocks := B.notSynchronized
  subst hsz
  have hW : Wd dC dI cI cB cJ cZ ad stC kcC NN (va_A (pic ad stC kcC NN cI cB cJ cZ x) s.heap.size) x s.heap := ⟨hW0.1, hW0.2.1.self (sz := s.heap.size), hW0.2.2⟩
  generalize hAe : va_A (pic ad stC kcC NN cI cB cJ cZ x) s.heap.size = A at hW hE ⊢
  have hA : ∀ q : Nat, s.heap.size ≤ q → A q := fun q h => by rw [← hAe]; exact Or.inr h
  have hS : va_S A s.heap s.heap [] := va_S.rf
  have hl := lv_entry ([.ref (ad o), .long l1, .int l3]) (n := 5) (Nat.le_of_ble_eq_true rfl)
  rw [lg_entry_eq]
  generalize (lg_sl ([.ref (ad o), .long l1, .int l3]) ++ List.replicate (5 - (lg_sl ([.ref (ad o), .long l1, .int l3])).length) Slot.unset).toArray = ls at hl ⊢
  have hl : lv_has ls 5 [(0, .ref (ad o)), (1, .long l1), (3, .int l3)] := hl
  exact t_Snk_putFixed_e hx hb hml hown hT hK hN hA (Nat.le_refl 4) (Nat.le_refl 242) hE (fun ad1 NN1 cells slots x1 H locs pc ls hd hag hc hs hp hW hS => W.widen (k := kb) (n := nb) hc hs (W.vret hx hb hr (fun t ht hM => ⟨⟨(x1, ad1, NN1), rfl, hp, Wd.back hW ht.symm (fun _ z => z), hag.1, hag.2⟩, hS.F ht⟩) hS.2.2 hd hlocks))  ad NN 0 0 o l1 l3 kb nb x _ _ ls hNN ⟨Nat.le_refl _, fun _ _ => rfl⟩ (Nat.le_of_eq (Nat.zero_add kb)) (Nat.le_of_eq (Nat.zero_add nb)) fo hw hW hS hl
set_option maxRecDepth 100000 in
set_option maxHeartbeats 4000000 in
set_option maxRecDepth 100000 in
theorem t_Wrt_putPlain_131 {p : Program} {l : Launch} {e : Env} {R : Room} {s : State} {m : MethodId} {args : Array Value} {below : List Frame} {meth : Method} {c : Code} {Q : State → Prop} {dC : Nat → ClassId} {dI : Nat → Nat → Nat} {cI cB cJ cZ : ClassId} {A : Nat → Prop} {E : Heap} {tM tC : Nat} {kK kV : Nat → Nat} {ad0 : Nat → Nat} {NN0 : Nat} {post : St → Prop} {rec77 : Nat → Int32 → Nat → Int32 → Int32 → Nat → Nat → St → Prop} (hx : p.tables.exec = Jvm.exec) (hb : c.code = b_Wrt_putPlain) (hml : c.maxLocals = 7) (hown : s.vm.findClass R_Wrt = some m.cls) (hT : ∀ w ∈ TG, w.before args s = true) (hK : va_K (dC, dI) CL (TY cI cB cJ cZ) s) (hN : NW s) (hA : ∀ q : Nat, s.heap.size ≤ q → A q) (hRf : 5 ≤ R.frames) (hRl : 270 ≤ R.locals) (hE : CE E tM tC kK kV A s) (hret : ∀ (ad : Nat → Nat) (NN cells slots : Nat) (x : St) (H : Heap) (locs : List Loc) (pc : Nat) (ls : Array Slot), decode b_Wrt_putPlain pc = .ok (.return_, 1) → (NN0 ≤ NN ∧ ∀ o : Nat, o < NN0 → ad o = ad0 o) → cells ≤ R.cells → slots ≤ R.slots → post x → Wd dC dI cI cB cJ cZ ad stC kcC NN A x H → va_S A s.heap H locs → W p l e R s m args below meth c H locs cells slots Q (F0 m pc ls [])) (hrec77 : ∀ (ad : Nat → Nat) (NN cells slots : Nat) (o : Nat) (l1 : Int32) (l2 : Nat) (l3 : Int32) (l4 : Int32) (kb : Nat) (nb : Nat) (x : St) (H : Heap) (locs : List Loc) (ls : Array Slot), (152 ≤ NN) → (NN0 ≤ NN ∧ ∀ o : Nat, o < NN0 → ad o = ad0 o) → (cells + kb ≤ R.cells) → (slots + nb ≤ R.slots) → (o < NN ∧ kcC o = 5) → (l2 < NN ∧ kcC l2 = 22) → rec77 o l1 l2 l3 l4 kb nb x → Wd dC dI cI cB cJ cZ ad stC kcC NN A x H → va_S A s.heap H locs → lv_has ls 7 [(0, .ref (ad o)), (1, .int l1), (2, .ref (ad l2)), (3, .int l3), (4, .int l4)] → W p l e R s m args below meth c H locs cells slots Q (F0 m 77 ls [])) : ∀ (ad : Nat → Nat) (NN cells slots : Nat) (o : Nat) (l1 : Int32) (l2 : Nat) (l3 : Int32) (l4 : Int32) (kb : Nat) (nb : Nat) (x : St) (H : Heap) (locs : List Loc) (ls : Array Slot), (152 ≤ NN) → (NN0 ≤ NN ∧ ∀ o : Nat, o < NN0 → ad o = ad0 o) → (cells + kb ≤ R.cells) → (slots + nb ≤ R.slots) → (o < NN ∧ kcC o = 5) → (l2 < NN ∧ kcC l2 = 22) → j_Wrt_putPlain_131 post rec77 o l1 l2 l3 l4 kb nb x → Wd dC dI cI cB cJ cZ ad stC kcC NN A x H → va_S A s.heap H locs → lv_has ls 7 [(0, .ref (ad o)), (1, .int l1), (2, .ref (ad l2)), (3, .int l3), (4, .int l4)] → W p l e R s m args below meth c H locs cells slots Q (F0 m 131 ls []) := by
  intro ad NN cells slots o l1 l2 l3 l4 kb nb x H locs ls hNN hag hRc hRs fo fl2 hw hW hS hl
  unfold j_Wrt_putPlain_131 at hw
  refine lv_iinc (v := (l4 + 1)) (lv' := [(4, .int (l4 + 1)), (0, .ref (ad o)), (1, .int l1), (2, .ref (ad l2)), (3, .int l3)]) hx hb d_Wrt_putPlain_131 hl (k := 4) rfl rfl (by decide) rfl (fun ls hl => ?_)
  refine lv_goto (tgt := 77) hx hb d_Wrt_putPlain_134 (by decide) ?_
  exact hrec77 ad NN cells slots o l1 l2 l3 (l4 + 1) kb nb x H locs ls hNN hag hRc hRs fo fl2 hw hW hS (lv_sub hl [1, 2, 3, 4, 0] rfl)
set_option maxRecDepth 100000 in
set_option maxHeartbeats 4000000 in
set_option maxRecDepth 100000 in
theorem t_Wrt_putPlain_128 {p : Program} {l : Launch} {e : Env} {R : Room} {s : State} {m : MethodId} {args : Array Value} {below : List Frame} {meth : Method} {c : Code} {Q : State → Prop} {dC : Nat → ClassId} {dI : Nat → Nat → Nat} {cI cB cJ cZ : ClassId} {A : Nat → Prop} {E : Heap} {tM tC : Nat} {kK kV : Nat → Nat} {ad0 : Nat → Nat} {NN0 : Nat} {post : St → Prop} {rec77 : Nat → Int32 → Nat → Int32 → Int32 → Nat → Nat → St → Prop} (hx : p.tables.exec = Jvm.exec) (hb : c.code = b_Wrt_putPlain) (hml : c.maxLocals = 7) (hown : s.vm.findClass R_Wrt = some m.cls) (hT : ∀ w ∈ TG, w.before args s = true) (hK : va_K (dC, dI) CL (TY cI cB cJ cZ) s) (hN : NW s) (hA : ∀ q : Nat, s.heap.size ≤ q → A q) (hRf : 5 ≤ R.frames) (hRl : 270 ≤ R.locals) (hE : CE E tM tC kK kV A s) (hret : ∀ (ad : Nat → Nat) (NN cells slots : Nat) (x : St) (H : Heap) (locs : List Loc) (pc : Nat) (ls : Array Slot), decode b_Wrt_putPlain pc = .ok (.return_, 1) → (NN0 ≤ NN ∧ ∀ o : Nat, o < NN0 → ad o = ad0 o) → cells ≤ R.cells → slots ≤ R.slots → post x → Wd dC dI cI cB cJ cZ ad stC kcC NN A x H → va_S A s.heap H locs → W p l e R s m args below meth c H locs cells slots Q (F0 m pc ls [])) (hrec77 : ∀ (ad : Nat → Nat) (NN cells slots : Nat) (o : Nat) (l1 : Int32) (l2 : Nat) (l3 : Int32) (l4 : Int32) (kb : Nat) (nb : Nat) (x : St) (H : Heap) (locs : List Loc) (ls : Array Slot), (152 ≤ NN) → (NN0 ≤ NN ∧ ∀ o : Nat, o < NN0 → ad o = ad0 o) → (cells + kb ≤ R.cells) → (slots + nb ≤ R.slots) → (o < NN ∧ kcC o = 5) → (l2 < NN ∧ kcC l2 = 22) → rec77 o l1 l2 l3 l4 kb nb x → Wd dC dI cI cB cJ cZ ad stC kcC NN A x H → va_S A s.heap H locs → lv_has ls 7 [(0, .ref (ad o)), (1, .int l1), (2, .ref (ad l2)), (3, .int l3), (4, .int l4)] → W p l e R s m args below meth c H locs cells slots Q (F0 m 77 ls [])) : ∀ (ad : Nat → Nat) (NN cells slots : Nat) (o : Nat) (l1 : Int32) (l2 : Nat) (l3 : Int32) (l4 : Int32) (s0 : Int32) (s1 : Int64) (s2 : Nat) (kb : Nat) (nb : Nat) (x : St) (H : Heap) (locs : List Loc) (ls : Array Slot), (152 ≤ NN) → (NN0 ≤ NN ∧ ∀ o : Nat, o < NN0 → ad o = ad0 o) → (cells + kb ≤ R.cells) → (slots + nb ≤ R.slots) → (o < NN ∧ kcC o = 5) → (l2 < NN ∧ kcC l2 = 22) → (s2 < NN ∧ kcC s2 = 1) → j_Wrt_putPlain_128 post rec77 o l1 l2 l3 l4 s0 s1 s2 kb nb x → Wd dC dI cI cB cJ cZ ad stC kcC NN A x H → va_S A s.heap H locs → lv_has ls 7 [(0, .ref (ad o)), (1, .int l1), (2, .ref (ad l2)), (3, .int l3), (4, .int l4)] → W p l e R s m args below meth c H locs cells slots Q (F0 m 128 ls [.int s0, .long s1, .ref (ad s2)]) := by
  intro ad NN cells slots o l1 l2 l3 l4 s0 s1 s2 kb nb x H locs ls hNN hag hRc hRs fo fl2 fs2 hw hW hS hl
  unfold j_Wrt_putPlain_128 at hw
  obtain ⟨k1, n2, k3, n4, ek1, en2, hw⟩ := hw
  have hF := hW.free hS hA
  refine va_callv (va_runV (C := R_Snk) (As := [.long s1, .int s0]) (rest := []) ⟨hx, hb, hml, hown, hT⟩ (k_Snk_putFixed l dC dI cI cB cJ cZ ad NN E tM tC kK kV hNN H.size s2 s1 s0 k1 n2 x fs2 hw) ⟨callB_of 2 hT (gwt_in w_5_188) rfl rfl rfl (hT _ w_1_2) (hT _ w_5_185) (by decide +kernel) ⟨Nat.le_trans (Nat.le_of_ble_eq_true rfl) hRf, Nat.le_trans (Nat.le_of_ble_eq_true rfl) hRl⟩, hT _ w_5_186, hT _ w_5_187⟩ ⟨PVc.blind, va_recv hK hW.1 (ci := 1) (q0 := s2) rfl (pic_obj fs2.1 fs2.2 (by decide)), PVc.at _ hW hK hN hE hS hF⟩ rfl rfl hl.1 rfl (lv_room (Nat.le_of_ble_eq_true rfl)) d_Wrt_putPlain_128 ⟨show cells + k1 ≤ R.cells by omega, show slots + n2 ≤ R.slots by omega⟩) hS (fun q _ h => hF q h) hF (fun  x5 t H locs ht hvm hw hB hz1 hk1 hS => ?_)
  obtain ⟨x5, ad, NN⟩ := x5
  obtain ⟨hB, hle, hg⟩ := hB
  try dsimp only at hw hB hle hg
  have hW := Wd.back hB ht hF
  rw [← hg o fo.1] at hl
  rw [← hg l2 fl2.1] at hl
  have fl2 : l2 < NN ∧ kcC l2 = 22 := ⟨Nat.lt_of_lt_of_le fl2.1 hle, fl2.2⟩
  have fo : o < NN ∧ kcC o = 5 := ⟨Nat.lt_of_lt_of_le fo.1 hle, fo.2⟩
  have fs2 : s2 < NN ∧ kcC s2 = 1 := ⟨Nat.lt_of_lt_of_le fs2.1 hle, fs2.2⟩
  have hag : NN0 ≤ NN ∧ ∀ o : Nat, o < NN0 → ad o = ad0 o := ⟨Nat.le_trans hag.1 hle, fun o h => (hg o (Nat.lt_of_lt_of_le h hag.1)).trans (hag.2 o h)⟩
  have hNN : 152 ≤ NN := Nat.le_trans hNN hle
  clear hg hle
  obtain ⟨cells, ec⟩ : ∃ z, z = cells + k1 := ⟨_, rfl⟩
  obtain ⟨slots, es⟩ : ∃ z, z = slots + n2 := ⟨_, rfl⟩
  first | rw [← ec, ← es] | rw [Nat.add_zero, Nat.add_zero, ← ec, ← es]
  have hRc : cells + k3 ≤ R.cells := by omega
  have hRs : slots + n4 ≤ R.slots := by omega
  clear ec es hB ht hF hz1 hk1 hvm ek1 en2
  exact t_Wrt_putPlain_131 hx hb hml hown hT hK hN hA hRf hRl hE hret hrec77 ad NN cells slots o l1 l2 l3 l4 k3 n4 x5 H locs ls hNN hag hRc hRs fo fl2 hw hW hS (lv_sub hl [0, 1, 2, 3, 4] rfl)
set_option maxRecDepth 100000 in
set_option maxHeartbeats 4000000 in
set_option maxRecDepth 100000 in
theorem t_Wrt_putPlain_77 {p : Program} {l : Launch} {e : Env} {R : Room} {s : State} {m : MethodId} {args : Array Value} {below : List Frame} {meth : Method} {c : Code} {Q : State → Prop} {dC : Nat → ClassId} {dI : Nat → Nat → Nat} {cI cB cJ cZ : ClassId} {A : Nat → Prop} {E : Heap} {tM tC : Nat} {kK kV : Nat → Nat} {ad0 : Nat → Nat} {NN0 : Nat} {post : St → Prop} {rec77 : Nat → Int32 → Nat → Int32 → Int32 → Nat → Nat → St → Prop} (hx : p.tables.exec = Jvm.exec) (hb : c.code = b_Wrt_putPlain) (hml : c.maxLocals = 7) (hown : s.vm.findClass R_Wrt = some m.cls) (hT : ∀ w ∈ TG, w.before args s = true) (hK : va_K (dC, dI) CL (TY cI cB cJ cZ) s) (hN : NW s) (hA : ∀ q : Nat, s.heap.size ≤ q → A q) (hRf : 5 ≤ R.frames) (hRl : 270 ≤ R.locals) (hE : CE E tM tC kK kV A s) (hret : ∀ (ad : Nat → Nat) (NN cells slots : Nat) (x : St) (H : Heap) (locs : List Loc) (pc : Nat) (ls : Array Slot), decode b_Wrt_putPlain pc = .ok (.return_, 1) → (NN0 ≤ NN ∧ ∀ o : Nat, o < NN0 → ad o = ad0 o) → cells ≤ R.cells → slots ≤ R.slots → post x → Wd dC dI cI cB cJ cZ ad stC kcC NN A x H → va_S A s.heap H locs → W p l e R s m args below meth c H locs cells slots Q (F0 m pc ls [])) (hrec77 : ∀ (ad : Nat → Nat) (NN cells slots : Nat) (o : Nat) (l1 : Int32) (l2 : Nat) (l3 : Int32) (l4 : Int32) (kb : Nat) (nb : Nat) (x : St) (H : Heap) (locs : List Loc) (ls : Array Slot), (152 ≤ NN) → (NN0 ≤ NN ∧ ∀ o : Nat, o < NN0 → ad o = ad0 o) → (cells + kb ≤ R.cells) → (slots + nb ≤ R.slots) → (o < NN ∧ kcC o = 5) → (l2 < NN ∧ kcC l2 = 22) → rec77 o l1 l2 l3 l4 kb nb x → Wd dC dI cI cB cJ cZ ad stC kcC NN A x H → va_S A s.heap H locs → lv_has ls 7 [(0, .ref (ad o)), (1, .int l1), (2, .ref (ad l2)), (3, .int l3), (4, .int l4)] → W p l e R s m args below meth c H locs cells slots Q (F0 m 77 ls [])) : ∀ (ad : Nat → Nat) (NN cells slots : Nat) (o : Nat) (l1 : Int32) (l2 : Nat) (l3 : Int32) (l4 : Int32) (kb : Nat) (nb : Nat) (x : St) (H : Heap) (locs : List Loc) (ls : Array Slot), (152 ≤ NN) → (NN0 ≤ NN ∧ ∀ o : Nat, o < NN0 → ad o = ad0 o) → (cells + kb ≤ R.cells) → (slots + nb ≤ R.slots) → (o < NN ∧ kcC o = 5) → (l2 < NN ∧ kcC l2 = 22) → j_Wrt_putPlain_77 post rec77 o l1 l2 l3 l4 kb nb x → Wd dC dI cI cB cJ cZ ad stC kcC NN A x H → va_S A s.heap H locs → lv_has ls 7 [(0, .ref (ad o)), (1, .int l1), (2, .ref (ad l2)), (3, .int l3), (4, .int l4)] → W p l e R s m args below meth c H locs cells slots Q (F0 m 77 ls []) := by
  intro ad NN cells slots o l1 l2 l3 l4 kb nb x H locs ls hNN hag hRc hRs fo fl2 hw hW hS hl
  unfold j_Wrt_putPlain_77 at hw
  refine lv_iload hx hb d_Wrt_putPlain_77 (lv_at hl 4 rfl) ?_
  refine lv_iload_n hx hb d_Wrt_putPlain_79 rfl (lv_at hl 3 rfl) ?_
  refine lv_icmp_ge (tgt := 137) hx hb d_Wrt_putPlain_80 (by decide) (fun c6 => ?_) (fun c6 => ?_)
  · have hw := hw.1 c6
    exact hret ad NN cells slots x H locs 137 ls d_Wrt_putPlain_137 hag (Nat.le_trans (Nat.le_add_right _ _) hRc) (Nat.le_trans (Nat.le_add_right _ _) hRs) hw hW hS
  · have hw := hw.2 c6
    refine lv_iload_n hx hb d_Wrt_putPlain_83 rfl (lv_at hl 1 rfl) ?_
    refine lv_iconst (v := 3) hx hb d_Wrt_putPlain_84 (by decide) ?_
    refine lv_icmp_ne (tgt := 109) hx hb d_Wrt_putPlain_85 (by decide) (fun c7 => ?_) (fun c7 => ?_)
    · have hw := hw.1 c7
      refine lv_aload_n hx hb d_Wrt_putPlain_109 rfl (lv_at hl 0 rfl) ?_
      obtain ⟨q8, hq8, hw⟩ := hw
      refine w_getr (q := q8) (k := 4) (t := 5) (C := R_Wrt) (T := F_Wrt) (N := 20) hx hb hT hown hK hW fo.1 fo.2 (by decide) in_Wrt rfl rfl (by decide) rfl fr_Wrt_4 w_2_55 d_Wrt_putPlain_110 hq8 (fun aq8 bq8 => ?_)
      have fq8 : q8 < NN ∧ kcC q8 = 1 := ⟨aq8, bq8⟩
      refine lv_aload_n hx hb d_Wrt_putPlain_113 rfl (lv_at hl 2 rfl) ?_
      refine lv_iload hx hb d_Wrt_putPlain_114 (lv_at hl 4 rfl) ?_
      obtain ⟨hi, hw⟩ := hw
      refine w_lald (o := l2) hx hb hK hW fl2.1 fl2.2 hi d_Wrt_putPlain_116 ?_
      refine lv_iload_n hx hb d_Wrt_putPlain_117 rfl (lv_at hl 1 rfl) ?_
      refine lv_iconst (v := 1) hx hb d_Wrt_putPlain_118 (by decide) ?_
      refine lv_icmp_ne (tgt := 126) hx hb d_Wrt_putPlain_119 (by decide) (fun c9 => ?_) (fun c9 => ?_)
      · have hw := hw.1 c9
        refine lv_bipush (v := 8) hx hb d_Wrt_putPlain_126 (by decide) ?_
        exact t_Wrt_putPlain_128 hx hb hml hown hT hK hN hA hRf hRl hE hret hrec77 ad NN cells slots o l1 l2 l3 l4 8 (rL x l2 l4) q8 kb nb x H locs ls hNN hag hRc hRs fo fl2 fq8 hw hW hS (lv_sub hl [0, 1, 2, 3, 4] rfl)
      · have hw := hw.2 c9
        refine lv_iconst (v := 4) hx hb d_Wrt_putPlain_122 (by decide) ?_
        refine lv_goto (tgt := 128) hx hb d_Wrt_putPlain_123 (by decide) ?_
        exact t_Wrt_putPlain_128 hx hb hml hown hT hK hN hA hRf hRl hE hret hrec77 ad NN cells slots o l1 l2 l3 l4 4 (rL x l2 l4) q8 kb nb x H locs ls hNN hag hRc hRs fo fl2 fq8 hw hW hS (lv_sub hl [0, 1, 2, 3, 4] rfl)
    · have hw := hw.2 c7
      refine lv_aload_n hx hb d_Wrt_putPlain_88 rfl (lv_at hl 0 rfl) ?_
      obtain ⟨q10, hq10, hw⟩ := hw
      refine w_getr (q := q10) (k := 4) (t := 5) (C := R_Wrt) (T := F_Wrt) (N := 20) hx hb hT hown hK hW fo.1 fo.2 (by decide) in_Wrt rfl rfl (by decide) rfl fr_Wrt_4 w_2_55 d_Wrt_putPlain_89 hq10 (fun aq10 bq10 => ?_)
      have fq10 : q10 < NN ∧ kcC q10 = 1 := ⟨aq10, bq10⟩
      refine lv_aload_n hx hb d_Wrt_putPlain_92 rfl (lv_at hl 0 rfl) ?_
      obtain ⟨q11, hq11, hw⟩ := hw
      refine w_getr (q := q11) (k := 6) (t := 5) (C := R_Wrt) (T := F_Wrt) (N := 20) hx hb hT hown hK hW fo.1 fo.2 (by decide) in_Wrt rfl rfl (by decide) rfl fr_Wrt_6 w_2_57 d_Wrt_putPlain_93 hq11 (fun aq11 bq11 => ?_)
      have fq11 : q11 < NN ∧ kcC q11 = 4 := ⟨aq11, bq11⟩
      refine w_getf (q := (stC q11 12)) (k := 12) (t := 4) (C := R_Rec) (T := F_Rec) (N := 15) hx hb hT hown hK hW fq11.1 fq11.2 (by decide) in_Rec rfl rfl (by decide) rfl fr_Rec_12 w_2_7 d_Wrt_putPlain_96 rfl ?_
      refine lv_aload_n hx hb d_Wrt_putPlain_99 rfl (lv_at hl 2 rfl) ?_
      refine lv_iload hx hb d_Wrt_putPlain_100 (lv_at hl 4 rfl) ?_
      obtain ⟨hi, hw⟩ := hw
      refine w_lald (o := l2) hx hb hK hW fl2.1 fl2.2 hi d_Wrt_putPlain_102 ?_
      obtain ⟨k12, n13, k14, n15, ek12, en13, hw⟩ := hw
      have hF := hW.free hS hA
      refine va_callv (va_runV (C := R_Snk) (As := [.ref (ad (stC q11 12)), .long (rL x l2 l4)]) (rest := []) ⟨hx, hb, hml, hown, hT⟩ (k_Snk_putText l dC dI cI cB cJ cZ ad NN E tM tC kK kV hNN H.size q10 (stC q11 12) (rL x l2 l4) k12 n13 x fq10 (st_ty hNN fq11.1 fq11.2 rfl) hw) ⟨callB_of 2 hT (gwt_in w_5_178) rfl rfl rfl (hT _ w_1_2) (hT _ w_5_175) (by decide +kernel) ⟨Nat.le_trans (Nat.le_of_ble_eq_true rfl) hRf, Nat.le_trans (Nat.le_of_ble_eq_true rfl) hRl⟩, hT _ w_5_176, hT _ w_5_177⟩ ⟨PVc.blind, va_recv hK hW.1 (ci := 1) (q0 := q10) rfl (pic_obj fq10.1 fq10.2 (by decide)), PVc.at _ hW hK hN hE hS hF⟩ rfl rfl hl.1 rfl (lv_room (Nat.le_of_ble_eq_true rfl)) d_Wrt_putPlain_103 ⟨show cells + k12 ≤ R.cells by omega, show slots + n13 ≤ R.slots by omega⟩) hS (fun q _ h => hF q h) hF (fun  x16 t H locs ht hvm hw hB hz1 hk1 hS => ?_)
      obtain ⟨x16, ad, NN⟩ := x16
      obtain ⟨hB, hle, hg⟩ := hB
      try dsimp only at hw hB hle hg
      have hW := Wd.back hB ht hF
      rw [← hg o fo.1] at hl
      rw [← hg l2 fl2.1] at hl
      have fl2 : l2 < NN ∧ kcC l2 = 22 := ⟨Nat.lt_of_lt_of_le fl2.1 hle, fl2.2⟩
      have fo : o < NN ∧ kcC o = 5 := ⟨Nat.lt_of_lt_of_le fo.1 hle, fo.2⟩
      have fq10 : q10 < NN ∧ kcC q10 = 1 := ⟨Nat.lt_of_lt_of_le fq10.1 hle, fq10.2⟩
      have fq11 : q11 < NN ∧ kcC q11 = 4 := ⟨Nat.lt_of_lt_of_le fq11.1 hle, fq11.2⟩
      have hag : NN0 ≤ NN ∧ ∀ o : Nat, o < NN0 → ad o = ad0 o := ⟨Nat.le_trans hag.1 hle, fun o h => (hg o (Nat.lt_of_lt_of_le h hag.1)).trans (hag.2 o h)⟩
      have hNN : 152 ≤ NN := Nat.le_trans hNN hle
      clear hg hle
      obtain ⟨cells, ec⟩ : ∃ z, z = cells + k12 := ⟨_, rfl⟩
      obtain ⟨slots, es⟩ : ∃ z, z = slots + n13 := ⟨_, rfl⟩
      first | rw [← ec, ← es] | rw [Nat.add_zero, Nat.add_zero, ← ec, ← es]
      have hRc : cells + k14 ≤ R.cells := by omega
      have hRs : slots + n15 ≤ R.slots := by omega
      clear ec es hB ht hF hz1 hk1 hvm ek12 en13
      refine lv_goto (tgt := 131) hx hb d_Wrt_putPlain_106 (by decide) ?_
      exact t_Wrt_putPlain_131 hx hb hml hown hT hK hN hA hRf hRl hE hret hrec77 ad NN cells slots o l1 l2 l3 l4 k14 n15 x16 H locs ls hNN hag hRc hRs fo fl2 hw hW hS (lv_sub hl [0, 1, 2, 3, 4] rfl)
set_option maxHeartbeats 4000000 in
set_option maxRecDepth 100000 in
theorem tl_Wrt_putPlain_77 {p : Program} {l : Launch} {e : Env} {R : Room} {s : State} {m : MethodId} {args : Array Value} {below : List Frame} {meth : Method} {c : Code} {Q : State → Prop} {dC : Nat → ClassId} {dI : Nat → Nat → Nat} {cI cB cJ cZ : ClassId} {A : Nat → Prop} {E : Heap} {tM tC : Nat} {kK kV : Nat → Nat} {ad0 : Nat → Nat} {NN0 : Nat} {post : St → Prop} (hx : p.tables.exec = Jvm.exec) (hb : c.code = b_Wrt_putPlain) (hml : c.maxLocals = 7) (hown : s.vm.findClass R_Wrt = some m.cls) (hT : ∀ w ∈ TG, w.before args s = true) (hK : va_K (dC, dI) CL (TY cI cB cJ cZ) s) (hN : NW s) (hA : ∀ q : Nat, s.heap.size ≤ q → A q) (hRf : 5 ≤ R.frames) (hRl : 270 ≤ R.locals) (hE : CE E tM tC kK kV A s) (hret : ∀ (ad : Nat → Nat) (NN cells slots : Nat) (x : St) (H : Heap) (locs : List Loc) (pc : Nat) (ls : Array Slot), decode b_Wrt_putPlain pc = .ok (.return_, 1) → (NN0 ≤ NN ∧ ∀ o : Nat, o < NN0 → ad o = ad0 o) → cells ≤ R.cells → slots ≤ R.slots → post x → Wd dC dI cI cB cJ cZ ad stC kcC NN A x H → va_S A s.heap H locs → W p l e R s m args below meth c H locs cells slots Q (F0 m pc ls []))  : ∀ n : Nat, ∀ (ad : Nat → Nat) (NN cells slots : Nat) (o : Nat) (l1 : Int32) (l2 : Nat) (l3 : Int32) (l4 : Int32) (kb : Nat) (nb : Nat) (x : St) (H : Heap) (locs : List Loc) (ls : Array Slot), (152 ≤ NN) → (NN0 ≤ NN ∧ ∀ o : Nat, o < NN0 → ad o = ad0 o) → (cells + kb ≤ R.cells) → (slots + nb ≤ R.slots) → (o < NN ∧ kcC o = 5) → (l2 < NN ∧ kcC l2 = 22) → wl_Wrt_putPlain_77 post n o l1 l2 l3 l4 kb nb x → Wd dC dI cI cB cJ cZ ad stC kcC NN A x H → va_S A s.heap H locs → lv_has ls 7 [(0, .ref (ad o)), (1, .int l1), (2, .ref (ad l2)), (3, .int l3), (4, .int l4)] → W p l e R s m args below meth c H locs cells slots Q (F0 m 77 ls []) := by
  intro n
  induction n with
  | zero => intro ad NN cells slots o l1 l2 l3 l4 kb nb x H locs ls hNN hag hRc hRs fo fl2 hw; exact hw.elim
  | succ n ih => intro ad NN cells slots o l1 l2 l3 l4 kb nb x H locs ls hNN hag hRc hRs fo fl2 hw hW hS hl; exact t_Wrt_putPlain_77 hx hb hml hown hT hK hN hA hRf hRl hE hret  ih ad NN cells slots o l1 l2 l3 l4 kb nb x H locs ls hNN hag hRc hRs fo fl2 hw hW hS hl
set_option maxRecDepth 100000 in
set_option maxHeartbeats 4000000 in
set_option maxRecDepth 100000 in
theorem t_Wrt_putPlain_58 {p : Program} {l : Launch} {e : Env} {R : Room} {s : State} {m : MethodId} {args : Array Value} {below : List Frame} {meth : Method} {c : Code} {Q : State → Prop} {dC : Nat → ClassId} {dI : Nat → Nat → Nat} {cI cB cJ cZ : ClassId} {A : Nat → Prop} {E : Heap} {tM tC : Nat} {kK kV : Nat → Nat} {ad0 : Nat → Nat} {NN0 : Nat} {post : St → Prop} {rec7 : Nat → Int32 → Nat → Int32 → Int32 → Nat → Nat → St → Prop} (hx : p.tables.exec = Jvm.exec) (hb : c.code = b_Wrt_putPlain) (hml : c.maxLocals = 7) (hown : s.vm.findClass R_Wrt = some m.cls) (hT : ∀ w ∈ TG, w.before args s = true) (hK : va_K (dC, dI) CL (TY cI cB cJ cZ) s) (hN : NW s) (hA : ∀ q : Nat, s.heap.size ≤ q → A q) (hRf : 5 ≤ R.frames) (hRl : 270 ≤ R.locals) (hE : CE E tM tC kK kV A s) (hret : ∀ (ad : Nat → Nat) (NN cells slots : Nat) (x : St) (H : Heap) (locs : List Loc) (pc : Nat) (ls : Array Slot), decode b_Wrt_putPlain pc = .ok (.return_, 1) → (NN0 ≤ NN ∧ ∀ o : Nat, o < NN0 → ad o = ad0 o) → cells ≤ R.cells → slots ≤ R.slots → post x → Wd dC dI cI cB cJ cZ ad stC kcC NN A x H → va_S A s.heap H locs → W p l e R s m args below meth c H locs cells slots Q (F0 m pc ls [])) (hrec7 : ∀ (ad : Nat → Nat) (NN cells slots : Nat) (o : Nat) (l1 : Int32) (l2 : Nat) (l3 : Int32) (l4 : Int32) (kb : Nat) (nb : Nat) (x : St) (H : Heap) (locs : List Loc) (ls : Array Slot), (152 ≤ NN) → (NN0 ≤ NN ∧ ∀ o : Nat, o < NN0 → ad o = ad0 o) → (cells + kb ≤ R.cells) → (slots + nb ≤ R.slots) → (o < NN ∧ kcC o = 5) → (l2 < NN ∧ kcC l2 = 22) → rec7 o l1 l2 l3 l4 kb nb x → Wd dC dI cI cB cJ cZ ad stC kcC NN A x H → va_S A s.heap H locs → lv_has ls 7 [(0, .ref (ad o)), (1, .int l1), (2, .ref (ad l2)), (3, .int l3), (4, .int l4)] → W p l e R s m args below meth c H locs cells slots Q (F0 m 7 ls [])) : ∀ (ad : Nat → Nat) (NN cells slots : Nat) (o : Nat) (l1 : Int32) (l2 : Nat) (l3 : Int32) (l4 : Int32) (l5 : Int32) (l6 : Int32) (kb : Nat) (nb : Nat) (x : St) (H : Heap) (locs : List Loc) (ls : Array Slot), (152 ≤ NN) → (NN0 ≤ NN ∧ ∀ o : Nat, o < NN0 → ad o = ad0 o) → (cells + kb ≤ R.cells) → (slots + nb ≤ R.slots) → (o < NN ∧ kcC o = 5) → (l2 < NN ∧ kcC l2 = 22) → j_Wrt_putPlain_58 post rec7 o l1 l2 l3 l4 l5 l6 kb nb x → Wd dC dI cI cB cJ cZ ad stC kcC NN A x H → va_S A s.heap H locs → lv_has ls 7 [(0, .ref (ad o)), (1, .int l1), (2, .ref (ad l2)), (3, .int l3), (4, .int l4), (5, .int l5), (6, .int l6)] → W p l e R s m args below meth c H locs cells slots Q (F0 m 58 ls []) := by
  intro ad NN cells slots o l1 l2 l3 l4 l5 l6 kb nb x H locs ls hNN hag hRc hRs fo fl2 hw hW hS hl
  unfold j_Wrt_putPlain_58 at hw
  refine lv_aload_n hx hb d_Wrt_putPlain_58 rfl (lv_at hl 0 rfl) ?_
  obtain ⟨q17, hq17, hw⟩ := hw
  refine w_getr (q := q17) (k := 4) (t := 5) (C := R_Wrt) (T := F_Wrt) (N := 20) hx hb hT hown hK hW fo.1 fo.2 (by decide) in_Wrt rfl rfl (by decide) rfl fr_Wrt_4 w_2_55 d_Wrt_putPlain_59 hq17 (fun aq17 bq17 => ?_)
  have fq17 : q17 < NN ∧ kcC q17 = 1 := ⟨aq17, bq17⟩
  refine lv_iload hx hb d_Wrt_putPlain_62 (lv_at hl 5 rfl) ?_
  obtain ⟨k18, n19, k20, n21, ek18, en19, hw⟩ := hw
  have hF := hW.free hS hA
  refine va_callv (va_runV (C := R_Snk) (As := [.int l5]) (rest := []) ⟨hx, hb, hml, hown, hT⟩ (k_Snk_put l dC dI cI cB cJ cZ ad NN E tM tC kK kV hNN H.size q17 l5 k18 n19 x fq17 hw) ⟨callB_of 1 hT (gwt_in w_4_52) rfl rfl rfl (hT _ w_1_2) (hT _ w_5_145) (by decide +kernel) ⟨Nat.le_trans (Nat.le_of_ble_eq_true rfl) hRf, Nat.le_trans (Nat.le_of_ble_eq_true rfl) hRl⟩, hT _ w_4_50, hT _ w_4_51⟩ ⟨PVc.blind, va_recv hK hW.1 (ci := 1) (q0 := q17) rfl (pic_obj fq17.1 fq17.2 (by decide)), PVc.at _ hW hK hN hE hS hF⟩ rfl rfl hl.1 rfl (lv_room (Nat.le_of_ble_eq_true rfl)) d_Wrt_putPlain_64 ⟨show cells + k18 ≤ R.cells by omega, show slots + n19 ≤ R.slots by omega⟩) hS (fun q _ h => hF q h) hF (fun  x22 t H locs ht hvm hw hB hz1 hk1 hS => ?_)
  obtain ⟨x22, ad, NN⟩ := x22
  obtain ⟨hB, hle, hg⟩ := hB
  try dsimp only at hw hB hle hg
  have hW := Wd.back hB ht hF
  rw [← hg o fo.1] at hl
  rw [← hg l2 fl2.1] at hl
  have fl2 : l2 < NN ∧ kcC l2 = 22 := ⟨Nat.lt_of_lt_of_le fl2.1 hle, fl2.2⟩
  have fo : o < NN ∧ kcC o = 5 := ⟨Nat.lt_of_lt_of_le fo.1 hle, fo.2⟩
  have fq17 : q17 < NN ∧ kcC q17 = 1 := ⟨Nat.lt_of_lt_of_le fq17.1 hle, fq17.2⟩
  have hag : NN0 ≤ NN ∧ ∀ o : Nat, o < NN0 → ad o = ad0 o := ⟨Nat.le_trans hag.1 hle, fun o h => (hg o (Nat.lt_of_lt_of_le h hag.1)).trans (hag.2 o h)⟩
  have hNN : 152 ≤ NN := Nat.le_trans hNN hle
  clear hg hle
  obtain ⟨cells, ec⟩ : ∃ z, z = cells + k18 := ⟨_, rfl⟩
  obtain ⟨slots, es⟩ : ∃ z, z = slots + n19 := ⟨_, rfl⟩
  first | rw [← ec, ← es] | rw [Nat.add_zero, Nat.add_zero, ← ec, ← es]
  have hRc : cells + k20 ≤ R.cells := by omega
  have hRs : slots + n21 ≤ R.slots := by omega
  clear ec es hB ht hF hz1 hk1 hvm ek18 en19
  refine lv_iinc (v := (l4 + 8)) (lv' := [(4, .int (l4 + 8)), (0, .ref (ad o)), (1, .int l1), (2, .ref (ad l2)), (3, .int l3), (5, .int l5), (6, .int l6)]) hx hb d_Wrt_putPlain_67 hl (k := 4) rfl rfl (by decide) rfl (fun ls hl => ?_)
  refine lv_goto (tgt := 7) hx hb d_Wrt_putPlain_70 (by decide) ?_
  exact hrec7 ad NN cells slots o l1 l2 l3 (l4 + 8) k20 n21 x22 H locs ls hNN hag hRc hRs fo fl2 hw hW hS (lv_sub hl [1, 2, 3, 4, 0] rfl)
set_option maxRecDepth 100000 in
set_option maxHeartbeats 4000000 in
set_option maxRecDepth 100000 in
theorem t_Wrt_putPlain_20 {p : Program} {l : Launch} {e : Env} {R : Room} {s : State} {m : MethodId} {args : Array Value} {below : List Frame} {meth : Method} {c : Code} {Q : State → Prop} {dC : Nat → ClassId} {dI : Nat → Nat → Nat} {cI cB cJ cZ : ClassId} {A : Nat → Prop} {E : Heap} {tM tC : Nat} {kK kV : Nat → Nat} {ad0 : Nat → Nat} {NN0 : Nat} {post : St → Prop} {rec7 : Nat → Int32 → Nat → Int32 → Int32 → Nat → Nat → St → Prop} {rec20 : Nat → Int32 → Nat → Int32 → Int32 → Int32 → Int32 → Nat → Nat → St → Prop} (hx : p.tables.exec = Jvm.exec) (hb : c.code = b_Wrt_putPlain) (hml : c.maxLocals = 7) (hown : s.vm.findClass R_Wrt = some m.cls) (hT : ∀ w ∈ TG, w.before args s = true) (hK : va_K (dC, dI) CL (TY cI cB cJ cZ) s) (hN : NW s) (hA : ∀ q : Nat, s.heap.size ≤ q → A q) (hRf : 5 ≤ R.frames) (hRl : 270 ≤ R.locals) (hE : CE E tM tC kK kV A s) (hret : ∀ (ad : Nat → Nat) (NN cells slots : Nat) (x : St) (H : Heap) (locs : List Loc) (pc : Nat) (ls : Array Slot), decode b_Wrt_putPlain pc = .ok (.return_, 1) → (NN0 ≤ NN ∧ ∀ o : Nat, o < NN0 → ad o = ad0 o) → cells ≤ R.cells → slots ≤ R.slots → post x → Wd dC dI cI cB cJ cZ ad stC kcC NN A x H → va_S A s.heap H locs → W p l e R s m args below meth c H locs cells slots Q (F0 m pc ls [])) (hrec7 : ∀ (ad : Nat → Nat) (NN cells slots : Nat) (o : Nat) (l1 : Int32) (l2 : Nat) (l3 : Int32) (l4 : Int32) (kb : Nat) (nb : Nat) (x : St) (H : Heap) (locs : List Loc) (ls : Array Slot), (152 ≤ NN) → (NN0 ≤ NN ∧ ∀ o : Nat, o < NN0 → ad o = ad0 o) → (cells + kb ≤ R.cells) → (slots + nb ≤ R.slots) → (o < NN ∧ kcC o = 5) → (l2 < NN ∧ kcC l2 = 22) → rec7 o l1 l2 l3 l4 kb nb x → Wd dC dI cI cB cJ cZ ad stC kcC NN A x H → va_S A s.heap H locs → lv_has ls 7 [(0, .ref (ad o)), (1, .int l1), (2, .ref (ad l2)), (3, .int l3), (4, .int l4)] → W p l e R s m args below meth c H locs cells slots Q (F0 m 7 ls [])) (hrec20 : ∀ (ad : Nat → Nat) (NN cells slots : Nat) (o : Nat) (l1 : Int32) (l2 : Nat) (l3 : Int32) (l4 : Int32) (l5 : Int32) (l6 : Int32) (kb : Nat) (nb : Nat) (x : St) (H : Heap) (locs : List Loc) (ls : Array Slot), (152 ≤ NN) → (NN0 ≤ NN ∧ ∀ o : Nat, o < NN0 → ad o = ad0 o) → (cells + kb ≤ R.cells) → (slots + nb ≤ R.slots) → (o < NN ∧ kcC o = 5) → (l2 < NN ∧ kcC l2 = 22) → rec20 o l1 l2 l3 l4 l5 l6 kb nb x → Wd dC dI cI cB cJ cZ ad stC kcC NN A x H → va_S A s.heap H locs → lv_has ls 7 [(0, .ref (ad o)), (1, .int l1), (2, .ref (ad l2)), (3, .int l3), (4, .int l4), (5, .int l5), (6, .int l6)] → W p l e R s m args below meth c H locs cells slots Q (F0 m 20 ls [])) : ∀ (ad : Nat → Nat) (NN cells slots : Nat) (o : Nat) (l1 : Int32) (l2 : Nat) (l3 : Int32) (l4 : Int32) (l5 : Int32) (l6 : Int32) (kb : Nat) (nb : Nat) (x : St) (H : Heap) (locs : List Loc) (ls : Array Slot), (152 ≤ NN) → (NN0 ≤ NN ∧ ∀ o : Nat, o < NN0 → ad o = ad0 o) → (cells + kb ≤ R.cells) → (slots + nb ≤ R.slots) → (o < NN ∧ kcC o = 5) → (l2 < NN ∧ kcC l2 = 22) → j_Wrt_putPlain_20 post rec7 rec20 o l1 l2 l3 l4 l5 l6 kb nb x → Wd dC dI cI cB cJ cZ ad stC kcC NN A x H → va_S A s.heap H locs → lv_has ls 7 [(0, .ref (ad o)), (1, .int l1), (2, .ref (ad l2)), (3, .int l3), (4, .int l4), (5, .int l5), (6, .int l6)] → W p l e R s m args below meth c H locs cells slots Q (F0 m 20 ls []) := by
  intro ad NN cells slots o l1 l2 l3 l4 l5 l6 kb nb x H locs ls hNN hag hRc hRs fo fl2 hw hW hS hl
  unfold j_Wrt_putPlain_20 at hw
  refine lv_iload hx hb d_Wrt_putPlain_20 (lv_at hl 6 rfl) ?_
  refine lv_iload hx hb d_Wrt_putPlain_22 (lv_at hl 4 rfl) ?_
  refine lv_bipush (v := 8) hx hb d_Wrt_putPlain_24 (by decide) ?_
  refine lv_iadd hx hb d_Wrt_putPlain_26 ?_
  refine lv_icmp_ge (tgt := 58) hx hb d_Wrt_putPlain_27 (by decide) (fun c23 => ?_) (fun c23 => ?_)
  · have hw := hw.1 c23
    exact t_Wrt_putPlain_58 hx hb hml hown hT hK hN hA hRf hRl hE hret hrec7 ad NN cells slots o l1 l2 l3 l4 l5 l6 kb nb x H locs ls hNN hag hRc hRs fo fl2 hw hW hS (lv_sub hl [0, 1, 2, 3, 4, 5, 6] rfl)
  · have hw := hw.2 c23
    refine lv_iload hx hb d_Wrt_putPlain_30 (lv_at hl 6 rfl) ?_
    refine lv_iload_n hx hb d_Wrt_putPlain_32 rfl (lv_at hl 3 rfl) ?_
    refine lv_icmp_ge (tgt := 58) hx hb d_Wrt_putPlain_33 (by decide) (fun c24 => ?_) (fun c24 => ?_)
    · have hw := hw.1 c24
      exact t_Wrt_putPlain_58 hx hb hml hown hT hK hN hA hRf hRl hE hret hrec7 ad NN cells slots o l1 l2 l3 l4 l5 l6 kb nb x H locs ls hNN hag hRc hRs fo fl2 hw hW hS (lv_sub hl [0, 1, 2, 3, 4, 5, 6] rfl)
    · have hw := hw.2 c24
      refine lv_iload hx hb d_Wrt_putPlain_36 (lv_at hl 5 rfl) ?_
      refine lv_aload_n hx hb d_Wrt_putPlain_38 rfl (lv_at hl 2 rfl) ?_
      refine lv_iload hx hb d_Wrt_putPlain_39 (lv_at hl 6 rfl) ?_
      obtain ⟨hi, hw⟩ := hw
      refine w_lald (o := l2) hx hb hK hW fl2.1 fl2.2 hi d_Wrt_putPlain_41 ?_
      refine lv_l2i hx hb d_Wrt_putPlain_42 rfl ?_
      refine lv_iload hx hb d_Wrt_putPlain_43 (lv_at hl 6 rfl) ?_
      refine lv_iload hx hb d_Wrt_putPlain_45 (lv_at hl 4 rfl) ?_
      refine lv_isub hx hb d_Wrt_putPlain_47 ?_
      refine lv_ishl hx hb d_Wrt_putPlain_48 ?_
      refine lv_ior hx hb d_Wrt_putPlain_49 ?_
      refine lv_topi (fun v25 ev25 => ?_)
      have hw := hw v25 ev25
      refine lv_istore (lv' := [(5, .int v25), (0, .ref (ad o)), (1, .int l1), (2, .ref (ad l2)), (3, .int l3), (4, .int l4), (6, .int l6)]) hx hb d_Wrt_putPlain_50 hl (by decide) rfl (fun ls hl => ?_)
      refine lv_iinc (v := (l6 + 1)) (lv' := [(6, .int (l6 + 1)), (5, .int v25), (0, .ref (ad o)), (1, .int l1), (2, .ref (ad l2)), (3, .int l3), (4, .int l4)]) hx hb d_Wrt_putPlain_52 hl (k := 6) rfl rfl (by decide) rfl (fun ls hl => ?_)
      refine lv_goto (tgt := 20) hx hb d_Wrt_putPlain_55 (by decide) ?_
      exact hrec20 ad NN cells slots o l1 l2 l3 l4 v25 (l6 + 1) kb nb x H locs ls hNN hag hRc hRs fo fl2 hw hW hS (lv_sub hl [2, 3, 4, 5, 6, 1, 0] rfl)
set_option maxHeartbeats 4000000 in
set_option maxRecDepth 100000 in
theorem tl_Wrt_putPlain_20 {p : Program} {l : Launch} {e : Env} {R : Room} {s : State} {m : MethodId} {args : Array Value} {below : List Frame} {meth : Method} {c : Code} {Q : State → Prop} {dC : Nat → ClassId} {dI : Nat → Nat → Nat} {cI cB cJ cZ : ClassId} {A : Nat → Prop} {E : Heap} {tM tC : Nat} {kK kV : Nat → Nat} {ad0 : Nat → Nat} {NN0 : Nat} {post : St → Prop} {rec7 : Nat → Int32 → Nat → Int32 → Int32 → Nat → Nat → St → Prop} (hx : p.tables.exec = Jvm.exec) (hb : c.code = b_Wrt_putPlain) (hml : c.maxLocals = 7) (hown : s.vm.findClass R_Wrt = some m.cls) (hT : ∀ w ∈ TG, w.before args s = true) (hK : va_K (dC, dI) CL (TY cI cB cJ cZ) s) (hN : NW s) (hA : ∀ q : Nat, s.heap.size ≤ q → A q) (hRf : 5 ≤ R.frames) (hRl : 270 ≤ R.locals) (hE : CE E tM tC kK kV A s) (hret : ∀ (ad : Nat → Nat) (NN cells slots : Nat) (x : St) (H : Heap) (locs : List Loc) (pc : Nat) (ls : Array Slot), decode b_Wrt_putPlain pc = .ok (.return_, 1) → (NN0 ≤ NN ∧ ∀ o : Nat, o < NN0 → ad o = ad0 o) → cells ≤ R.cells → slots ≤ R.slots → post x → Wd dC dI cI cB cJ cZ ad stC kcC NN A x H → va_S A s.heap H locs → W p l e R s m args below meth c H locs cells slots Q (F0 m pc ls [])) (hrec7 : ∀ (ad : Nat → Nat) (NN cells slots : Nat) (o : Nat) (l1 : Int32) (l2 : Nat) (l3 : Int32) (l4 : Int32) (kb : Nat) (nb : Nat) (x : St) (H : Heap) (locs : List Loc) (ls : Array Slot), (152 ≤ NN) → (NN0 ≤ NN ∧ ∀ o : Nat, o < NN0 → ad o = ad0 o) → (cells + kb ≤ R.cells) → (slots + nb ≤ R.slots) → (o < NN ∧ kcC o = 5) → (l2 < NN ∧ kcC l2 = 22) → rec7 o l1 l2 l3 l4 kb nb x → Wd dC dI cI cB cJ cZ ad stC kcC NN A x H → va_S A s.heap H locs → lv_has ls 7 [(0, .ref (ad o)), (1, .int l1), (2, .ref (ad l2)), (3, .int l3), (4, .int l4)] → W p l e R s m args below meth c H locs cells slots Q (F0 m 7 ls [])) : ∀ n : Nat, ∀ (ad : Nat → Nat) (NN cells slots : Nat) (o : Nat) (l1 : Int32) (l2 : Nat) (l3 : Int32) (l4 : Int32) (l5 : Int32) (l6 : Int32) (kb : Nat) (nb : Nat) (x : St) (H : Heap) (locs : List Loc) (ls : Array Slot), (152 ≤ NN) → (NN0 ≤ NN ∧ ∀ o : Nat, o < NN0 → ad o = ad0 o) → (cells + kb ≤ R.cells) → (slots + nb ≤ R.slots) → (o < NN ∧ kcC o = 5) → (l2 < NN ∧ kcC l2 = 22) → wl_Wrt_putPlain_20 post rec7 n o l1 l2 l3 l4 l5 l6 kb nb x → Wd dC dI cI cB cJ cZ ad stC kcC NN A x H → va_S A s.heap H locs → lv_has ls 7 [(0, .ref (ad o)), (1, .int l1), (2, .ref (ad l2)), (3, .int l3), (4, .int l4), (5, .int l5), (6, .int l6)] → W p l e R s m args below meth c H locs cells slots Q (F0 m 20 ls []) := by
  intro n
  induction n with
  | zero => intro ad NN cells slots o l1 l2 l3 l4 l5 l6 kb nb x H locs ls hNN hag hRc hRs fo fl2 hw; exact hw.elim
  | succ n ih => intro ad NN cells slots o l1 l2 l3 l4 l5 l6 kb nb x H locs ls hNN hag hRc hRs fo fl2 hw hW hS hl; exact t_Wrt_putPlain_20 hx hb hml hown hT hK hN hA hRf hRl hE hret hrec7 ih ad NN cells slots o l1 l2 l3 l4 l5 l6 kb nb x H locs ls hNN hag hRc hRs fo fl2 hw hW hS hl
set_option maxRecDepth 100000 in
set_option maxHeartbeats 4000000 in
set_option maxRecDepth 100000 in
theorem t_Wrt_putPlain_7 {p : Program} {l : Launch} {e : Env} {R : Room} {s : State} {m : MethodId} {args : Array Value} {below : List Frame} {meth : Method} {c : Code} {Q : State → Prop} {dC : Nat → ClassId} {dI : Nat → Nat → Nat} {cI cB cJ cZ : ClassId} {A : Nat → Prop} {E : Heap} {tM tC : Nat} {kK kV : Nat → Nat} {ad0 : Nat → Nat} {NN0 : Nat} {post : St → Prop} {rec7 : Nat → Int32 → Nat → Int32 → Int32 → Nat → Nat → St → Prop} (hx : p.tables.exec = Jvm.exec) (hb : c.code = b_Wrt_putPlain) (hml : c.maxLocals = 7) (hown : s.vm.findClass R_Wrt = some m.cls) (hT : ∀ w ∈ TG, w.before args s = true) (hK : va_K (dC, dI) CL (TY cI cB cJ cZ) s) (hN : NW s) (hA : ∀ q : Nat, s.heap.size ≤ q → A q) (hRf : 5 ≤ R.frames) (hRl : 270 ≤ R.locals) (hE : CE E tM tC kK kV A s) (hret : ∀ (ad : Nat → Nat) (NN cells slots : Nat) (x : St) (H : Heap) (locs : List Loc) (pc : Nat) (ls : Array Slot), decode b_Wrt_putPlain pc = .ok (.return_, 1) → (NN0 ≤ NN ∧ ∀ o : Nat, o < NN0 → ad o = ad0 o) → cells ≤ R.cells → slots ≤ R.slots → post x → Wd dC dI cI cB cJ cZ ad stC kcC NN A x H → va_S A s.heap H locs → W p l e R s m args below meth c H locs cells slots Q (F0 m pc ls [])) (hrec7 : ∀ (ad : Nat → Nat) (NN cells slots : Nat) (o : Nat) (l1 : Int32) (l2 : Nat) (l3 : Int32) (l4 : Int32) (kb : Nat) (nb : Nat) (x : St) (H : Heap) (locs : List Loc) (ls : Array Slot), (152 ≤ NN) → (NN0 ≤ NN ∧ ∀ o : Nat, o < NN0 → ad o = ad0 o) → (cells + kb ≤ R.cells) → (slots + nb ≤ R.slots) → (o < NN ∧ kcC o = 5) → (l2 < NN ∧ kcC l2 = 22) → rec7 o l1 l2 l3 l4 kb nb x → Wd dC dI cI cB cJ cZ ad stC kcC NN A x H → va_S A s.heap H locs → lv_has ls 7 [(0, .ref (ad o)), (1, .int l1), (2, .ref (ad l2)), (3, .int l3), (4, .int l4)] → W p l e R s m args below meth c H locs cells slots Q (F0 m 7 ls [])) : ∀ (ad : Nat → Nat) (NN cells slots : Nat) (o : Nat) (l1 : Int32) (l2 : Nat) (l3 : Int32) (l4 : Int32) (kb : Nat) (nb : Nat) (x : St) (H : Heap) (locs : List Loc) (ls : Array Slot), (152 ≤ NN) → (NN0 ≤ NN ∧ ∀ o : Nat, o < NN0 → ad o = ad0 o) → (cells + kb ≤ R.cells) → (slots + nb ≤ R.slots) → (o < NN ∧ kcC o = 5) → (l2 < NN ∧ kcC l2 = 22) → j_Wrt_putPlain_7 post rec7 o l1 l2 l3 l4 kb nb x → Wd dC dI cI cB cJ cZ ad stC kcC NN A x H → va_S A s.heap H locs → lv_has ls 7 [(0, .ref (ad o)), (1, .int l1), (2, .ref (ad l2)), (3, .int l3), (4, .int l4)] → W p l e R s m args below meth c H locs cells slots Q (F0 m 7 ls []) := by
  intro ad NN cells slots o l1 l2 l3 l4 kb nb x H locs ls hNN hag hRc hRs fo fl2 hw hW hS hl
  unfold j_Wrt_putPlain_7 at hw
  refine lv_iload hx hb d_Wrt_putPlain_7 (lv_at hl 4 rfl) ?_
  refine lv_iload_n hx hb d_Wrt_putPlain_9 rfl (lv_at hl 3 rfl) ?_
  refine lv_icmp_ge (tgt := 73) hx hb d_Wrt_putPlain_10 (by decide) (fun c26 => ?_) (fun c26 => ?_)
  · have hw := hw.1 c26
    exact hret ad NN cells slots x H locs 73 ls d_Wrt_putPlain_73 hag (Nat.le_trans (Nat.le_add_right _ _) hRc) (Nat.le_trans (Nat.le_add_right _ _) hRs) hw hW hS
  · have hw := hw.2 c26
    refine lv_iconst (v := 0) hx hb d_Wrt_putPlain_13 (by decide) ?_
    refine lv_istore (lv' := [(5, .int 0), (0, .ref (ad o)), (1, .int l1), (2, .ref (ad l2)), (3, .int l3), (4, .int l4)]) hx hb d_Wrt_putPlain_14 hl (by decide) rfl (fun ls hl => ?_)
    refine lv_iload hx hb d_Wrt_putPlain_16 (lv_at hl 5 rfl) ?_
    refine lv_istore (lv' := [(6, .int l4), (5, .int 0), (0, .ref (ad o)), (1, .int l1), (2, .ref (ad l2)), (3, .int l3), (4, .int l4)]) hx hb d_Wrt_putPlain_18 hl (by decide) rfl (fun ls hl => ?_)
    obtain ⟨n, hw⟩ := hw
    exact tl_Wrt_putPlain_20 hx hb hml hown hT hK hN hA hRf hRl hE hret hrec7 n ad NN cells slots o l1 l2 l3 l4 0 l4 kb nb x H locs ls hNN hag hRc hRs fo fl2 hw hW hS (lv_sub hl [2, 3, 4, 5, 6, 1, 0] rfl)
set_option maxHeartbeats 4000000 in
set_option maxRecDepth 100000 in
theorem tl_Wrt_putPlain_7 {p : Program} {l : Launch} {e : Env} {R : Room} {s : State} {m : MethodId} {args : Array Value} {below : List Frame} {meth : Method} {c : Code} {Q : State → Prop} {dC : Nat → ClassId} {dI : Nat → Nat → Nat} {cI cB cJ cZ : ClassId} {A : Nat → Prop} {E : Heap} {tM tC : Nat} {kK kV : Nat → Nat} {ad0 : Nat → Nat} {NN0 : Nat} {post : St → Prop} (hx : p.tables.exec = Jvm.exec) (hb : c.code = b_Wrt_putPlain) (hml : c.maxLocals = 7) (hown : s.vm.findClass R_Wrt = some m.cls) (hT : ∀ w ∈ TG, w.before args s = true) (hK : va_K (dC, dI) CL (TY cI cB cJ cZ) s) (hN : NW s) (hA : ∀ q : Nat, s.heap.size ≤ q → A q) (hRf : 5 ≤ R.frames) (hRl : 270 ≤ R.locals) (hE : CE E tM tC kK kV A s) (hret : ∀ (ad : Nat → Nat) (NN cells slots : Nat) (x : St) (H : Heap) (locs : List Loc) (pc : Nat) (ls : Array Slot), decode b_Wrt_putPlain pc = .ok (.return_, 1) → (NN0 ≤ NN ∧ ∀ o : Nat, o < NN0 → ad o = ad0 o) → cells ≤ R.cells → slots ≤ R.slots → post x → Wd dC dI cI cB cJ cZ ad stC kcC NN A x H → va_S A s.heap H locs → W p l e R s m args below meth c H locs cells slots Q (F0 m pc ls []))  : ∀ n : Nat, ∀ (ad : Nat → Nat) (NN cells slots : Nat) (o : Nat) (l1 : Int32) (l2 : Nat) (l3 : Int32) (l4 : Int32) (kb : Nat) (nb : Nat) (x : St) (H : Heap) (locs : List Loc) (ls : Array Slot), (152 ≤ NN) → (NN0 ≤ NN ∧ ∀ o : Nat, o < NN0 → ad o = ad0 o) → (cells + kb ≤ R.cells) → (slots + nb ≤ R.slots) → (o < NN ∧ kcC o = 5) → (l2 < NN ∧ kcC l2 = 22) → wl_Wrt_putPlain_7 post n o l1 l2 l3 l4 kb nb x → Wd dC dI cI cB cJ cZ ad stC kcC NN A x H → va_S A s.heap H locs → lv_has ls 7 [(0, .ref (ad o)), (1, .int l1), (2, .ref (ad l2)), (3, .int l3), (4, .int l4)] → W p l e R s m args below meth c H locs cells slots Q (F0 m 7 ls []) := by
  intro n
  induction n with
  | zero => intro ad NN cells slots o l1 l2 l3 l4 kb nb x H locs ls hNN hag hRc hRs fo fl2 hw; exact hw.elim
  | succ n ih => intro ad NN cells slots o l1 l2 l3 l4 kb nb x H locs ls hNN hag hRc hRs fo fl2 hw hW hS hl; exact t_Wrt_putPlain_7 hx hb hml hown hT hK hN hA hRf hRl hE hret  ih ad NN cells slots o l1 l2 l3 l4 kb nb x H locs ls hNN hag hRc hRs fo fl2 hw hW hS hl
set_option maxRecDepth 100000 in
set_option maxHeartbeats 4000000 in
set_option maxRecDepth 100000 in
theorem t_Wrt_putPlain_e {p : Program} {l : Launch} {e : Env} {R : Room} {s : State} {m : MethodId} {args : Array Value} {below : List Frame} {meth : Method} {c : Code} {Q : State → Prop} {dC : Nat → ClassId} {dI : Nat → Nat → Nat} {cI cB cJ cZ : ClassId} {A : Nat → Prop} {E : Heap} {tM tC : Nat} {kK kV : Nat → Nat} {ad0 : Nat → Nat} {NN0 : Nat} {post : St → Prop} (hx : p.tables.exec = Jvm.exec) (hb : c.code = b_Wrt_putPlain) (hml : c.maxLocals = 7) (hown : s.vm.findClass R_Wrt = some m.cls) (hT : ∀ w ∈ TG, w.before args s = true) (hK : va_K (dC, dI) CL (TY cI cB cJ cZ) s) (hN : NW s) (hA : ∀ q : Nat, s.heap.size ≤ q → A q) (hRf : 5 ≤ R.frames) (hRl : 270 ≤ R.locals) (hE : CE E tM tC kK kV A s) (hret : ∀ (ad : Nat → Nat) (NN cells slots : Nat) (x : St) (H : Heap) (locs : List Loc) (pc : Nat) (ls : Array Slot), decode b_Wrt_putPlain pc = .ok (.return_, 1) → (NN0 ≤ NN ∧ ∀ o : Nat, o < NN0 → ad o = ad0 o) → cells ≤ R.cells → slots ≤ R.slots → post x → Wd dC dI cI cB cJ cZ ad stC kcC NN A x H → va_S A s.heap H locs → W p l e R s m args below meth c H locs cells slots Q (F0 m pc ls [])) : ∀ (ad : Nat → Nat) (NN cells slots : Nat) (o : Nat) (l1 : Int32) (l2 : Nat) (l3 : Int32) (kb : Nat) (nb : Nat) (x : St) (H : Heap) (locs : List Loc) (ls : Array Slot), (152 ≤ NN) → (NN0 ≤ NN ∧ ∀ o : Nat, o < NN0 → ad o = ad0 o) → (cells + kb ≤ R.cells) → (slots + nb ≤ R.slots) → (o < NN ∧ kcC o = 5) → (l2 < NN ∧ kcC l2 = 22) → wp_Wrt_putPlain post o l1 l2 l3 kb nb x → Wd dC dI cI cB cJ cZ ad stC kcC NN A x H → va_S A s.heap H locs → lv_has ls 7 [(0, .ref (ad o)), (1, .int l1), (2, .ref (ad l2)), (3, .int l3)] → W p l e R s m args below meth c H locs cells slots Q (F0 m 0 ls []) := by
  intro ad NN cells slots o l1 l2 l3 kb nb x H locs ls hNN hag hRc hRs fo fl2 hw hW hS hl
  unfold wp_Wrt_putPlain at hw
  refine lv_iload_n hx hb d_Wrt_putPlain_0 rfl (lv_at hl 1 rfl) ?_
  refine lv_if_ne (tgt := 74) hx hb d_Wrt_putPlain_1 (by decide) (fun c27 => ?_) (fun c27 => ?_)
  · have hw := hw.1 c27
    refine lv_iconst (v := 0) hx hb d_Wrt_putPlain_74 (by decide) ?_
    refine lv_istore (lv' := [(4, .int 0), (0, .ref (ad o)), (1, .int l1), (2, .ref (ad l2)), (3, .int l3)]) hx hb d_Wrt_putPlain_75 hl (by decide) rfl (fun ls hl => ?_)
    obtain ⟨n, hw⟩ := hw
    exact tl_Wrt_putPlain_77 hx hb hml hown hT hK hN hA hRf hRl hE hret  n ad NN cells slots o l1 l2 l3 0 kb nb x H locs ls hNN hag hRc hRs fo fl2 hw hW hS (lv_sub hl [1, 2, 3, 4, 0] rfl)
  · have hw := hw.2 c27
    refine lv_iconst (v := 0) hx hb d_Wrt_putPlain_4 (by decide) ?_
    refine lv_istore (lv' := [(4, .int 0), (0, .ref (ad o)), (1, .int l1), (2, .ref (ad l2)), (3, .int l3)]) hx hb d_Wrt_putPlain_5 hl (by decide) rfl (fun ls hl => ?_)
    obtain ⟨n, hw⟩ := hw
    exact tl_Wrt_putPlain_7 hx hb hml hown hT hK hN hA hRf hRl hE hret  n ad NN cells slots o l1 l2 l3 0 kb nb x H locs ls hNN hag hRc hRs fo fl2 hw hW hS (lv_sub hl [1, 2, 3, 4, 0] rfl)
set_option maxHeartbeats 4000000 in
set_option maxRecDepth 100000 in
theorem k_Wrt_putPlain (l : Launch) (dC : Nat → ClassId) (dI : Nat → Nat → Nat) (cI cB cJ cZ : ClassId) (ad : Nat → Nat) (NN : Nat) (E : Heap) (tM tC : Nat) (kK kV : Nat → Nat) (hNN : 152 ≤ NN) (sz : Nat) (o : Nat) (l1 : Int32) (l2 : Nat) (l3 : Int32) (kb : Nat) (nb : Nat) (x : St) (fo : o < NN ∧ kcC o = 5) (fl2 : l2 < NN ∧ kcC l2 = 22) {post : St → Prop} (hw : wp_Wrt_putPlain post o l1 l2 l3 kb nb x) : Met l y_Wrt_putPlain (wsOf y_Wrt_putPlain b_Wrt_putPlain 7 (none)) ({ frames := 5, cells := kb, slots := nb, locals := 270 }) (va_Pc [.ref (ad o), .int l1, .ref (ad l2), .int l3] (PVc dC dI cI cB cJ cZ ad stC kcC NN E tM tC kK kV sz x)) (va_Qv (fun (u : St × (Nat → Nat) × Nat) => post u.1) (fun u t => Wd dC dI cI cB cJ cZ u.2.1 stC kcC u.2.2 (va_A (pic ad stC kcC NN cI cB cJ cZ x) sz) u.1 t.heap ∧ NN ≤ u.2.2 ∧ ∀ o : Nat, o < NN → u.2.1 o = ad o) (va_A (pic ad stC kcC NN cI cB cJ cZ x) sz)) kb nb (va_A (pic ad stC kcC NN cI cB cJ cZ x) sz) := by
  refine Met.ofW (cc := b_Wrt_putPlain) (maxL := 7) (ret := none) (by decide) rfl ?_
  intro p e s m args below meth c s₁ B hml hv
  obtain ⟨rfl, ⟨hsz, hW0, hK, hN⟩, hE⟩ := hv
  have hx := B.exec
  have hb := B.bytes
  have hr := B.returns
  have hts := atoms_spec B.pre
  have hT : ∀ w ∈ TG, w.before _ s = true := fun w h => hts w (List.mem_cons_of_mem _ h)
  have hown : s.vm.findClass R_Wrt = some m.cls := findClass_of_methodNamed B.named
  have hlocks := B.notSynchronized
  subst hsz
  have hW : Wd dC dI cI cB cJ cZ ad stC kcC NN (va_A (pic ad stC kcC NN cI cB cJ cZ x) s.heap.size) x s.heap := ⟨hW0.1, hW0.2.1.self (sz := s.heap.size), hW0.2.2⟩
  generalize hAe : va_A (pic ad stC kcC NN cI cB cJ cZ x) s.heap.size = A at hW hE ⊢
  have hA : ∀ q : Nat, s.heap.size ≤ q → A q := fun q h => by rw [← hAe]; exact Or.inr h
  have hS : va_S A s.heap s.heap [] := va_S.rf
  have hl := lv_entry ([.ref (ad o), .int l1, .ref (ad l2), .int l3]) (n := 7) (Nat.le_of_ble_eq_true rfl)
  rw [lg_entry_eq]
  generalize (lg_sl ([.ref (ad o), .int l1, .ref (ad l2), .int l3]) ++ List.replicate (7 - (lg_sl ([.ref (ad o), .int l1, .ref (ad l2), .int l3])).length) Slot.unset).toArray = ls at hl ⊢
  have hl : lv_has ls 7 [(0, .ref (ad o)), (1, .int l1), (2, .ref (ad l2)), (3, .int l3)] := hl
  exact t_Wrt_putPlain_e hx hb hml hown hT hK hN hA (Nat.le_refl 5) (Nat.le_refl 270) hE (fun ad1 NN1 cells slots x1 H locs pc ls hd hag hc hs hp hW hS => W.widen (k := kb) (n := nb) hc hs (W.vret hx hb hr (fun t ht hM => ⟨⟨(x1, ad1, NN1), rfl, hp, Wd.back hW ht.symm (fun _ z => z), hag.1, hag.2⟩, hS.F ht⟩) hS.2.2 hd hlocks))  ad NN 0 0 o l1 l2 l3 kb nb x _ _ ls hNN ⟨Nat.le_refl _, fun _ _ => rfl⟩ (Nat.le_of_eq (Nat.zero_add kb)) (Nat.le_of_eq (Nat.zero_add nb)) fo fl2 hw hW hS hl
end
