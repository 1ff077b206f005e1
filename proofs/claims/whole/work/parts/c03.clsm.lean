theorem w_1_100 : (Jvm.Cond.fieldLink "StripedVault$Schema" (134 : Nat) "StripedVault$Scan" "wordSize" "I") ∈ TG := tw_1 100 (by decide +kernel) (by decide +kernel)
theorem w_1_16 : (Jvm.Cond.initialized "java/lang/System") ∈ TG := tw_1 16 (by decide +kernel) (by decide +kernel)
theorem w_1_80 : (Jvm.Cond.fieldLink "StripedVault$Schema" (128 : Nat) "StripedVault$Scan" "bytes" "[B") ∈ TG := tw_1 80 (by decide +kernel) (by decide +kernel)
theorem w_1_84 : (Jvm.Cond.fieldLink "StripedVault$Schema" (83 : Nat) "StripedVault$Scan" "count" "I") ∈ TG := tw_1 84 (by decide +kernel) (by decide +kernel)
theorem w_1_88 : (Jvm.Cond.fieldLink "StripedVault$Schema" (121 : Nat) "StripedVault$Scan" "pos" "I") ∈ TG := tw_1 88 (by decide +kernel) (by decide +kernel)
theorem w_1_92 : (Jvm.Cond.fieldLink "StripedVault$Schema" (108 : Nat) "StripedVault$Scan" "place" "I") ∈ TG := tw_1 92 (by decide +kernel) (by decide +kernel)
theorem w_1_96 : (Jvm.Cond.fieldLink "StripedVault$Schema" (131 : Nat) "StripedVault$Scan" "wordAt" "I") ∈ TG := tw_1 96 (by decide +kernel) (by decide +kernel)
theorem w_4_100 : (Jvm.Cond.instanceMethod ({ cls := "StripedVault$Schema", name := "forget", desc := "()V" } : Jvm.MethodName)) ∈ TG := tw_4 100 (by decide +kernel) (by decide +kernel)
theorem w_4_101 : (Jvm.Cond.selects "StripedVault$Schema" ({ cls := "StripedVault$Schema", name := "forget", desc := "()V" } : Jvm.MethodName) ({ cls := "StripedVault$Schema", name := "forget", desc := "()V" } : Jvm.MethodName)) ∈ TG := tw_4 101 (by decide +kernel) (by decide +kernel)
theorem w_4_102 : (Jvm.Cond.code ({ cls := "StripedVault$Schema", name := "forget", desc := "()V" } : Jvm.MethodName) prog_8_method_2_code (1 : Nat) (Option.none : Option Jvm.ClassFile.FieldType)) ∈ TG := tw_4 102 (by decide +kernel) (by decide +kernel)
theorem w_4_107 : (Jvm.Cond.methodLink "StripedVault$Schema" (92 : Nat) ({ cls := "StripedVault$Scan", name := "next", desc := "()I" } : Jvm.MethodName)) ∈ TG := tw_4 107 (by decide +kernel) (by decide +kernel)
theorem w_4_111 : (Jvm.Cond.methodLink "StripedVault$Schema" (96 : Nat) ({ cls := "StripedVault$Schema", name := "isEmptyGroup", desc := "(I)Z" } : Jvm.MethodName)) ∈ TG := tw_4 111 (by decide +kernel) (by decide +kernel)
theorem w_4_112 : (Jvm.Cond.instanceMethod ({ cls := "StripedVault$Schema", name := "isEmptyGroup", desc := "(I)Z" } : Jvm.MethodName)) ∈ TG := tw_4 112 (by decide +kernel) (by decide +kernel)
theorem w_4_113 : (Jvm.Cond.selects "StripedVault$Schema" ({ cls := "StripedVault$Schema", name := "isEmptyGroup", desc := "(I)Z" } : Jvm.MethodName) ({ cls := "StripedVault$Schema", name := "isEmptyGroup", desc := "(I)Z" } : Jvm.MethodName)) ∈ TG := tw_4 113 (by decide +kernel) (by decide +kernel)
theorem w_4_114 : (Jvm.Cond.code ({ cls := "StripedVault$Schema", name := "isEmptyGroup", desc := "(I)Z" } : Jvm.MethodName) prog_8_method_8_code (2 : Nat) (Option.some Jvm.ClassFile.FieldType.boolean)) ∈ TG := tw_4 114 (by decide +kernel) (by decide +kernel)
theorem w_4_115 : (Jvm.Cond.methodLink "StripedVault$Schema" (100 : Nat) ({ cls := "StripedVault$Scan", name := "needSign", desc := "(C)V" } : Jvm.MethodName)) ∈ TG := tw_4 115 (by decide +kernel) (by decide +kernel)
theorem w_4_116 : (Jvm.Cond.instanceMethod ({ cls := "StripedVault$Scan", name := "needSign", desc := "(C)V" } : Jvm.MethodName)) ∈ TG := tw_4 116 (by decide +kernel) (by decide +kernel)
theorem w_4_117 : (Jvm.Cond.selects "StripedVault$Scan" ({ cls := "StripedVault$Scan", name := "needSign", desc := "(C)V" } : Jvm.MethodName) ({ cls := "StripedVault$Scan", name := "needSign", desc := "(C)V" } : Jvm.MethodName)) ∈ TG := tw_4 117 (by decide +kernel) (by decide +kernel)
theorem w_4_118 : (Jvm.Cond.code ({ cls := "StripedVault$Scan", name := "needSign", desc := "(C)V" } : Jvm.MethodName) prog_7_method_11_code (2 : Nat) (Option.none : Option Jvm.ClassFile.FieldType)) ∈ TG := tw_4 118 (by decide +kernel) (by decide +kernel)
theorem w_4_129 : (Jvm.Cond.methodLink "StripedVault$Schema" (104 : Nat) ({ cls := "StripedVault$Schema", name := "readField", desc := "(LStripedVault$Scan;I)I" } : Jvm.MethodName)) ∈ TG := tw_4 129 (by decide +kernel) (by decide +kernel)
theorem w_4_131 : (Jvm.Cond.instanceMethod ({ cls := "StripedVault$Schema", name := "readField", desc := "(LStripedVault$Scan;I)I" } : Jvm.MethodName)) ∈ TG := tw_4 131 (by decide +kernel) (by decide +kernel)
theorem w_4_132 : (Jvm.Cond.code ({ cls := "StripedVault$Schema", name := "readField", desc := "(LStripedVault$Scan;I)I" } : Jvm.MethodName) prog_8_method_14_code (5 : Nat) (Option.some Jvm.ClassFile.FieldType.int)) ∈ TG := tw_4 132 (by decide +kernel) (by decide +kernel)
theorem w_4_133 : (Jvm.Cond.methodLink "StripedVault$Schema" (111 : Nat) ({ cls := "StripedVault$Schema", name := "readMode", desc := "(LStripedVault$Scan;)I" } : Jvm.MethodName)) ∈ TG := tw_4 133 (by decide +kernel) (by decide +kernel)
theorem w_4_135 : (Jvm.Cond.instanceMethod ({ cls := "StripedVault$Schema", name := "readMode", desc := "(LStripedVault$Scan;)I" } : Jvm.MethodName)) ∈ TG := tw_4 135 (by decide +kernel) (by decide +kernel)
theorem w_4_136 : (Jvm.Cond.code ({ cls := "StripedVault$Schema", name := "readMode", desc := "(LStripedVault$Scan;)I" } : Jvm.MethodName) prog_8_method_15_code (2 : Nat) (Option.some Jvm.ClassFile.FieldType.int)) ∈ TG := tw_4 136 (by decide +kernel) (by decide +kernel)
theorem w_4_211 : (Jvm.Cond.methodLink "StripedVault$Schema" (115 : Nat) ({ cls := "StripedVault$Schema", name := "readType", desc := "(LStripedVault$Scan;)I" } : Jvm.MethodName)) ∈ TG := tw_4 211 (by decide +kernel) (by decide +kernel)
theorem w_4_213 : (Jvm.Cond.instanceMethod ({ cls := "StripedVault$Schema", name := "readType", desc := "(LStripedVault$Scan;)I" } : Jvm.MethodName)) ∈ TG := tw_4 213 (by decide +kernel) (by decide +kernel)
theorem w_4_214 : (Jvm.Cond.code ({ cls := "StripedVault$Schema", name := "readType", desc := "(LStripedVault$Scan;)I" } : Jvm.MethodName) prog_8_method_16_code (2 : Nat) (Option.some Jvm.ClassFile.FieldType.int)) ∈ TG := tw_4 214 (by decide +kernel) (by decide +kernel)
theorem w_4_220 : (Jvm.Cond.methodLink "StripedVault$Schema" (118 : Nat) ({ cls := "StripedVault$Scan", name := "takeAnyWord", desc := "()Z" } : Jvm.MethodName)) ∈ TG := tw_4 220 (by decide +kernel) (by decide +kernel)
theorem w_4_221 : (Jvm.Cond.methodLink "StripedVault$Schema" (124 : Nat) ({ cls := "StripedVault$Scan", name := "refuse", desc := "(I)V" } : Jvm.MethodName)) ∈ TG := tw_4 221 (by decide +kernel) (by decide +kernel)
theorem w_4_222 : (Jvm.Cond.methodLink "StripedVault$Schema" (137 : Nat) ({ cls := "StripedVault$Schema", name := "add", desc := "(III[BII)Z" } : Jvm.MethodName)) ∈ TG := tw_4 222 (by decide +kernel) (by decide +kernel)
theorem w_4_223 : (Jvm.Cond.instanceMethod ({ cls := "StripedVault$Schema", name := "add", desc := "(III[BII)Z" } : Jvm.MethodName)) ∈ TG := tw_4 223 (by decide +kernel) (by decide +kernel)
theorem w_4_224 : (Jvm.Cond.selects "StripedVault$Schema" ({ cls := "StripedVault$Schema", name := "add", desc := "(III[BII)Z" } : Jvm.MethodName) ({ cls := "StripedVault$Schema", name := "add", desc := "(III[BII)Z" } : Jvm.MethodName)) ∈ TG := tw_4 224 (by decide +kernel) (by decide +kernel)
theorem w_4_225 : (Jvm.Cond.code ({ cls := "StripedVault$Schema", name := "add", desc := "(III[BII)Z" } : Jvm.MethodName) prog_8_method_12_code (12 : Nat) (Option.some Jvm.ClassFile.FieldType.boolean)) ∈ TG := tw_4 225 (by decide +kernel) (by decide +kernel)
theorem w_4_226 : (Jvm.Cond.methodLink "StripedVault$Schema" (64 : Nat) ({ cls := "StripedVault$Schema", name := "find", desc := "(I[BII)I" } : Jvm.MethodName)) ∈ TG := tw_4 226 (by decide +kernel) (by decide +kernel)
theorem w_4_227 : (Jvm.Cond.instanceMethod ({ cls := "StripedVault$Schema", name := "find", desc := "(I[BII)I" } : Jvm.MethodName)) ∈ TG := tw_4 227 (by decide +kernel) (by decide +kernel)
theorem w_4_228 : (Jvm.Cond.selects "StripedVault$Schema" ({ cls := "StripedVault$Schema", name := "find", desc := "(I[BII)I" } : Jvm.MethodName) ({ cls := "StripedVault$Schema", name := "find", desc := "(I[BII)I" } : Jvm.MethodName)) ∈ TG := tw_4 228 (by decide +kernel) (by decide +kernel)
theorem w_4_229 : (Jvm.Cond.code ({ cls := "StripedVault$Schema", name := "find", desc := "(I[BII)I" } : Jvm.MethodName) prog_8_method_11_code (7 : Nat) (Option.some Jvm.ClassFile.FieldType.int)) ∈ TG := tw_4 229 (by decide +kernel) (by decide +kernel)
theorem w_4_72 : (Jvm.Cond.static ({ cls := "java/lang/System", name := "arraycopy", desc := "(Ljava/lang/Object;ILjava/lang/Object;II)V" } : Jvm.MethodName)) ∈ TG := tw_4 72 (by decide +kernel) (by decide +kernel)
theorem w_4_73 : (Jvm.Cond.native ({ cls := "java/lang/System", name := "arraycopy", desc := "(Ljava/lang/Object;ILjava/lang/Object;II)V" } : Jvm.MethodName)) ∈ TG := tw_4 73 (by decide +kernel) (by decide +kernel)
theorem w_4_99 : (Jvm.Cond.methodLink "StripedVault$Schema" (80 : Nat) ({ cls := "StripedVault$Schema", name := "forget", desc := "()V" } : Jvm.MethodName)) ∈ TG := tw_4 99 (by decide +kernel) (by decide +kernel)
theorem w_5_10 : (Jvm.Cond.methodLink "StripedVault$Schema" (74 : Nat) ({ cls := "java/lang/System", name := "arraycopy", desc := "(Ljava/lang/Object;ILjava/lang/Object;II)V" } : Jvm.MethodName)) ∈ TG := tw_5 10 (by decide +kernel) (by decide +kernel)
theorem w_5_2 : (Jvm.Cond.methodLink "StripedVault$Schema" (68 : Nat) ({ cls := "StripedVault$Schema", name := "repOf", desc := "(I)I" } : Jvm.MethodName)) ∈ TG := tw_5 2 (by decide +kernel) (by decide +kernel)
theorem w_5_3 : (Jvm.Cond.instanceMethod ({ cls := "StripedVault$Schema", name := "repOf", desc := "(I)I" } : Jvm.MethodName)) ∈ TG := tw_5 3 (by decide +kernel) (by decide +kernel)
theorem w_5_4 : (Jvm.Cond.selects "StripedVault$Schema" ({ cls := "StripedVault$Schema", name := "repOf", desc := "(I)I" } : Jvm.MethodName) ({ cls := "StripedVault$Schema", name := "repOf", desc := "(I)I" } : Jvm.MethodName)) ∈ TG := tw_5 4 (by decide +kernel) (by decide +kernel)
theorem w_5_5 : (Jvm.Cond.code ({ cls := "StripedVault$Schema", name := "repOf", desc := "(I)I" } : Jvm.MethodName) prog_8_method_5_code (2 : Nat) (Option.some Jvm.ClassFile.FieldType.int)) ∈ TG := tw_5 5 (by decide +kernel) (by decide +kernel)
theorem w_5_6 : (Jvm.Cond.methodLink "StripedVault$Schema" (71 : Nat) ({ cls := "StripedVault$Schema", name := "defOf", desc := "(I)I" } : Jvm.MethodName)) ∈ TG := tw_5 6 (by decide +kernel) (by decide +kernel)
theorem w_5_7 : (Jvm.Cond.instanceMethod ({ cls := "StripedVault$Schema", name := "defOf", desc := "(I)I" } : Jvm.MethodName)) ∈ TG := tw_5 7 (by decide +kernel) (by decide +kernel)
theorem w_5_8 : (Jvm.Cond.selects "StripedVault$Schema" ({ cls := "StripedVault$Schema", name := "defOf", desc := "(I)I" } : Jvm.MethodName) ({ cls := "StripedVault$Schema", name := "defOf", desc := "(I)I" } : Jvm.MethodName)) ∈ TG := tw_5 8 (by decide +kernel) (by decide +kernel)
theorem w_5_9 : (Jvm.Cond.code ({ cls := "StripedVault$Schema", name := "defOf", desc := "(I)I" } : Jvm.MethodName) prog_8_method_6_code (2 : Nat) (Option.some Jvm.ClassFile.FieldType.int)) ∈ TG := tw_5 9 (by decide +kernel) (by decide +kernel)
theorem ws_3 : Cond.selects R_Sch y_Sch_readField y_Sch_readField ∈ TG := tw_s 3 (by decide +kernel) (by decide +kernel)
theorem ws_4 : Cond.selects R_Sch y_Sch_readMode y_Sch_readMode ∈ TG := tw_s 4 (by decide +kernel) (by decide +kernel)
theorem ws_5 : Cond.selects R_Sch y_Sch_readType y_Sch_readType ∈ TG := tw_s 5 (by decide +kernel) (by decide +kernel)
theorem d_Sch_repOf_0 : decode b_Sch_repOf 0 = .ok (.iload_n 1, 1) := by decide +kernel
theorem d_Sch_repOf_1 : decode b_Sch_repOf 1 = .ok (.iconst (-1), 1) := by decide +kernel
theorem d_Sch_repOf_2 : decode b_Sch_repOf 2 = .ok (.if_icmp .ne 7, 3) := by decide +kernel
theorem d_Sch_repOf_9 : decode b_Sch_repOf 9 = .ok (.aload_n 0, 1) := by decide +kernel
theorem d_Sch_repOf_10 : decode b_Sch_repOf 10 = .ok (.getfield 21, 3) := by decide +kernel
theorem d_Sch_repOf_13 : decode b_Sch_repOf 13 = .ok (.iload_n 1, 1) := by decide +kernel
theorem d_Sch_repOf_14 : decode b_Sch_repOf 14 = .ok (.iaload, 1) := by decide +kernel
theorem d_Sch_repOf_15 : decode b_Sch_repOf 15 = .ok (.ireturn, 1) := by decide +kernel
theorem d_Sch_repOf_5 : decode b_Sch_repOf 5 = .ok (.iconst 0, 1) := by decide +kernel
theorem d_Sch_repOf_6 : decode b_Sch_repOf 6 = .ok (.goto 9, 3) := by decide +kernel
theorem d_Sch_defOf_0 : decode b_Sch_defOf 0 = .ok (.iload_n 1, 1) := by decide +kernel
theorem d_Sch_defOf_1 : decode b_Sch_defOf 1 = .ok (.iconst (-1), 1) := by decide +kernel
theorem d_Sch_defOf_2 : decode b_Sch_defOf 2 = .ok (.if_icmp .ne 7, 3) := by decide +kernel
theorem d_Sch_defOf_9 : decode b_Sch_defOf 9 = .ok (.aload_n 0, 1) := by decide +kernel
theorem d_Sch_defOf_10 : decode b_Sch_defOf 10 = .ok (.getfield 24, 3) := by decide +kernel
theorem d_Sch_defOf_13 : decode b_Sch_defOf 13 = .ok (.iload_n 1, 1) := by decide +kernel
theorem d_Sch_defOf_14 : decode b_Sch_defOf 14 = .ok (.iaload, 1) := by decide +kernel
theorem d_Sch_defOf_15 : decode b_Sch_defOf 15 = .ok (.ireturn, 1) := by decide +kernel
theorem d_Sch_defOf_5 : decode b_Sch_defOf 5 = .ok (.iconst 0, 1) := by decide +kernel
theorem d_Sch_defOf_6 : decode b_Sch_defOf 6 = .ok (.goto 9, 3) := by decide +kernel
theorem d_Sch_add_323 : decode b_Sch_add 323 = .ok (.iconst 1, 1) := by decide +kernel
theorem d_Sch_add_324 : decode b_Sch_add 324 = .ok (.ireturn, 1) := by decide +kernel
theorem d_Sch_add_297 : decode b_Sch_add 297 = .ok (.iload_n 2, 1) := by decide +kernel
theorem d_Sch_add_298 : decode b_Sch_add 298 = .ok (.iconst 4, 1) := by decide +kernel
theorem d_Sch_add_299 : decode b_Sch_add 299 = .ok (.if_icmp .eq 24, 3) := by decide +kernel
theorem d_Sch_add_302 : decode b_Sch_add 302 = .ok (.aload_n 0, 1) := by decide +kernel
theorem d_Sch_add_303 : decode b_Sch_add 303 = .ok (.getfield 36, 3) := by decide +kernel
theorem d_Sch_add_306 : decode b_Sch_add 306 = .ok (.aload_n 0, 1) := by decide +kernel
theorem d_Sch_add_307 : decode b_Sch_add 307 = .ok (.getfield 50, 3) := by decide +kernel
theorem d_Sch_add_310 : decode b_Sch_add 310 = .ok (.iload 9, 2) := by decide +kernel
theorem d_Sch_add_312 : decode b_Sch_add 312 = .ok (.iastore, 1) := by decide +kernel
theorem d_Sch_add_313 : decode b_Sch_add 313 = .ok (.aload_n 0, 1) := by decide +kernel
theorem d_Sch_add_314 : decode b_Sch_add 314 = .ok (.dup, 1) := by decide +kernel
theorem d_Sch_add_315 : decode b_Sch_add 315 = .ok (.getfield 50, 3) := by decide +kernel
theorem d_Sch_add_318 : decode b_Sch_add 318 = .ok (.iconst 1, 1) := by decide +kernel
theorem d_Sch_add_319 : decode b_Sch_add 319 = .ok (.iadd, 1) := by decide +kernel
theorem d_Sch_add_320 : decode b_Sch_add 320 = .ok (.putfield 50, 3) := by decide +kernel
theorem d_Sch_add_258 : decode b_Sch_add 258 = .ok (.iload 11, 2) := by decide +kernel
theorem d_Sch_add_260 : decode b_Sch_add 260 = .ok (.bipush 16, 2) := by decide +kernel
theorem d_Sch_add_262 : decode b_Sch_add 262 = .ok (.if_icmp .gt 35, 3) := by decide +kernel
theorem d_Sch_add_265 : decode b_Sch_add 265 = .ok (.iload 10, 2) := by decide +kernel
theorem d_Sch_add_267 : decode b_Sch_add 267 = .ok (.iconst (-1), 1) := by decide +kernel
theorem d_Sch_add_268 : decode b_Sch_add 268 = .ok (.if_icmp .eq 29, 3) := by decide +kernel
theorem d_Sch_add_271 : decode b_Sch_add 271 = .ok (.aload_n 0, 1) := by decide +kernel
theorem d_Sch_add_272 : decode b_Sch_add 272 = .ok (.getfield 30, 3) := by decide +kernel
theorem d_Sch_add_275 : decode b_Sch_add 275 = .ok (.iload 10, 2) := by decide +kernel
theorem d_Sch_add_277 : decode b_Sch_add 277 = .ok (.aload_n 0, 1) := by decide +kernel
theorem d_Sch_add_278 : decode b_Sch_add 278 = .ok (.getfield 46, 3) := by decide +kernel
theorem d_Sch_add_281 : decode b_Sch_add 281 = .ok (.iastore, 1) := by decide +kernel
theorem d_Sch_add_282 : decode b_Sch_add 282 = .ok (.aload_n 0, 1) := by decide +kernel
theorem d_Sch_add_283 : decode b_Sch_add 283 = .ok (.getfield 18, 3) := by decide +kernel
theorem d_Sch_add_286 : decode b_Sch_add 286 = .ok (.iload 10, 2) := by decide +kernel
theorem d_Sch_add_288 : decode b_Sch_add 288 = .ok (.iaload, 1) := by decide +kernel
theorem d_Sch_add_289 : decode b_Sch_add 289 = .ok (.istore 10, 2) := by decide +kernel
theorem d_Sch_add_291 : decode b_Sch_add 291 = .ok (.iinc 11 1, 3) := by decide +kernel
theorem d_Sch_add_294 : decode b_Sch_add 294 = .ok (.goto (-36), 3) := by decide +kernel
theorem d_Sch_add_191 : decode b_Sch_add 191 = .ok (.iadd, 1) := by decide +kernel
theorem d_Sch_add_192 : decode b_Sch_add 192 = .ok (.iastore, 1) := by decide +kernel
theorem d_Sch_add_193 : decode b_Sch_add 193 = .ok (.aload_n 0, 1) := by decide +kernel
theorem d_Sch_add_194 : decode b_Sch_add 194 = .ok (.getfield 33, 3) := by decide +kernel
theorem d_Sch_add_197 : decode b_Sch_add 197 = .ok (.iload 9, 2) := by decide +kernel
theorem d_Sch_add_199 : decode b_Sch_add 199 = .ok (.aload_n 0, 1) := by decide +kernel
theorem d_Sch_add_200 : decode b_Sch_add 200 = .ok (.getfield 50, 3) := by decide +kernel
theorem d_Sch_add_203 : decode b_Sch_add 203 = .ok (.iastore, 1) := by decide +kernel
theorem d_Sch_add_204 : decode b_Sch_add 204 = .ok (.aload_n 0, 1) := by decide +kernel
theorem d_Sch_add_205 : decode b_Sch_add 205 = .ok (.getfield 39, 3) := by decide +kernel
theorem d_Sch_add_208 : decode b_Sch_add 208 = .ok (.iload 9, 2) := by decide +kernel
theorem d_Sch_add_210 : decode b_Sch_add 210 = .ok (.iload 6, 2) := by decide +kernel
theorem d_Sch_add_212 : decode b_Sch_add 212 = .ok (.iastore, 1) := by decide +kernel
theorem d_Sch_add_213 : decode b_Sch_add 213 = .ok (.aload 4, 2) := by decide +kernel
theorem d_Sch_add_215 : decode b_Sch_add 215 = .ok (.iload 5, 2) := by decide +kernel
theorem d_Sch_add_217 : decode b_Sch_add 217 = .ok (.aload_n 0, 1) := by decide +kernel
theorem d_Sch_add_218 : decode b_Sch_add 218 = .ok (.getfield 42, 3) := by decide +kernel
theorem d_Sch_add_221 : decode b_Sch_add 221 = .ok (.iload 9, 2) := by decide +kernel
theorem d_Sch_add_223 : decode b_Sch_add 223 = .ok (.bipush 16, 2) := by decide +kernel
theorem d_Sch_add_225 : decode b_Sch_add 225 = .ok (.imul, 1) := by decide +kernel
theorem d_Sch_add_226 : decode b_Sch_add 226 = .ok (.iload 6, 2) := by decide +kernel
theorem d_Sch_add_228 : decode b_Sch_add 228 = .ok (.invokestatic 74, 3) := by decide +kernel
theorem d_Sch_add_231 : decode b_Sch_add 231 = .ok (.aload_n 0, 1) := by decide +kernel
theorem d_Sch_add_232 : decode b_Sch_add 232 = .ok (.dup, 1) := by decide +kernel
theorem d_Sch_add_233 : decode b_Sch_add 233 = .ok (.getfield 46, 3) := by decide +kernel
theorem d_Sch_add_236 : decode b_Sch_add 236 = .ok (.iconst 1, 1) := by decide +kernel
theorem d_Sch_add_237 : decode b_Sch_add 237 = .ok (.iadd, 1) := by decide +kernel
theorem d_Sch_add_238 : decode b_Sch_add 238 = .ok (.putfield 46, 3) := by decide +kernel
theorem d_Sch_add_241 : decode b_Sch_add 241 = .ok (.aload_n 0, 1) := by decide +kernel
theorem d_Sch_add_242 : decode b_Sch_add 242 = .ok (.getfield 30, 3) := by decide +kernel
theorem d_Sch_add_245 : decode b_Sch_add 245 = .ok (.iload 9, 2) := by decide +kernel
theorem d_Sch_add_247 : decode b_Sch_add 247 = .ok (.aload_n 0, 1) := by decide +kernel
theorem d_Sch_add_248 : decode b_Sch_add 248 = .ok (.getfield 46, 3) := by decide +kernel
theorem d_Sch_add_251 : decode b_Sch_add 251 = .ok (.iastore, 1) := by decide +kernel
theorem d_Sch_add_252 : decode b_Sch_add 252 = .ok (.iload_n 3, 1) := by decide +kernel
theorem d_Sch_add_253 : decode b_Sch_add 253 = .ok (.istore 10, 2) := by decide +kernel
theorem d_Sch_add_255 : decode b_Sch_add 255 = .ok (.iconst 0, 1) := by decide +kernel
theorem d_Sch_add_256 : decode b_Sch_add 256 = .ok (.istore 11, 2) := by decide +kernel
theorem d_Sch_add_171 : decode b_Sch_add 171 = .ok (.iadd, 1) := by decide +kernel
theorem d_Sch_add_172 : decode b_Sch_add 172 = .ok (.iastore, 1) := by decide +kernel
theorem d_Sch_add_173 : decode b_Sch_add 173 = .ok (.aload_n 0, 1) := by decide +kernel
theorem d_Sch_add_174 : decode b_Sch_add 174 = .ok (.getfield 27, 3) := by decide +kernel
theorem d_Sch_add_177 : decode b_Sch_add 177 = .ok (.iload 9, 2) := by decide +kernel
theorem d_Sch_add_179 : decode b_Sch_add 179 = .ok (.iload 7, 2) := by decide +kernel
theorem d_Sch_add_181 : decode b_Sch_add 181 = .ok (.iload_n 2, 1) := by decide +kernel
theorem d_Sch_add_182 : decode b_Sch_add 182 = .ok (.iconst 4, 1) := by decide +kernel
theorem d_Sch_add_183 : decode b_Sch_add 183 = .ok (.if_icmp .ne 7, 3) := by decide +kernel
theorem d_Sch_add_190 : decode b_Sch_add 190 = .ok (.iconst 0, 1) := by decide +kernel
theorem d_Sch_add_186 : decode b_Sch_add 186 = .ok (.iconst 1, 1) := by decide +kernel
theorem d_Sch_add_187 : decode b_Sch_add 187 = .ok (.goto 4, 3) := by decide +kernel
theorem d_Sch_add_149 : decode b_Sch_add 149 = .ok (.iadd, 1) := by decide +kernel
theorem d_Sch_add_150 : decode b_Sch_add 150 = .ok (.iastore, 1) := by decide +kernel
theorem d_Sch_add_151 : decode b_Sch_add 151 = .ok (.aload_n 0, 1) := by decide +kernel
theorem d_Sch_add_152 : decode b_Sch_add 152 = .ok (.getfield 24, 3) := by decide +kernel
theorem d_Sch_add_155 : decode b_Sch_add 155 = .ok (.iload 9, 2) := by decide +kernel
theorem d_Sch_add_157 : decode b_Sch_add 157 = .ok (.aload_n 0, 1) := by decide +kernel
theorem d_Sch_add_158 : decode b_Sch_add 158 = .ok (.iload_n 3, 1) := by decide +kernel
theorem d_Sch_add_159 : decode b_Sch_add 159 = .ok (.invokevirtual 71, 3) := by decide +kernel
theorem d_Sch_add_162 : decode b_Sch_add 162 = .ok (.iload_n 1, 1) := by decide +kernel
theorem d_Sch_add_163 : decode b_Sch_add 163 = .ok (.ifCond .ne 7, 3) := by decide +kernel
theorem d_Sch_add_170 : decode b_Sch_add 170 = .ok (.iconst 1, 1) := by decide +kernel
theorem d_Sch_add_166 : decode b_Sch_add 166 = .ok (.iconst 0, 1) := by decide +kernel
theorem d_Sch_add_167 : decode b_Sch_add 167 = .ok (.goto 4, 3) := by decide +kernel
theorem d_Sch_add_96 : decode b_Sch_add 96 = .ok (.iconst 0, 1) := by decide +kernel
theorem d_Sch_add_97 : decode b_Sch_add 97 = .ok (.ireturn, 1) := by decide +kernel
theorem d_Sch_add_51 : decode b_Sch_add 51 = .ok (.istore 8, 2) := by decide +kernel
theorem d_Sch_add_53 : decode b_Sch_add 53 = .ok (.aload_n 0, 1) := by decide +kernel
theorem d_Sch_add_54 : decode b_Sch_add 54 = .ok (.getfield 46, 3) := by decide +kernel
theorem d_Sch_add_57 : decode b_Sch_add 57 = .ok (.sipush 128, 3) := by decide +kernel
theorem d_Sch_add_60 : decode b_Sch_add 60 = .ok (.if_icmp .ge 36, 3) := by decide +kernel
theorem d_Sch_add_63 : decode b_Sch_add 63 = .ok (.iload 8, 2) := by decide +kernel
theorem d_Sch_add_65 : decode b_Sch_add 65 = .ok (.ifCond .ne 31, 3) := by decide +kernel
theorem d_Sch_add_68 : decode b_Sch_add 68 = .ok (.iload 6, 2) := by decide +kernel
theorem d_Sch_add_70 : decode b_Sch_add 70 = .ok (.iconst 1, 1) := by decide +kernel
theorem d_Sch_add_71 : decode b_Sch_add 71 = .ok (.if_icmp .lt 25, 3) := by decide +kernel
theorem d_Sch_add_74 : decode b_Sch_add 74 = .ok (.iload 6, 2) := by decide +kernel
theorem d_Sch_add_76 : decode b_Sch_add 76 = .ok (.bipush 16, 2) := by decide +kernel
theorem d_Sch_add_78 : decode b_Sch_add 78 = .ok (.if_icmp .gt 18, 3) := by decide +kernel
theorem d_Sch_add_81 : decode b_Sch_add 81 = .ok (.aload_n 0, 1) := by decide +kernel
theorem d_Sch_add_82 : decode b_Sch_add 82 = .ok (.iload_n 3, 1) := by decide +kernel
theorem d_Sch_add_83 : decode b_Sch_add 83 = .ok (.aload 4, 2) := by decide +kernel
theorem d_Sch_add_85 : decode b_Sch_add 85 = .ok (.iload 5, 2) := by decide +kernel
theorem d_Sch_add_87 : decode b_Sch_add 87 = .ok (.iload 6, 2) := by decide +kernel
theorem d_Sch_add_89 : decode b_Sch_add 89 = .ok (.invokevirtual 64, 3) := by decide +kernel
theorem d_Sch_add_92 : decode b_Sch_add 92 = .ok (.iconst (-1), 1) := by decide +kernel
theorem d_Sch_add_93 : decode b_Sch_add 93 = .ok (.if_icmp .eq 5, 3) := by decide +kernel
theorem d_Sch_add_98 : decode b_Sch_add 98 = .ok (.aload_n 0, 1) := by decide +kernel
theorem d_Sch_add_99 : decode b_Sch_add 99 = .ok (.getfield 46, 3) := by decide +kernel
theorem d_Sch_add_102 : decode b_Sch_add 102 = .ok (.istore 9, 2) := by decide +kernel
theorem d_Sch_add_104 : decode b_Sch_add 104 = .ok (.aload_n 0, 1) := by decide +kernel
theorem d_Sch_add_105 : decode b_Sch_add 105 = .ok (.getfield 9, 3) := by decide +kernel
theorem d_Sch_add_108 : decode b_Sch_add 108 = .ok (.iload 9, 2) := by decide +kernel
theorem d_Sch_add_110 : decode b_Sch_add 110 = .ok (.iload_n 1, 1) := by decide +kernel
theorem d_Sch_add_111 : decode b_Sch_add 111 = .ok (.iastore, 1) := by decide +kernel
theorem d_Sch_add_112 : decode b_Sch_add 112 = .ok (.aload_n 0, 1) := by decide +kernel
theorem d_Sch_add_113 : decode b_Sch_add 113 = .ok (.getfield 15, 3) := by decide +kernel
theorem d_Sch_add_116 : decode b_Sch_add 116 = .ok (.iload 9, 2) := by decide +kernel
theorem d_Sch_add_118 : decode b_Sch_add 118 = .ok (.iload_n 2, 1) := by decide +kernel
theorem d_Sch_add_119 : decode b_Sch_add 119 = .ok (.iastore, 1) := by decide +kernel
theorem d_Sch_add_120 : decode b_Sch_add 120 = .ok (.aload_n 0, 1) := by decide +kernel
theorem d_Sch_add_121 : decode b_Sch_add 121 = .ok (.getfield 18, 3) := by decide +kernel
theorem d_Sch_add_124 : decode b_Sch_add 124 = .ok (.iload 9, 2) := by decide +kernel
theorem d_Sch_add_126 : decode b_Sch_add 126 = .ok (.iload_n 3, 1) := by decide +kernel
theorem d_Sch_add_127 : decode b_Sch_add 127 = .ok (.iastore, 1) := by decide +kernel
theorem d_Sch_add_128 : decode b_Sch_add 128 = .ok (.aload_n 0, 1) := by decide +kernel
theorem d_Sch_add_129 : decode b_Sch_add 129 = .ok (.getfield 21, 3) := by decide +kernel
theorem d_Sch_add_132 : decode b_Sch_add 132 = .ok (.iload 9, 2) := by decide +kernel
theorem d_Sch_add_134 : decode b_Sch_add 134 = .ok (.aload_n 0, 1) := by decide +kernel
theorem d_Sch_add_135 : decode b_Sch_add 135 = .ok (.iload_n 3, 1) := by decide +kernel
theorem d_Sch_add_136 : decode b_Sch_add 136 = .ok (.invokevirtual 68, 3) := by decide +kernel
theorem d_Sch_add_139 : decode b_Sch_add 139 = .ok (.iload_n 1, 1) := by decide +kernel
theorem d_Sch_add_140 : decode b_Sch_add 140 = .ok (.iconst 2, 1) := by decide +kernel
theorem d_Sch_add_141 : decode b_Sch_add 141 = .ok (.if_icmp .ne 7, 3) := by decide +kernel
theorem d_Sch_add_148 : decode b_Sch_add 148 = .ok (.iconst 0, 1) := by decide +kernel
theorem d_Sch_add_144 : decode b_Sch_add 144 = .ok (.iconst 1, 1) := by decide +kernel
theorem d_Sch_add_145 : decode b_Sch_add 145 = .ok (.goto 4, 3) := by decide +kernel
theorem d_Sch_add_15 : decode b_Sch_add 15 = .ok (.istore 7, 2) := by decide +kernel
theorem d_Sch_add_17 : decode b_Sch_add 17 = .ok (.iload_n 2, 1) := by decide +kernel
theorem d_Sch_add_18 : decode b_Sch_add 18 = .ok (.iconst 4, 1) := by decide +kernel
theorem d_Sch_add_19 : decode b_Sch_add 19 = .ok (.if_icmp .ne 18, 3) := by decide +kernel
theorem d_Sch_add_37 : decode b_Sch_add 37 = .ok (.aload_n 0, 1) := by decide +kernel
theorem d_Sch_add_38 : decode b_Sch_add 38 = .ok (.getfield 50, 3) := by decide +kernel
theorem d_Sch_add_41 : decode b_Sch_add 41 = .ok (.bipush 64, 2) := by decide +kernel
theorem d_Sch_add_43 : decode b_Sch_add 43 = .ok (.if_icmp .lt 7, 3) := by decide +kernel
theorem d_Sch_add_50 : decode b_Sch_add 50 = .ok (.iconst 0, 1) := by decide +kernel
theorem d_Sch_add_46 : decode b_Sch_add 46 = .ok (.iconst 1, 1) := by decide +kernel
theorem d_Sch_add_47 : decode b_Sch_add 47 = .ok (.goto 4, 3) := by decide +kernel
theorem d_Sch_add_22 : decode b_Sch_add 22 = .ok (.iload 7, 2) := by decide +kernel
theorem d_Sch_add_24 : decode b_Sch_add 24 = .ok (.bipush 16, 2) := by decide +kernel
theorem d_Sch_add_26 : decode b_Sch_add 26 = .ok (.if_icmp .lt 7, 3) := by decide +kernel
theorem d_Sch_add_33 : decode b_Sch_add 33 = .ok (.iconst 0, 1) := by decide +kernel
theorem d_Sch_add_34 : decode b_Sch_add 34 = .ok (.goto 17, 3) := by decide +kernel
theorem d_Sch_add_29 : decode b_Sch_add 29 = .ok (.iconst 1, 1) := by decide +kernel
theorem d_Sch_add_30 : decode b_Sch_add 30 = .ok (.goto 21, 3) := by decide +kernel
theorem d_Sch_add_0 : decode b_Sch_add 0 = .ok (.iload_n 3, 1) := by decide +kernel
theorem d_Sch_add_1 : decode b_Sch_add 1 = .ok (.iconst (-1), 1) := by decide +kernel
theorem d_Sch_add_2 : decode b_Sch_add 2 = .ok (.if_icmp .ne 7, 3) := by decide +kernel
theorem d_Sch_add_9 : decode b_Sch_add 9 = .ok (.aload_n 0, 1) := by decide +kernel
theorem d_Sch_add_10 : decode b_Sch_add 10 = .ok (.getfield 27, 3) := by decide +kernel
theorem d_Sch_add_13 : decode b_Sch_add 13 = .ok (.iload_n 3, 1) := by decide +kernel
theorem d_Sch_add_14 : decode b_Sch_add 14 = .ok (.iaload, 1) := by decide +kernel
theorem d_Sch_add_5 : decode b_Sch_add 5 = .ok (.iconst 0, 1) := by decide +kernel
theorem d_Sch_add_6 : decode b_Sch_add 6 = .ok (.goto 9, 3) := by decide +kernel
theorem d_Sch_readField_91 : decode b_Sch_readField 91 = .ok (.invokevirtual 100, 3) := by decide +kernel
theorem d_Sch_readField_94 : decode b_Sch_readField 94 = .ok (.iload 4, 2) := by decide +kernel
theorem d_Sch_readField_96 : decode b_Sch_readField 96 = .ok (.iconst 4, 1) := by decide +kernel
theorem d_Sch_readField_97 : decode b_Sch_readField 97 = .ok (.if_icmp .ne 12, 3) := by decide +kernel
theorem d_Sch_readField_109 : decode b_Sch_readField 109 = .ok (.iload_n 2, 1) := by decide +kernel
theorem d_Sch_readField_110 : decode b_Sch_readField 110 = .ok (.ireturn, 1) := by decide +kernel
theorem d_Sch_readField_100 : decode b_Sch_readField 100 = .ok (.aload_n 0, 1) := by decide +kernel
theorem d_Sch_readField_101 : decode b_Sch_readField 101 = .ok (.getfield 46, 3) := by decide +kernel
theorem d_Sch_readField_104 : decode b_Sch_readField 104 = .ok (.iconst 1, 1) := by decide +kernel
theorem d_Sch_readField_105 : decode b_Sch_readField 105 = .ok (.isub, 1) := by decide +kernel
theorem d_Sch_readField_106 : decode b_Sch_readField 106 = .ok (.goto 4, 3) := by decide +kernel
theorem d_Sch_readField_35 : decode b_Sch_readField 35 = .ok (.aload_n 1, 1) := by decide +kernel
theorem d_Sch_readField_36 : decode b_Sch_readField 36 = .ok (.invokevirtual 88, 3) := by decide +kernel
theorem d_Sch_readField_39 : decode b_Sch_readField 39 = .ok (.ifCond .ne 5, 3) := by decide +kernel
theorem d_Sch_readField_44 : decode b_Sch_readField 44 = .ok (.aload_n 0, 1) := by decide +kernel
theorem d_Sch_readField_45 : decode b_Sch_readField 45 = .ok (.iload_n 3, 1) := by decide +kernel
theorem d_Sch_readField_46 : decode b_Sch_readField 46 = .ok (.iload 4, 2) := by decide +kernel
theorem d_Sch_readField_48 : decode b_Sch_readField 48 = .ok (.iload_n 2, 1) := by decide +kernel
theorem d_Sch_readField_49 : decode b_Sch_readField 49 = .ok (.aload_n 1, 1) := by decide +kernel
theorem d_Sch_readField_50 : decode b_Sch_readField 50 = .ok (.getfield 128, 3) := by decide +kernel
theorem d_Sch_readField_53 : decode b_Sch_readField 53 = .ok (.aload_n 1, 1) := by decide +kernel
theorem d_Sch_readField_54 : decode b_Sch_readField 54 = .ok (.getfield 131, 3) := by decide +kernel
theorem d_Sch_readField_57 : decode b_Sch_readField 57 = .ok (.aload_n 1, 1) := by decide +kernel
theorem d_Sch_readField_58 : decode b_Sch_readField 58 = .ok (.getfield 134, 3) := by decide +kernel
theorem d_Sch_readField_61 : decode b_Sch_readField 61 = .ok (.invokevirtual 137, 3) := by decide +kernel
theorem d_Sch_readField_64 : decode b_Sch_readField 64 = .ok (.ifCond .ne 13, 3) := by decide +kernel
theorem d_Sch_readField_77 : decode b_Sch_readField 77 = .ok (.aload_n 1, 1) := by decide +kernel
theorem d_Sch_readField_78 : decode b_Sch_readField 78 = .ok (.iload 4, 2) := by decide +kernel
theorem d_Sch_readField_80 : decode b_Sch_readField 80 = .ok (.iconst 4, 1) := by decide +kernel
theorem d_Sch_readField_81 : decode b_Sch_readField 81 = .ok (.if_icmp .ne 8, 3) := by decide +kernel
theorem d_Sch_readField_89 : decode b_Sch_readField 89 = .ok (.bipush 59, 2) := by decide +kernel
theorem d_Sch_readField_84 : decode b_Sch_readField 84 = .ok (.bipush 123, 2) := by decide +kernel
theorem d_Sch_readField_86 : decode b_Sch_readField 86 = .ok (.goto 5, 3) := by decide +kernel
theorem d_Sch_readField_67 : decode b_Sch_readField 67 = .ok (.aload_n 1, 1) := by decide +kernel
theorem d_Sch_readField_68 : decode b_Sch_readField 68 = .ok (.aload_n 1, 1) := by decide +kernel
theorem d_Sch_readField_69 : decode b_Sch_readField 69 = .ok (.getfield 131, 3) := by decide +kernel
theorem d_Sch_readField_72 : decode b_Sch_readField 72 = .ok (.invokevirtual 124, 3) := by decide +kernel
theorem d_Sch_readField_75 : decode b_Sch_readField 75 = .ok (.iload_n 2, 1) := by decide +kernel
theorem d_Sch_readField_76 : decode b_Sch_readField 76 = .ok (.ireturn, 1) := by decide +kernel
theorem d_Sch_readField_42 : decode b_Sch_readField 42 = .ok (.iload_n 2, 1) := by decide +kernel
theorem d_Sch_readField_43 : decode b_Sch_readField 43 = .ok (.ireturn, 1) := by decide +kernel
theorem d_Sch_readField_0 : decode b_Sch_readField 0 = .ok (.aload_n 0, 1) := by decide +kernel
theorem d_Sch_readField_1 : decode b_Sch_readField 1 = .ok (.aload_n 1, 1) := by decide +kernel
theorem d_Sch_readField_2 : decode b_Sch_readField 2 = .ok (.invokevirtual 111, 3) := by decide +kernel
theorem d_Sch_readField_5 : decode b_Sch_readField 5 = .ok (.istore_n 3, 1) := by decide +kernel
theorem d_Sch_readField_6 : decode b_Sch_readField 6 = .ok (.aload_n 0, 1) := by decide +kernel
theorem d_Sch_readField_7 : decode b_Sch_readField 7 = .ok (.aload_n 1, 1) := by decide +kernel
theorem d_Sch_readField_8 : decode b_Sch_readField 8 = .ok (.invokevirtual 115, 3) := by decide +kernel
theorem d_Sch_readField_11 : decode b_Sch_readField 11 = .ok (.istore 4, 2) := by decide +kernel
theorem d_Sch_readField_13 : decode b_Sch_readField 13 = .ok (.aload_n 1, 1) := by decide +kernel
theorem d_Sch_readField_14 : decode b_Sch_readField 14 = .ok (.invokevirtual 88, 3) := by decide +kernel
theorem d_Sch_readField_17 : decode b_Sch_readField 17 = .ok (.ifCond .eq 18, 3) := by decide +kernel
theorem d_Sch_readField_20 : decode b_Sch_readField 20 = .ok (.aload_n 1, 1) := by decide +kernel
theorem d_Sch_readField_21 : decode b_Sch_readField 21 = .ok (.invokevirtual 118, 3) := by decide +kernel
theorem d_Sch_readField_24 : decode b_Sch_readField 24 = .ok (.ifCond .ne 11, 3) := by decide +kernel
theorem d_Sch_readField_27 : decode b_Sch_readField 27 = .ok (.aload_n 1, 1) := by decide +kernel
theorem d_Sch_readField_28 : decode b_Sch_readField 28 = .ok (.aload_n 1, 1) := by decide +kernel
theorem d_Sch_readField_29 : decode b_Sch_readField 29 = .ok (.getfield 121, 3) := by decide +kernel
theorem d_Sch_readField_32 : decode b_Sch_readField 32 = .ok (.invokevirtual 124, 3) := by decide +kernel
theorem d_Sch_readText_98 : decode b_Sch_readText 98 = .ok (.aload_n 1, 1) := by decide +kernel
theorem d_Sch_readText_99 : decode b_Sch_readText 99 = .ok (.getfield 108, 3) := by decide +kernel
theorem d_Sch_readText_102 : decode b_Sch_readText 102 = .ok (.ireturn, 1) := by decide +kernel
theorem d_Sch_readText_92 : decode b_Sch_readText 92 = .ok (.iinc 3 1, 3) := by decide +kernel
theorem d_Sch_readText_95 : decode b_Sch_readText 95 = .ok (.goto (-87), 3) := by decide +kernel
theorem d_Sch_readText_85 : decode b_Sch_readText 85 = .ok (.aload_n 0, 1) := by decide +kernel
theorem d_Sch_readText_86 : decode b_Sch_readText 86 = .ok (.aload_n 1, 1) := by decide +kernel
theorem d_Sch_readText_87 : decode b_Sch_readText 87 = .ok (.iload_n 2, 1) := by decide +kernel
theorem d_Sch_readText_88 : decode b_Sch_readText 88 = .ok (.invokevirtual 104, 3) := by decide +kernel
theorem d_Sch_readText_91 : decode b_Sch_readText 91 = .ok (.istore_n 2, 1) := by decide +kernel
theorem d_Sch_readText_49 : decode b_Sch_readText 49 = .ok (.iload 4, 2) := by decide +kernel
theorem d_Sch_readText_51 : decode b_Sch_readText 51 = .ok (.bipush 125, 2) := by decide +kernel
theorem d_Sch_readText_53 : decode b_Sch_readText 53 = .ok (.if_icmp .ne 32, 3) := by decide +kernel
theorem d_Sch_readText_56 : decode b_Sch_readText 56 = .ok (.iload_n 2, 1) := by decide +kernel
theorem d_Sch_readText_57 : decode b_Sch_readText 57 = .ok (.iconst (-1), 1) := by decide +kernel
theorem d_Sch_readText_58 : decode b_Sch_readText 58 = .ok (.if_icmp .eq 27, 3) := by decide +kernel
theorem d_Sch_readText_61 : decode b_Sch_readText 61 = .ok (.aload_n 0, 1) := by decide +kernel
theorem d_Sch_readText_62 : decode b_Sch_readText 62 = .ok (.iload_n 2, 1) := by decide +kernel
theorem d_Sch_readText_63 : decode b_Sch_readText 63 = .ok (.invokevirtual 96, 3) := by decide +kernel
theorem d_Sch_readText_66 : decode b_Sch_readText 66 = .ok (.ifCond .ne 19, 3) := by decide +kernel
theorem d_Sch_readText_69 : decode b_Sch_readText 69 = .ok (.aload_n 1, 1) := by decide +kernel
theorem d_Sch_readText_70 : decode b_Sch_readText 70 = .ok (.bipush 125, 2) := by decide +kernel
theorem d_Sch_readText_72 : decode b_Sch_readText 72 = .ok (.invokevirtual 100, 3) := by decide +kernel
theorem d_Sch_readText_75 : decode b_Sch_readText 75 = .ok (.aload_n 0, 1) := by decide +kernel
theorem d_Sch_readText_76 : decode b_Sch_readText 76 = .ok (.getfield 18, 3) := by decide +kernel
theorem d_Sch_readText_79 : decode b_Sch_readText 79 = .ok (.iload_n 2, 1) := by decide +kernel
theorem d_Sch_readText_80 : decode b_Sch_readText 80 = .ok (.iaload, 1) := by decide +kernel
theorem d_Sch_readText_81 : decode b_Sch_readText 81 = .ok (.istore_n 2, 1) := by decide +kernel
theorem d_Sch_readText_82 : decode b_Sch_readText 82 = .ok (.goto 10, 3) := by decide +kernel
theorem d_Sch_readText_8 : decode b_Sch_readText 8 = .ok (.iload_n 3, 1) := by decide +kernel
theorem d_Sch_readText_9 : decode b_Sch_readText 9 = .ok (.aload_n 1, 1) := by decide +kernel
theorem d_Sch_readText_10 : decode b_Sch_readText 10 = .ok (.getfield 83, 3) := by decide +kernel
theorem d_Sch_readText_13 : decode b_Sch_readText 13 = .ok (.if_icmp .gt 85, 3) := by decide +kernel
theorem d_Sch_readText_16 : decode b_Sch_readText 16 = .ok (.aload_n 1, 1) := by decide +kernel
theorem d_Sch_readText_17 : decode b_Sch_readText 17 = .ok (.invokevirtual 88, 3) := by decide +kernel
theorem d_Sch_readText_20 : decode b_Sch_readText 20 = .ok (.ifCond .eq 78, 3) := by decide +kernel
theorem d_Sch_readText_23 : decode b_Sch_readText 23 = .ok (.aload_n 1, 1) := by decide +kernel
theorem d_Sch_readText_24 : decode b_Sch_readText 24 = .ok (.invokevirtual 92, 3) := by decide +kernel
theorem d_Sch_readText_27 : decode b_Sch_readText 27 = .ok (.istore 4, 2) := by decide +kernel
theorem d_Sch_readText_29 : decode b_Sch_readText 29 = .ok (.iload 4, 2) := by decide +kernel
theorem d_Sch_readText_31 : decode b_Sch_readText 31 = .ok (.iconst (-1), 1) := by decide +kernel
theorem d_Sch_readText_32 : decode b_Sch_readText 32 = .ok (.if_icmp .ne 17, 3) := by decide +kernel
theorem d_Sch_readText_35 : decode b_Sch_readText 35 = .ok (.iload_n 2, 1) := by decide +kernel
theorem d_Sch_readText_36 : decode b_Sch_readText 36 = .ok (.iconst (-1), 1) := by decide +kernel
theorem d_Sch_readText_37 : decode b_Sch_readText 37 = .ok (.if_icmp .ne 12, 3) := by decide +kernel
theorem d_Sch_readText_40 : decode b_Sch_readText 40 = .ok (.aload_n 0, 1) := by decide +kernel
theorem d_Sch_readText_41 : decode b_Sch_readText 41 = .ok (.getfield 46, 3) := by decide +kernel
theorem d_Sch_readText_44 : decode b_Sch_readText 44 = .ok (.ifCond .le 5, 3) := by decide +kernel
theorem d_Sch_readText_47 : decode b_Sch_readText 47 = .ok (.iconst (-1), 1) := by decide +kernel
theorem d_Sch_readText_48 : decode b_Sch_readText 48 = .ok (.ireturn, 1) := by decide +kernel
theorem d_Sch_readText_0 : decode b_Sch_readText 0 = .ok (.aload_n 0, 1) := by decide +kernel
theorem d_Sch_readText_1 : decode b_Sch_readText 1 = .ok (.invokevirtual 80, 3) := by decide +kernel
theorem d_Sch_readText_4 : decode b_Sch_readText 4 = .ok (.iconst (-1), 1) := by decide +kernel
theorem d_Sch_readText_5 : decode b_Sch_readText 5 = .ok (.istore_n 2, 1) := by decide +kernel
theorem d_Sch_readText_6 : decode b_Sch_readText 6 = .ok (.iconst 0, 1) := by decide +kernel
theorem d_Sch_readText_7 : decode b_Sch_readText 7 = .ok (.istore_n 3, 1) := by decide +kernel
section
variable (l : Launch) (dC : Nat → ClassId) (dI : Nat → Nat → Nat) (cI cB cJ cZ : ClassId)
set_option maxRecDepth 100000 in
set_option maxHeartbeats 4000000 in
set_option maxRecDepth 100000 in
theorem t_Sch_repOf_e {p : Program} {l : Launch} {e : Env} {R : Room} {s : State} {m : MethodId} {args : Array Value} {below : List Frame} {meth : Method} {c : Code} {cells slots : Nat} {Q : State → Prop} {dC : Nat → ClassId} {dI : Nat → Nat → Nat} {cI cB cJ cZ : ClassId} {A : Nat → Prop} {ad : Nat → Nat} {NN : Nat} {E : Heap} {tM tC : Nat} {kK kV : Nat → Nat} {post : Int32 → St → Prop} (hx : p.tables.exec = Jvm.exec) (hb : c.code = b_Sch_repOf) (hml : c.maxLocals = 2) (hown : s.vm.findClass R_Sch = some m.cls) (hT : ∀ w ∈ TG, w.before args s = true) (hK : va_K (dC, dI) CL (TY cI cB cJ cZ) s) (hN : NW s) (hA : ∀ q : Nat, s.heap.size ≤ q → A q) (hRc : cells ≤ R.cells) (hRs : slots ≤ R.slots) (hRf : 0 ≤ R.frames) (hRl : 0 ≤ R.locals) (hNN : 152 ≤ NN) (hE : CE E tM tC kK kV A s) (hret : ∀ (r : Int32) (x : St) (H : Heap) (locs : List Loc) (pc : Nat) (ls : Array Slot), decode b_Sch_repOf pc = .ok (.ireturn, 1) → post r x → Wd dC dI cI cB cJ cZ ad stC kcC NN A x H → va_S A s.heap H locs → W p l e R s m args below meth c H locs cells slots Q (F0 m pc ls [.int r])) : ∀ (o : Nat) (l1 : Int32) (x : St) (H : Heap) (locs : List Loc) (ls : Array Slot), (o < NN ∧ kcC o = 3) → wp_Sch_repOf post o l1 x → Wd dC dI cI cB cJ cZ ad stC kcC NN A x H → va_S A s.heap H locs → lv_has ls 2 [(0, .ref (ad o)), (1, .int l1)] → W p l e R s m args below meth c H locs cells slots Q (F0 m 0 ls []) := by
  intro o l1 x H locs ls fo hw hW hS hl
  unfold wp_Sch_repOf at hw
  refine lv_iload_n hx hb d_Sch_repOf_0 rfl (lv_at hl 1 rfl) ?_
  refine lv_iconst (v := (-1)) hx hb d_Sch_repOf_1 (by decide) ?_
  refine lv_icmp_ne (tgt := 9) hx hb d_Sch_repOf_2 (by decide) (fun c1 => ?_) (fun c1 => ?_)
  · have hw := hw.1 c1
    refine lv_aload_n hx hb d_Sch_repOf_9 rfl (lv_at hl 0 rfl) ?_
    refine w_getf (q := (stC o 5)) (k := 5) (t := 3) (C := R_Sch) (T := F_Sch) (N := 13) hx hb hT hown hK hW fo.1 fo.2 (by decide) in_Sch rfl rfl (by decide) rfl fr_Sch_5 w_1_157 d_Sch_repOf_10 rfl ?_
    refine lv_iload_n hx hb d_Sch_repOf_13 rfl (lv_at hl 1 rfl) ?_
    obtain ⟨hi, hw⟩ := hw
    refine w_iald (o := (stC o 5)) hx hb hK hW (st_ty hNN fo.1 fo.2 rfl).1 (st_ty hNN fo.1 fo.2 rfl).2 hi d_Sch_repOf_14 ?_
    exact hret (rA x (stC o 5) l1) x H locs 15 ls d_Sch_repOf_15 hw hW hS
  · have hw := hw.2 c1
    refine lv_iconst (v := 0) hx hb d_Sch_repOf_5 (by decide) ?_
    refine lv_goto (tgt := 15) hx hb d_Sch_repOf_6 (by decide) ?_
    exact hret 0 x H locs 15 ls d_Sch_repOf_15 hw hW hS
set_option maxHeartbeats 4000000 in
set_option maxRecDepth 100000 in
theorem k_Sch_repOf (l : Launch) (dC : Nat → ClassId) (dI : Nat → Nat → Nat) (cI cB cJ cZ : ClassId) (ad : Nat → Nat) (NN : Nat) (E : Heap) (tM tC : Nat) (kK kV : Nat → Nat) (hNN : 152 ≤ NN) (sz : Nat) (o : Nat) (l1 : Int32) (x : St) (fo : o < NN ∧ kcC o = 3) {post : Int32 → St → Prop} (hw : wp_Sch_repOf post o l1 x) : Met l y_Sch_repOf (wsOf y_Sch_repOf b_Sch_repOf 2 (some (.int))) ({ frames := 0, cells := 0, slots := 0, locals := 0 }) (va_Pc [.ref (ad o), .int l1] (PVc dC dI cI cB cJ cZ ad stC kcC NN E tM tC kK kV sz x)) (va_Qi (fun (r : Int32) (y : St) => post r y) (fun y t => Wd dC dI cI cB cJ cZ ad stC kcC NN (va_A (pic ad stC kcC NN cI cB cJ cZ x) sz) y t.heap) (va_A (pic ad stC kcC NN cI cB cJ cZ x) sz)) 0 0 (va_A (pic ad stC kcC NN cI cB cJ cZ x) sz) := by
  refine Met.ofW (cc := b_Sch_repOf) (maxL := 2) (ret := some (.int)) (by decide) rfl ?_
  intro p e s m args below meth c s₁ B hml hv
  obtain ⟨rfl, ⟨hsz, hW0, hK, hN⟩, hE⟩ := hv
  have hx := B.exec
  have hb := B.bytes
  have hr := B.returns
  have hts := atoms_spec B.pre
  have hT : ∀ w ∈ TG, w.before _ s = true := fun w h => hts w (List.mem_cons_of_mem _ h)
  have hown : s.vm.findClass R_Sch = some m.cls := findClass_of_methodNamed B.named
  have hlocks := B.notSynchronized
  subst hsz
  have hW : Wd dC dI cI cB cJ cZ ad stC kcC NN (va_A (pic ad stC kcC NN cI cB cJ cZ x) s.heap.size) x s.heap := ⟨hW0.1, hW0.2.1.self (sz := s.heap.size), hW0.2.2⟩
  generalize hAe : va_A (pic ad stC kcC NN cI cB cJ cZ x) s.heap.size = A at hW hE ⊢
  have hA : ∀ q : Nat, s.heap.size ≤ q → A q := fun q h => by rw [← hAe]; exact Or.inr h
  have hS : va_S A s.heap s.heap [] := va_S.rf
  have hl := lv_entry ([.ref (ad o), .int l1]) (n := 2) (Nat.le_of_ble_eq_true rfl)
  rw [lg_entry_eq]
  generalize (lg_sl ([.ref (ad o), .int l1]) ++ List.replicate (2 - (lg_sl ([.ref (ad o), .int l1])).length) Slot.unset).toArray = ls at hl ⊢
  have hl : lv_has ls 2 [(0, .ref (ad o)), (1, .int l1)] := hl
  exact t_Sch_repOf_e hx hb hml hown hT hK hN hA (Nat.le_refl 0) (Nat.le_refl 0) (Nat.le_refl 0) (Nat.le_refl 0) hNN hE (fun r x H locs pc ls hd hp hW hS => W.iret (v := r) hx hb hr (fun t ht hM => ⟨⟨r, x, rfl, hp, Wd.back hW ht.symm (fun _ z => z)⟩, hS.F ht⟩) hS.2.2 hd hlocks)  o l1 x _ _ ls fo hw hW hS hl
set_option maxRecDepth 100000 in
set_option maxHeartbeats 4000000 in
set_option maxRecDepth 100000 in
theorem t_Sch_defOf_e {p : Program} {l : Launch} {e : Env} {R : Room} {s : State} {m : MethodId} {args : Array Value} {below : List Frame} {meth : Method} {c : Code} {cells slots : Nat} {Q : State → Prop} {dC : Nat → ClassId} {dI : Nat → Nat → Nat} {cI cB cJ cZ : ClassId} {A : Nat → Prop} {ad : Nat → Nat} {NN : Nat} {E : Heap} {tM tC : Nat} {kK kV : Nat → Nat} {post : Int32 → St → Prop} (hx : p.tables.exec = Jvm.exec) (hb : c.code = b_Sch_defOf) (hml : c.maxLocals = 2) (hown : s.vm.findClass R_Sch = some m.cls) (hT : ∀ w ∈ TG, w.before args s = true) (hK : va_K (dC, dI) CL (TY cI cB cJ cZ) s) (hN : NW s) (hA : ∀ q : Nat, s.heap.size ≤ q → A q) (hRc : cells ≤ R.cells) (hRs : slots ≤ R.slots) (hRf : 0 ≤ R.frames) (hRl : 0 ≤ R.locals) (hNN : 152 ≤ NN) (hE : CE E tM tC kK kV A s) (hret : ∀ (r : Int32) (x : St) (H : Heap) (locs : List Loc) (pc : Nat) (ls : Array Slot), decode b_Sch_defOf pc = .ok (.ireturn, 1) → post r x → Wd dC dI cI cB cJ cZ ad stC kcC NN A x H → va_S A s.heap H locs → W p l e R s m args below meth c H locs cells slots Q (F0 m pc ls [.int r])) : ∀ (o : Nat) (l1 : Int32) (x : St) (H : Heap) (locs : List Loc) (ls : Array Slot), (o < NN ∧ kcC o = 3) → wp_Sch_defOf post o l1 x → Wd dC dI cI cB cJ cZ ad stC kcC NN A x H → va_S A s.heap H locs → lv_has ls 2 [(0, .ref (ad o)), (1, .int l1)] → W p l e R s m args below meth c H locs cells slots Q (F0 m 0 ls []) := by
  intro o l1 x H locs ls fo hw hW hS hl
  unfold wp_Sch_defOf at hw
  refine lv_iload_n hx hb d_Sch_defOf_0 rfl (lv_at hl 1 rfl) ?_
  refine lv_iconst (v := (-1)) hx hb d_Sch_defOf_1 (by decide) ?_
  refine lv_icmp_ne (tgt := 9) hx hb d_Sch_defOf_2 (by decide) (fun c1 => ?_) (fun c1 => ?_)
  · have hw := hw.1 c1
    refine lv_aload_n hx hb d_Sch_defOf_9 rfl (lv_at hl 0 rfl) ?_
    refine w_getf (q := (stC o 6)) (k := 6) (t := 3) (C := R_Sch) (T := F_Sch) (N := 13) hx hb hT hown hK hW fo.1 fo.2 (by decide) in_Sch rfl rfl (by decide) rfl fr_Sch_6 w_1_162 d_Sch_defOf_10 rfl ?_
    refine lv_iload_n hx hb d_Sch_defOf_13 rfl (lv_at hl 1 rfl) ?_
    obtain ⟨hi, hw⟩ := hw
    refine w_iald (o := (stC o 6)) hx hb hK hW (st_ty hNN fo.1 fo.2 rfl).1 (st_ty hNN fo.1 fo.2 rfl).2 hi d_Sch_defOf_14 ?_
    exact hret (rA x (stC o 6) l1) x H locs 15 ls d_Sch_defOf_15 hw hW hS
  · have hw := hw.2 c1
    refine lv_iconst (v := 0) hx hb d_Sch_defOf_5 (by decide) ?_
    refine lv_goto (tgt := 15) hx hb d_Sch_defOf_6 (by decide) ?_
    exact hret 0 x H locs 15 ls d_Sch_defOf_15 hw hW hS
set_option maxHeartbeats 4000000 in
set_option maxRecDepth 100000 in
theorem k_Sch_defOf (l : Launch) (dC : Nat → ClassId) (dI : Nat → Nat → Nat) (cI cB cJ cZ : ClassId) (ad : Nat → Nat) (NN : Nat) (E : Heap) (tM tC : Nat) (kK kV : Nat → Nat) (hNN : 152 ≤ NN) (sz : Nat) (o : Nat) (l1 : Int32) (x : St) (fo : o < NN ∧ kcC o = 3) {post : Int32 → St → Prop} (hw : wp_Sch_defOf post o l1 x) : Met l y_Sch_defOf (wsOf y_Sch_defOf b_Sch_defOf 2 (some (.int))) ({ frames := 0, cells := 0, slots := 0, locals := 0 }) (va_Pc [.ref (ad o), .int l1] (PVc dC dI cI cB cJ cZ ad stC kcC NN E tM tC kK kV sz x)) (va_Qi (fun (r : Int32) (y : St) => post r y) (fun y t => Wd dC dI cI cB cJ cZ ad stC kcC NN (va_A (pic ad stC kcC NN cI cB cJ cZ x) sz) y t.heap) (va_A (pic ad stC kcC NN cI cB cJ cZ x) sz)) 0 0 (va_A (pic ad stC kcC NN cI cB cJ cZ x) sz) := by
  refine Met.ofW (cc := b_Sch_defOf) (maxL := 2) (ret := some (.int)) (by decide) rfl ?_
  intro p e s m args below meth c s₁ B hml hv
  obtain ⟨rfl, ⟨hsz, hW0, hK, hN⟩, hE⟩ := hv
  have hx := B.exec
  have hb := B.bytes
  have hr := B.returns
  have hts := atoms_spec B.pre
  have hT : ∀ w ∈ TG, w.before _ s = true := fun w h => hts w (List.mem_cons_of_mem _ h)
  have hown : s.vm.findClass R_Sch = some m.cls := findClass_of_methodNamed B.named
  have hlocks := B.notSynchronized
  subst hsz
  have hW : Wd dC dI cI cB cJ cZ ad stC kcC NN (va_A (pic ad stC kcC NN cI cB cJ cZ x) s.heap.size) x s.heap := ⟨hW0.1, hW0.2.1.self (sz := s.heap.size), hW0.2.2⟩
  generalize hAe : va_A (pic ad stC kcC NN cI cB cJ cZ x) s.heap.size = A at hW hE ⊢
  have hA : ∀ q : Nat, s.heap.size ≤ q → A q := fun q h => by rw [← hAe]; exact Or.inr h
  have hS : va_S A s.heap s.heap [] := va_S.rf
  have hl := lv_entry ([.ref (ad o), .int l1]) (n := 2) (Nat.le_of_ble_eq_true rfl)
  rw [lg_entry_eq]
  generalize (lg_sl ([.ref (ad o), .int l1]) ++ List.replicate (2 - (lg_sl ([.ref (ad o), .int l1])).length) Slot.unset).toArray = ls at hl ⊢
  have hl : lv_has ls 2 [(0, .ref (ad o)), (1, .int l1)] := hl
  exact t_Sch_defOf_e hx hb hml hown hT hK hN hA (Nat.le_refl 0) (Nat.le_refl 0) (Nat.le_refl 0) (Nat.le_refl 0) hNN hE (fun r x H locs pc ls hd hp hW hS => W.iret (v := r) hx hb hr (fun t ht hM => ⟨⟨r, x, rfl, hp, Wd.back hW ht.symm (fun _ z => z)⟩, hS.F ht⟩) hS.2.2 hd hlocks)  o l1 x _ _ ls fo hw hW hS hl
set_option maxRecDepth 100000 in
set_option maxHeartbeats 4000000 in
set_option maxRecDepth 100000 in
theorem t_Sch_add_323 {p : Program} {l : Launch} {e : Env} {R : Room} {s : State} {m : MethodId} {args : Array Value} {below : List Frame} {meth : Method} {c : Code} {cells slots : Nat} {Q : State → Prop} {dC : Nat → ClassId} {dI : Nat → Nat → Nat} {cI cB cJ cZ : ClassId} {A : Nat → Prop} {ad : Nat → Nat} {NN : Nat} {E : Heap} {tM tC : Nat} {kK kV : Nat → Nat} {post : Int32 → St → Prop} (hx : p.tables.exec = Jvm.exec) (hb : c.code = b_Sch_add) (hml : c.maxLocals = 12) (hown : s.vm.findClass R_Sch = some m.cls) (hT : ∀ w ∈ TG, w.before args s = true) (hK : va_K (dC, dI) CL (TY cI cB cJ cZ) s) (hN : NW s) (hA : ∀ q : Nat, s.heap.size ≤ q → A q) (hRc : cells ≤ R.cells) (hRs : slots ≤ R.slots) (hRf : 2 ≤ R.frames) (hRl : 80 ≤ R.locals) (hNN : 152 ≤ NN) (hE : CE E tM tC kK kV A s) (hret : ∀ (r : Int32) (x : St) (H : Heap) (locs : List Loc) (pc : Nat) (ls : Array Slot), decode b_Sch_add pc = .ok (.ireturn, 1) → narrow .boolean (.int r) = .int r → post r x → Wd dC dI cI cB cJ cZ ad stC kcC NN A x H → va_S A s.heap H locs → W p l e R s m args below meth c H locs cells slots Q (F0 m pc ls [.int r]))  : ∀ (o : Nat) (l1 : Int32) (l2 : Int32) (l3 : Int32) (l4 : Nat) (l5 : Int32) (l6 : Int32) (l7 : Int32) (l8 : Int32) (l9 : Int32) (l10 : Int32) (l11 : Int32) (x : St) (H : Heap) (locs : List Loc) (ls : Array Slot), (o < NN ∧ kcC o = 3) → (l4 < NN ∧ kcC l4 = 21) → j_Sch_add_323 post o l1 l2 l3 l4 l5 l6 l7 l8 l9 l10 l11 x → Wd dC dI cI cB cJ cZ ad stC kcC NN A x H → va_S A s.heap H locs → lv_has ls 12 [(0, .ref (ad o)), (1, .int l1), (2, .int l2), (3, .int l3), (4, .ref (ad l4)), (5, .int l5), (6, .int l6), (7, .int l7), (8, .int l8), (9, .int l9), (10, .int l10), (11, .int l11)] → W p l e R s m args below meth c H locs cells slots Q (F0 m 323 ls []) := by
  intro o l1 l2 l3 l4 l5 l6 l7 l8 l9 l10 l11 x H locs ls fo fl4 hw hW hS hl
  unfold j_Sch_add_323 at hw
  refine lv_iconst (v := 1) hx hb d_Sch_add_323 (by decide) ?_
  exact hret 1 x H locs 324 ls d_Sch_add_324 rfl hw hW hS
set_option maxRecDepth 100000 in
set_option maxHeartbeats 4000000 in
set_option maxRecDepth 100000 in
theorem t_Sch_add_297 {p : Program} {l : Launch} {e : Env} {R : Room} {s : State} {m : MethodId} {args : Array Value} {below : List Frame} {meth : Method} {c : Code} {cells slots : Nat} {Q : State → Prop} {dC : Nat → ClassId} {dI : Nat → Nat → Nat} {cI cB cJ cZ : ClassId} {A : Nat → Prop} {ad : Nat → Nat} {NN : Nat} {E : Heap} {tM tC : Nat} {kK kV : Nat → Nat} {post : Int32 → St → Prop} (hx : p.tables.exec = Jvm.exec) (hb : c.code = b_Sch_add) (hml : c.maxLocals = 12) (hown : s.vm.findClass R_Sch = some m.cls) (hT : ∀ w ∈ TG, w.before args s = true) (hK : va_K (dC, dI) CL (TY cI cB cJ cZ) s) (hN : NW s) (hA : ∀ q : Nat, s.heap.size ≤ q → A q) (hRc : cells ≤ R.cells) (hRs : slots ≤ R.slots) (hRf : 2 ≤ R.frames) (hRl : 80 ≤ R.locals) (hNN : 152 ≤ NN) (hE : CE E tM tC kK kV A s) (hret : ∀ (r : Int32) (x : St) (H : Heap) (locs : List Loc) (pc : Nat) (ls : Array Slot), decode b_Sch_add pc = .ok (.ireturn, 1) → narrow .boolean (.int r) = .int r → post r x → Wd dC dI cI cB cJ cZ ad stC kcC NN A x H → va_S A s.heap H locs → W p l e R s m args below meth c H locs cells slots Q (F0 m pc ls [.int r]))  : ∀ (o : Nat) (l1 : Int32) (l2 : Int32) (l3 : Int32) (l4 : Nat) (l5 : Int32) (l6 : Int32) (l7 : Int32) (l8 : Int32) (l9 : Int32) (l10 : Int32) (l11 : Int32) (x : St) (H : Heap) (locs : List Loc) (ls : Array Slot), (o < NN ∧ kcC o = 3) → (l4 < NN ∧ kcC l4 = 21) → j_Sch_add_297 post o l1 l2 l3 l4 l5 l6 l7 l8 l9 l10 l11 x → Wd dC dI cI cB cJ cZ ad stC kcC NN A x H → va_S A s.heap H locs → lv_has ls 12 [(0, .ref (ad o)), (1, .int l1), (2, .int l2), (3, .int l3), (4, .ref (ad l4)), (5, .int l5), (6, .int l6), (7, .int l7), (8, .int l8), (9, .int l9), (10, .int l10), (11, .int l11)] → W p l e R s m args below meth c H locs cells slots Q (F0 m 297 ls []) := by
  intro o l1 l2 l3 l4 l5 l6 l7 l8 l9 l10 l11 x H locs ls fo fl4 hw hW hS hl
  unfold j_Sch_add_297 at hw
  refine lv_iload_n hx hb d_Sch_add_297 rfl (lv_at hl 2 rfl) ?_
  refine lv_iconst (v := 4) hx hb d_Sch_add_298 (by decide) ?_
  refine lv_icmp_eq (tgt := 323) hx hb d_Sch_add_299 (by decide) (fun c1 => ?_) (fun c1 => ?_)
  · have hw := hw.1 c1
    exact t_Sch_add_323 hx hb hml hown hT hK hN hA hRc hRs hRf hRl hNN hE hret  o l1 l2 l3 l4 l5 l6 l7 l8 l9 l10 l11 x H locs ls fo fl4 hw hW hS (lv_sub hl [0, 1, 2, 3, 4, 5, 6, 7, 8, 9, 10, 11] rfl)
  · have hw := hw.2 c1
    refine lv_aload_n hx hb d_Sch_add_302 rfl (lv_at hl 0 rfl) ?_
    refine w_getf (q := (stC o 10)) (k := 10) (t := 3) (C := R_Sch) (T := F_Sch) (N := 13) hx hb hT hown hK hW fo.1 fo.2 (by decide) in_Sch rfl rfl (by decide) rfl fr_Sch_10 w_1_178 d_Sch_add_303 rfl ?_
    refine lv_aload_n hx hb d_Sch_add_306 rfl (lv_at hl 0 rfl) ?_
    refine w_geti (k := 1) (t := 3) (C := R_Sch) (T := F_Sch) (N := 13) hx hb hT hown hK hW fo.1 fo.2 (by decide) in_Sch rfl rfl (by decide) rfl fr_Sch_1 w_1_135 d_Sch_add_307 ?_
    refine lv_iload hx hb d_Sch_add_310 (lv_at hl 9 rfl) ?_
    obtain ⟨hi, hw⟩ := hw
    refine w_iast (o := (stC o 10)) hx hb hK hW hS (st_ty hNN fo.1 fo.2 rfl).1 (st_ty hNN fo.1 fo.2 rfl).2 hi d_Sch_add_312 (fun H locs hW hS => ?_)
    obtain ⟨x2, ex2⟩ : ∃ y : St, y = setA x (stC o 10) (fI x o 1) l9 := ⟨_, rfl⟩
    rw [← ex2] at hW
    have hw := hw x2 ex2
    refine lv_aload_n hx hb d_Sch_add_313 rfl (lv_at hl 0 rfl) ?_
    refine lv_dup hx hb d_Sch_add_314 rfl ?_
    refine w_geti (k := 1) (t := 3) (C := R_Sch) (T := F_Sch) (N := 13) hx hb hT hown hK hW fo.1 fo.2 (by decide) in_Sch rfl rfl (by decide) rfl fr_Sch_1 w_1_135 d_Sch_add_315 ?_
    refine lv_iconst (v := 1) hx hb d_Sch_add_318 (by decide) ?_
    refine lv_iadd hx hb d_Sch_add_319 ?_
    refine w_puti (ty := .int) (k := 1) (t := 3) (C := R_Sch) (T := F_Sch) (N := 13) hx hb hT hown hK hW hS fo.1 fo.2 (by decide) in_Sch t_Sch t_Sch_ok n_Sch rfl rfl (by decide) rfl fr_Sch_1 w_1_135 (by decide +kernel) rfl rfl d_Sch_add_320 (fun H locs hW hS => ?_)
    obtain ⟨x3, ex3⟩ : ∃ y : St, y = setI x2 o 1 ((fI x2 o 1) + 1) := ⟨_, rfl⟩
    rw [← ex3] at hW
    have hw := hw x3 ex3
    exact t_Sch_add_323 hx hb hml hown hT hK hN hA hRc hRs hRf hRl hNN hE hret  o l1 l2 l3 l4 l5 l6 l7 l8 l9 l10 l11 x3 H locs ls fo fl4 hw hW hS (lv_sub hl [0, 1, 2, 3, 4, 5, 6, 7, 8, 9, 10, 11] rfl)
set_option maxRecDepth 100000 in
set_option maxHeartbeats 4000000 in
set_option maxRecDepth 100000 in
theorem t_Sch_add_258 {p : Program} {l : Launch} {e : Env} {R : Room} {s : State} {m : MethodId} {args : Array Value} {below : List Frame} {meth : Method} {c : Code} {cells slots : Nat} {Q : State → Prop} {dC : Nat → ClassId} {dI : Nat → Nat → Nat} {cI cB cJ cZ : ClassId} {A : Nat → Prop} {ad : Nat → Nat} {NN : Nat} {E : Heap} {tM tC : Nat} {kK kV : Nat → Nat} {post : Int32 → St → Prop} {rec258 : Nat → Int32 → Int32 → Int32 → Nat → Int32 → Int32 → Int32 → Int32 → Int32 → Int32 → Int32 → St → Prop} (hx : p.tables.exec = Jvm.exec) (hb : c.code = b_Sch_add) (hml : c.maxLocals = 12) (hown : s.vm.findClass R_Sch = some m.cls) (hT : ∀ w ∈ TG, w.before args s = true) (hK : va_K (dC, dI) CL (TY cI cB cJ cZ) s) (hN : NW s) (hA : ∀ q : Nat, s.heap.size ≤ q → A q) (hRc : cells ≤ R.cells) (hRs : slots ≤ R.slots) (hRf : 2 ≤ R.frames) (hRl : 80 ≤ R.locals) (hNN : 152 ≤ NN) (hE : CE E tM tC kK kV A s) (hret : ∀ (r : Int32) (x : St) (H : Heap) (locs : List Loc) (pc : Nat) (ls : Array Slot), decode b_Sch_add pc = .ok (.ireturn, 1) → narrow .boolean (.int r) = .int r → post r x → Wd dC dI cI cB cJ cZ ad stC kcC NN A x H → va_S A s.heap H locs → W p l e R s m args below meth c H locs cells slots Q (F0 m pc ls [.int r])) (hrec258 : ∀ (o : Nat) (l1 : Int32) (l2 : Int32) (l3 : Int32) (l4 : Nat) (l5 : Int32) (l6 : Int32) (l7 : Int32) (l8 : Int32) (l9 : Int32) (l10 : Int32) (l11 : Int32) (x : St) (H : Heap) (locs : List Loc) (ls : Array Slot), (o < NN ∧ kcC o = 3) → (l4 < NN ∧ kcC l4 = 21) → rec258 o l1 l2 l3 l4 l5 l6 l7 l8 l9 l10 l11 x → Wd dC dI cI cB cJ cZ ad stC kcC NN A x H → va_S A s.heap H locs → lv_has ls 12 [(0, .ref (ad o)), (1, .int l1), (2, .int l2), (3, .int l3), (4, .ref (ad l4)), (5, .int l5), (6, .int l6), (7, .int l7), (8, .int l8), (9, .int l9), (10, .int l10), (11, .int l11)] → W p l e R s m args below meth c H locs cells slots Q (F0 m 258 ls [])) : ∀ (o : Nat) (l1 : Int32) (l2 : Int32) (l3 : Int32) (l4 : Nat) (l5 : Int32) (l6 : Int32) (l7 : Int32) (l8 : Int32) (l9 : Int32) (l10 : Int32) (l11 : Int32) (x : St) (H : Heap) (locs : List Loc) (ls : Array Slot), (o < NN ∧ kcC o = 3) → (l4 < NN ∧ kcC l4 = 21) → j_Sch_add_258 post rec258 o l1 l2 l3 l4 l5 l6 l7 l8 l9 l10 l11 x → Wd dC dI cI cB cJ cZ ad stC kcC NN A x H → va_S A s.heap H locs → lv_has ls 12 [(0, .ref (ad o)), (1, .int l1), (2, .int l2), (3, .int l3), (4, .ref (ad l4)), (5, .int l5), (6, .int l6), (7, .int l7), (8, .int l8), (9, .int l9), (10, .int l10), (11, .int l11)] → W p l e R s m args below meth c H locs cells slots Q (F0 m 258 ls []) := by
  intro o l1 l2 l3 l4 l5 l6 l7 l8 l9 l10 l11 x H locs ls fo fl4 hw hW hS hl
  unfold j_Sch_add_258 at hw
  refine lv_iload hx hb d_Sch_add_258 (lv_at hl 11 rfl) ?_
  refine lv_bipush (v := 16) hx hb d_Sch_add_260 (by decide) ?_
  refine lv_icmp_gt (tgt := 297) hx hb d_Sch_add_262 (by decide) (fun c4 => ?_) (fun c4 => ?_)
  · have hw := hw.1 c4
    exact t_Sch_add_297 hx hb hml hown hT hK hN hA hRc hRs hRf hRl hNN hE hret  o l1 l2 l3 l4 l5 l6 l7 l8 l9 l10 l11 x H locs ls fo fl4 hw hW hS (lv_sub hl [0, 1, 2, 3, 4, 5, 6, 7, 8, 9, 10, 11] rfl)
  · have hw := hw.2 c4
    refine lv_iload hx hb d_Sch_add_265 (lv_at hl 10 rfl) ?_
    refine lv_iconst (v := (-1)) hx hb d_Sch_add_267 (by decide) ?_
    refine lv_icmp_eq (tgt := 297) hx hb d_Sch_add_268 (by decide) (fun c5 => ?_) (fun c5 => ?_)
    · have hw := hw.1 c5
      exact t_Sch_add_297 hx hb hml hown hT hK hN hA hRc hRs hRf hRl hNN hE hret  o l1 l2 l3 l4 l5 l6 l7 l8 l9 l10 l11 x H locs ls fo fl4 hw hW hS (lv_sub hl [0, 1, 2, 3, 4, 5, 6, 7, 8, 9, 10, 11] rfl)
    · have hw := hw.2 c5
      refine lv_aload_n hx hb d_Sch_add_271 rfl (lv_at hl 0 rfl) ?_
      refine w_getf (q := (stC o 8)) (k := 8) (t := 3) (C := R_Sch) (T := F_Sch) (N := 13) hx hb hT hown hK hW fo.1 fo.2 (by decide) in_Sch rfl rfl (by decide) rfl fr_Sch_8 w_1_169 d_Sch_add_272 rfl ?_
      refine lv_iload hx hb d_Sch_add_275 (lv_at hl 10 rfl) ?_
      refine lv_aload_n hx hb d_Sch_add_277 rfl (lv_at hl 0 rfl) ?_
      refine w_geti (k := 0) (t := 3) (C := R_Sch) (T := F_Sch) (N := 13) hx hb hT hown hK hW fo.1 fo.2 (by decide) in_Sch rfl rfl (by decide) rfl fr_Sch_0 w_1_130 d_Sch_add_278 ?_
      obtain ⟨hi, hw⟩ := hw
      refine w_iast (o := (stC o 8)) hx hb hK hW hS (st_ty hNN fo.1 fo.2 rfl).1 (st_ty hNN fo.1 fo.2 rfl).2 hi d_Sch_add_281 (fun H locs hW hS => ?_)
      obtain ⟨x6, ex6⟩ : ∃ y : St, y = setA x (stC o 8) l10 (fI x o 0) := ⟨_, rfl⟩
      rw [← ex6] at hW
      have hw := hw x6 ex6
      refine lv_aload_n hx hb d_Sch_add_282 rfl (lv_at hl 0 rfl) ?_
      refine w_getf (q := (stC o 4)) (k := 4) (t := 3) (C := R_Sch) (T := F_Sch) (N := 13) hx hb hT hown hK hW fo.1 fo.2 (by decide) in_Sch rfl rfl (by decide) rfl fr_Sch_4 w_1_152 d_Sch_add_283 rfl ?_
      refine lv_iload hx hb d_Sch_add_286 (lv_at hl 10 rfl) ?_
      obtain ⟨hi, hw⟩ := hw
      refine w_iald (o := (stC o 4)) hx hb hK hW (st_ty hNN fo.1 fo.2 rfl).1 (st_ty hNN fo.1 fo.2 rfl).2 hi d_Sch_add_288 ?_
      refine lv_topi (fun v7 ev7 => ?_)
      have hw := hw v7 ev7
      refine lv_istore (lv' := [(10, .int v7), (0, .ref (ad o)), (1, .int l1), (2, .int l2), (3, .int l3), (4, .ref (ad l4)), (5, .int l5), (6, .int l6), (7, .int l7), (8, .int l8), (9, .int l9), (11, .int l11)]) hx hb d_Sch_add_289 hl (by decide) rfl (fun ls hl => ?_)
      refine lv_iinc (v := (l11 + 1)) (lv' := [(11, .int (l11 + 1)), (10, .int v7), (0, .ref (ad o)), (1, .int l1), (2, .int l2), (3, .int l3), (4, .ref (ad l4)), (5, .int l5), (6, .int l6), (7, .int l7), (8, .int l8), (9, .int l9)]) hx hb d_Sch_add_291 hl (k := 11) rfl rfl (by decide) rfl (fun ls hl => ?_)
      refine lv_goto (tgt := 258) hx hb d_Sch_add_294 (by decide) ?_
      exact hrec258 o l1 l2 l3 l4 l5 l6 l7 l8 l9 v7 (l11 + 1) x6 H locs ls fo fl4 hw hW hS (lv_sub hl [2, 3, 4, 5, 6, 7, 8, 9, 10, 11, 1, 0] rfl)
set_option maxHeartbeats 4000000 in
set_option maxRecDepth 100000 in
theorem tl_Sch_add_258 {p : Program} {l : Launch} {e : Env} {R : Room} {s : State} {m : MethodId} {args : Array Value} {below : List Frame} {meth : Method} {c : Code} {cells slots : Nat} {Q : State → Prop} {dC : Nat → ClassId} {dI : Nat → Nat → Nat} {cI cB cJ cZ : ClassId} {A : Nat → Prop} {ad : Nat → Nat} {NN : Nat} {E : Heap} {tM tC : Nat} {kK kV : Nat → Nat} {post : Int32 → St → Prop} (hx : p.tables.exec = Jvm.exec) (hb : c.code = b_Sch_add) (hml : c.maxLocals = 12) (hown : s.vm.findClass R_Sch = some m.cls) (hT : ∀ w ∈ TG, w.before args s = true) (hK : va_K (dC, dI) CL (TY cI cB cJ cZ) s) (hN : NW s) (hA : ∀ q : Nat, s.heap.size ≤ q → A q) (hRc : cells ≤ R.cells) (hRs : slots ≤ R.slots) (hRf : 2 ≤ R.frames) (hRl : 80 ≤ R.locals) (hNN : 152 ≤ NN) (hE : CE E tM tC kK kV A s) (hret : ∀ (r : Int32) (x : St) (H : Heap) (locs : List Loc) (pc : Nat) (ls : Array Slot), decode b_Sch_add pc = .ok (.ireturn, 1) → narrow .boolean (.int r) = .int r → post r x → Wd dC dI cI cB cJ cZ ad stC kcC NN A x H → va_S A s.heap H locs → W p l e R s m args below meth c H locs cells slots Q (F0 m pc ls [.int r]))  : ∀ n : Nat, ∀ (o : Nat) (l1 : Int32) (l2 : Int32) (l3 : Int32) (l4 : Nat) (l5 : Int32) (l6 : Int32) (l7 : Int32) (l8 : Int32) (l9 : Int32) (l10 : Int32) (l11 : Int32) (x : St) (H : Heap) (locs : List Loc) (ls : Array Slot), (o < NN ∧ kcC o = 3) → (l4 < NN ∧ kcC l4 = 21) → wl_Sch_add_258 post n o l1 l2 l3 l4 l5 l6 l7 l8 l9 l10 l11 x → Wd dC dI cI cB cJ cZ ad stC kcC NN A x H → va_S A s.heap H locs → lv_has ls 12 [(0, .ref (ad o)), (1, .int l1), (2, .int l2), (3, .int l3), (4, .ref (ad l4)), (5, .int l5), (6, .int l6), (7, .int l7), (8, .int l8), (9, .int l9), (10, .int l10), (11, .int l11)] → W p l e R s m args below meth c H locs cells slots Q (F0 m 258 ls []) := by
  intro n
  induction n with
  | zero => intro o l1 l2 l3 l4 l5 l6 l7 l8 l9 l10 l11 x H locs ls fo fl4 hw; exact hw.elim
  | succ n ih => intro o l1 l2 l3 l4 l5 l6 l7 l8 l9 l10 l11 x H locs ls fo fl4 hw hW hS hl; exact t_Sch_add_258 hx hb hml hown hT hK hN hA hRc hRs hRf hRl hNN hE hret  ih o l1 l2 l3 l4 l5 l6 l7 l8 l9 l10 l11 x H locs ls fo fl4 hw hW hS hl
set_option maxRecDepth 100000 in
set_option maxHeartbeats 4000000 in
set_option maxRecDepth 100000 in
theorem t_Sch_add_191 {p : Program} {l : Launch} {e : Env} {R : Room} {s : State} {m : MethodId} {args : Array Value} {below : List Frame} {meth : Method} {c : Code} {cells slots : Nat} {Q : State → Prop} {dC : Nat → ClassId} {dI : Nat → Nat → Nat} {cI cB cJ cZ : ClassId} {A : Nat → Prop} {ad : Nat → Nat} {NN : Nat} {E : Heap} {tM tC : Nat} {kK kV : Nat → Nat} {post : Int32 → St → Prop} (hx : p.tables.exec = Jvm.exec) (hb : c.code = b_Sch_add) (hml : c.maxLocals = 12) (hown : s.vm.findClass R_Sch = some m.cls) (hT : ∀ w ∈ TG, w.before args s = true) (hK : va_K (dC, dI) CL (TY cI cB cJ cZ) s) (hN : NW s) (hA : ∀ q : Nat, s.heap.size ≤ q → A q) (hRc : cells ≤ R.cells) (hRs : slots ≤ R.slots) (hRf : 2 ≤ R.frames) (hRl : 80 ≤ R.locals) (hNN : 152 ≤ NN) (hE : CE E tM tC kK kV A s) (hret : ∀ (r : Int32) (x : St) (H : Heap) (locs : List Loc) (pc : Nat) (ls : Array Slot), decode b_Sch_add pc = .ok (.ireturn, 1) → narrow .boolean (.int r) = .int r → post r x → Wd dC dI cI cB cJ cZ ad stC kcC NN A x H → va_S A s.heap H locs → W p l e R s m args below meth c H locs cells slots Q (F0 m pc ls [.int r]))  : ∀ (o : Nat) (l1 : Int32) (l2 : Int32) (l3 : Int32) (l4 : Nat) (l5 : Int32) (l6 : Int32) (l7 : Int32) (l8 : Int32) (l9 : Int32) (s0 : Int32) (s1 : Int32) (s2 : Int32) (s3 : Nat) (x : St) (H : Heap) (locs : List Loc) (ls : Array Slot), (o < NN ∧ kcC o = 3) → (l4 < NN ∧ kcC l4 = 21) → (s3 < NN ∧ kcC s3 = 20) → j_Sch_add_191 post o l1 l2 l3 l4 l5 l6 l7 l8 l9 s0 s1 s2 s3 x → Wd dC dI cI cB cJ cZ ad stC kcC NN A x H → va_S A s.heap H locs → lv_has ls 12 [(0, .ref (ad o)), (1, .int l1), (2, .int l2), (3, .int l3), (4, .ref (ad l4)), (5, .int l5), (6, .int l6), (7, .int l7), (8, .int l8), (9, .int l9)] → W p l e R s m args below meth c H locs cells slots Q (F0 m 191 ls [.int s0, .int s1, .int s2, .ref (ad s3)]) := by
  intro o l1 l2 l3 l4 l5 l6 l7 l8 l9 s0 s1 s2 s3 x H locs ls fo fl4 fs3 hw hW hS hl
  unfold j_Sch_add_191 at hw
  refine lv_iadd hx hb d_Sch_add_191 ?_
  obtain ⟨hi, hw⟩ := hw
  refine w_iast (o := s3) hx hb hK hW hS fs3.1 fs3.2 hi d_Sch_add_192 (fun H locs hW hS => ?_)
  obtain ⟨x8, ex8⟩ : ∃ y : St, y = setA x s3 s2 (s1 + s0) := ⟨_, rfl⟩
  rw [← ex8] at hW
  have hw := hw x8 ex8
  refine lv_aload_n hx hb d_Sch_add_193 rfl (lv_at hl 0 rfl) ?_
  refine w_getf (q := (stC o 9)) (k := 9) (t := 3) (C := R_Sch) (T := F_Sch) (N := 13) hx hb hT hown hK hW fo.1 fo.2 (by decide) in_Sch rfl rfl (by decide) rfl fr_Sch_9 w_1_173 d_Sch_add_194 rfl ?_
  refine lv_iload hx hb d_Sch_add_197 (lv_at hl 9 rfl) ?_
  refine lv_aload_n hx hb d_Sch_add_199 rfl (lv_at hl 0 rfl) ?_
  refine w_geti (k := 1) (t := 3) (C := R_Sch) (T := F_Sch) (N := 13) hx hb hT hown hK hW fo.1 fo.2 (by decide) in_Sch rfl rfl (by decide) rfl fr_Sch_1 w_1_135 d_Sch_add_200 ?_
  obtain ⟨hi, hw⟩ := hw
  refine w_iast (o := (stC o 9)) hx hb hK hW hS (st_ty hNN fo.1 fo.2 rfl).1 (st_ty hNN fo.1 fo.2 rfl).2 hi d_Sch_add_203 (fun H locs hW hS => ?_)
  obtain ⟨x9, ex9⟩ : ∃ y : St, y = setA x8 (stC o 9) l9 (fI x8 o 1) := ⟨_, rfl⟩
  rw [← ex9] at hW
  have hw := hw x9 ex9
  refine lv_aload_n hx hb d_Sch_add_204 rfl (lv_at hl 0 rfl) ?_
  refine w_getf (q := (stC o 11)) (k := 11) (t := 3) (C := R_Sch) (T := F_Sch) (N := 13) hx hb hT hown hK hW fo.1 fo.2 (by decide) in_Sch rfl rfl (by decide) rfl fr_Sch_11 w_1_184 d_Sch_add_205 rfl ?_
  refine lv_iload hx hb d_Sch_add_208 (lv_at hl 9 rfl) ?_
  refine lv_iload hx hb d_Sch_add_210 (lv_at hl 6 rfl) ?_
  obtain ⟨hi, hw⟩ := hw
  refine w_iast (o := (stC o 11)) hx hb hK hW hS (st_ty hNN fo.1 fo.2 rfl).1 (st_ty hNN fo.1 fo.2 rfl).2 hi d_Sch_add_212 (fun H locs hW hS => ?_)
  obtain ⟨x10, ex10⟩ : ∃ y : St, y = setA x9 (stC o 11) l9 l6 := ⟨_, rfl⟩
  rw [← ex10] at hW
  have hw := hw x10 ex10
  refine lv_aload hx hb d_Sch_add_213 (lv_at hl 4 rfl) ?_
  refine lv_iload hx hb d_Sch_add_215 (lv_at hl 5 rfl) ?_
  refine lv_aload_n hx hb d_Sch_add_217 rfl (lv_at hl 0 rfl) ?_
  refine w_getf (q := (stC o 12)) (k := 12) (t := 3) (C := R_Sch) (T := F_Sch) (N := 13) hx hb hT hown hK hW fo.1 fo.2 (by decide) in_Sch rfl rfl (by decide) rfl fr_Sch_12 w_1_187 d_Sch_add_218 rfl ?_
  refine lv_iload hx hb d_Sch_add_221 (lv_at hl 9 rfl) ?_
  refine lv_bipush (v := 16) hx hb d_Sch_add_223 (by decide) ?_
  refine lv_imul hx hb d_Sch_add_225 ?_
  refine lv_iload hx hb d_Sch_add_226 (lv_at hl 6 rfl) ?_
  obtain ⟨⟨h1, h2, h3, h4, h5, h6⟩, hw⟩ := hw
  refine va_copyi (a := ad (stC o 12)) (a0 := ad l4) hx hb (hml.trans hl.1.symm) hown (hT _ w_5_10) (hT _ w_4_73) (hT _ w_4_72) (hT _ w_1_16) hK hW.1 hW.2.1 hS l4 (stC o 12) 1 1 (pic_byte fl4.1 fl4.2) (pic_byte (st_ty hNN fo.1 fo.2 rfl).1 (st_ty hNN fo.1 fo.2 rfl).2) rfl rfl rfl h1 h2 h3 h4 h5 h6 (Nat.le_trans (by decide) hRf) (Nat.le_trans (Nat.le_of_ble_eq_true rfl) hRl) d_Sch_add_228 (fun H locs hP hD hS => ?_)
  have hW := Wd.rowb (st_ty hNN fo.1 fo.2 rfl).1 (st_ty hNN fo.1 fo.2 rfl).2 hP hD hW.2.2
  obtain ⟨x11, ex11⟩ : ∃ y : St, y = setW x10 (stC o 12) (va_cpy (fA x10 l4) (fA x10 (stC o 12)) (l5 : Int32).toNatClampNeg ((l9 * 16) : Int32).toNatClampNeg (l6 : Int32).toNatClampNeg) := ⟨_, rfl⟩
  rw [← ex11] at hW
  have hw := hw x11 ex11
  refine lv_aload_n hx hb d_Sch_add_231 rfl (lv_at hl 0 rfl) ?_
  refine lv_dup hx hb d_Sch_add_232 rfl ?_
  refine w_geti (k := 0) (t := 3) (C := R_Sch) (T := F_Sch) (N := 13) hx hb hT hown hK hW fo.1 fo.2 (by decide) in_Sch rfl rfl (by decide) rfl fr_Sch_0 w_1_130 d_Sch_add_233 ?_
  refine lv_iconst (v := 1) hx hb d_Sch_add_236 (by decide) ?_
  refine lv_iadd hx hb d_Sch_add_237 ?_
  refine w_puti (ty := .int) (k := 0) (t := 3) (C := R_Sch) (T := F_Sch) (N := 13) hx hb hT hown hK hW hS fo.1 fo.2 (by decide) in_Sch t_Sch t_Sch_ok n_Sch rfl rfl (by decide) rfl fr_Sch_0 w_1_130 (by decide +kernel) rfl rfl d_Sch_add_238 (fun H locs hW hS => ?_)
  obtain ⟨x12, ex12⟩ : ∃ y : St, y = setI x11 o 0 ((fI x11 o 0) + 1) := ⟨_, rfl⟩
  rw [← ex12] at hW
  have hw := hw x12 ex12
  refine lv_aload_n hx hb d_Sch_add_241 rfl (lv_at hl 0 rfl) ?_
  refine w_getf (q := (stC o 8)) (k := 8) (t := 3) (C := R_Sch) (T := F_Sch) (N := 13) hx hb hT hown hK hW fo.1 fo.2 (by decide) in_Sch rfl rfl (by decide) rfl fr_Sch_8 w_1_169 d_Sch_add_242 rfl ?_
  refine lv_iload hx hb d_Sch_add_245 (lv_at hl 9 rfl) ?_
  refine lv_aload_n hx hb d_Sch_add_247 rfl (lv_at hl 0 rfl) ?_
  refine w_geti (k := 0) (t := 3) (C := R_Sch) (T := F_Sch) (N := 13) hx hb hT hown hK hW fo.1 fo.2 (by decide) in_Sch rfl rfl (by decide) rfl fr_Sch_0 w_1_130 d_Sch_add_248 ?_
  obtain ⟨hi, hw⟩ := hw
  refine w_iast (o := (stC o 8)) hx hb hK hW hS (st_ty hNN fo.1 fo.2 rfl).1 (st_ty hNN fo.1 fo.2 rfl).2 hi d_Sch_add_251 (fun H locs hW hS => ?_)
  obtain ⟨x13, ex13⟩ : ∃ y : St, y = setA x12 (stC o 8) l9 (fI x12 o 0) := ⟨_, rfl⟩
  rw [← ex13] at hW
  have hw := hw x13 ex13
  refine lv_iload_n hx hb d_Sch_add_252 rfl (lv_at hl 3 rfl) ?_
  refine lv_istore (lv' := [(10, .int l3), (0, .ref (ad o)), (1, .int l1), (2, .int l2), (3, .int l3), (4, .ref (ad l4)), (5, .int l5), (6, .int l6), (7, .int l7), (8, .int l8), (9, .int l9)]) hx hb d_Sch_add_253 hl (by decide) rfl (fun ls hl => ?_)
  refine lv_iconst (v := 0) hx hb d_Sch_add_255 (by decide) ?_
  refine lv_istore (lv' := [(11, .int 0), (10, .int l3), (0, .ref (ad o)), (1, .int l1), (2, .int l2), (3, .int l3), (4, .ref (ad l4)), (5, .int l5), (6, .int l6), (7, .int l7), (8, .int l8), (9, .int l9)]) hx hb d_Sch_add_256 hl (by decide) rfl (fun ls hl => ?_)
  obtain ⟨n, hw⟩ := hw
  exact tl_Sch_add_258 hx hb hml hown hT hK hN hA hRc hRs hRf hRl hNN hE hret  n o l1 l2 l3 l4 l5 l6 l7 l8 l9 l3 0 x13 H locs ls fo fl4 hw hW hS (lv_sub hl [2, 3, 4, 5, 6, 7, 8, 9, 10, 11, 1, 0] rfl)
set_option maxRecDepth 100000 in
set_option maxHeartbeats 4000000 in
set_option maxRecDepth 100000 in
theorem t_Sch_add_171 {p : Program} {l : Launch} {e : Env} {R : Room} {s : State} {m : MethodId} {args : Array Value} {below : List Frame} {meth : Method} {c : Code} {cells slots : Nat} {Q : State → Prop} {dC : Nat → ClassId} {dI : Nat → Nat → Nat} {cI cB cJ cZ : ClassId} {A : Nat → Prop} {ad : Nat → Nat} {NN : Nat} {E : Heap} {tM tC : Nat} {kK kV : Nat → Nat} {post : Int32 → St → Prop} (hx : p.tables.exec = Jvm.exec) (hb : c.code = b_Sch_add) (hml : c.maxLocals = 12) (hown : s.vm.findClass R_Sch = some m.cls) (hT : ∀ w ∈ TG, w.before args s = true) (hK : va_K (dC, dI) CL (TY cI cB cJ cZ) s) (hN : NW s) (hA : ∀ q : Nat, s.heap.size ≤ q → A q) (hRc : cells ≤ R.cells) (hRs : slots ≤ R.slots) (hRf : 2 ≤ R.frames) (hRl : 80 ≤ R.locals) (hNN : 152 ≤ NN) (hE : CE E tM tC kK kV A s) (hret : ∀ (r : Int32) (x : St) (H : Heap) (locs : List Loc) (pc : Nat) (ls : Array Slot), decode b_Sch_add pc = .ok (.ireturn, 1) → narrow .boolean (.int r) = .int r → post r x → Wd dC dI cI cB cJ cZ ad stC kcC NN A x H → va_S A s.heap H locs → W p l e R s m args below meth c H locs cells slots Q (F0 m pc ls [.int r]))  : ∀ (o : Nat) (l1 : Int32) (l2 : Int32) (l3 : Int32) (l4 : Nat) (l5 : Int32) (l6 : Int32) (l7 : Int32) (l8 : Int32) (l9 : Int32) (s0 : Int32) (s1 : Int32) (s2 : Int32) (s3 : Nat) (x : St) (H : Heap) (locs : List Loc) (ls : Array Slot), (o < NN ∧ kcC o = 3) → (l4 < NN ∧ kcC l4 = 21) → (s3 < NN ∧ kcC s3 = 20) → j_Sch_add_171 post o l1 l2 l3 l4 l5 l6 l7 l8 l9 s0 s1 s2 s3 x → Wd dC dI cI cB cJ cZ ad stC kcC NN A x H → va_S A s.heap H locs → lv_has ls 12 [(0, .ref (ad o)), (1, .int l1), (2, .int l2), (3, .int l3), (4, .ref (ad l4)), (5, .int l5), (6, .int l6), (7, .int l7), (8, .int l8), (9, .int l9)] → W p l e R s m args below meth c H locs cells slots Q (F0 m 171 ls [.int s0, .int s1, .int s2, .ref (ad s3)]) := by
  intro o l1 l2 l3 l4 l5 l6 l7 l8 l9 s0 s1 s2 s3 x H locs ls fo fl4 fs3 hw hW hS hl
  unfold j_Sch_add_171 at hw
  refine lv_iadd hx hb d_Sch_add_171 ?_
  obtain ⟨hi, hw⟩ := hw
  refine w_iast (o := s3) hx hb hK hW hS fs3.1 fs3.2 hi d_Sch_add_172 (fun H locs hW hS => ?_)
  obtain ⟨x14, ex14⟩ : ∃ y : St, y = setA x s3 s2 (s1 + s0) := ⟨_, rfl⟩
  rw [← ex14] at hW
  have hw := hw x14 ex14
  refine lv_aload_n hx hb d_Sch_add_173 rfl (lv_at hl 0 rfl) ?_
  refine w_getf (q := (stC o 7)) (k := 7) (t := 3) (C := R_Sch) (T := F_Sch) (N := 13) hx hb hT hown hK hW fo.1 fo.2 (by decide) in_Sch rfl rfl (by decide) rfl fr_Sch_7 w_1_168 d_Sch_add_174 rfl ?_
  refine lv_iload hx hb d_Sch_add_177 (lv_at hl 9 rfl) ?_
  refine lv_iload hx hb d_Sch_add_179 (lv_at hl 7 rfl) ?_
  refine lv_iload_n hx hb d_Sch_add_181 rfl (lv_at hl 2 rfl) ?_
  refine lv_iconst (v := 4) hx hb d_Sch_add_182 (by decide) ?_
  refine lv_icmp_ne (tgt := 190) hx hb d_Sch_add_183 (by decide) (fun c15 => ?_) (fun c15 => ?_)
  · have hw := hw.1 c15
    refine lv_iconst (v := 0) hx hb d_Sch_add_190 (by decide) ?_
    exact t_Sch_add_191 hx hb hml hown hT hK hN hA hRc hRs hRf hRl hNN hE hret  o l1 l2 l3 l4 l5 l6 l7 l8 l9 0 l7 l9 (stC o 7) x14 H locs ls fo fl4 (st_ty hNN fo.1 fo.2 rfl) hw hW hS (lv_sub hl [0, 1, 2, 3, 4, 5, 6, 7, 8, 9] rfl)
  · have hw := hw.2 c15
    refine lv_iconst (v := 1) hx hb d_Sch_add_186 (by decide) ?_
    refine lv_goto (tgt := 191) hx hb d_Sch_add_187 (by decide) ?_
    exact t_Sch_add_191 hx hb hml hown hT hK hN hA hRc hRs hRf hRl hNN hE hret  o l1 l2 l3 l4 l5 l6 l7 l8 l9 1 l7 l9 (stC o 7) x14 H locs ls fo fl4 (st_ty hNN fo.1 fo.2 rfl) hw hW hS (lv_sub hl [0, 1, 2, 3, 4, 5, 6, 7, 8, 9] rfl)
set_option maxRecDepth 100000 in
set_option maxHeartbeats 4000000 in
set_option maxRecDepth 100000 in
theorem t_Sch_add_149 {p : Program} {l : Launch} {e : Env} {R : Room} {s : State} {m : MethodId} {args : Array Value} {below : List Frame} {meth : Method} {c : Code} {cells slots : Nat} {Q : State → Prop} {dC : Nat → ClassId} {dI : Nat → Nat → Nat} {cI cB cJ cZ : ClassId} {A : Nat → Prop} {ad : Nat → Nat} {NN : Nat} {E : Heap} {tM tC : Nat} {kK kV : Nat → Nat} {post : Int32 → St → Prop} (hx : p.tables.exec = Jvm.exec) (hb : c.code = b_Sch_add) (hml : c.maxLocals = 12) (hown : s.vm.findClass R_Sch = some m.cls) (hT : ∀ w ∈ TG, w.before args s = true) (hK : va_K (dC, dI) CL (TY cI cB cJ cZ) s) (hN : NW s) (hA : ∀ q : Nat, s.heap.size ≤ q → A q) (hRc : cells ≤ R.cells) (hRs : slots ≤ R.slots) (hRf : 2 ≤ R.frames) (hRl : 80 ≤ R.locals) (hNN : 152 ≤ NN) (hE : CE E tM tC kK kV A s) (hret : ∀ (r : Int32) (x : St) (H : Heap) (locs : List Loc) (pc : Nat) (ls : Array Slot), decode b_Sch_add pc = .ok (.ireturn, 1) → narrow .boolean (.int r) = .int r → post r x → Wd dC dI cI cB cJ cZ ad stC kcC NN A x H → va_S A s.heap H locs → W p l e R s m args below meth c H locs cells slots Q (F0 m pc ls [.int r]))  : ∀ (o : Nat) (l1 : Int32) (l2 : Int32) (l3 : Int32) (l4 : Nat) (l5 : Int32) (l6 : Int32) (l7 : Int32) (l8 : Int32) (l9 : Int32) (s0 : Int32) (s1 : Int32) (s2 : Int32) (s3 : Nat) (x : St) (H : Heap) (locs : List Loc) (ls : Array Slot), (o < NN ∧ kcC o = 3) → (l4 < NN ∧ kcC l4 = 21) → (s3 < NN ∧ kcC s3 = 20) → j_Sch_add_149 post o l1 l2 l3 l4 l5 l6 l7 l8 l9 s0 s1 s2 s3 x → Wd dC dI cI cB cJ cZ ad stC kcC NN A x H → va_S A s.heap H locs → lv_has ls 12 [(0, .ref (ad o)), (1, .int l1), (2, .int l2), (3, .int l3), (4, .ref (ad l4)), (5, .int l5), (6, .int l6), (7, .int l7), (8, .int l8), (9, .int l9)] → W p l e R s m args below meth c H locs cells slots Q (F0 m 149 ls [.int s0, .int s1, .int s2, .ref (ad s3)]) := by
  intro o l1 l2 l3 l4 l5 l6 l7 l8 l9 s0 s1 s2 s3 x H locs ls fo fl4 fs3 hw hW hS hl
  unfold j_Sch_add_149 at hw
  refine lv_iadd hx hb d_Sch_add_149 ?_
  obtain ⟨hi, hw⟩ := hw
  refine w_iast (o := s3) hx hb hK hW hS fs3.1 fs3.2 hi d_Sch_add_150 (fun H locs hW hS => ?_)
  obtain ⟨x16, ex16⟩ : ∃ y : St, y = setA x s3 s2 (s1 + s0) := ⟨_, rfl⟩
  rw [← ex16] at hW
  have hw := hw x16 ex16
  refine lv_aload_n hx hb d_Sch_add_151 rfl (lv_at hl 0 rfl) ?_
  refine w_getf (q := (stC o 6)) (k := 6) (t := 3) (C := R_Sch) (T := F_Sch) (N := 13) hx hb hT hown hK hW fo.1 fo.2 (by decide) in_Sch rfl rfl (by decide) rfl fr_Sch_6 w_1_162 d_Sch_add_152 rfl ?_
  refine lv_iload hx hb d_Sch_add_155 (lv_at hl 9 rfl) ?_
  refine lv_aload_n hx hb d_Sch_add_157 rfl (lv_at hl 0 rfl) ?_
  refine lv_iload_n hx hb d_Sch_add_158 rfl (lv_at hl 3 rfl) ?_
  have hF := hW.free hS hA
  refine va_calli (va_runV (C := R_Sch) (As := [.int l3]) (rest := [.int l9, .ref (ad (stC o 6))]) ⟨hx, hb, hml, hown, hT⟩ (k_Sch_defOf l dC dI cI cB cJ cZ ad NN E tM tC kK kV hNN H.size o l3 x16 fo hw) ⟨callB_of 1 hT (gwt_in w_5_9) rfl rfl rfl (hT _ w_1_5) (hT _ w_5_6) (by decide +kernel) ⟨Nat.le_trans (Nat.le_of_ble_eq_true rfl) hRf, Nat.le_trans (Nat.le_of_ble_eq_true rfl) hRl⟩, hT _ w_5_7, hT _ w_5_8⟩ ⟨PVc.blind, va_recv hK hW.1 (ci := 3) (q0 := o) rfl (pic_obj fo.1 fo.2 (by decide)), PVc.at _ hW hK hN hE hS hF⟩ rfl rfl hl.1 rfl (lv_room (Nat.le_of_ble_eq_true rfl)) d_Sch_add_159 ⟨hRc, hRs⟩) hS (fun q _ h => hF q h) hF (fun r18 x17 t H locs ht hvm hw hB hz1 hk1 hS => ?_)
  have hW := Wd.back hB ht hF
  clear hB ht hF hz1 hk1 hvm
  refine lv_iload_n hx hb d_Sch_add_162 rfl (lv_at hl 1 rfl) ?_
  refine lv_if_ne (tgt := 170) hx hb d_Sch_add_163 (by decide) (fun c19 => ?_) (fun c19 => ?_)
  · have hw := hw.1 c19
    refine lv_iconst (v := 1) hx hb d_Sch_add_170 (by decide) ?_
    exact t_Sch_add_171 hx hb hml hown hT hK hN hA hRc hRs hRf hRl hNN hE hret  o l1 l2 l3 l4 l5 l6 l7 l8 l9 1 r18 l9 (stC o 6) x17 H locs ls fo fl4 (st_ty hNN fo.1 fo.2 rfl) hw hW hS (lv_sub hl [0, 1, 2, 3, 4, 5, 6, 7, 8, 9] rfl)
  · have hw := hw.2 c19
    refine lv_iconst (v := 0) hx hb d_Sch_add_166 (by decide) ?_
    refine lv_goto (tgt := 171) hx hb d_Sch_add_167 (by decide) ?_
    exact t_Sch_add_171 hx hb hml hown hT hK hN hA hRc hRs hRf hRl hNN hE hret  o l1 l2 l3 l4 l5 l6 l7 l8 l9 0 r18 l9 (stC o 6) x17 H locs ls fo fl4 (st_ty hNN fo.1 fo.2 rfl) hw hW hS (lv_sub hl [0, 1, 2, 3, 4, 5, 6, 7, 8, 9] rfl)
set_option maxRecDepth 100000 in
set_option maxHeartbeats 4000000 in
set_option maxRecDepth 100000 in
theorem t_Sch_add_96 {p : Program} {l : Launch} {e : Env} {R : Room} {s : State} {m : MethodId} {args : Array Value} {below : List Frame} {meth : Method} {c : Code} {cells slots : Nat} {Q : State → Prop} {dC : Nat → ClassId} {dI : Nat → Nat → Nat} {cI cB cJ cZ : ClassId} {A : Nat → Prop} {ad : Nat → Nat} {NN : Nat} {E : Heap} {tM tC : Nat} {kK kV : Nat → Nat} {post : Int32 → St → Prop} (hx : p.tables.exec = Jvm.exec) (hb : c.code = b_Sch_add) (hml : c.maxLocals = 12) (hown : s.vm.findClass R_Sch = some m.cls) (hT : ∀ w ∈ TG, w.before args s = true) (hK : va_K (dC, dI) CL (TY cI cB cJ cZ) s) (hN : NW s) (hA : ∀ q : Nat, s.heap.size ≤ q → A q) (hRc : cells ≤ R.cells) (hRs : slots ≤ R.slots) (hRf : 2 ≤ R.frames) (hRl : 80 ≤ R.locals) (hNN : 152 ≤ NN) (hE : CE E tM tC kK kV A s) (hret : ∀ (r : Int32) (x : St) (H : Heap) (locs : List Loc) (pc : Nat) (ls : Array Slot), decode b_Sch_add pc = .ok (.ireturn, 1) → narrow .boolean (.int r) = .int r → post r x → Wd dC dI cI cB cJ cZ ad stC kcC NN A x H → va_S A s.heap H locs → W p l e R s m args below meth c H locs cells slots Q (F0 m pc ls [.int r]))  : ∀ (o : Nat) (l1 : Int32) (l2 : Int32) (l3 : Int32) (l4 : Nat) (l5 : Int32) (l6 : Int32) (l7 : Int32) (l8 : Int32) (x : St) (H : Heap) (locs : List Loc) (ls : Array Slot), (o < NN ∧ kcC o = 3) → (l4 < NN ∧ kcC l4 = 21) → j_Sch_add_96 post o l1 l2 l3 l4 l5 l6 l7 l8 x → Wd dC dI cI cB cJ cZ ad stC kcC NN A x H → va_S A s.heap H locs → lv_has ls 12 [(0, .ref (ad o)), (1, .int l1), (2, .int l2), (3, .int l3), (4, .ref (ad l4)), (5, .int l5), (6, .int l6), (7, .int l7), (8, .int l8)] → W p l e R s m args below meth c H locs cells slots Q (F0 m 96 ls []) := by
  intro o l1 l2 l3 l4 l5 l6 l7 l8 x H locs ls fo fl4 hw hW hS hl
  unfold j_Sch_add_96 at hw
  refine lv_iconst (v := 0) hx hb d_Sch_add_96 (by decide) ?_
  exact hret 0 x H locs 97 ls d_Sch_add_97 rfl hw hW hS
set_option maxRecDepth 100000 in
set_option maxHeartbeats 4000000 in
set_option maxRecDepth 100000 in
theorem t_Sch_add_51 {p : Program} {l : Launch} {e : Env} {R : Room} {s : State} {m : MethodId} {args : Array Value} {below : List Frame} {meth : Method} {c : Code} {cells slots : Nat} {Q : State → Prop} {dC : Nat → ClassId} {dI : Nat → Nat → Nat} {cI cB cJ cZ : ClassId} {A : Nat → Prop} {ad : Nat → Nat} {NN : Nat} {E : Heap} {tM tC : Nat} {kK kV : Nat → Nat} {post : Int32 → St → Prop} (hx : p.tables.exec = Jvm.exec) (hb : c.code = b_Sch_add) (hml : c.maxLocals = 12) (hown : s.vm.findClass R_Sch = some m.cls) (hT : ∀ w ∈ TG, w.before args s = true) (hK : va_K (dC, dI) CL (TY cI cB cJ cZ) s) (hN : NW s) (hA : ∀ q : Nat, s.heap.size ≤ q → A q) (hRc : cells ≤ R.cells) (hRs : slots ≤ R.slots) (hRf : 2 ≤ R.frames) (hRl : 80 ≤ R.locals) (hNN : 152 ≤ NN) (hE : CE E tM tC kK kV A s) (hret : ∀ (r : Int32) (x : St) (H : Heap) (locs : List Loc) (pc : Nat) (ls : Array Slot), decode b_Sch_add pc = .ok (.ireturn, 1) → narrow .boolean (.int r) = .int r → post r x → Wd dC dI cI cB cJ cZ ad stC kcC NN A x H → va_S A s.heap H locs → W p l e R s m args below meth c H locs cells slots Q (F0 m pc ls [.int r]))  : ∀ (o : Nat) (l1 : Int32) (l2 : Int32) (l3 : Int32) (l4 : Nat) (l5 : Int32) (l6 : Int32) (l7 : Int32) (s0 : Int32) (x : St) (H : Heap) (locs : List Loc) (ls : Array Slot), (o < NN ∧ kcC o = 3) → (l4 < NN ∧ kcC l4 = 21) → j_Sch_add_51 post o l1 l2 l3 l4 l5 l6 l7 s0 x → Wd dC dI cI cB cJ cZ ad stC kcC NN A x H → va_S A s.heap H locs → lv_has ls 12 [(0, .ref (ad o)), (1, .int l1), (2, .int l2), (3, .int l3), (4, .ref (ad l4)), (5, .int l5), (6, .int l6), (7, .int l7)] → W p l e R s m args below meth c H locs cells slots Q (F0 m 51 ls [.int s0]) := by
  intro o l1 l2 l3 l4 l5 l6 l7 s0 x H locs ls fo fl4 hw hW hS hl
  unfold j_Sch_add_51 at hw
  refine lv_istore (lv' := [(8, .int s0), (0, .ref (ad o)), (1, .int l1), (2, .int l2), (3, .int l3), (4, .ref (ad l4)), (5, .int l5), (6, .int l6), (7, .int l7)]) hx hb d_Sch_add_51 hl (by decide) rfl (fun ls hl => ?_)
  refine lv_aload_n hx hb d_Sch_add_53 rfl (lv_at hl 1 rfl) ?_
  refine w_geti (k := 0) (t := 3) (C := R_Sch) (T := F_Sch) (N := 13) hx hb hT hown hK hW fo.1 fo.2 (by decide) in_Sch rfl rfl (by decide) rfl fr_Sch_0 w_1_130 d_Sch_add_54 ?_
  refine lv_sipush (v := 128) hx hb d_Sch_add_57 (by decide) ?_
  refine lv_icmp_ge (tgt := 96) hx hb d_Sch_add_60 (by decide) (fun c20 => ?_) (fun c20 => ?_)
  · have hw := hw.1 c20
    exact t_Sch_add_96 hx hb hml hown hT hK hN hA hRc hRs hRf hRl hNN hE hret  o l1 l2 l3 l4 l5 l6 l7 s0 x H locs ls fo fl4 hw hW hS (lv_sub hl [1, 2, 3, 4, 5, 6, 7, 8, 0] rfl)
  · have hw := hw.2 c20
    refine lv_iload hx hb d_Sch_add_63 (lv_at hl 0 rfl) ?_
    refine lv_if_ne (tgt := 96) hx hb d_Sch_add_65 (by decide) (fun c21 => ?_) (fun c21 => ?_)
    · have hw := hw.1 c21
      exact t_Sch_add_96 hx hb hml hown hT hK hN hA hRc hRs hRf hRl hNN hE hret  o l1 l2 l3 l4 l5 l6 l7 s0 x H locs ls fo fl4 hw hW hS (lv_sub hl [1, 2, 3, 4, 5, 6, 7, 8, 0] rfl)
    · have hw := hw.2 c21
      refine lv_iload hx hb d_Sch_add_68 (lv_at hl 7 rfl) ?_
      refine lv_iconst (v := 1) hx hb d_Sch_add_70 (by decide) ?_
      refine lv_icmp_lt (tgt := 96) hx hb d_Sch_add_71 (by decide) (fun c22 => ?_) (fun c22 => ?_)
      · have hw := hw.1 c22
        exact t_Sch_add_96 hx hb hml hown hT hK hN hA hRc hRs hRf hRl hNN hE hret  o l1 l2 l3 l4 l5 l6 l7 s0 x H locs ls fo fl4 hw hW hS (lv_sub hl [1, 2, 3, 4, 5, 6, 7, 8, 0] rfl)
      · have hw := hw.2 c22
        refine lv_iload hx hb d_Sch_add_74 (lv_at hl 7 rfl) ?_
        refine lv_bipush (v := 16) hx hb d_Sch_add_76 (by decide) ?_
        refine lv_icmp_gt (tgt := 96) hx hb d_Sch_add_78 (by decide) (fun c23 => ?_) (fun c23 => ?_)
        · have hw := hw.1 c23
          exact t_Sch_add_96 hx hb hml hown hT hK hN hA hRc hRs hRf hRl hNN hE hret  o l1 l2 l3 l4 l5 l6 l7 s0 x H locs ls fo fl4 hw hW hS (lv_sub hl [1, 2, 3, 4, 5, 6, 7, 8, 0] rfl)
        · have hw := hw.2 c23
          refine lv_aload_n hx hb d_Sch_add_81 rfl (lv_at hl 1 rfl) ?_
          refine lv_iload_n hx hb d_Sch_add_82 rfl (lv_at hl 4 rfl) ?_
          refine lv_aload hx hb d_Sch_add_83 (lv_at hl 5 rfl) ?_
          refine lv_iload hx hb d_Sch_add_85 (lv_at hl 6 rfl) ?_
          refine lv_iload hx hb d_Sch_add_87 (lv_at hl 7 rfl) ?_
          have hF := hW.free hS hA
          refine va_calli (va_runV (C := R_Sch) (As := [.int l3, .ref (ad l4), .int l5, .int l6]) (rest := []) ⟨hx, hb, hml, hown, hT⟩ (k_Sch_find l dC dI cI cB cJ cZ ad NN E tM tC kK kV hNN H.size o l3 l4 l5 l6 x fo fl4 hw) ⟨callB_of 4 hT (gwt_in w_4_229) rfl rfl rfl (hT _ w_1_5) (hT _ w_4_226) (by decide +kernel) ⟨Nat.le_trans (Nat.le_of_ble_eq_true rfl) hRf, Nat.le_trans (Nat.le_of_ble_eq_true rfl) hRl⟩, hT _ w_4_227, hT _ w_4_228⟩ ⟨PVc.blind, va_recv hK hW.1 (ci := 3) (q0 := o) rfl (pic_obj fo.1 fo.2 (by decide)), PVc.at _ hW hK hN hE hS hF⟩ rfl rfl hl.1 rfl (lv_room (Nat.le_of_ble_eq_true rfl)) d_Sch_add_89 ⟨hRc, hRs⟩) hS (fun q _ h => hF q h) hF (fun r25 x24 t H locs ht hvm hw hB hz1 hk1 hS => ?_)
          have hW := Wd.back hB ht hF
          clear hB ht hF hz1 hk1 hvm
          refine lv_iconst (v := (-1)) hx hb d_Sch_add_92 (by decide) ?_
          refine lv_icmp_eq (tgt := 98) hx hb d_Sch_add_93 (by decide) (fun c26 => ?_) (fun c26 => ?_)
          · have hw := hw.1 c26
            refine lv_aload_n hx hb d_Sch_add_98 rfl (lv_at hl 1 rfl) ?_
            refine w_geti (k := 0) (t := 3) (C := R_Sch) (T := F_Sch) (N := 13) hx hb hT hown hK hW fo.1 fo.2 (by decide) in_Sch rfl rfl (by decide) rfl fr_Sch_0 w_1_130 d_Sch_add_99 ?_
            refine lv_topi (fun v27 ev27 => ?_)
            have hw := hw v27 ev27
            refine lv_istore (lv' := [(9, .int v27), (8, .int s0), (0, .ref (ad o)), (1, .int l1), (2, .int l2), (3, .int l3), (4, .ref (ad l4)), (5, .int l5), (6, .int l6), (7, .int l7)]) hx hb d_Sch_add_102 hl (by decide) rfl (fun ls hl => ?_)
            refine lv_aload_n hx hb d_Sch_add_104 rfl (lv_at hl 2 rfl) ?_
            refine w_getf (q := (stC o 2)) (k := 2) (t := 3) (C := R_Sch) (T := F_Sch) (N := 13) hx hb hT hown hK hW fo.1 fo.2 (by decide) in_Sch rfl rfl (by decide) rfl fr_Sch_2 w_1_140 d_Sch_add_105 rfl ?_
            refine lv_iload hx hb d_Sch_add_108 (lv_at hl 0 rfl) ?_
            refine lv_iload_n hx hb d_Sch_add_110 rfl (lv_at hl 3 rfl) ?_
            obtain ⟨hi, hw⟩ := hw
            refine w_iast (o := (stC o 2)) hx hb hK hW hS (st_ty hNN fo.1 fo.2 rfl).1 (st_ty hNN fo.1 fo.2 rfl).2 hi d_Sch_add_111 (fun H locs hW hS => ?_)
            obtain ⟨x28, ex28⟩ : ∃ y : St, y = setA x24 (stC o 2) v27 l1 := ⟨_, rfl⟩
            rw [← ex28] at hW
            have hw := hw x28 ex28
            refine lv_aload_n hx hb d_Sch_add_112 rfl (lv_at hl 2 rfl) ?_
            refine w_getf (q := (stC o 3)) (k := 3) (t := 3) (C := R_Sch) (T := F_Sch) (N := 13) hx hb hT hown hK hW fo.1 fo.2 (by decide) in_Sch rfl rfl (by decide) rfl fr_Sch_3 w_1_145 d_Sch_add_113 rfl ?_
            refine lv_iload hx hb d_Sch_add_116 (lv_at hl 0 rfl) ?_
            refine lv_iload_n hx hb d_Sch_add_118 rfl (lv_at hl 4 rfl) ?_
            obtain ⟨hi, hw⟩ := hw
            refine w_iast (o := (stC o 3)) hx hb hK hW hS (st_ty hNN fo.1 fo.2 rfl).1 (st_ty hNN fo.1 fo.2 rfl).2 hi d_Sch_add_119 (fun H locs hW hS => ?_)
            obtain ⟨x29, ex29⟩ : ∃ y : St, y = setA x28 (stC o 3) v27 l2 := ⟨_, rfl⟩
            rw [← ex29] at hW
            have hw := hw x29 ex29
            refine lv_aload_n hx hb d_Sch_add_120 rfl (lv_at hl 2 rfl) ?_
            refine w_getf (q := (stC o 4)) (k := 4) (t := 3) (C := R_Sch) (T := F_Sch) (N := 13) hx hb hT hown hK hW fo.1 fo.2 (by decide) in_Sch rfl rfl (by decide) rfl fr_Sch_4 w_1_152 d_Sch_add_121 rfl ?_
            refine lv_iload hx hb d_Sch_add_124 (lv_at hl 0 rfl) ?_
            refine lv_iload_n hx hb d_Sch_add_126 rfl (lv_at hl 5 rfl) ?_
            obtain ⟨hi, hw⟩ := hw
            refine w_iast (o := (stC o 4)) hx hb hK hW hS (st_ty hNN fo.1 fo.2 rfl).1 (st_ty hNN fo.1 fo.2 rfl).2 hi d_Sch_add_127 (fun H locs hW hS => ?_)
            obtain ⟨x30, ex30⟩ : ∃ y : St, y = setA x29 (stC o 4) v27 l3 := ⟨_, rfl⟩
            rw [← ex30] at hW
            have hw := hw x30 ex30
            refine lv_aload_n hx hb d_Sch_add_128 rfl (lv_at hl 2 rfl) ?_
            refine w_getf (q := (stC o 5)) (k := 5) (t := 3) (C := R_Sch) (T := F_Sch) (N := 13) hx hb hT hown hK hW fo.1 fo.2 (by decide) in_Sch rfl rfl (by decide) rfl fr_Sch_5 w_1_157 d_Sch_add_129 rfl ?_
            refine lv_iload hx hb d_Sch_add_132 (lv_at hl 0 rfl) ?_
            refine lv_aload_n hx hb d_Sch_add_134 rfl (lv_at hl 2 rfl) ?_
            refine lv_iload_n hx hb d_Sch_add_135 rfl (lv_at hl 5 rfl) ?_
            have hF := hW.free hS hA
            refine va_calli (va_runV (C := R_Sch) (As := [.int l3]) (rest := [.int v27, .ref (ad (stC o 5))]) ⟨hx, hb, hml, hown, hT⟩ (k_Sch_repOf l dC dI cI cB cJ cZ ad NN E tM tC kK kV hNN H.size o l3 x30 fo hw) ⟨callB_of 1 hT (gwt_in w_5_5) rfl rfl rfl (hT _ w_1_5) (hT _ w_5_2) (by decide +kernel) ⟨Nat.le_trans (Nat.le_of_ble_eq_true rfl) hRf, Nat.le_trans (Nat.le_of_ble_eq_true rfl) hRl⟩, hT _ w_5_3, hT _ w_5_4⟩ ⟨PVc.blind, va_recv hK hW.1 (ci := 3) (q0 := o) rfl (pic_obj fo.1 fo.2 (by decide)), PVc.at _ hW hK hN hE hS hF⟩ rfl rfl hl.1 rfl (lv_room (Nat.le_of_ble_eq_true rfl)) d_Sch_add_136 ⟨hRc, hRs⟩) hS (fun q _ h => hF q h) hF (fun r32 x31 t H locs ht hvm hw hB hz1 hk1 hS => ?_)
            have hW := Wd.back hB ht hF
            clear hB ht hF hz1 hk1 hvm
            refine lv_iload_n hx hb d_Sch_add_139 rfl (lv_at hl 3 rfl) ?_
            refine lv_iconst (v := 2) hx hb d_Sch_add_140 (by decide) ?_
            refine lv_icmp_ne (tgt := 148) hx hb d_Sch_add_141 (by decide) (fun c33 => ?_) (fun c33 => ?_)
            · have hw := hw.1 c33
              refine lv_iconst (v := 0) hx hb d_Sch_add_148 (by decide) ?_
              exact t_Sch_add_149 hx hb hml hown hT hK hN hA hRc hRs hRf hRl hNN hE hret  o l1 l2 l3 l4 l5 l6 l7 s0 v27 0 r32 v27 (stC o 5) x31 H locs ls fo fl4 (st_ty hNN fo.1 fo.2 rfl) hw hW hS (lv_sub hl [2, 3, 4, 5, 6, 7, 8, 9, 1, 0] rfl)
            · have hw := hw.2 c33
              refine lv_iconst (v := 1) hx hb d_Sch_add_144 (by decide) ?_
              refine lv_goto (tgt := 149) hx hb d_Sch_add_145 (by decide) ?_
              exact t_Sch_add_149 hx hb hml hown hT hK hN hA hRc hRs hRf hRl hNN hE hret  o l1 l2 l3 l4 l5 l6 l7 s0 v27 1 r32 v27 (stC o 5) x31 H locs ls fo fl4 (st_ty hNN fo.1 fo.2 rfl) hw hW hS (lv_sub hl [2, 3, 4, 5, 6, 7, 8, 9, 1, 0] rfl)
          · have hw := hw.2 c26
            exact t_Sch_add_96 hx hb hml hown hT hK hN hA hRc hRs hRf hRl hNN hE hret  o l1 l2 l3 l4 l5 l6 l7 s0 x24 H locs ls fo fl4 hw hW hS (lv_sub hl [1, 2, 3, 4, 5, 6, 7, 8, 0] rfl)
set_option maxRecDepth 100000 in
set_option maxHeartbeats 4000000 in
set_option maxRecDepth 100000 in
theorem t_Sch_add_15 {p : Program} {l : Launch} {e : Env} {R : Room} {s : State} {m : MethodId} {args : Array Value} {below : List Frame} {meth : Method} {c : Code} {cells slots : Nat} {Q : State → Prop} {dC : Nat → ClassId} {dI : Nat → Nat → Nat} {cI cB cJ cZ : ClassId} {A : Nat → Prop} {ad : Nat → Nat} {NN : Nat} {E : Heap} {tM tC : Nat} {kK kV : Nat → Nat} {post : Int32 → St → Prop} (hx : p.tables.exec = Jvm.exec) (hb : c.code = b_Sch_add) (hml : c.maxLocals = 12) (hown : s.vm.findClass R_Sch = some m.cls) (hT : ∀ w ∈ TG, w.before args s = true) (hK : va_K (dC, dI) CL (TY cI cB cJ cZ) s) (hN : NW s) (hA : ∀ q : Nat, s.heap.size ≤ q → A q) (hRc : cells ≤ R.cells) (hRs : slots ≤ R.slots) (hRf : 2 ≤ R.frames) (hRl : 80 ≤ R.locals) (hNN : 152 ≤ NN) (hE : CE E tM tC kK kV A s) (hret : ∀ (r : Int32) (x : St) (H : Heap) (locs : List Loc) (pc : Nat) (ls : Array Slot), decode b_Sch_add pc = .ok (.ireturn, 1) → narrow .boolean (.int r) = .int r → post r x → Wd dC dI cI cB cJ cZ ad stC kcC NN A x H → va_S A s.heap H locs → W p l e R s m args below meth c H locs cells slots Q (F0 m pc ls [.int r]))  : ∀ (o : Nat) (l1 : Int32) (l2 : Int32) (l3 : Int32) (l4 : Nat) (l5 : Int32) (l6 : Int32) (s0 : Int32) (x : St) (H : Heap) (locs : List Loc) (ls : Array Slot), (o < NN ∧ kcC o = 3) → (l4 < NN ∧ kcC l4 = 21) → j_Sch_add_15 post o l1 l2 l3 l4 l5 l6 s0 x → Wd dC dI cI cB cJ cZ ad stC kcC NN A x H → va_S A s.heap H locs → lv_has ls 12 [(0, .ref (ad o)), (1, .int l1), (2, .int l2), (3, .int l3), (4, .ref (ad l4)), (5, .int l5), (6, .int l6)] → W p l e R s m args below meth c H locs cells slots Q (F0 m 15 ls [.int s0]) := by
  intro o l1 l2 l3 l4 l5 l6 s0 x H locs ls fo fl4 hw hW hS hl
  unfold j_Sch_add_15 at hw
  refine lv_istore (lv' := [(7, .int s0), (0, .ref (ad o)), (1, .int l1), (2, .int l2), (3, .int l3), (4, .ref (ad l4)), (5, .int l5), (6, .int l6)]) hx hb d_Sch_add_15 hl (by decide) rfl (fun ls hl => ?_)
  refine lv_iload_n hx hb d_Sch_add_17 rfl (lv_at hl 3 rfl) ?_
  refine lv_iconst (v := 4) hx hb d_Sch_add_18 (by decide) ?_
  refine lv_icmp_ne (tgt := 37) hx hb d_Sch_add_19 (by decide) (fun c34 => ?_) (fun c34 => ?_)
  · have hw := hw.1 c34
    refine lv_aload_n hx hb d_Sch_add_37 rfl (lv_at hl 1 rfl) ?_
    refine w_geti (k := 1) (t := 3) (C := R_Sch) (T := F_Sch) (N := 13) hx hb hT hown hK hW fo.1 fo.2 (by decide) in_Sch rfl rfl (by decide) rfl fr_Sch_1 w_1_135 d_Sch_add_38 ?_
    refine lv_bipush (v := 64) hx hb d_Sch_add_41 (by decide) ?_
    refine lv_icmp_lt (tgt := 50) hx hb d_Sch_add_43 (by decide) (fun c35 => ?_) (fun c35 => ?_)
    · have hw := hw.1 c35
      refine lv_iconst (v := 0) hx hb d_Sch_add_50 (by decide) ?_
      exact t_Sch_add_51 hx hb hml hown hT hK hN hA hRc hRs hRf hRl hNN hE hret  o l1 l2 l3 l4 l5 l6 s0 0 x H locs ls fo fl4 hw hW hS (lv_sub hl [1, 2, 3, 4, 5, 6, 7, 0] rfl)
    · have hw := hw.2 c35
      refine lv_iconst (v := 1) hx hb d_Sch_add_46 (by decide) ?_
      refine lv_goto (tgt := 51) hx hb d_Sch_add_47 (by decide) ?_
      exact t_Sch_add_51 hx hb hml hown hT hK hN hA hRc hRs hRf hRl hNN hE hret  o l1 l2 l3 l4 l5 l6 s0 1 x H locs ls fo fl4 hw hW hS (lv_sub hl [1, 2, 3, 4, 5, 6, 7, 0] rfl)
  · have hw := hw.2 c34
    refine lv_iload hx hb d_Sch_add_22 (lv_at hl 0 rfl) ?_
    refine lv_bipush (v := 16) hx hb d_Sch_add_24 (by decide) ?_
    refine lv_icmp_lt (tgt := 33) hx hb d_Sch_add_26 (by decide) (fun c36 => ?_) (fun c36 => ?_)
    · have hw := hw.1 c36
      refine lv_iconst (v := 0) hx hb d_Sch_add_33 (by decide) ?_
      refine lv_goto (tgt := 51) hx hb d_Sch_add_34 (by decide) ?_
      exact t_Sch_add_51 hx hb hml hown hT hK hN hA hRc hRs hRf hRl hNN hE hret  o l1 l2 l3 l4 l5 l6 s0 0 x H locs ls fo fl4 hw hW hS (lv_sub hl [1, 2, 3, 4, 5, 6, 7, 0] rfl)
    · have hw := hw.2 c36
      refine lv_iconst (v := 1) hx hb d_Sch_add_29 (by decide) ?_
      refine lv_goto (tgt := 51) hx hb d_Sch_add_30 (by decide) ?_
      exact t_Sch_add_51 hx hb hml hown hT hK hN hA hRc hRs hRf hRl hNN hE hret  o l1 l2 l3 l4 l5 l6 s0 1 x H locs ls fo fl4 hw hW hS (lv_sub hl [1, 2, 3, 4, 5, 6, 7, 0] rfl)
set_option maxRecDepth 100000 in
set_option maxHeartbeats 4000000 in
set_option maxRecDepth 100000 in
theorem t_Sch_add_e {p : Program} {l : Launch} {e : Env} {R : Room} {s : State} {m : MethodId} {args : Array Value} {below : List Frame} {meth : Method} {c : Code} {cells slots : Nat} {Q : State → Prop} {dC : Nat → ClassId} {dI : Nat → Nat → Nat} {cI cB cJ cZ : ClassId} {A : Nat → Prop} {ad : Nat → Nat} {NN : Nat} {E : Heap} {tM tC : Nat} {kK kV : Nat → Nat} {post : Int32 → St → Prop} (hx : p.tables.exec = Jvm.exec) (hb : c.code = b_Sch_add) (hml : c.maxLocals = 12) (hown : s.vm.findClass R_Sch = some m.cls) (hT : ∀ w ∈ TG, w.before args s = true) (hK : va_K (dC, dI) CL (TY cI cB cJ cZ) s) (hN : NW s) (hA : ∀ q : Nat, s.heap.size ≤ q → A q) (hRc : cells ≤ R.cells) (hRs : slots ≤ R.slots) (hRf : 2 ≤ R.frames) (hRl : 80 ≤ R.locals) (hNN : 152 ≤ NN) (hE : CE E tM tC kK kV A s) (hret : ∀ (r : Int32) (x : St) (H : Heap) (locs : List Loc) (pc : Nat) (ls : Array Slot), decode b_Sch_add pc = .ok (.ireturn, 1) → narrow .boolean (.int r) = .int r → post r x → Wd dC dI cI cB cJ cZ ad stC kcC NN A x H → va_S A s.heap H locs → W p l e R s m args below meth c H locs cells slots Q (F0 m pc ls [.int r])) : ∀ (o : Nat) (l1 : Int32) (l2 : Int32) (l3 : Int32) (l4 : Nat) (l5 : Int32) (l6 : Int32) (x : St) (H : Heap) (locs : List Loc) (ls : Array Slot), (o < NN ∧ kcC o = 3) → (l4 < NN ∧ kcC l4 = 21) → wp_Sch_add post o l1 l2 l3 l4 l5 l6 x → Wd dC dI cI cB cJ cZ ad stC kcC NN A x H → va_S A s.heap H locs → lv_has ls 12 [(0, .ref (ad o)), (1, .int l1), (2, .int l2), (3, .int l3), (4, .ref (ad l4)), (5, .int l5), (6, .int l6)] → W p l e R s m args below meth c H locs cells slots Q (F0 m 0 ls []) := by
  intro o l1 l2 l3 l4 l5 l6 x H locs ls fo fl4 hw hW hS hl
  unfold wp_Sch_add at hw
  refine lv_iload_n hx hb d_Sch_add_0 rfl (lv_at hl 3 rfl) ?_
  refine lv_iconst (v := (-1)) hx hb d_Sch_add_1 (by decide) ?_
  refine lv_icmp_ne (tgt := 9) hx hb d_Sch_add_2 (by decide) (fun c37 => ?_) (fun c37 => ?_)
  · have hw := hw.1 c37
    refine lv_aload_n hx hb d_Sch_add_9 rfl (lv_at hl 0 rfl) ?_
    refine w_getf (q := (stC o 7)) (k := 7) (t := 3) (C := R_Sch) (T := F_Sch) (N := 13) hx hb hT hown hK hW fo.1 fo.2 (by decide) in_Sch rfl rfl (by decide) rfl fr_Sch_7 w_1_168 d_Sch_add_10 rfl ?_
    refine lv_iload_n hx hb d_Sch_add_13 rfl (lv_at hl 3 rfl) ?_
    obtain ⟨hi, hw⟩ := hw
    refine w_iald (o := (stC o 7)) hx hb hK hW (st_ty hNN fo.1 fo.2 rfl).1 (st_ty hNN fo.1 fo.2 rfl).2 hi d_Sch_add_14 ?_
    exact t_Sch_add_15 hx hb hml hown hT hK hN hA hRc hRs hRf hRl hNN hE hret  o l1 l2 l3 l4 l5 l6 (rA x (stC o 7) l3) x H locs ls fo fl4 hw hW hS (lv_sub hl [0, 1, 2, 3, 4, 5, 6] rfl)
  · have hw := hw.2 c37
    refine lv_iconst (v := 0) hx hb d_Sch_add_5 (by decide) ?_
    refine lv_goto (tgt := 15) hx hb d_Sch_add_6 (by decide) ?_
    exact t_Sch_add_15 hx hb hml hown hT hK hN hA hRc hRs hRf hRl hNN hE hret  o l1 l2 l3 l4 l5 l6 0 x H locs ls fo fl4 hw hW hS (lv_sub hl [0, 1, 2, 3, 4, 5, 6] rfl)
set_option maxHeartbeats 4000000 in
set_option maxRecDepth 100000 in
theorem k_Sch_add (l : Launch) (dC : Nat → ClassId) (dI : Nat → Nat → Nat) (cI cB cJ cZ : ClassId) (ad : Nat → Nat) (NN : Nat) (E : Heap) (tM tC : Nat) (kK kV : Nat → Nat) (hNN : 152 ≤ NN) (sz : Nat) (o : Nat) (l1 : Int32) (l2 : Int32) (l3 : Int32) (l4 : Nat) (l5 : Int32) (l6 : Int32) (x : St) (fo : o < NN ∧ kcC o = 3) (fl4 : l4 < NN ∧ kcC l4 = 21) {post : Int32 → St → Prop} (hw : wp_Sch_add post o l1 l2 l3 l4 l5 l6 x) : Met l y_Sch_add (wsOf y_Sch_add b_Sch_add 12 (some (.boolean))) ({ frames := 2, cells := 0, slots := 0, locals := 80 }) (va_Pc [.ref (ad o), .int l1, .int l2, .int l3, .ref (ad l4), .int l5, .int l6] (PVc dC dI cI cB cJ cZ ad stC kcC NN E tM tC kK kV sz x)) (va_Qi (fun (r : Int32) (y : St) => post r y) (fun y t => Wd dC dI cI cB cJ cZ ad stC kcC NN (va_A (pic ad stC kcC NN cI cB cJ cZ x) sz) y t.heap) (va_A (pic ad stC kcC NN cI cB cJ cZ x) sz)) 0 0 (va_A (pic ad stC kcC NN cI cB cJ cZ x) sz) := by
  refine Met.ofW (cc := b_Sch_add) (maxL := 12) (ret := some (.boolean)) (by decide) rfl ?_
  intro p e s m args below meth c s₁ B hml hv
  obtain ⟨rfl, ⟨hsz, hW0, hK, hN⟩, hE⟩ := hv
  have hx := B.exec
  have hb := B.bytes
  have hr := B.returns
  have hts := atoms_spec B.pre
  have hT : ∀ w ∈ TG, w.before _ s = true := fun w h => hts w (List.mem_cons_of_mem _ h)
  have hown : s.vm.findClass R_Sch = some m.cls := findClass_of_methodNamed B.named
  have hlocks := B.notSynchronized
  subst hsz
  have hW : Wd dC dI cI cB cJ cZ ad stC kcC NN (va_A (pic ad stC kcC NN cI cB cJ cZ x) s.heap.size) x s.heap := ⟨hW0.1, hW0.2.1.self (sz := s.heap.size), hW0.2.2⟩
  generalize hAe : va_A (pic ad stC kcC NN cI cB cJ cZ x) s.heap.size = A at hW hE ⊢
  have hA : ∀ q : Nat, s.heap.size ≤ q → A q := fun q h => by rw [← hAe]; exact Or.inr h
  have hS : va_S A s.heap s.heap [] := va_S.rf
  have hl := lv_entry ([.ref (ad o), .int l1, .int l2, .int l3, .ref (ad l4), .int l5, .int l6]) (n := 12) (Nat.le_of_ble_eq_true rfl)
  rw [lg_entry_eq]
  generalize (lg_sl ([.ref (ad o), .int l1, .int l2, .int l3, .ref (ad l4), .int l5, .int l6]) ++ List.replicate (12 - (lg_sl ([.ref (ad o), .int l1, .int l2, .int l3, .ref (ad l4), .int l5, .int l6])).length) Slot.unset).toArray = ls at hl ⊢
  have hl : lv_has ls 12 [(0, .ref (ad o)), (1, .int l1), (2, .int l2), (3, .int l3), (4, .ref (ad l4)), (5, .int l5), (6, .int l6)] := hl
  exact t_Sch_add_e hx hb hml hown hT hK hN hA (Nat.le_refl 0) (Nat.le_refl 0) (Nat.le_refl 2) (Nat.le_refl 80) hNN hE (fun r x H locs pc ls hd hz hp hW hS => W.zret (v := r) (ty := .boolean) hx hb hr hz (fun t ht hM => ⟨⟨r, x, rfl, hp, Wd.back hW ht.symm (fun _ z => z)⟩, hS.F ht⟩) hS.2.2 hd hlocks)  o l1 l2 l3 l4 l5 l6 x _ _ ls fo fl4 hw hW hS hl
set_option maxRecDepth 100000 in
set_option maxHeartbeats 4000000 in
set_option maxRecDepth 100000 in
theorem t_Sch_readField_91 {p : Program} {l : Launch} {e : Env} {R : Room} {s : State} {m : MethodId} {args : Array Value} {below : List Frame} {meth : Method} {c : Code} {cells slots : Nat} {Q : State → Prop} {dC : Nat → ClassId} {dI : Nat → Nat → Nat} {cI cB cJ cZ : ClassId} {A : Nat → Prop} {ad : Nat → Nat} {NN : Nat} {E : Heap} {tM tC : Nat} {kK kV : Nat → Nat} {post : Int32 → St → Prop} (hx : p.tables.exec = Jvm.exec) (hb : c.code = b_Sch_readField) (hml : c.maxLocals = 5) (hown : s.vm.findClass R_Sch = some m.cls) (hT : ∀ w ∈ TG, w.before args s = true) (hK : va_K (dC, dI) CL (TY cI cB cJ cZ) s) (hN : NW s) (hA : ∀ q : Nat, s.heap.size ≤ q → A q) (hRc : cells ≤ R.cells) (hRs : slots ≤ R.slots) (hRf : 8 ≤ R.frames) (hRl : 285 ≤ R.locals) (hNN : 152 ≤ NN) (hE : CE E tM tC kK kV A s) (hret : ∀ (r : Int32) (x : St) (H : Heap) (locs : List Loc) (pc : Nat) (ls : Array Slot), decode b_Sch_readField pc = .ok (.ireturn, 1) → post r x → Wd dC dI cI cB cJ cZ ad stC kcC NN A x H → va_S A s.heap H locs → W p l e R s m args below meth c H locs cells slots Q (F0 m pc ls [.int r]))  : ∀ (o : Nat) (l1 : Nat) (l2 : Int32) (l3 : Int32) (l4 : Int32) (s0 : Int32) (s1 : Nat) (x : St) (H : Heap) (locs : List Loc) (ls : Array Slot), (o < NN ∧ kcC o = 3) → (l1 < NN ∧ kcC l1 = 2) → (s1 < NN ∧ kcC s1 = 2) → j_Sch_readField_91 post o l1 l2 l3 l4 s0 s1 x → Wd dC dI cI cB cJ cZ ad stC kcC NN A x H → va_S A s.heap H locs → lv_has ls 5 [(0, .ref (ad o)), (1, .ref (ad l1)), (2, .int l2), (3, .int l3), (4, .int l4)] → W p l e R s m args below meth c H locs cells slots Q (F0 m 91 ls [.int s0, .ref (ad s1)]) := by
  intro o l1 l2 l3 l4 s0 s1 x H locs ls fo fl1 fs1 hw hW hS hl
  unfold j_Sch_readField_91 at hw
  have hF := hW.free hS hA
  refine va_callv (va_runV (C := R_Scn) (As := [.int s0]) (rest := []) ⟨hx, hb, hml, hown, hT⟩ (k_Scn_needSign l dC dI cI cB cJ cZ ad NN E tM tC kK kV hNN H.size s1 s0 x fs1 hw) ⟨callB_of 1 hT (gwt_in w_4_118) rfl rfl rfl (hT _ w_1_4) (hT _ w_4_115) (by decide +kernel) ⟨Nat.le_trans (Nat.le_of_ble_eq_true rfl) hRf, Nat.le_trans (Nat.le_of_ble_eq_true rfl) hRl⟩, hT _ w_4_116, hT _ w_4_117⟩ ⟨PVc.blind, va_recv hK hW.1 (ci := 2) (q0 := s1) rfl (pic_obj fs1.1 fs1.2 (by decide)), PVc.at _ hW hK hN hE hS hF⟩ rfl rfl hl.1 rfl (lv_room (Nat.le_of_ble_eq_true rfl)) d_Sch_readField_91 ⟨hRc, hRs⟩) hS (fun q _ h => hF q h) hF (fun  x1 t H locs ht hvm hw hB hz1 hk1 hS => ?_)
  have hW := Wd.back hB ht hF
  clear hB ht hF hz1 hk1 hvm
  refine lv_iload hx hb d_Sch_readField_94 (lv_at hl 4 rfl) ?_
  refine lv_iconst (v := 4) hx hb d_Sch_readField_96 (by decide) ?_
  refine lv_icmp_ne (tgt := 109) hx hb d_Sch_readField_97 (by decide) (fun c2 => ?_) (fun c2 => ?_)
  · have hw := hw.1 c2
    refine lv_iload_n hx hb d_Sch_readField_109 rfl (lv_at hl 2 rfl) ?_
    exact hret l2 x1 H locs 110 ls d_Sch_readField_110 hw hW hS
  · have hw := hw.2 c2
    refine lv_aload_n hx hb d_Sch_readField_100 rfl (lv_at hl 0 rfl) ?_
    refine w_geti (k := 0) (t := 3) (C := R_Sch) (T := F_Sch) (N := 13) hx hb hT hown hK hW fo.1 fo.2 (by decide) in_Sch rfl rfl (by decide) rfl fr_Sch_0 w_1_130 d_Sch_readField_101 ?_
    refine lv_iconst (v := 1) hx hb d_Sch_readField_104 (by decide) ?_
    refine lv_isub hx hb d_Sch_readField_105 ?_
    refine lv_goto (tgt := 110) hx hb d_Sch_readField_106 (by decide) ?_
    exact hret ((fI x1 o 0) - 1) x1 H locs 110 ls d_Sch_readField_110 hw hW hS
set_option maxRecDepth 100000 in
set_option maxHeartbeats 4000000 in
set_option maxRecDepth 100000 in
theorem t_Sch_readField_35 {p : Program} {l : Launch} {e : Env} {R : Room} {s : State} {m : MethodId} {args : Array Value} {below : List Frame} {meth : Method} {c : Code} {cells slots : Nat} {Q : State → Prop} {dC : Nat → ClassId} {dI : Nat → Nat → Nat} {cI cB cJ cZ : ClassId} {A : Nat → Prop} {ad : Nat → Nat} {NN : Nat} {E : Heap} {tM tC : Nat} {kK kV : Nat → Nat} {post : Int32 → St → Prop} (hx : p.tables.exec = Jvm.exec) (hb : c.code = b_Sch_readField) (hml : c.maxLocals = 5) (hown : s.vm.findClass R_Sch = some m.cls) (hT : ∀ w ∈ TG, w.before args s = true) (hK : va_K (dC, dI) CL (TY cI cB cJ cZ) s) (hN : NW s) (hA : ∀ q : Nat, s.heap.size ≤ q → A q) (hRc : cells ≤ R.cells) (hRs : slots ≤ R.slots) (hRf : 8 ≤ R.frames) (hRl : 285 ≤ R.locals) (hNN : 152 ≤ NN) (hE : CE E tM tC kK kV A s) (hret : ∀ (r : Int32) (x : St) (H : Heap) (locs : List Loc) (pc : Nat) (ls : Array Slot), decode b_Sch_readField pc = .ok (.ireturn, 1) → post r x → Wd dC dI cI cB cJ cZ ad stC kcC NN A x H → va_S A s.heap H locs → W p l e R s m args below meth c H locs cells slots Q (F0 m pc ls [.int r]))  : ∀ (o : Nat) (l1 : Nat) (l2 : Int32) (l3 : Int32) (l4 : Int32) (x : St) (H : Heap) (locs : List Loc) (ls : Array Slot), (o < NN ∧ kcC o = 3) → (l1 < NN ∧ kcC l1 = 2) → j_Sch_readField_35 post o l1 l2 l3 l4 x → Wd dC dI cI cB cJ cZ ad stC kcC NN A x H → va_S A s.heap H locs → lv_has ls 5 [(0, .ref (ad o)), (1, .ref (ad l1)), (2, .int l2), (3, .int l3), (4, .int l4)] → W p l e R s m args below meth c H locs cells slots Q (F0 m 35 ls []) := by
  intro o l1 l2 l3 l4 x H locs ls fo fl1 hw hW hS hl
  unfold j_Sch_readField_35 at hw
  refine lv_aload_n hx hb d_Sch_readField_35 rfl (lv_at hl 1 rfl) ?_
  have hF := hW.free hS hA
  refine va_calli (va_runV (C := R_Scn) (As := []) (rest := []) ⟨hx, hb, hml, hown, hT⟩ (k_Scn_good l dC dI cI cB cJ cZ ad NN E tM tC kK kV hNN H.size l1 x fl1 hw) ⟨callB_of 0 hT (gwt_in w_4_106) rfl rfl rfl (hT _ w_1_4) (hT _ w_4_103) (by decide +kernel) ⟨Nat.le_trans (Nat.le_of_ble_eq_true rfl) hRf, Nat.le_trans (Nat.le_of_ble_eq_true rfl) hRl⟩, hT _ w_4_104, hT _ w_4_105⟩ ⟨PVc.blind, va_recv hK hW.1 (ci := 2) (q0 := l1) rfl (pic_obj fl1.1 fl1.2 (by decide)), PVc.at _ hW hK hN hE hS hF⟩ rfl rfl hl.1 rfl (lv_room (Nat.le_of_ble_eq_true rfl)) d_Sch_readField_36 ⟨hRc, hRs⟩) hS (fun q _ h => hF q h) hF (fun r4 x3 t H locs ht hvm hw hB hz1 hk1 hS => ?_)
  have hW := Wd.back hB ht hF
  clear hB ht hF hz1 hk1 hvm
  refine lv_if_ne (tgt := 44) hx hb d_Sch_readField_39 (by decide) (fun c5 => ?_) (fun c5 => ?_)
  · have hw := hw.1 c5
    refine lv_aload_n hx hb d_Sch_readField_44 rfl (lv_at hl 0 rfl) ?_
    refine lv_iload_n hx hb d_Sch_readField_45 rfl (lv_at hl 3 rfl) ?_
    refine lv_iload hx hb d_Sch_readField_46 (lv_at hl 4 rfl) ?_
    refine lv_iload_n hx hb d_Sch_readField_48 rfl (lv_at hl 2 rfl) ?_
    refine lv_aload_n hx hb d_Sch_readField_49 rfl (lv_at hl 1 rfl) ?_
    obtain ⟨q6, hq6, hw⟩ := hw
    refine w_getr (q := q6) (k := 0) (t := 2) (C := R_Scn) (T := F_Scn) (N := 8) hx hb hT hown hK hW fl1.1 fl1.2 (by decide) in_Scn rfl rfl (by decide) rfl fr_Scn_0 w_1_80 d_Sch_readField_50 hq6 (fun aq6 bq6 => ?_)
    have fq6 : q6 < NN ∧ kcC q6 = 21 := ⟨aq6, bq6⟩
    refine lv_aload_n hx hb d_Sch_readField_53 rfl (lv_at hl 1 rfl) ?_
    refine w_geti (k := 4) (t := 2) (C := R_Scn) (T := F_Scn) (N := 8) hx hb hT hown hK hW fl1.1 fl1.2 (by decide) in_Scn rfl rfl (by decide) rfl fr_Scn_4 w_1_96 d_Sch_readField_54 ?_
    refine lv_aload_n hx hb d_Sch_readField_57 rfl (lv_at hl 1 rfl) ?_
    refine w_geti (k := 5) (t := 2) (C := R_Scn) (T := F_Scn) (N := 8) hx hb hT hown hK hW fl1.1 fl1.2 (by decide) in_Scn rfl rfl (by decide) rfl fr_Scn_5 w_1_100 d_Sch_readField_58 ?_
    have hF := hW.free hS hA
    refine va_calli (va_runV (C := R_Sch) (As := [.int l3, .int l4, .int l2, .ref (ad q6), .int (fI x3 l1 4), .int (fI x3 l1 5)]) (rest := []) ⟨hx, hb, hml, hown, hT⟩ (k_Sch_add l dC dI cI cB cJ cZ ad NN E tM tC kK kV hNN H.size o l3 l4 l2 q6 (fI x3 l1 4) (fI x3 l1 5) x3 fo fq6 hw) ⟨callB_of 6 hT (gwt_in w_4_225) rfl rfl rfl (hT _ w_1_5) (hT _ w_4_222) (by decide +kernel) ⟨Nat.le_trans (Nat.le_of_ble_eq_true rfl) hRf, Nat.le_trans (Nat.le_of_ble_eq_true rfl) hRl⟩, hT _ w_4_223, hT _ w_4_224⟩ ⟨PVc.blind, va_recv hK hW.1 (ci := 3) (q0 := o) rfl (pic_obj fo.1 fo.2 (by decide)), PVc.at _ hW hK hN hE hS hF⟩ rfl rfl hl.1 rfl (lv_room (Nat.le_of_ble_eq_true rfl)) d_Sch_readField_61 ⟨hRc, hRs⟩) hS (fun q _ h => hF q h) hF (fun r8 x7 t H locs ht hvm hw hB hz1 hk1 hS => ?_)
    have hW := Wd.back hB ht hF
    clear hB ht hF hz1 hk1 hvm
    refine lv_if_ne (tgt := 77) hx hb d_Sch_readField_64 (by decide) (fun c9 => ?_) (fun c9 => ?_)
    · have hw := hw.1 c9
      refine lv_aload_n hx hb d_Sch_readField_77 rfl (lv_at hl 1 rfl) ?_
      refine lv_iload hx hb d_Sch_readField_78 (lv_at hl 4 rfl) ?_
      refine lv_iconst (v := 4) hx hb d_Sch_readField_80 (by decide) ?_
      refine lv_icmp_ne (tgt := 89) hx hb d_Sch_readField_81 (by decide) (fun c10 => ?_) (fun c10 => ?_)
      · have hw := hw.1 c10
        refine lv_bipush (v := 59) hx hb d_Sch_readField_89 (by decide) ?_
        exact t_Sch_readField_91 hx hb hml hown hT hK hN hA hRc hRs hRf hRl hNN hE hret  o l1 l2 l3 l4 59 l1 x7 H locs ls fo fl1 fl1 hw hW hS (lv_sub hl [0, 1, 2, 3, 4] rfl)
      · have hw := hw.2 c10
        refine lv_bipush (v := 123) hx hb d_Sch_readField_84 (by decide) ?_
        refine lv_goto (tgt := 91) hx hb d_Sch_readField_86 (by decide) ?_
        exact t_Sch_readField_91 hx hb hml hown hT hK hN hA hRc hRs hRf hRl hNN hE hret  o l1 l2 l3 l4 123 l1 x7 H locs ls fo fl1 fl1 hw hW hS (lv_sub hl [0, 1, 2, 3, 4] rfl)
    · have hw := hw.2 c9
      refine lv_aload_n hx hb d_Sch_readField_67 rfl (lv_at hl 1 rfl) ?_
      refine lv_aload_n hx hb d_Sch_readField_68 rfl (lv_at hl 1 rfl) ?_
      refine w_geti (k := 4) (t := 2) (C := R_Scn) (T := F_Scn) (N := 8) hx hb hT hown hK hW fl1.1 fl1.2 (by decide) in_Scn rfl rfl (by decide) rfl fr_Scn_4 w_1_96 d_Sch_readField_69 ?_
      have hF := hW.free hS hA
      refine va_callv (va_runV (C := R_Scn) (As := [.int (fI x7 l1 4)]) (rest := []) ⟨hx, hb, hml, hown, hT⟩ (k_Scn_refuse l dC dI cI cB cJ cZ ad NN E tM tC kK kV hNN H.size l1 (fI x7 l1 4) x7 fl1 hw) ⟨callB_of 1 hT (gwt_in w_4_128) rfl rfl rfl (hT _ w_1_4) (hT _ w_4_221) (by decide +kernel) ⟨Nat.le_trans (Nat.le_of_ble_eq_true rfl) hRf, Nat.le_trans (Nat.le_of_ble_eq_true rfl) hRl⟩, hT _ w_4_126, hT _ w_4_127⟩ ⟨PVc.blind, va_recv hK hW.1 (ci := 2) (q0 := l1) rfl (pic_obj fl1.1 fl1.2 (by decide)), PVc.at _ hW hK hN hE hS hF⟩ rfl rfl hl.1 rfl (lv_room (Nat.le_of_ble_eq_true rfl)) d_Sch_readField_72 ⟨hRc, hRs⟩) hS (fun q _ h => hF q h) hF (fun  x11 t H locs ht hvm hw hB hz1 hk1 hS => ?_)
      have hW := Wd.back hB ht hF
      clear hB ht hF hz1 hk1 hvm
      refine lv_iload_n hx hb d_Sch_readField_75 rfl (lv_at hl 2 rfl) ?_
      exact hret l2 x11 H locs 76 ls d_Sch_readField_76 hw hW hS
  · have hw := hw.2 c5
    refine lv_iload_n hx hb d_Sch_readField_42 rfl (lv_at hl 2 rfl) ?_
    exact hret l2 x3 H locs 43 ls d_Sch_readField_43 hw hW hS
set_option maxRecDepth 100000 in
set_option maxHeartbeats 4000000 in
set_option maxRecDepth 100000 in
theorem t_Sch_readField_e {p : Program} {l : Launch} {e : Env} {R : Room} {s : State} {m : MethodId} {args : Array Value} {below : List Frame} {meth : Method} {c : Code} {cells slots : Nat} {Q : State → Prop} {dC : Nat → ClassId} {dI : Nat → Nat → Nat} {cI cB cJ cZ : ClassId} {A : Nat → Prop} {ad : Nat → Nat} {NN : Nat} {E : Heap} {tM tC : Nat} {kK kV : Nat → Nat} {post : Int32 → St → Prop} (hx : p.tables.exec = Jvm.exec) (hb : c.code = b_Sch_readField) (hml : c.maxLocals = 5) (hown : s.vm.findClass R_Sch = some m.cls) (hT : ∀ w ∈ TG, w.before args s = true) (hK : va_K (dC, dI) CL (TY cI cB cJ cZ) s) (hN : NW s) (hA : ∀ q : Nat, s.heap.size ≤ q → A q) (hRc : cells ≤ R.cells) (hRs : slots ≤ R.slots) (hRf : 8 ≤ R.frames) (hRl : 285 ≤ R.locals) (hNN : 152 ≤ NN) (hE : CE E tM tC kK kV A s) (hret : ∀ (r : Int32) (x : St) (H : Heap) (locs : List Loc) (pc : Nat) (ls : Array Slot), decode b_Sch_readField pc = .ok (.ireturn, 1) → post r x → Wd dC dI cI cB cJ cZ ad stC kcC NN A x H → va_S A s.heap H locs → W p l e R s m args below meth c H locs cells slots Q (F0 m pc ls [.int r])) : ∀ (o : Nat) (l1 : Nat) (l2 : Int32) (x : St) (H : Heap) (locs : List Loc) (ls : Array Slot), (o < NN ∧ kcC o = 3) → (l1 < NN ∧ kcC l1 = 2) → wp_Sch_readField post o l1 l2 x → Wd dC dI cI cB cJ cZ ad stC kcC NN A x H → va_S A s.heap H locs → lv_has ls 5 [(0, .ref (ad o)), (1, .ref (ad l1)), (2, .int l2)] → W p l e R s m args below meth c H locs cells slots Q (F0 m 0 ls []) := by
  intro o l1 l2 x H locs ls fo fl1 hw hW hS hl
  unfold wp_Sch_readField at hw
  refine lv_aload_n hx hb d_Sch_readField_0 rfl (lv_at hl 0 rfl) ?_
  refine lv_aload_n hx hb d_Sch_readField_1 rfl (lv_at hl 1 rfl) ?_
  have hF := hW.free hS hA
  refine va_calli (va_runV (C := R_Sch) (As := [.ref (ad l1)]) (rest := []) ⟨hx, hb, hml, hown, hT⟩ (k_Sch_readMode l dC dI cI cB cJ cZ ad NN E tM tC kK kV hNN H.size o l1 x fo fl1 hw) ⟨callB_of 1 hT (gwt_in w_4_136) rfl rfl rfl (hT _ w_1_5) (hT _ w_4_133) (by decide +kernel) ⟨Nat.le_trans (Nat.le_of_ble_eq_true rfl) hRf, Nat.le_trans (Nat.le_of_ble_eq_true rfl) hRl⟩, hT _ w_4_135, hT _ ws_4⟩ ⟨PVc.blind, va_recv hK hW.1 (ci := 3) (q0 := o) rfl (pic_obj fo.1 fo.2 (by decide)), PVc.at _ hW hK hN hE hS hF⟩ rfl rfl hl.1 rfl (lv_room (Nat.le_of_ble_eq_true rfl)) d_Sch_readField_2 ⟨hRc, hRs⟩) hS (fun q _ h => hF q h) hF (fun r13 x12 t H locs ht hvm hw hB hz1 hk1 hS => ?_)
  have hW := Wd.back hB ht hF
  clear hB ht hF hz1 hk1 hvm
  refine lv_istore_n (lv' := [(3, .int r13), (0, .ref (ad o)), (1, .ref (ad l1)), (2, .int l2)]) hx hb d_Sch_readField_5 rfl hl (by decide) rfl (fun ls hl => ?_)
  refine lv_aload_n hx hb d_Sch_readField_6 rfl (lv_at hl 1 rfl) ?_
  refine lv_aload_n hx hb d_Sch_readField_7 rfl (lv_at hl 2 rfl) ?_
  have hF := hW.free hS hA
  refine va_calli (va_runV (C := R_Sch) (As := [.ref (ad l1)]) (rest := []) ⟨hx, hb, hml, hown, hT⟩ (k_Sch_readType l dC dI cI cB cJ cZ ad NN E tM tC kK kV hNN H.size o l1 x12 fo fl1 hw) ⟨callB_of 1 hT (gwt_in w_4_214) rfl rfl rfl (hT _ w_1_5) (hT _ w_4_211) (by decide +kernel) ⟨Nat.le_trans (Nat.le_of_ble_eq_true rfl) hRf, Nat.le_trans (Nat.le_of_ble_eq_true rfl) hRl⟩, hT _ w_4_213, hT _ ws_5⟩ ⟨PVc.blind, va_recv hK hW.1 (ci := 3) (q0 := o) rfl (pic_obj fo.1 fo.2 (by decide)), PVc.at _ hW hK hN hE hS hF⟩ rfl rfl hl.1 rfl (lv_room (Nat.le_of_ble_eq_true rfl)) d_Sch_readField_8 ⟨hRc, hRs⟩) hS (fun q _ h => hF q h) hF (fun r15 x14 t H locs ht hvm hw hB hz1 hk1 hS => ?_)
  have hW := Wd.back hB ht hF
  clear hB ht hF hz1 hk1 hvm
  refine lv_istore (lv' := [(4, .int r15), (3, .int r13), (0, .ref (ad o)), (1, .ref (ad l1)), (2, .int l2)]) hx hb d_Sch_readField_11 hl (by decide) rfl (fun ls hl => ?_)
  refine lv_aload_n hx hb d_Sch_readField_13 rfl (lv_at hl 3 rfl) ?_
  have hF := hW.free hS hA
  refine va_calli (va_runV (C := R_Scn) (As := []) (rest := []) ⟨hx, hb, hml, hown, hT⟩ (k_Scn_good l dC dI cI cB cJ cZ ad NN E tM tC kK kV hNN H.size l1 x14 fl1 hw) ⟨callB_of 0 hT (gwt_in w_4_106) rfl rfl rfl (hT _ w_1_4) (hT _ w_4_103) (by decide +kernel) ⟨Nat.le_trans (Nat.le_of_ble_eq_true rfl) hRf, Nat.le_trans (Nat.le_of_ble_eq_true rfl) hRl⟩, hT _ w_4_104, hT _ w_4_105⟩ ⟨PVc.blind, va_recv hK hW.1 (ci := 2) (q0 := l1) rfl (pic_obj fl1.1 fl1.2 (by decide)), PVc.at _ hW hK hN hE hS hF⟩ rfl rfl hl.1 rfl (lv_room (Nat.le_of_ble_eq_true rfl)) d_Sch_readField_14 ⟨hRc, hRs⟩) hS (fun q _ h => hF q h) hF (fun r17 x16 t H locs ht hvm hw hB hz1 hk1 hS => ?_)
  have hW := Wd.back hB ht hF
  clear hB ht hF hz1 hk1 hvm
  refine lv_if_eq (tgt := 35) hx hb d_Sch_readField_17 (by decide) (fun c18 => ?_) (fun c18 => ?_)
  · have hw := hw.1 c18
    exact t_Sch_readField_35 hx hb hml hown hT hK hN hA hRc hRs hRf hRl hNN hE hret  o l1 l2 r13 r15 x16 H locs ls fo fl1 hw hW hS (lv_sub hl [2, 3, 4, 1, 0] rfl)
  · have hw := hw.2 c18
    refine lv_aload_n hx hb d_Sch_readField_20 rfl (lv_at hl 3 rfl) ?_
    have hF := hW.free hS hA
    refine va_calli (va_runV (C := R_Scn) (As := []) (rest := []) ⟨hx, hb, hml, hown, hT⟩ (k_Scn_takeAnyWord l dC dI cI cB cJ cZ ad NN E tM tC kK kV hNN H.size l1 x16 fl1 hw) ⟨callB_of 0 hT (gwt_in w_4_145) rfl rfl rfl (hT _ w_1_4) (hT _ w_4_220) (by decide +kernel) ⟨Nat.le_trans (Nat.le_of_ble_eq_true rfl) hRf, Nat.le_trans (Nat.le_of_ble_eq_true rfl) hRl⟩, hT _ w_4_143, hT _ w_4_144⟩ ⟨PVc.blind, va_recv hK hW.1 (ci := 2) (q0 := l1) rfl (pic_obj fl1.1 fl1.2 (by decide)), PVc.at _ hW hK hN hE hS hF⟩ rfl rfl hl.1 rfl (lv_room (Nat.le_of_ble_eq_true rfl)) d_Sch_readField_21 ⟨hRc, hRs⟩) hS (fun q _ h => hF q h) hF (fun r20 x19 t H locs ht hvm hw hB hz1 hk1 hS => ?_)
    have hW := Wd.back hB ht hF
    clear hB ht hF hz1 hk1 hvm
    refine lv_if_ne (tgt := 35) hx hb d_Sch_readField_24 (by decide) (fun c21 => ?_) (fun c21 => ?_)
    · have hw := hw.1 c21
      exact t_Sch_readField_35 hx hb hml hown hT hK hN hA hRc hRs hRf hRl hNN hE hret  o l1 l2 r13 r15 x19 H locs ls fo fl1 hw hW hS (lv_sub hl [2, 3, 4, 1, 0] rfl)
    · have hw := hw.2 c21
      refine lv_aload_n hx hb d_Sch_readField_27 rfl (lv_at hl 3 rfl) ?_
      refine lv_aload_n hx hb d_Sch_readField_28 rfl (lv_at hl 3 rfl) ?_
      refine w_geti (k := 2) (t := 2) (C := R_Scn) (T := F_Scn) (N := 8) hx hb hT hown hK hW fl1.1 fl1.2 (by decide) in_Scn rfl rfl (by decide) rfl fr_Scn_2 w_1_88 d_Sch_readField_29 ?_
      have hF := hW.free hS hA
      refine va_callv (va_runV (C := R_Scn) (As := [.int (fI x19 l1 2)]) (rest := []) ⟨hx, hb, hml, hown, hT⟩ (k_Scn_refuse l dC dI cI cB cJ cZ ad NN E tM tC kK kV hNN H.size l1 (fI x19 l1 2) x19 fl1 hw) ⟨callB_of 1 hT (gwt_in w_4_128) rfl rfl rfl (hT _ w_1_4) (hT _ w_4_221) (by decide +kernel) ⟨Nat.le_trans (Nat.le_of_ble_eq_true rfl) hRf, Nat.le_trans (Nat.le_of_ble_eq_true rfl) hRl⟩, hT _ w_4_126, hT _ w_4_127⟩ ⟨PVc.blind, va_recv hK hW.1 (ci := 2) (q0 := l1) rfl (pic_obj fl1.1 fl1.2 (by decide)), PVc.at _ hW hK hN hE hS hF⟩ rfl rfl hl.1 rfl (lv_room (Nat.le_of_ble_eq_true rfl)) d_Sch_readField_32 ⟨hRc, hRs⟩) hS (fun q _ h => hF q h) hF (fun  x22 t H locs ht hvm hw hB hz1 hk1 hS => ?_)
      have hW := Wd.back hB ht hF
      clear hB ht hF hz1 hk1 hvm
      exact t_Sch_readField_35 hx hb hml hown hT hK hN hA hRc hRs hRf hRl hNN hE hret  o l1 l2 r13 r15 x22 H locs ls fo fl1 hw hW hS (lv_sub hl [2, 3, 4, 1, 0] rfl)
set_option maxHeartbeats 4000000 in
set_option maxRecDepth 100000 in
theorem k_Sch_readField (l : Launch) (dC : Nat → ClassId) (dI : Nat → Nat → Nat) (cI cB cJ cZ : ClassId) (ad : Nat → Nat) (NN : Nat) (E : Heap) (tM tC : Nat) (kK kV : Nat → Nat) (hNN : 152 ≤ NN) (sz : Nat) (o : Nat) (l1 : Nat) (l2 : Int32) (x : St) (fo : o < NN ∧ kcC o = 3) (fl1 : l1 < NN ∧ kcC l1 = 2) {post : Int32 → St → Prop} (hw : wp_Sch_readField post o l1 l2 x) : Met l y_Sch_readField (wsOf y_Sch_readField b_Sch_readField 5 (some (.int))) ({ frames := 8, cells := 0, slots := 0, locals := 285 }) (va_Pc [.ref (ad o), .ref (ad l1), .int l2] (PVc dC dI cI cB cJ cZ ad stC kcC NN E tM tC kK kV sz x)) (va_Qi (fun (r : Int32) (y : St) => post r y) (fun y t => Wd dC dI cI cB cJ cZ ad stC kcC NN (va_A (pic ad stC kcC NN cI cB cJ cZ x) sz) y t.heap) (va_A (pic ad stC kcC NN cI cB cJ cZ x) sz)) 0 0 (va_A (pic ad stC kcC NN cI cB cJ cZ x) sz) := by
  refine Met.ofW (cc := b_Sch_readField) (maxL := 5) (ret := some (.int)) (by decide) rfl ?_
  intro p e s m args below meth c s₁ B hml hv
  obtain ⟨rfl, ⟨hsz, hW0, hK, hN⟩, hE⟩ := hv
  have hx := B.exec
  have hb := B.bytes
  have hr := B.returns
  have hts := atoms_spec B.pre
  have hT : ∀ w ∈ TG, w.before _ s = true := fun w h => hts w (List.mem_cons_of_mem _ h)
  have hown : s.vm.findClass R_Sch = some m.cls := findClass_of_methodNamed B.named
  have hlocks := B.notSynchronized
  subst hsz
  have hW : Wd dC dI cI cB cJ cZ ad stC kcC NN (va_A (pic ad stC kcC NN cI cB cJ cZ x) s.heap.size) x s.heap := ⟨hW0.1, hW0.2.1.self (sz := s.heap.size), hW0.2.2⟩
  generalize hAe : va_A (pic ad stC kcC NN cI cB cJ cZ x) s.heap.size = A at hW hE ⊢
  have hA : ∀ q : Nat, s.heap.size ≤ q → A q := fun q h => by rw [← hAe]; exact Or.inr h
  have hS : va_S A s.heap s.heap [] := va_S.rf
  have hl := lv_entry ([.ref (ad o), .ref (ad l1), .int l2]) (n := 5) (Nat.le_of_ble_eq_true rfl)
  rw [lg_entry_eq]
  generalize (lg_sl ([.ref (ad o), .ref (ad l1), .int l2]) ++ List.replicate (5 - (lg_sl ([.ref (ad o), .ref (ad l1), .int l2])).length) Slot.unset).toArray = ls at hl ⊢
  have hl : lv_has ls 5 [(0, .ref (ad o)), (1, .ref (ad l1)), (2, .int l2)] := hl
  exact t_Sch_readField_e hx hb hml hown hT hK hN hA (Nat.le_refl 0) (Nat.le_refl 0) (Nat.le_refl 8) (Nat.le_refl 285) hNN hE (fun r x H locs pc ls hd hp hW hS => W.iret (v := r) hx hb hr (fun t ht hM => ⟨⟨r, x, rfl, hp, Wd.back hW ht.symm (fun _ z => z)⟩, hS.F ht⟩) hS.2.2 hd hlocks)  o l1 l2 x _ _ ls fo fl1 hw hW hS hl
set_option maxRecDepth 100000 in
set_option maxHeartbeats 4000000 in
set_option maxRecDepth 100000 in
theorem t_Sch_readText_98 {p : Program} {l : Launch} {e : Env} {R : Room} {s : State} {m : MethodId} {args : Array Value} {below : List Frame} {meth : Method} {c : Code} {cells slots : Nat} {Q : State → Prop} {dC : Nat → ClassId} {dI : Nat → Nat → Nat} {cI cB cJ cZ : ClassId} {A : Nat → Prop} {ad : Nat → Nat} {NN : Nat} {E : Heap} {tM tC : Nat} {kK kV : Nat → Nat} {post : Int32 → St → Prop} (hx : p.tables.exec = Jvm.exec) (hb : c.code = b_Sch_readText) (hml : c.maxLocals = 5) (hown : s.vm.findClass R_Sch = some m.cls) (hT : ∀ w ∈ TG, w.before args s = true) (hK : va_K (dC, dI) CL (TY cI cB cJ cZ) s) (hN : NW s) (hA : ∀ q : Nat, s.heap.size ≤ q → A q) (hRc : cells ≤ R.cells) (hRs : slots ≤ R.slots) (hRf : 9 ≤ R.frames) (hRl : 309 ≤ R.locals) (hNN : 152 ≤ NN) (hE : CE E tM tC kK kV A s) (hret : ∀ (r : Int32) (x : St) (H : Heap) (locs : List Loc) (pc : Nat) (ls : Array Slot), decode b_Sch_readText pc = .ok (.ireturn, 1) → post r x → Wd dC dI cI cB cJ cZ ad stC kcC NN A x H → va_S A s.heap H locs → W p l e R s m args below meth c H locs cells slots Q (F0 m pc ls [.int r]))  : ∀ (o : Nat) (l1 : Nat) (l2 : Int32) (l3 : Int32) (x : St) (H : Heap) (locs : List Loc) (ls : Array Slot), (o < NN ∧ kcC o = 3) → (l1 < NN ∧ kcC l1 = 2) → j_Sch_readText_98 post o l1 l2 l3 x → Wd dC dI cI cB cJ cZ ad stC kcC NN A x H → va_S A s.heap H locs → lv_has ls 5 [(0, .ref (ad o)), (1, .ref (ad l1)), (2, .int l2), (3, .int l3)] → W p l e R s m args below meth c H locs cells slots Q (F0 m 98 ls []) := by
  intro o l1 l2 l3 x H locs ls fo fl1 hw hW hS hl
  unfold j_Sch_readText_98 at hw
  refine lv_aload_n hx hb d_Sch_readText_98 rfl (lv_at hl 1 rfl) ?_
  refine w_geti (k := 3) (t := 2) (C := R_Scn) (T := F_Scn) (N := 8) hx hb hT hown hK hW fl1.1 fl1.2 (by decide) in_Scn rfl rfl (by decide) rfl fr_Scn_3 w_1_92 d_Sch_readText_99 ?_
  exact hret (fI x l1 3) x H locs 102 ls d_Sch_readText_102 hw hW hS
set_option maxRecDepth 100000 in
set_option maxHeartbeats 4000000 in
set_option maxRecDepth 100000 in
theorem t_Sch_readText_92 {p : Program} {l : Launch} {e : Env} {R : Room} {s : State} {m : MethodId} {args : Array Value} {below : List Frame} {meth : Method} {c : Code} {cells slots : Nat} {Q : State → Prop} {dC : Nat → ClassId} {dI : Nat → Nat → Nat} {cI cB cJ cZ : ClassId} {A : Nat → Prop} {ad : Nat → Nat} {NN : Nat} {E : Heap} {tM tC : Nat} {kK kV : Nat → Nat} {post : Int32 → St → Prop} {rec8 : Nat → Nat → Int32 → Int32 → St → Prop} (hx : p.tables.exec = Jvm.exec) (hb : c.code = b_Sch_readText) (hml : c.maxLocals = 5) (hown : s.vm.findClass R_Sch = some m.cls) (hT : ∀ w ∈ TG, w.before args s = true) (hK : va_K (dC, dI) CL (TY cI cB cJ cZ) s) (hN : NW s) (hA : ∀ q : Nat, s.heap.size ≤ q → A q) (hRc : cells ≤ R.cells) (hRs : slots ≤ R.slots) (hRf : 9 ≤ R.frames) (hRl : 309 ≤ R.locals) (hNN : 152 ≤ NN) (hE : CE E tM tC kK kV A s) (hret : ∀ (r : Int32) (x : St) (H : Heap) (locs : List Loc) (pc : Nat) (ls : Array Slot), decode b_Sch_readText pc = .ok (.ireturn, 1) → post r x → Wd dC dI cI cB cJ cZ ad stC kcC NN A x H → va_S A s.heap H locs → W p l e R s m args below meth c H locs cells slots Q (F0 m pc ls [.int r])) (hrec8 : ∀ (o : Nat) (l1 : Nat) (l2 : Int32) (l3 : Int32) (x : St) (H : Heap) (locs : List Loc) (ls : Array Slot), (o < NN ∧ kcC o = 3) → (l1 < NN ∧ kcC l1 = 2) → rec8 o l1 l2 l3 x → Wd dC dI cI cB cJ cZ ad stC kcC NN A x H → va_S A s.heap H locs → lv_has ls 5 [(0, .ref (ad o)), (1, .ref (ad l1)), (2, .int l2), (3, .int l3)] → W p l e R s m args below meth c H locs cells slots Q (F0 m 8 ls [])) : ∀ (o : Nat) (l1 : Nat) (l2 : Int32) (l3 : Int32) (l4 : Int32) (x : St) (H : Heap) (locs : List Loc) (ls : Array Slot), (o < NN ∧ kcC o = 3) → (l1 < NN ∧ kcC l1 = 2) → j_Sch_readText_92 post rec8 o l1 l2 l3 l4 x → Wd dC dI cI cB cJ cZ ad stC kcC NN A x H → va_S A s.heap H locs → lv_has ls 5 [(0, .ref (ad o)), (1, .ref (ad l1)), (2, .int l2), (3, .int l3), (4, .int l4)] → W p l e R s m args below meth c H locs cells slots Q (F0 m 92 ls []) := by
  intro o l1 l2 l3 l4 x H locs ls fo fl1 hw hW hS hl
  unfold j_Sch_readText_92 at hw
  refine lv_iinc (v := (l3 + 1)) (lv' := [(3, .int (l3 + 1)), (0, .ref (ad o)), (1, .ref (ad l1)), (2, .int l2), (4, .int l4)]) hx hb d_Sch_readText_92 hl (k := 3) rfl rfl (by decide) rfl (fun ls hl => ?_)
  refine lv_goto (tgt := 8) hx hb d_Sch_readText_95 (by decide) ?_
  exact hrec8 o l1 l2 (l3 + 1) x H locs ls fo fl1 hw hW hS (lv_sub hl [1, 2, 3, 0] rfl)
set_option maxRecDepth 100000 in
set_option maxHeartbeats 4000000 in
set_option maxRecDepth 100000 in
theorem t_Sch_readText_85 {p : Program} {l : Launch} {e : Env} {R : Room} {s : State} {m : MethodId} {args : Array Value} {below : List Frame} {meth : Method} {c : Code} {cells slots : Nat} {Q : State → Prop} {dC : Nat → ClassId} {dI : Nat → Nat → Nat} {cI cB cJ cZ : ClassId} {A : Nat → Prop} {ad : Nat → Nat} {NN : Nat} {E : Heap} {tM tC : Nat} {kK kV : Nat → Nat} {post : Int32 → St → Prop} {rec8 : Nat → Nat → Int32 → Int32 → St → Prop} (hx : p.tables.exec = Jvm.exec) (hb : c.code = b_Sch_readText) (hml : c.maxLocals = 5) (hown : s.vm.findClass R_Sch = some m.cls) (hT : ∀ w ∈ TG, w.before args s = true) (hK : va_K (dC, dI) CL (TY cI cB cJ cZ) s) (hN : NW s) (hA : ∀ q : Nat, s.heap.size ≤ q → A q) (hRc : cells ≤ R.cells) (hRs : slots ≤ R.slots) (hRf : 9 ≤ R.frames) (hRl : 309 ≤ R.locals) (hNN : 152 ≤ NN) (hE : CE E tM tC kK kV A s) (hret : ∀ (r : Int32) (x : St) (H : Heap) (locs : List Loc) (pc : Nat) (ls : Array Slot), decode b_Sch_readText pc = .ok (.ireturn, 1) → post r x → Wd dC dI cI cB cJ cZ ad stC kcC NN A x H → va_S A s.heap H locs → W p l e R s m args below meth c H locs cells slots Q (F0 m pc ls [.int r])) (hrec8 : ∀ (o : Nat) (l1 : Nat) (l2 : Int32) (l3 : Int32) (x : St) (H : Heap) (locs : List Loc) (ls : Array Slot), (o < NN ∧ kcC o = 3) → (l1 < NN ∧ kcC l1 = 2) → rec8 o l1 l2 l3 x → Wd dC dI cI cB cJ cZ ad stC kcC NN A x H → va_S A s.heap H locs → lv_has ls 5 [(0, .ref (ad o)), (1, .ref (ad l1)), (2, .int l2), (3, .int l3)] → W p l e R s m args below meth c H locs cells slots Q (F0 m 8 ls [])) : ∀ (o : Nat) (l1 : Nat) (l2 : Int32) (l3 : Int32) (l4 : Int32) (x : St) (H : Heap) (locs : List Loc) (ls : Array Slot), (o < NN ∧ kcC o = 3) → (l1 < NN ∧ kcC l1 = 2) → j_Sch_readText_85 post rec8 o l1 l2 l3 l4 x → Wd dC dI cI cB cJ cZ ad stC kcC NN A x H → va_S A s.heap H locs → lv_has ls 5 [(0, .ref (ad o)), (1, .ref (ad l1)), (2, .int l2), (3, .int l3), (4, .int l4)] → W p l e R s m args below meth c H locs cells slots Q (F0 m 85 ls []) := by
  intro o l1 l2 l3 l4 x H locs ls fo fl1 hw hW hS hl
  unfold j_Sch_readText_85 at hw
  refine lv_aload_n hx hb d_Sch_readText_85 rfl (lv_at hl 0 rfl) ?_
  refine lv_aload_n hx hb d_Sch_readText_86 rfl (lv_at hl 1 rfl) ?_
  refine lv_iload_n hx hb d_Sch_readText_87 rfl (lv_at hl 2 rfl) ?_
  have hF := hW.free hS hA
  refine va_calli (va_runV (C := R_Sch) (As := [.ref (ad l1), .int l2]) (rest := []) ⟨hx, hb, hml, hown, hT⟩ (k_Sch_readField l dC dI cI cB cJ cZ ad NN E tM tC kK kV hNN H.size o l1 l2 x fo fl1 hw) ⟨callB_of 2 hT (gwt_in w_4_132) rfl rfl rfl (hT _ w_1_5) (hT _ w_4_129) (by decide +kernel) ⟨Nat.le_trans (Nat.le_of_ble_eq_true rfl) hRf, Nat.le_trans (Nat.le_of_ble_eq_true rfl) hRl⟩, hT _ w_4_131, hT _ ws_3⟩ ⟨PVc.blind, va_recv hK hW.1 (ci := 3) (q0 := o) rfl (pic_obj fo.1 fo.2 (by decide)), PVc.at _ hW hK hN hE hS hF⟩ rfl rfl hl.1 rfl (lv_room (Nat.le_of_ble_eq_true rfl)) d_Sch_readText_88 ⟨hRc, hRs⟩) hS (fun q _ h => hF q h) hF (fun r2 x1 t H locs ht hvm hw hB hz1 hk1 hS => ?_)
  have hW := Wd.back hB ht hF
  clear hB ht hF hz1 hk1 hvm
  refine lv_istore_n (lv' := [(2, .int r2), (0, .ref (ad o)), (1, .ref (ad l1)), (3, .int l3), (4, .int l4)]) hx hb d_Sch_readText_91 rfl hl (by decide) rfl (fun ls hl => ?_)
  exact t_Sch_readText_92 hx hb hml hown hT hK hN hA hRc hRs hRf hRl hNN hE hret hrec8 o l1 r2 l3 l4 x1 H locs ls fo fl1 hw hW hS (lv_sub hl [1, 2, 0, 3, 4] rfl)
set_option maxRecDepth 100000 in
set_option maxHeartbeats 4000000 in
set_option maxRecDepth 100000 in
theorem t_Sch_readText_49 {p : Program} {l : Launch} {e : Env} {R : Room} {s : State} {m : MethodId} {args : Array Value} {below : List Frame} {meth : Method} {c : Code} {cells slots : Nat} {Q : State → Prop} {dC : Nat → ClassId} {dI : Nat → Nat → Nat} {cI cB cJ cZ : ClassId} {A : Nat → Prop} {ad : Nat → Nat} {NN : Nat} {E : Heap} {tM tC : Nat} {kK kV : Nat → Nat} {post : Int32 → St → Prop} {rec8 : Nat → Nat → Int32 → Int32 → St → Prop} (hx : p.tables.exec = Jvm.exec) (hb : c.code = b_Sch_readText) (hml : c.maxLocals = 5) (hown : s.vm.findClass R_Sch = some m.cls) (hT : ∀ w ∈ TG, w.before args s = true) (hK : va_K (dC, dI) CL (TY cI cB cJ cZ) s) (hN : NW s) (hA : ∀ q : Nat, s.heap.size ≤ q → A q) (hRc : cells ≤ R.cells) (hRs : slots ≤ R.slots) (hRf : 9 ≤ R.frames) (hRl : 309 ≤ R.locals) (hNN : 152 ≤ NN) (hE : CE E tM tC kK kV A s) (hret : ∀ (r : Int32) (x : St) (H : Heap) (locs : List Loc) (pc : Nat) (ls : Array Slot), decode b_Sch_readText pc = .ok (.ireturn, 1) → post r x → Wd dC dI cI cB cJ cZ ad stC kcC NN A x H → va_S A s.heap H locs → W p l e R s m args below meth c H locs cells slots Q (F0 m pc ls [.int r])) (hrec8 : ∀ (o : Nat) (l1 : Nat) (l2 : Int32) (l3 : Int32) (x : St) (H : Heap) (locs : List Loc) (ls : Array Slot), (o < NN ∧ kcC o = 3) → (l1 < NN ∧ kcC l1 = 2) → rec8 o l1 l2 l3 x → Wd dC dI cI cB cJ cZ ad stC kcC NN A x H → va_S A s.heap H locs → lv_has ls 5 [(0, .ref (ad o)), (1, .ref (ad l1)), (2, .int l2), (3, .int l3)] → W p l e R s m args below meth c H locs cells slots Q (F0 m 8 ls [])) : ∀ (o : Nat) (l1 : Nat) (l2 : Int32) (l3 : Int32) (l4 : Int32) (x : St) (H : Heap) (locs : List Loc) (ls : Array Slot), (o < NN ∧ kcC o = 3) → (l1 < NN ∧ kcC l1 = 2) → j_Sch_readText_49 post rec8 o l1 l2 l3 l4 x → Wd dC dI cI cB cJ cZ ad stC kcC NN A x H → va_S A s.heap H locs → lv_has ls 5 [(0, .ref (ad o)), (1, .ref (ad l1)), (2, .int l2), (3, .int l3), (4, .int l4)] → W p l e R s m args below meth c H locs cells slots Q (F0 m 49 ls []) := by
  intro o l1 l2 l3 l4 x H locs ls fo fl1 hw hW hS hl
  unfold j_Sch_readText_49 at hw
  refine lv_iload hx hb d_Sch_readText_49 (lv_at hl 4 rfl) ?_
  refine lv_bipush (v := 125) hx hb d_Sch_readText_51 (by decide) ?_
  refine lv_icmp_ne (tgt := 85) hx hb d_Sch_readText_53 (by decide) (fun c3 => ?_) (fun c3 => ?_)
  · have hw := hw.1 c3
    exact t_Sch_readText_85 hx hb hml hown hT hK hN hA hRc hRs hRf hRl hNN hE hret hrec8 o l1 l2 l3 l4 x H locs ls fo fl1 hw hW hS (lv_sub hl [0, 1, 2, 3, 4] rfl)
  · have hw := hw.2 c3
    refine lv_iload_n hx hb d_Sch_readText_56 rfl (lv_at hl 2 rfl) ?_
    refine lv_iconst (v := (-1)) hx hb d_Sch_readText_57 (by decide) ?_
    refine lv_icmp_eq (tgt := 85) hx hb d_Sch_readText_58 (by decide) (fun c4 => ?_) (fun c4 => ?_)
    · have hw := hw.1 c4
      exact t_Sch_readText_85 hx hb hml hown hT hK hN hA hRc hRs hRf hRl hNN hE hret hrec8 o l1 l2 l3 l4 x H locs ls fo fl1 hw hW hS (lv_sub hl [0, 1, 2, 3, 4] rfl)
    · have hw := hw.2 c4
      refine lv_aload_n hx hb d_Sch_readText_61 rfl (lv_at hl 0 rfl) ?_
      refine lv_iload_n hx hb d_Sch_readText_62 rfl (lv_at hl 2 rfl) ?_
      have hF := hW.free hS hA
      refine va_calli (va_runV (C := R_Sch) (As := [.int l2]) (rest := []) ⟨hx, hb, hml, hown, hT⟩ (k_Sch_isEmptyGroup l dC dI cI cB cJ cZ ad NN E tM tC kK kV hNN H.size o l2 x fo hw) ⟨callB_of 1 hT (gwt_in w_4_114) rfl rfl rfl (hT _ w_1_5) (hT _ w_4_111) (by decide +kernel) ⟨Nat.le_trans (Nat.le_of_ble_eq_true rfl) hRf, Nat.le_trans (Nat.le_of_ble_eq_true rfl) hRl⟩, hT _ w_4_112, hT _ w_4_113⟩ ⟨PVc.blind, va_recv hK hW.1 (ci := 3) (q0 := o) rfl (pic_obj fo.1 fo.2 (by decide)), PVc.at _ hW hK hN hE hS hF⟩ rfl rfl hl.1 rfl (lv_room (Nat.le_of_ble_eq_true rfl)) d_Sch_readText_63 ⟨hRc, hRs⟩) hS (fun q _ h => hF q h) hF (fun r6 x5 t H locs ht hvm hw hB hz1 hk1 hS => ?_)
      have hW := Wd.back hB ht hF
      clear hB ht hF hz1 hk1 hvm
      refine lv_if_ne (tgt := 85) hx hb d_Sch_readText_66 (by decide) (fun c7 => ?_) (fun c7 => ?_)
      · have hw := hw.1 c7
        exact t_Sch_readText_85 hx hb hml hown hT hK hN hA hRc hRs hRf hRl hNN hE hret hrec8 o l1 l2 l3 l4 x5 H locs ls fo fl1 hw hW hS (lv_sub hl [0, 1, 2, 3, 4] rfl)
      · have hw := hw.2 c7
        refine lv_aload_n hx hb d_Sch_readText_69 rfl (lv_at hl 1 rfl) ?_
        refine lv_bipush (v := 125) hx hb d_Sch_readText_70 (by decide) ?_
        have hF := hW.free hS hA
        refine va_callv (va_runV (C := R_Scn) (As := [.int 125]) (rest := []) ⟨hx, hb, hml, hown, hT⟩ (k_Scn_needSign l dC dI cI cB cJ cZ ad NN E tM tC kK kV hNN H.size l1 125 x5 fl1 hw) ⟨callB_of 1 hT (gwt_in w_4_118) rfl rfl rfl (hT _ w_1_4) (hT _ w_4_115) (by decide +kernel) ⟨Nat.le_trans (Nat.le_of_ble_eq_true rfl) hRf, Nat.le_trans (Nat.le_of_ble_eq_true rfl) hRl⟩, hT _ w_4_116, hT _ w_4_117⟩ ⟨PVc.blind, va_recv hK hW.1 (ci := 2) (q0 := l1) rfl (pic_obj fl1.1 fl1.2 (by decide)), PVc.at _ hW hK hN hE hS hF⟩ rfl rfl hl.1 rfl (lv_room (Nat.le_of_ble_eq_true rfl)) d_Sch_readText_72 ⟨hRc, hRs⟩) hS (fun q _ h => hF q h) hF (fun  x8 t H locs ht hvm hw hB hz1 hk1 hS => ?_)
        have hW := Wd.back hB ht hF
        clear hB ht hF hz1 hk1 hvm
        refine lv_aload_n hx hb d_Sch_readText_75 rfl (lv_at hl 0 rfl) ?_
        refine w_getf (q := (stC o 4)) (k := 4) (t := 3) (C := R_Sch) (T := F_Sch) (N := 13) hx hb hT hown hK hW fo.1 fo.2 (by decide) in_Sch rfl rfl (by decide) rfl fr_Sch_4 w_1_152 d_Sch_readText_76 rfl ?_
        refine lv_iload_n hx hb d_Sch_readText_79 rfl (lv_at hl 2 rfl) ?_
        obtain ⟨hi, hw⟩ := hw
        refine w_iald (o := (stC o 4)) hx hb hK hW (st_ty hNN fo.1 fo.2 rfl).1 (st_ty hNN fo.1 fo.2 rfl).2 hi d_Sch_readText_80 ?_
        refine lv_topi (fun v9 ev9 => ?_)
        have hw := hw v9 ev9
        refine lv_istore_n (lv' := [(2, .int v9), (0, .ref (ad o)), (1, .ref (ad l1)), (3, .int l3), (4, .int l4)]) hx hb d_Sch_readText_81 rfl hl (by decide) rfl (fun ls hl => ?_)
        refine lv_goto (tgt := 92) hx hb d_Sch_readText_82 (by decide) ?_
        exact t_Sch_readText_92 hx hb hml hown hT hK hN hA hRc hRs hRf hRl hNN hE hret hrec8 o l1 v9 l3 l4 x8 H locs ls fo fl1 hw hW hS (lv_sub hl [1, 2, 0, 3, 4] rfl)
set_option maxRecDepth 100000 in
set_option maxHeartbeats 4000000 in
set_option maxRecDepth 100000 in
theorem t_Sch_readText_8 {p : Program} {l : Launch} {e : Env} {R : Room} {s : State} {m : MethodId} {args : Array Value} {below : List Frame} {meth : Method} {c : Code} {cells slots : Nat} {Q : State → Prop} {dC : Nat → ClassId} {dI : Nat → Nat → Nat} {cI cB cJ cZ : ClassId} {A : Nat → Prop} {ad : Nat → Nat} {NN : Nat} {E : Heap} {tM tC : Nat} {kK kV : Nat → Nat} {post : Int32 → St → Prop} {rec8 : Nat → Nat → Int32 → Int32 → St → Prop} (hx : p.tables.exec = Jvm.exec) (hb : c.code = b_Sch_readText) (hml : c.maxLocals = 5) (hown : s.vm.findClass R_Sch = some m.cls) (hT : ∀ w ∈ TG, w.before args s = true) (hK : va_K (dC, dI) CL (TY cI cB cJ cZ) s) (hN : NW s) (hA : ∀ q : Nat, s.heap.size ≤ q → A q) (hRc : cells ≤ R.cells) (hRs : slots ≤ R.slots) (hRf : 9 ≤ R.frames) (hRl : 309 ≤ R.locals) (hNN : 152 ≤ NN) (hE : CE E tM tC kK kV A s) (hret : ∀ (r : Int32) (x : St) (H : Heap) (locs : List Loc) (pc : Nat) (ls : Array Slot), decode b_Sch_readText pc = .ok (.ireturn, 1) → post r x → Wd dC dI cI cB cJ cZ ad stC kcC NN A x H → va_S A s.heap H locs → W p l e R s m args below meth c H locs cells slots Q (F0 m pc ls [.int r])) (hrec8 : ∀ (o : Nat) (l1 : Nat) (l2 : Int32) (l3 : Int32) (x : St) (H : Heap) (locs : List Loc) (ls : Array Slot), (o < NN ∧ kcC o = 3) → (l1 < NN ∧ kcC l1 = 2) → rec8 o l1 l2 l3 x → Wd dC dI cI cB cJ cZ ad stC kcC NN A x H → va_S A s.heap H locs → lv_has ls 5 [(0, .ref (ad o)), (1, .ref (ad l1)), (2, .int l2), (3, .int l3)] → W p l e R s m args below meth c H locs cells slots Q (F0 m 8 ls [])) : ∀ (o : Nat) (l1 : Nat) (l2 : Int32) (l3 : Int32) (x : St) (H : Heap) (locs : List Loc) (ls : Array Slot), (o < NN ∧ kcC o = 3) → (l1 < NN ∧ kcC l1 = 2) → j_Sch_readText_8 post rec8 o l1 l2 l3 x → Wd dC dI cI cB cJ cZ ad stC kcC NN A x H → va_S A s.heap H locs → lv_has ls 5 [(0, .ref (ad o)), (1, .ref (ad l1)), (2, .int l2), (3, .int l3)] → W p l e R s m args below meth c H locs cells slots Q (F0 m 8 ls []) := by
  intro o l1 l2 l3 x H locs ls fo fl1 hw hW hS hl
  unfold j_Sch_readText_8 at hw
  refine lv_iload_n hx hb d_Sch_readText_8 rfl (lv_at hl 3 rfl) ?_
  refine lv_aload_n hx hb d_Sch_readText_9 rfl (lv_at hl 1 rfl) ?_
  refine w_geti (k := 1) (t := 2) (C := R_Scn) (T := F_Scn) (N := 8) hx hb hT hown hK hW fl1.1 fl1.2 (by decide) in_Scn rfl rfl (by decide) rfl fr_Scn_1 w_1_84 d_Sch_readText_10 ?_
  refine lv_icmp_gt (tgt := 98) hx hb d_Sch_readText_13 (by decide) (fun c10 => ?_) (fun c10 => ?_)
  · have hw := hw.1 c10
    exact t_Sch_readText_98 hx hb hml hown hT hK hN hA hRc hRs hRf hRl hNN hE hret  o l1 l2 l3 x H locs ls fo fl1 hw hW hS (lv_sub hl [0, 1, 2, 3] rfl)
  · have hw := hw.2 c10
    refine lv_aload_n hx hb d_Sch_readText_16 rfl (lv_at hl 1 rfl) ?_
    have hF := hW.free hS hA
    refine va_calli (va_runV (C := R_Scn) (As := []) (rest := []) ⟨hx, hb, hml, hown, hT⟩ (k_Scn_good l dC dI cI cB cJ cZ ad NN E tM tC kK kV hNN H.size l1 x fl1 hw) ⟨callB_of 0 hT (gwt_in w_4_106) rfl rfl rfl (hT _ w_1_4) (hT _ w_4_103) (by decide +kernel) ⟨Nat.le_trans (Nat.le_of_ble_eq_true rfl) hRf, Nat.le_trans (Nat.le_of_ble_eq_true rfl) hRl⟩, hT _ w_4_104, hT _ w_4_105⟩ ⟨PVc.blind, va_recv hK hW.1 (ci := 2) (q0 := l1) rfl (pic_obj fl1.1 fl1.2 (by decide)), PVc.at _ hW hK hN hE hS hF⟩ rfl rfl hl.1 rfl (lv_room (Nat.le_of_ble_eq_true rfl)) d_Sch_readText_17 ⟨hRc, hRs⟩) hS (fun q _ h => hF q h) hF (fun r12 x11 t H locs ht hvm hw hB hz1 hk1 hS => ?_)
    have hW := Wd.back hB ht hF
    clear hB ht hF hz1 hk1 hvm
    refine lv_if_eq (tgt := 98) hx hb d_Sch_readText_20 (by decide) (fun c13 => ?_) (fun c13 => ?_)
    · have hw := hw.1 c13
      exact t_Sch_readText_98 hx hb hml hown hT hK hN hA hRc hRs hRf hRl hNN hE hret  o l1 l2 l3 x11 H locs ls fo fl1 hw hW hS (lv_sub hl [0, 1, 2, 3] rfl)
    · have hw := hw.2 c13
      refine lv_aload_n hx hb d_Sch_readText_23 rfl (lv_at hl 1 rfl) ?_
      have hF := hW.free hS hA
      refine va_calli (va_runV (C := R_Scn) (As := []) (rest := []) ⟨hx, hb, hml, hown, hT⟩ (k_Scn_next l dC dI cI cB cJ cZ ad NN E tM tC kK kV hNN H.size l1 x11 fl1 hw) ⟨callB_of 0 hT (gwt_in w_4_110) rfl rfl rfl (hT _ w_1_4) (hT _ w_4_107) (by decide +kernel) ⟨Nat.le_trans (Nat.le_of_ble_eq_true rfl) hRf, Nat.le_trans (Nat.le_of_ble_eq_true rfl) hRl⟩, hT _ w_4_108, hT _ w_4_109⟩ ⟨PVc.blind, va_recv hK hW.1 (ci := 2) (q0 := l1) rfl (pic_obj fl1.1 fl1.2 (by decide)), PVc.at _ hW hK hN hE hS hF⟩ rfl rfl hl.1 rfl (lv_room (Nat.le_of_ble_eq_true rfl)) d_Sch_readText_24 ⟨hRc, hRs⟩) hS (fun q _ h => hF q h) hF (fun r15 x14 t H locs ht hvm hw hB hz1 hk1 hS => ?_)
      have hW := Wd.back hB ht hF
      clear hB ht hF hz1 hk1 hvm
      refine lv_istore (lv' := [(4, .int r15), (0, .ref (ad o)), (1, .ref (ad l1)), (2, .int l2), (3, .int l3)]) hx hb d_Sch_readText_27 hl (by decide) rfl (fun ls hl => ?_)
      refine lv_iload hx hb d_Sch_readText_29 (lv_at hl 0 rfl) ?_
      refine lv_iconst (v := (-1)) hx hb d_Sch_readText_31 (by decide) ?_
      refine lv_icmp_ne (tgt := 49) hx hb d_Sch_readText_32 (by decide) (fun c16 => ?_) (fun c16 => ?_)
      · have hw := hw.1 c16
        exact t_Sch_readText_49 hx hb hml hown hT hK hN hA hRc hRs hRf hRl hNN hE hret hrec8 o l1 l2 l3 r15 x14 H locs ls fo fl1 hw hW hS (lv_sub hl [1, 2, 3, 4, 0] rfl)
      · have hw := hw.2 c16
        refine lv_iload_n hx hb d_Sch_readText_35 rfl (lv_at hl 3 rfl) ?_
        refine lv_iconst (v := (-1)) hx hb d_Sch_readText_36 (by decide) ?_
        refine lv_icmp_ne (tgt := 49) hx hb d_Sch_readText_37 (by decide) (fun c17 => ?_) (fun c17 => ?_)
        · have hw := hw.1 c17
          exact t_Sch_readText_49 hx hb hml hown hT hK hN hA hRc hRs hRf hRl hNN hE hret hrec8 o l1 l2 l3 r15 x14 H locs ls fo fl1 hw hW hS (lv_sub hl [1, 2, 3, 4, 0] rfl)
        · have hw := hw.2 c17
          refine lv_aload_n hx hb d_Sch_readText_40 rfl (lv_at hl 1 rfl) ?_
          refine w_geti (k := 0) (t := 3) (C := R_Sch) (T := F_Sch) (N := 13) hx hb hT hown hK hW fo.1 fo.2 (by decide) in_Sch rfl rfl (by decide) rfl fr_Sch_0 w_1_130 d_Sch_readText_41 ?_
          refine lv_if_le (tgt := 49) hx hb d_Sch_readText_44 (by decide) (fun c18 => ?_) (fun c18 => ?_)
          · have hw := hw.1 c18
            exact t_Sch_readText_49 hx hb hml hown hT hK hN hA hRc hRs hRf hRl hNN hE hret hrec8 o l1 l2 l3 r15 x14 H locs ls fo fl1 hw hW hS (lv_sub hl [1, 2, 3, 4, 0] rfl)
          · have hw := hw.2 c18
            refine lv_iconst (v := (-1)) hx hb d_Sch_readText_47 (by decide) ?_
            exact hret (-1) x14 H locs 48 ls d_Sch_readText_48 hw hW hS
set_option maxHeartbeats 4000000 in
set_option maxRecDepth 100000 in
theorem tl_Sch_readText_8 {p : Program} {l : Launch} {e : Env} {R : Room} {s : State} {m : MethodId} {args : Array Value} {below : List Frame} {meth : Method} {c : Code} {cells slots : Nat} {Q : State → Prop} {dC : Nat → ClassId} {dI : Nat → Nat → Nat} {cI cB cJ cZ : ClassId} {A : Nat → Prop} {ad : Nat → Nat} {NN : Nat} {E : Heap} {tM tC : Nat} {kK kV : Nat → Nat} {post : Int32 → St → Prop} (hx : p.tables.exec = Jvm.exec) (hb : c.code = b_Sch_readText) (hml : c.maxLocals = 5) (hown : s.vm.findClass R_Sch = some m.cls) (hT : ∀ w ∈ TG, w.before args s = true) (hK : va_K (dC, dI) CL (TY cI cB cJ cZ) s) (hN : NW s) (hA : ∀ q : Nat, s.heap.size ≤ q → A q) (hRc : cells ≤ R.cells) (hRs : slots ≤ R.slots) (hRf : 9 ≤ R.frames) (hRl : 309 ≤ R.locals) (hNN : 152 ≤ NN) (hE : CE E tM tC kK kV A s) (hret : ∀ (r : Int32) (x : St) (H : Heap) (locs : List Loc) (pc : Nat) (ls : Array Slot), decode b_Sch_readText pc = .ok (.ireturn, 1) → post r x → Wd dC dI cI cB cJ cZ ad stC kcC NN A x H → va_S A s.heap H locs → W p l e R s m args below meth c H locs cells slots Q (F0 m pc ls [.int r]))  : ∀ n : Nat, ∀ (o : Nat) (l1 : Nat) (l2 : Int32) (l3 : Int32) (x : St) (H : Heap) (locs : List Loc) (ls : Array Slot), (o < NN ∧ kcC o = 3) → (l1 < NN ∧ kcC l1 = 2) → wl_Sch_readText_8 post n o l1 l2 l3 x → Wd dC dI cI cB cJ cZ ad stC kcC NN A x H → va_S A s.heap H locs → lv_has ls 5 [(0, .ref (ad o)), (1, .ref (ad l1)), (2, .int l2), (3, .int l3)] → W p l e R s m args below meth c H locs cells slots Q (F0 m 8 ls []) := by
  intro n
  induction n with
  | zero => intro o l1 l2 l3 x H locs ls fo fl1 hw; exact hw.elim
  | succ n ih => intro o l1 l2 l3 x H locs ls fo fl1 hw hW hS hl; exact t_Sch_readText_8 hx hb hml hown hT hK hN hA hRc hRs hRf hRl hNN hE hret  ih o l1 l2 l3 x H locs ls fo fl1 hw hW hS hl
set_option maxRecDepth 100000 in
set_option maxHeartbeats 4000000 in
set_option maxRecDepth 100000 in
theorem t_Sch_readText_e {p : Program} {l : Launch} {e : Env} {R : Room} {s : State} {m : MethodId} {args : Array Value} {below : List Frame} {meth : Method} {c : Code} {cells slots : Nat} {Q : State → Prop} {dC : Nat → ClassId} {dI : Nat → Nat → Nat} {cI cB cJ cZ : ClassId} {A : Nat → Prop} {ad : Nat → Nat} {NN : Nat} {E : Heap} {tM tC : Nat} {kK kV : Nat → Nat} {post : Int32 → St → Prop} (hx : p.tables.exec = Jvm.exec) (hb : c.code = b_Sch_readText) (hml : c.maxLocals = 5) (hown : s.vm.findClass R_Sch = some m.cls) (hT : ∀ w ∈ TG, w.before args s = true) (hK : va_K (dC, dI) CL (TY cI cB cJ cZ) s) (hN : NW s) (hA : ∀ q : Nat, s.heap.size ≤ q → A q) (hRc : cells ≤ R.cells) (hRs : slots ≤ R.slots) (hRf : 9 ≤ R.frames) (hRl : 309 ≤ R.locals) (hNN : 152 ≤ NN) (hE : CE E tM tC kK kV A s) (hret : ∀ (r : Int32) (x : St) (H : Heap) (locs : List Loc) (pc : Nat) (ls : Array Slot), decode b_Sch_readText pc = .ok (.ireturn, 1) → post r x → Wd dC dI cI cB cJ cZ ad stC kcC NN A x H → va_S A s.heap H locs → W p l e R s m args below meth c H locs cells slots Q (F0 m pc ls [.int r])) : ∀ (o : Nat) (l1 : Nat) (x : St) (H : Heap) (locs : List Loc) (ls : Array Slot), (o < NN ∧ kcC o = 3) → (l1 < NN ∧ kcC l1 = 2) → wp_Sch_readText post o l1 x → Wd dC dI cI cB cJ cZ ad stC kcC NN A x H → va_S A s.heap H locs → lv_has ls 5 [(0, .ref (ad o)), (1, .ref (ad l1))] → W p l e R s m args below meth c H locs cells slots Q (F0 m 0 ls []) := by
  intro o l1 x H locs ls fo fl1 hw hW hS hl
  unfold wp_Sch_readText at hw
  refine lv_aload_n hx hb d_Sch_readText_0 rfl (lv_at hl 0 rfl) ?_
  have hF := hW.free hS hA
  refine va_callv (va_runV (C := R_Sch) (As := []) (rest := []) ⟨hx, hb, hml, hown, hT⟩ (k_Sch_forget l dC dI cI cB cJ cZ ad NN E tM tC kK kV hNN H.size o x fo hw) ⟨callB_of 0 hT (gwt_in w_4_102) rfl rfl rfl (hT _ w_1_5) (hT _ w_4_99) (by decide +kernel) ⟨Nat.le_trans (Nat.le_of_ble_eq_true rfl) hRf, Nat.le_trans (Nat.le_of_ble_eq_true rfl) hRl⟩, hT _ w_4_100, hT _ w_4_101⟩ ⟨PVc.blind, va_recv hK hW.1 (ci := 3) (q0 := o) rfl (pic_obj fo.1 fo.2 (by decide)), PVc.at _ hW hK hN hE hS hF⟩ rfl rfl hl.1 rfl (lv_room (Nat.le_of_ble_eq_true rfl)) d_Sch_readText_1 ⟨hRc, hRs⟩) hS (fun q _ h => hF q h) hF (fun  x19 t H locs ht hvm hw hB hz1 hk1 hS => ?_)
  have hW := Wd.back hB ht hF
  clear hB ht hF hz1 hk1 hvm
  refine lv_iconst (v := (-1)) hx hb d_Sch_readText_4 (by decide) ?_
  refine lv_istore_n (lv' := [(2, .int (-1)), (0, .ref (ad o)), (1, .ref (ad l1))]) hx hb d_Sch_readText_5 rfl hl (by decide) rfl (fun ls hl => ?_)
  refine lv_iconst (v := 0) hx hb d_Sch_readText_6 (by decide) ?_
  refine lv_istore_n (lv' := [(3, .int 0), (2, .int (-1)), (0, .ref (ad o)), (1, .ref (ad l1))]) hx hb d_Sch_readText_7 rfl hl (by decide) rfl (fun ls hl => ?_)
  obtain ⟨n, hw⟩ := hw
  exact tl_Sch_readText_8 hx hb hml hown hT hK hN hA hRc hRs hRf hRl hNN hE hret  n o l1 (-1) 0 x19 H locs ls fo fl1 hw hW hS (lv_sub hl [2, 3, 1, 0] rfl)
set_option maxHeartbeats 4000000 in
set_option maxRecDepth 100000 in
theorem k_Sch_readText (l : Launch) (dC : Nat → ClassId) (dI : Nat → Nat → Nat) (cI cB cJ cZ : ClassId) (ad : Nat → Nat) (NN : Nat) (E : Heap) (tM tC : Nat) (kK kV : Nat → Nat) (hNN : 152 ≤ NN) (sz : Nat) (o : Nat) (l1 : Nat) (x : St) (fo : o < NN ∧ kcC o = 3) (fl1 : l1 < NN ∧ kcC l1 = 2) {post : Int32 → St → Prop} (hw : wp_Sch_readText post o l1 x) : Met l y_Sch_readText (wsOf y_Sch_readText b_Sch_readText 5 (some (.int))) ({ frames := 9, cells := 0, slots := 0, locals := 309 }) (va_Pc [.ref (ad o), .ref (ad l1)] (PVc dC dI cI cB cJ cZ ad stC kcC NN E tM tC kK kV sz x)) (va_Qi (fun (r : Int32) (y : St) => post r y) (fun y t => Wd dC dI cI cB cJ cZ ad stC kcC NN (va_A (pic ad stC kcC NN cI cB cJ cZ x) sz) y t.heap) (va_A (pic ad stC kcC NN cI cB cJ cZ x) sz)) 0 0 (va_A (pic ad stC kcC NN cI cB cJ cZ x) sz) := by
  refine Met.ofW (cc := b_Sch_readText) (maxL := 5) (ret := some (.int)) (by decide) rfl ?_
  intro p e s m args below meth c s₁ B hml hv
  obtain ⟨rfl, ⟨hsz, hW0, hK, hN⟩, hE⟩ := hv
  have hx := B.exec
  have hb := B.bytes
  have hr := B.returns
  have hts := atoms_spec B.pre
  have hT : ∀ w ∈ TG, w.before _ s = true := fun w h => hts w (List.mem_cons_of_mem _ h)
  have hown : s.vm.findClass R_Sch = some m.cls := findClass_of_methodNamed B.named
  have hlocks := B.notSynchronized
  subst hsz
  have hW : Wd dC dI cI cB cJ cZ ad stC kcC NN (va_A (pic ad stC kcC NN cI cB cJ cZ x) s.heap.size) x s.heap := ⟨hW0.1, hW0.2.1.self (sz := s.heap.size), hW0.2.2⟩
  generalize hAe : va_A (pic ad stC kcC NN cI cB cJ cZ x) s.heap.size = A at hW hE ⊢
  have hA : ∀ q : Nat, s.heap.size ≤ q → A q := fun q h => by rw [← hAe]; exact Or.inr h
  have hS : va_S A s.heap s.heap [] := va_S.rf
  have hl := lv_entry ([.ref (ad o), .ref (ad l1)]) (n := 5) (Nat.le_of_ble_eq_true rfl)
  rw [lg_entry_eq]
  generalize (lg_sl ([.ref (ad o), .ref (ad l1)]) ++ List.replicate (5 - (lg_sl ([.ref (ad o), .ref (ad l1)])).length) Slot.unset).toArray = ls at hl ⊢
  have hl : lv_has ls 5 [(0, .ref (ad o)), (1, .ref (ad l1))] := hl
  exact t_Sch_readText_e hx hb hml hown hT hK hN hA (Nat.le_refl 0) (Nat.le_refl 0) (Nat.le_refl 9) (Nat.le_refl 309) hNN hE (fun r x H locs pc ls hd hp hW hS => W.iret (v := r) hx hb hr (fun t ht hM => ⟨⟨r, x, rfl, hp, Wd.back hW ht.symm (fun _ z => z)⟩, hS.F ht⟩) hS.2.2 hd hlocks)  o l1 x _ _ ls fo fl1 hw hW hS hl
end
