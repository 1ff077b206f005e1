theorem fr_Scn_4 : F_Scn 4 = (R_Scn, "wordAt", "I", false) := rfl
theorem fr_Scn_5 : F_Scn 5 = (R_Scn, "wordSize", "I", false) := rfl
theorem w_1_1 : (Jvm.Cond.initialized "StripedVault") ∈ TG := tw_1 1 (by decide +kernel) (by decide +kernel)
theorem w_1_93 : (Jvm.Cond.fieldLink "StripedVault$Scan" (39 : Nat) "StripedVault$Scan" "wordAt" "I") ∈ TG := tw_1 93 (by decide +kernel) (by decide +kernel)
theorem w_1_97 : (Jvm.Cond.fieldLink "StripedVault$Scan" (45 : Nat) "StripedVault$Scan" "wordSize" "I") ∈ TG := tw_1 97 (by decide +kernel) (by decide +kernel)
theorem w_4_103 : (Jvm.Cond.methodLink "StripedVault$Schema" (88 : Nat) ({ cls := "StripedVault$Scan", name := "good", desc := "()Z" } : Jvm.MethodName)) ∈ TG := tw_4 103 (by decide +kernel) (by decide +kernel)
theorem w_4_138 : (Jvm.Cond.methodLink "StripedVault$Schema" (143 : Nat) ({ cls := "StripedVault$Scan", name := "takeWord", desc := "(Ljava/lang/String;)Z" } : Jvm.MethodName)) ∈ TG := tw_4 138 (by decide +kernel) (by decide +kernel)
theorem w_4_139 : (Jvm.Cond.instanceMethod ({ cls := "StripedVault$Scan", name := "takeWord", desc := "(Ljava/lang/String;)Z" } : Jvm.MethodName)) ∈ TG := tw_4 139 (by decide +kernel) (by decide +kernel)
theorem w_4_140 : (Jvm.Cond.selects "StripedVault$Scan" ({ cls := "StripedVault$Scan", name := "takeWord", desc := "(Ljava/lang/String;)Z" } : Jvm.MethodName) ({ cls := "StripedVault$Scan", name := "takeWord", desc := "(Ljava/lang/String;)Z" } : Jvm.MethodName)) ∈ TG := tw_4 140 (by decide +kernel) (by decide +kernel)
theorem w_4_141 : (Jvm.Cond.code ({ cls := "StripedVault$Scan", name := "takeWord", desc := "(Ljava/lang/String;)Z" } : Jvm.MethodName) prog_7_method_9_code (2 : Nat) (Option.some Jvm.ClassFile.FieldType.boolean)) ∈ TG := tw_4 141 (by decide +kernel) (by decide +kernel)
theorem w_4_142 : (Jvm.Cond.methodLink "StripedVault$Scan" (57 : Nat) ({ cls := "StripedVault$Scan", name := "takeAnyWord", desc := "()Z" } : Jvm.MethodName)) ∈ TG := tw_4 142 (by decide +kernel) (by decide +kernel)
theorem w_4_143 : (Jvm.Cond.instanceMethod ({ cls := "StripedVault$Scan", name := "takeAnyWord", desc := "()Z" } : Jvm.MethodName)) ∈ TG := tw_4 143 (by decide +kernel) (by decide +kernel)
theorem w_4_144 : (Jvm.Cond.selects "StripedVault$Scan" ({ cls := "StripedVault$Scan", name := "takeAnyWord", desc := "()Z" } : Jvm.MethodName) ({ cls := "StripedVault$Scan", name := "takeAnyWord", desc := "()Z" } : Jvm.MethodName)) ∈ TG := tw_4 144 (by decide +kernel) (by decide +kernel)
theorem w_4_145 : (Jvm.Cond.code ({ cls := "StripedVault$Scan", name := "takeAnyWord", desc := "()Z" } : Jvm.MethodName) prog_7_method_7_code (1 : Nat) (Option.some Jvm.ClassFile.FieldType.boolean)) ∈ TG := tw_4 145 (by decide +kernel) (by decide +kernel)
theorem w_4_147 : (Jvm.Cond.static ({ cls := "StripedVault", name := "isLetter", desc := "(I)Z" } : Jvm.MethodName)) ∈ TG := tw_4 147 (by decide +kernel) (by decide +kernel)
theorem w_4_148 : (Jvm.Cond.code ({ cls := "StripedVault", name := "isLetter", desc := "(I)Z" } : Jvm.MethodName) prog_1_method_28_code (1 : Nat) (Option.some Jvm.ClassFile.FieldType.boolean)) ∈ TG := tw_4 148 (by decide +kernel) (by decide +kernel)
theorem w_4_150 : (Jvm.Cond.static ({ cls := "StripedVault", name := "isOfWord", desc := "(I)Z" } : Jvm.MethodName)) ∈ TG := tw_4 150 (by decide +kernel) (by decide +kernel)
theorem w_4_151 : (Jvm.Cond.code ({ cls := "StripedVault", name := "isOfWord", desc := "(I)Z" } : Jvm.MethodName) prog_1_method_30_code (1 : Nat) (Option.some Jvm.ClassFile.FieldType.boolean)) ∈ TG := tw_4 151 (by decide +kernel) (by decide +kernel)
theorem w_4_152 : (Jvm.Cond.methodLink "StripedVault$Scan" (61 : Nat) ({ cls := "StripedVault$Scan", name := "isWord", desc := "(Ljava/lang/String;)Z" } : Jvm.MethodName)) ∈ TG := tw_4 152 (by decide +kernel) (by decide +kernel)
theorem w_4_153 : (Jvm.Cond.instanceMethod ({ cls := "StripedVault$Scan", name := "isWord", desc := "(Ljava/lang/String;)Z" } : Jvm.MethodName)) ∈ TG := tw_4 153 (by decide +kernel) (by decide +kernel)
theorem w_4_154 : (Jvm.Cond.selects "StripedVault$Scan" ({ cls := "StripedVault$Scan", name := "isWord", desc := "(Ljava/lang/String;)Z" } : Jvm.MethodName) ({ cls := "StripedVault$Scan", name := "isWord", desc := "(Ljava/lang/String;)Z" } : Jvm.MethodName)) ∈ TG := tw_4 154 (by decide +kernel) (by decide +kernel)
theorem w_4_155 : (Jvm.Cond.code ({ cls := "StripedVault$Scan", name := "isWord", desc := "(Ljava/lang/String;)Z" } : Jvm.MethodName) prog_7_method_8_code (3 : Nat) (Option.some Jvm.ClassFile.FieldType.boolean)) ∈ TG := tw_4 155 (by decide +kernel) (by decide +kernel)
theorem w_4_156 : (Jvm.Cond.methodLink "StripedVault$Scan" (48 : Nat) ({ cls := "java/lang/String", name := "length", desc := "()I" } : Jvm.MethodName)) ∈ TG := tw_4 156 (by decide +kernel) (by decide +kernel)
theorem w_4_157 : (Jvm.Cond.instanceMethod ({ cls := "java/lang/String", name := "length", desc := "()I" } : Jvm.MethodName)) ∈ TG := tw_4 157 (by decide +kernel) (by decide +kernel)
theorem w_4_158 : (Jvm.Cond.selects "java/lang/String" ({ cls := "java/lang/String", name := "length", desc := "()I" } : Jvm.MethodName) ({ cls := "java/lang/String", name := "length", desc := "()I" } : Jvm.MethodName)) ∈ TG := tw_4 158 (by decide +kernel) (by decide +kernel)
theorem w_4_159 : (Jvm.Cond.code ({ cls := "java/lang/String", name := "length", desc := "()I" } : Jvm.MethodName) prog_18_method_54_code (1 : Nat) (Option.some Jvm.ClassFile.FieldType.int)) ∈ TG := tw_4 159 (by decide +kernel) (by decide +kernel)
theorem w_4_166 : (Jvm.Cond.methodLink "StripedVault$Scan" (53 : Nat) ({ cls := "java/lang/String", name := "charAt", desc := "(I)C" } : Jvm.MethodName)) ∈ TG := tw_4 166 (by decide +kernel) (by decide +kernel)
theorem w_4_167 : (Jvm.Cond.instanceMethod ({ cls := "java/lang/String", name := "charAt", desc := "(I)C" } : Jvm.MethodName)) ∈ TG := tw_4 167 (by decide +kernel) (by decide +kernel)
theorem w_4_168 : (Jvm.Cond.selects "java/lang/String" ({ cls := "java/lang/String", name := "charAt", desc := "(I)C" } : Jvm.MethodName) ({ cls := "java/lang/String", name := "charAt", desc := "(I)C" } : Jvm.MethodName)) ∈ TG := tw_4 168 (by decide +kernel) (by decide +kernel)
theorem w_4_169 : (Jvm.Cond.code ({ cls := "java/lang/String", name := "charAt", desc := "(I)C" } : Jvm.MethodName) prog_18_method_56_code (2 : Nat) (Option.some Jvm.ClassFile.FieldType.char)) ∈ TG := tw_4 169 (by decide +kernel) (by decide +kernel)
theorem w_4_206 : (Jvm.Cond.methodLink "StripedVault$Schema" (151 : Nat) ({ cls := "StripedVault$Scan", name := "needWord", desc := "(Ljava/lang/String;)V" } : Jvm.MethodName)) ∈ TG := tw_4 206 (by decide +kernel) (by decide +kernel)
theorem w_4_207 : (Jvm.Cond.instanceMethod ({ cls := "StripedVault$Scan", name := "needWord", desc := "(Ljava/lang/String;)V" } : Jvm.MethodName)) ∈ TG := tw_4 207 (by decide +kernel) (by decide +kernel)
theorem w_4_208 : (Jvm.Cond.selects "StripedVault$Scan" ({ cls := "StripedVault$Scan", name := "needWord", desc := "(Ljava/lang/String;)V" } : Jvm.MethodName) ({ cls := "StripedVault$Scan", name := "needWord", desc := "(Ljava/lang/String;)V" } : Jvm.MethodName)) ∈ TG := tw_4 208 (by decide +kernel) (by decide +kernel)
theorem w_4_209 : (Jvm.Cond.code ({ cls := "StripedVault$Scan", name := "needWord", desc := "(Ljava/lang/String;)V" } : Jvm.MethodName) prog_7_method_12_code (2 : Nat) (Option.none : Option Jvm.ClassFile.FieldType)) ∈ TG := tw_4 209 (by decide +kernel) (by decide +kernel)
theorem w_4_210 : (Jvm.Cond.methodLink "StripedVault$Scan" (76 : Nat) ({ cls := "StripedVault$Scan", name := "takeWord", desc := "(Ljava/lang/String;)Z" } : Jvm.MethodName)) ∈ TG := tw_4 210 (by decide +kernel) (by decide +kernel)
theorem w_4_230 : (Jvm.Cond.methodLink "StripedVault$Schema" (53 : Nat) ({ cls := "StripedVault$Schema", name := "pastOf", desc := "(I)I" } : Jvm.MethodName)) ∈ TG := tw_4 230 (by decide +kernel) (by decide +kernel)
theorem w_4_231 : (Jvm.Cond.instanceMethod ({ cls := "StripedVault$Schema", name := "pastOf", desc := "(I)I" } : Jvm.MethodName)) ∈ TG := tw_4 231 (by decide +kernel) (by decide +kernel)
theorem w_4_232 : (Jvm.Cond.selects "StripedVault$Schema" ({ cls := "StripedVault$Schema", name := "pastOf", desc := "(I)I" } : Jvm.MethodName) ({ cls := "StripedVault$Schema", name := "pastOf", desc := "(I)I" } : Jvm.MethodName)) ∈ TG := tw_4 232 (by decide +kernel) (by decide +kernel)
theorem w_4_233 : (Jvm.Cond.code ({ cls := "StripedVault$Schema", name := "pastOf", desc := "(I)I" } : Jvm.MethodName) prog_8_method_4_code (2 : Nat) (Option.some Jvm.ClassFile.FieldType.int)) ∈ TG := tw_4 233 (by decide +kernel) (by decide +kernel)
theorem w_4_234 : (Jvm.Cond.methodLink "StripedVault$Schema" (57 : Nat) ({ cls := "StripedVault$Schema", name := "firstIn", desc := "(I)I" } : Jvm.MethodName)) ∈ TG := tw_4 234 (by decide +kernel) (by decide +kernel)
theorem w_4_235 : (Jvm.Cond.instanceMethod ({ cls := "StripedVault$Schema", name := "firstIn", desc := "(I)I" } : Jvm.MethodName)) ∈ TG := tw_4 235 (by decide +kernel) (by decide +kernel)
theorem w_4_236 : (Jvm.Cond.selects "StripedVault$Schema" ({ cls := "StripedVault$Schema", name := "firstIn", desc := "(I)I" } : Jvm.MethodName) ({ cls := "StripedVault$Schema", name := "firstIn", desc := "(I)I" } : Jvm.MethodName)) ∈ TG := tw_4 236 (by decide +kernel) (by decide +kernel)
theorem w_4_237 : (Jvm.Cond.code ({ cls := "StripedVault$Schema", name := "firstIn", desc := "(I)I" } : Jvm.MethodName) prog_8_method_3_code (2 : Nat) (Option.some Jvm.ClassFile.FieldType.int)) ∈ TG := tw_4 237 (by decide +kernel) (by decide +kernel)
theorem w_4_238 : (Jvm.Cond.methodLink "StripedVault$Schema" (60 : Nat) ({ cls := "StripedVault$Schema", name := "hasName", desc := "(I[BII)Z" } : Jvm.MethodName)) ∈ TG := tw_4 238 (by decide +kernel) (by decide +kernel)
theorem w_4_239 : (Jvm.Cond.instanceMethod ({ cls := "StripedVault$Schema", name := "hasName", desc := "(I[BII)Z" } : Jvm.MethodName)) ∈ TG := tw_4 239 (by decide +kernel) (by decide +kernel)
theorem w_5_0 : (Jvm.Cond.selects "StripedVault$Schema" ({ cls := "StripedVault$Schema", name := "hasName", desc := "(I[BII)Z" } : Jvm.MethodName) ({ cls := "StripedVault$Schema", name := "hasName", desc := "(I[BII)Z" } : Jvm.MethodName)) ∈ TG := tw_5 0 (by decide +kernel) (by decide +kernel)
theorem w_5_1 : (Jvm.Cond.code ({ cls := "StripedVault$Schema", name := "hasName", desc := "(I[BII)Z" } : Jvm.MethodName) prog_8_method_10_code (7 : Nat) (Option.some Jvm.ClassFile.FieldType.boolean)) ∈ TG := tw_5 1 (by decide +kernel) (by decide +kernel)
theorem wn_4_146 : (Jvm.Cond.methodLinkNest "StripedVault$Scan" (35 : Nat) ({ cls := "StripedVault", name := "isLetter", desc := "(I)Z" } : Jvm.MethodName) "StripedVault") ∈ lw_tbl := tb_4 _ (List.mem_of_getElem? (i := 146) (by decide +kernel))
theorem wn_4_149 : (Jvm.Cond.methodLinkNest "StripedVault$Scan" (42 : Nat) ({ cls := "StripedVault", name := "isOfWord", desc := "(I)Z" } : Jvm.MethodName) "StripedVault") ∈ lw_tbl := tb_4 _ (List.mem_of_getElem? (i := 149) (by decide +kernel))
theorem d_Scn_takeAnyWord_63 : decode b_Scn_takeAnyWord 63 = .ok (.aload_n 0, 1) := by decide +kernel
theorem d_Scn_takeAnyWord_64 : decode b_Scn_takeAnyWord 64 = .ok (.aload_n 0, 1) := by decide +kernel
theorem d_Scn_takeAnyWord_65 : decode b_Scn_takeAnyWord 65 = .ok (.getfield 28, 3) := by decide +kernel
theorem d_Scn_takeAnyWord_68 : decode b_Scn_takeAnyWord 68 = .ok (.aload_n 0, 1) := by decide +kernel
theorem d_Scn_takeAnyWord_69 : decode b_Scn_takeAnyWord 69 = .ok (.getfield 39, 3) := by decide +kernel
theorem d_Scn_takeAnyWord_72 : decode b_Scn_takeAnyWord 72 = .ok (.isub, 1) := by decide +kernel
theorem d_Scn_takeAnyWord_73 : decode b_Scn_takeAnyWord 73 = .ok (.putfield 45, 3) := by decide +kernel
theorem d_Scn_takeAnyWord_76 : decode b_Scn_takeAnyWord 76 = .ok (.iconst 1, 1) := by decide +kernel
theorem d_Scn_takeAnyWord_77 : decode b_Scn_takeAnyWord 77 = .ok (.ireturn, 1) := by decide +kernel
theorem d_Scn_takeAnyWord_20 : decode b_Scn_takeAnyWord 20 = .ok (.aload_n 0, 1) := by decide +kernel
theorem d_Scn_takeAnyWord_21 : decode b_Scn_takeAnyWord 21 = .ok (.getfield 28, 3) := by decide +kernel
theorem d_Scn_takeAnyWord_24 : decode b_Scn_takeAnyWord 24 = .ok (.aload_n 0, 1) := by decide +kernel
theorem d_Scn_takeAnyWord_25 : decode b_Scn_takeAnyWord 25 = .ok (.getfield 25, 3) := by decide +kernel
theorem d_Scn_takeAnyWord_28 : decode b_Scn_takeAnyWord 28 = .ok (.if_icmp .ge 35, 3) := by decide +kernel
theorem d_Scn_takeAnyWord_31 : decode b_Scn_takeAnyWord 31 = .ok (.aload_n 0, 1) := by decide +kernel
theorem d_Scn_takeAnyWord_32 : decode b_Scn_takeAnyWord 32 = .ok (.getfield 9, 3) := by decide +kernel
theorem d_Scn_takeAnyWord_35 : decode b_Scn_takeAnyWord 35 = .ok (.aload_n 0, 1) := by decide +kernel
theorem d_Scn_takeAnyWord_36 : decode b_Scn_takeAnyWord 36 = .ok (.getfield 28, 3) := by decide +kernel
theorem d_Scn_takeAnyWord_39 : decode b_Scn_takeAnyWord 39 = .ok (.baload, 1) := by decide +kernel
theorem d_Scn_takeAnyWord_40 : decode b_Scn_takeAnyWord 40 = .ok (.sipush 255, 3) := by decide +kernel
theorem d_Scn_takeAnyWord_43 : decode b_Scn_takeAnyWord 43 = .ok (.iand, 1) := by decide +kernel
theorem d_Scn_takeAnyWord_44 : decode b_Scn_takeAnyWord 44 = .ok (.invokestatic 42, 3) := by decide +kernel
theorem d_Scn_takeAnyWord_47 : decode b_Scn_takeAnyWord 47 = .ok (.ifCond .eq 16, 3) := by decide +kernel
theorem d_Scn_takeAnyWord_50 : decode b_Scn_takeAnyWord 50 = .ok (.aload_n 0, 1) := by decide +kernel
theorem d_Scn_takeAnyWord_51 : decode b_Scn_takeAnyWord 51 = .ok (.dup, 1) := by decide +kernel
theorem d_Scn_takeAnyWord_52 : decode b_Scn_takeAnyWord 52 = .ok (.getfield 28, 3) := by decide +kernel
theorem d_Scn_takeAnyWord_55 : decode b_Scn_takeAnyWord 55 = .ok (.iconst 1, 1) := by decide +kernel
theorem d_Scn_takeAnyWord_56 : decode b_Scn_takeAnyWord 56 = .ok (.iadd, 1) := by decide +kernel
theorem d_Scn_takeAnyWord_57 : decode b_Scn_takeAnyWord 57 = .ok (.putfield 28, 3) := by decide +kernel
theorem d_Scn_takeAnyWord_60 : decode b_Scn_takeAnyWord 60 = .ok (.goto (-40), 3) := by decide +kernel
theorem d_Scn_takeAnyWord_0 : decode b_Scn_takeAnyWord 0 = .ok (.aload_n 0, 1) := by decide +kernel
theorem d_Scn_takeAnyWord_1 : decode b_Scn_takeAnyWord 1 = .ok (.invokevirtual 31, 3) := by decide +kernel
theorem d_Scn_takeAnyWord_4 : decode b_Scn_takeAnyWord 4 = .ok (.invokestatic 35, 3) := by decide +kernel
theorem d_Scn_takeAnyWord_7 : decode b_Scn_takeAnyWord 7 = .ok (.ifCond .ne 5, 3) := by decide +kernel
theorem d_Scn_takeAnyWord_12 : decode b_Scn_takeAnyWord 12 = .ok (.aload_n 0, 1) := by decide +kernel
theorem d_Scn_takeAnyWord_13 : decode b_Scn_takeAnyWord 13 = .ok (.aload_n 0, 1) := by decide +kernel
theorem d_Scn_takeAnyWord_14 : decode b_Scn_takeAnyWord 14 = .ok (.getfield 28, 3) := by decide +kernel
theorem d_Scn_takeAnyWord_17 : decode b_Scn_takeAnyWord 17 = .ok (.putfield 39, 3) := by decide +kernel
theorem d_Scn_takeAnyWord_10 : decode b_Scn_takeAnyWord 10 = .ok (.iconst 0, 1) := by decide +kernel
theorem d_Scn_takeAnyWord_11 : decode b_Scn_takeAnyWord 11 = .ok (.ireturn, 1) := by decide +kernel
theorem d_Scn_isWord_15 : decode b_Scn_isWord 15 = .ok (.iload_n 2, 1) := by decide +kernel
theorem d_Scn_isWord_16 : decode b_Scn_isWord 16 = .ok (.aload_n 0, 1) := by decide +kernel
theorem d_Scn_isWord_17 : decode b_Scn_isWord 17 = .ok (.getfield 45, 3) := by decide +kernel
theorem d_Scn_isWord_20 : decode b_Scn_isWord 20 = .ok (.if_icmp .ge 34, 3) := by decide +kernel
theorem d_Scn_isWord_54 : decode b_Scn_isWord 54 = .ok (.iconst 1, 1) := by decide +kernel
theorem d_Scn_isWord_55 : decode b_Scn_isWord 55 = .ok (.ireturn, 1) := by decide +kernel
theorem d_Scn_isWord_23 : decode b_Scn_isWord 23 = .ok (.aload_n 0, 1) := by decide +kernel
theorem d_Scn_isWord_24 : decode b_Scn_isWord 24 = .ok (.getfield 9, 3) := by decide +kernel
theorem d_Scn_isWord_27 : decode b_Scn_isWord 27 = .ok (.aload_n 0, 1) := by decide +kernel
theorem d_Scn_isWord_28 : decode b_Scn_isWord 28 = .ok (.getfield 39, 3) := by decide +kernel
theorem d_Scn_isWord_31 : decode b_Scn_isWord 31 = .ok (.iload_n 2, 1) := by decide +kernel
theorem d_Scn_isWord_32 : decode b_Scn_isWord 32 = .ok (.iadd, 1) := by decide +kernel
theorem d_Scn_isWord_33 : decode b_Scn_isWord 33 = .ok (.baload, 1) := by decide +kernel
theorem d_Scn_isWord_34 : decode b_Scn_isWord 34 = .ok (.sipush 255, 3) := by decide +kernel
theorem d_Scn_isWord_37 : decode b_Scn_isWord 37 = .ok (.iand, 1) := by decide +kernel
theorem d_Scn_isWord_38 : decode b_Scn_isWord 38 = .ok (.aload_n 1, 1) := by decide +kernel
theorem d_Scn_isWord_39 : decode b_Scn_isWord 39 = .ok (.iload_n 2, 1) := by decide +kernel
theorem d_Scn_isWord_40 : decode b_Scn_isWord 40 = .ok (.invokevirtual 53, 3) := by decide +kernel
theorem d_Scn_isWord_43 : decode b_Scn_isWord 43 = .ok (.if_icmp .eq 5, 3) := by decide +kernel
theorem d_Scn_isWord_48 : decode b_Scn_isWord 48 = .ok (.iinc 2 1, 3) := by decide +kernel
theorem d_Scn_isWord_51 : decode b_Scn_isWord 51 = .ok (.goto (-36), 3) := by decide +kernel
theorem d_Scn_isWord_46 : decode b_Scn_isWord 46 = .ok (.iconst 0, 1) := by decide +kernel
theorem d_Scn_isWord_47 : decode b_Scn_isWord 47 = .ok (.ireturn, 1) := by decide +kernel
theorem d_Scn_isWord_0 : decode b_Scn_isWord 0 = .ok (.aload_n 0, 1) := by decide +kernel
theorem d_Scn_isWord_1 : decode b_Scn_isWord 1 = .ok (.getfield 45, 3) := by decide +kernel
theorem d_Scn_isWord_4 : decode b_Scn_isWord 4 = .ok (.aload_n 1, 1) := by decide +kernel
theorem d_Scn_isWord_5 : decode b_Scn_isWord 5 = .ok (.invokevirtual 48, 3) := by decide +kernel
theorem d_Scn_isWord_8 : decode b_Scn_isWord 8 = .ok (.if_icmp .eq 5, 3) := by decide +kernel
theorem d_Scn_isWord_13 : decode b_Scn_isWord 13 = .ok (.iconst 0, 1) := by decide +kernel
theorem d_Scn_isWord_14 : decode b_Scn_isWord 14 = .ok (.istore_n 2, 1) := by decide +kernel
theorem d_Scn_isWord_11 : decode b_Scn_isWord 11 = .ok (.iconst 0, 1) := by decide +kernel
theorem d_Scn_isWord_12 : decode b_Scn_isWord 12 = .ok (.ireturn, 1) := by decide +kernel
theorem d_Scn_takeWord_0 : decode b_Scn_takeWord 0 = .ok (.aload_n 0, 1) := by decide +kernel
theorem d_Scn_takeWord_1 : decode b_Scn_takeWord 1 = .ok (.invokevirtual 57, 3) := by decide +kernel
theorem d_Scn_takeWord_4 : decode b_Scn_takeWord 4 = .ok (.ifCond .ne 5, 3) := by decide +kernel
theorem d_Scn_takeWord_9 : decode b_Scn_takeWord 9 = .ok (.aload_n 0, 1) := by decide +kernel
theorem d_Scn_takeWord_10 : decode b_Scn_takeWord 10 = .ok (.aload_n 1, 1) := by decide +kernel
theorem d_Scn_takeWord_11 : decode b_Scn_takeWord 11 = .ok (.invokevirtual 61, 3) := by decide +kernel
theorem d_Scn_takeWord_14 : decode b_Scn_takeWord 14 = .ok (.ifCond .eq 5, 3) := by decide +kernel
theorem d_Scn_takeWord_19 : decode b_Scn_takeWord 19 = .ok (.aload_n 0, 1) := by decide +kernel
theorem d_Scn_takeWord_20 : decode b_Scn_takeWord 20 = .ok (.aload_n 0, 1) := by decide +kernel
theorem d_Scn_takeWord_21 : decode b_Scn_takeWord 21 = .ok (.getfield 39, 3) := by decide +kernel
theorem d_Scn_takeWord_24 : decode b_Scn_takeWord 24 = .ok (.putfield 28, 3) := by decide +kernel
theorem d_Scn_takeWord_27 : decode b_Scn_takeWord 27 = .ok (.iconst 0, 1) := by decide +kernel
theorem d_Scn_takeWord_28 : decode b_Scn_takeWord 28 = .ok (.ireturn, 1) := by decide +kernel
theorem d_Scn_takeWord_17 : decode b_Scn_takeWord 17 = .ok (.iconst 1, 1) := by decide +kernel
theorem d_Scn_takeWord_18 : decode b_Scn_takeWord 18 = .ok (.ireturn, 1) := by decide +kernel
theorem d_Scn_takeWord_7 : decode b_Scn_takeWord 7 = .ok (.iconst 0, 1) := by decide +kernel
theorem d_Scn_takeWord_8 : decode b_Scn_takeWord 8 = .ok (.ireturn, 1) := by decide +kernel
theorem d_Scn_needWord_0 : decode b_Scn_needWord 0 = .ok (.aload_n 0, 1) := by decide +kernel
theorem d_Scn_needWord_1 : decode b_Scn_needWord 1 = .ok (.invokevirtual 65, 3) := by decide +kernel
theorem d_Scn_needWord_4 : decode b_Scn_needWord 4 = .ok (.ifCond .eq 19, 3) := by decide +kernel
theorem d_Scn_needWord_23 : decode b_Scn_needWord 23 = .ok (.return_, 1) := by decide +kernel
theorem d_Scn_needWord_7 : decode b_Scn_needWord 7 = .ok (.aload_n 0, 1) := by decide +kernel
theorem d_Scn_needWord_8 : decode b_Scn_needWord 8 = .ok (.aload_n 1, 1) := by decide +kernel
theorem d_Scn_needWord_9 : decode b_Scn_needWord 9 = .ok (.invokevirtual 76, 3) := by decide +kernel
theorem d_Scn_needWord_12 : decode b_Scn_needWord 12 = .ok (.ifCond .ne 11, 3) := by decide +kernel
theorem d_Scn_needWord_15 : decode b_Scn_needWord 15 = .ok (.aload_n 0, 1) := by decide +kernel
theorem d_Scn_needWord_16 : decode b_Scn_needWord 16 = .ok (.aload_n 0, 1) := by decide +kernel
theorem d_Scn_needWord_17 : decode b_Scn_needWord 17 = .ok (.getfield 28, 3) := by decide +kernel
theorem d_Scn_needWord_20 : decode b_Scn_needWord 20 = .ok (.invokevirtual 72, 3) := by decide +kernel
theorem d_Sch_readMode_0 : decode b_Sch_readMode 0 = .ok (.aload_n 1, 1) := by decide +kernel
theorem d_Sch_readMode_1 : decode b_Sch_readMode 1 = .ok (.ldc 141, 2) := by decide +kernel
theorem d_Sch_readMode_3 : decode b_Sch_readMode 3 = .ok (.invokevirtual 143, 3) := by decide +kernel
theorem d_Sch_readMode_6 : decode b_Sch_readMode 6 = .ok (.ifCond .eq 5, 3) := by decide +kernel
theorem d_Sch_readMode_11 : decode b_Sch_readMode 11 = .ok (.aload_n 1, 1) := by decide +kernel
theorem d_Sch_readMode_12 : decode b_Sch_readMode 12 = .ok (.ldc 147, 2) := by decide +kernel
theorem d_Sch_readMode_14 : decode b_Sch_readMode 14 = .ok (.invokevirtual 143, 3) := by decide +kernel
theorem d_Sch_readMode_17 : decode b_Sch_readMode 17 = .ok (.ifCond .eq 5, 3) := by decide +kernel
theorem d_Sch_readMode_22 : decode b_Sch_readMode 22 = .ok (.aload_n 1, 1) := by decide +kernel
theorem d_Sch_readMode_23 : decode b_Sch_readMode 23 = .ok (.ldc 149, 2) := by decide +kernel
theorem d_Sch_readMode_25 : decode b_Sch_readMode 25 = .ok (.invokevirtual 151, 3) := by decide +kernel
theorem d_Sch_readMode_28 : decode b_Sch_readMode 28 = .ok (.iconst 2, 1) := by decide +kernel
theorem d_Sch_readMode_29 : decode b_Sch_readMode 29 = .ok (.ireturn, 1) := by decide +kernel
theorem d_Sch_readMode_20 : decode b_Sch_readMode 20 = .ok (.iconst 1, 1) := by decide +kernel
theorem d_Sch_readMode_21 : decode b_Sch_readMode 21 = .ok (.ireturn, 1) := by decide +kernel
theorem d_Sch_readMode_9 : decode b_Sch_readMode 9 = .ok (.iconst 0, 1) := by decide +kernel
theorem d_Sch_readMode_10 : decode b_Sch_readMode 10 = .ok (.ireturn, 1) := by decide +kernel
theorem d_Sch_readType_0 : decode b_Sch_readType 0 = .ok (.aload_n 1, 1) := by decide +kernel
theorem d_Sch_readType_1 : decode b_Sch_readType 1 = .ok (.invokevirtual 88, 3) := by decide +kernel
theorem d_Sch_readType_4 : decode b_Sch_readType 4 = .ok (.ifCond .ne 5, 3) := by decide +kernel
theorem d_Sch_readType_9 : decode b_Sch_readType 9 = .ok (.aload_n 1, 1) := by decide +kernel
theorem d_Sch_readType_10 : decode b_Sch_readType 10 = .ok (.ldc 155, 2) := by decide +kernel
theorem d_Sch_readType_12 : decode b_Sch_readType 12 = .ok (.invokevirtual 143, 3) := by decide +kernel
theorem d_Sch_readType_15 : decode b_Sch_readType 15 = .ok (.ifCond .eq 5, 3) := by decide +kernel
theorem d_Sch_readType_20 : decode b_Sch_readType 20 = .ok (.aload_n 1, 1) := by decide +kernel
theorem d_Sch_readType_21 : decode b_Sch_readType 21 = .ok (.ldc 157, 2) := by decide +kernel
theorem d_Sch_readType_23 : decode b_Sch_readType 23 = .ok (.invokevirtual 143, 3) := by decide +kernel
theorem d_Sch_readType_26 : decode b_Sch_readType 26 = .ok (.ifCond .eq 5, 3) := by decide +kernel
theorem d_Sch_readType_31 : decode b_Sch_readType 31 = .ok (.aload_n 1, 1) := by decide +kernel
theorem d_Sch_readType_32 : decode b_Sch_readType 32 = .ok (.ldc 159, 2) := by decide +kernel
theorem d_Sch_readType_34 : decode b_Sch_readType 34 = .ok (.invokevirtual 143, 3) := by decide +kernel
theorem d_Sch_readType_37 : decode b_Sch_readType 37 = .ok (.ifCond .eq 5, 3) := by decide +kernel
theorem d_Sch_readType_42 : decode b_Sch_readType 42 = .ok (.aload_n 1, 1) := by decide +kernel
theorem d_Sch_readType_43 : decode b_Sch_readType 43 = .ok (.ldc 161, 2) := by decide +kernel
theorem d_Sch_readType_45 : decode b_Sch_readType 45 = .ok (.invokevirtual 143, 3) := by decide +kernel
theorem d_Sch_readType_48 : decode b_Sch_readType 48 = .ok (.ifCond .eq 5, 3) := by decide +kernel
theorem d_Sch_readType_53 : decode b_Sch_readType 53 = .ok (.aload_n 1, 1) := by decide +kernel
theorem d_Sch_readType_54 : decode b_Sch_readType 54 = .ok (.ldc 163, 2) := by decide +kernel
theorem d_Sch_readType_56 : decode b_Sch_readType 56 = .ok (.invokevirtual 151, 3) := by decide +kernel
theorem d_Sch_readType_59 : decode b_Sch_readType 59 = .ok (.iconst 4, 1) := by decide +kernel
theorem d_Sch_readType_60 : decode b_Sch_readType 60 = .ok (.ireturn, 1) := by decide +kernel
theorem d_Sch_readType_51 : decode b_Sch_readType 51 = .ok (.iconst 3, 1) := by decide +kernel
theorem d_Sch_readType_52 : decode b_Sch_readType 52 = .ok (.ireturn, 1) := by decide +kernel
theorem d_Sch_readType_40 : decode b_Sch_readType 40 = .ok (.iconst 2, 1) := by decide +kernel
theorem d_Sch_readType_41 : decode b_Sch_readType 41 = .ok (.ireturn, 1) := by decide +kernel
theorem d_Sch_readType_29 : decode b_Sch_readType 29 = .ok (.iconst 1, 1) := by decide +kernel
theorem d_Sch_readType_30 : decode b_Sch_readType 30 = .ok (.ireturn, 1) := by decide +kernel
theorem d_Sch_readType_18 : decode b_Sch_readType 18 = .ok (.iconst 0, 1) := by decide +kernel
theorem d_Sch_readType_19 : decode b_Sch_readType 19 = .ok (.ireturn, 1) := by decide +kernel
theorem d_Sch_readType_7 : decode b_Sch_readType 7 = .ok (.iconst 0, 1) := by decide +kernel
theorem d_Sch_readType_8 : decode b_Sch_readType 8 = .ok (.ireturn, 1) := by decide +kernel
theorem d_Sch_pastOf_0 : decode b_Sch_pastOf 0 = .ok (.iload_n 1, 1) := by decide +kernel
theorem d_Sch_pastOf_1 : decode b_Sch_pastOf 1 = .ok (.iconst (-1), 1) := by decide +kernel
theorem d_Sch_pastOf_2 : decode b_Sch_pastOf 2 = .ok (.if_icmp .ne 10, 3) := by decide +kernel
theorem d_Sch_pastOf_12 : decode b_Sch_pastOf 12 = .ok (.aload_n 0, 1) := by decide +kernel
theorem d_Sch_pastOf_13 : decode b_Sch_pastOf 13 = .ok (.getfield 30, 3) := by decide +kernel
theorem d_Sch_pastOf_16 : decode b_Sch_pastOf 16 = .ok (.iload_n 1, 1) := by decide +kernel
theorem d_Sch_pastOf_17 : decode b_Sch_pastOf 17 = .ok (.iaload, 1) := by decide +kernel
theorem d_Sch_pastOf_18 : decode b_Sch_pastOf 18 = .ok (.ireturn, 1) := by decide +kernel
theorem d_Sch_pastOf_5 : decode b_Sch_pastOf 5 = .ok (.aload_n 0, 1) := by decide +kernel
theorem d_Sch_pastOf_6 : decode b_Sch_pastOf 6 = .ok (.getfield 46, 3) := by decide +kernel
theorem d_Sch_pastOf_9 : decode b_Sch_pastOf 9 = .ok (.goto 9, 3) := by decide +kernel
theorem d_Sch_firstIn_0 : decode b_Sch_firstIn 0 = .ok (.iload_n 1, 1) := by decide +kernel
theorem d_Sch_firstIn_1 : decode b_Sch_firstIn 1 = .ok (.iconst (-1), 1) := by decide +kernel
theorem d_Sch_firstIn_2 : decode b_Sch_firstIn 2 = .ok (.if_icmp .ne 7, 3) := by decide +kernel
theorem d_Sch_firstIn_9 : decode b_Sch_firstIn 9 = .ok (.iload_n 1, 1) := by decide +kernel
theorem d_Sch_firstIn_10 : decode b_Sch_firstIn 10 = .ok (.iconst 1, 1) := by decide +kernel
theorem d_Sch_firstIn_11 : decode b_Sch_firstIn 11 = .ok (.iadd, 1) := by decide +kernel
theorem d_Sch_firstIn_12 : decode b_Sch_firstIn 12 = .ok (.ireturn, 1) := by decide +kernel
theorem d_Sch_firstIn_5 : decode b_Sch_firstIn 5 = .ok (.iconst 0, 1) := by decide +kernel
theorem d_Sch_firstIn_6 : decode b_Sch_firstIn 6 = .ok (.goto 6, 3) := by decide +kernel
theorem d_Sch_hasName_22 : decode b_Sch_hasName 22 = .ok (.iload 6, 2) := by decide +kernel
theorem d_Sch_hasName_24 : decode b_Sch_hasName 24 = .ok (.iload 4, 2) := by decide +kernel
theorem d_Sch_hasName_26 : decode b_Sch_hasName 26 = .ok (.if_icmp .ge 30, 3) := by decide +kernel
theorem d_Sch_hasName_56 : decode b_Sch_hasName 56 = .ok (.iconst 1, 1) := by decide +kernel
theorem d_Sch_hasName_57 : decode b_Sch_hasName 57 = .ok (.ireturn, 1) := by decide +kernel
theorem d_Sch_hasName_29 : decode b_Sch_hasName 29 = .ok (.aload_n 0, 1) := by decide +kernel
theorem d_Sch_hasName_30 : decode b_Sch_hasName 30 = .ok (.getfield 42, 3) := by decide +kernel
theorem d_Sch_hasName_33 : decode b_Sch_hasName 33 = .ok (.iload 5, 2) := by decide +kernel
theorem d_Sch_hasName_35 : decode b_Sch_hasName 35 = .ok (.iload 6, 2) := by decide +kernel
theorem d_Sch_hasName_37 : decode b_Sch_hasName 37 = .ok (.iadd, 1) := by decide +kernel
theorem d_Sch_hasName_38 : decode b_Sch_hasName 38 = .ok (.baload, 1) := by decide +kernel
theorem d_Sch_hasName_39 : decode b_Sch_hasName 39 = .ok (.aload_n 2, 1) := by decide +kernel
theorem d_Sch_hasName_40 : decode b_Sch_hasName 40 = .ok (.iload_n 3, 1) := by decide +kernel
theorem d_Sch_hasName_41 : decode b_Sch_hasName 41 = .ok (.iload 6, 2) := by decide +kernel
theorem d_Sch_hasName_43 : decode b_Sch_hasName 43 = .ok (.iadd, 1) := by decide +kernel
theorem d_Sch_hasName_44 : decode b_Sch_hasName 44 = .ok (.baload, 1) := by decide +kernel
theorem d_Sch_hasName_45 : decode b_Sch_hasName 45 = .ok (.if_icmp .eq 5, 3) := by decide +kernel
theorem d_Sch_hasName_50 : decode b_Sch_hasName 50 = .ok (.iinc 6 1, 3) := by decide +kernel
theorem d_Sch_hasName_53 : decode b_Sch_hasName 53 = .ok (.goto (-31), 3) := by decide +kernel
theorem d_Sch_hasName_48 : decode b_Sch_hasName 48 = .ok (.iconst 0, 1) := by decide +kernel
theorem d_Sch_hasName_49 : decode b_Sch_hasName 49 = .ok (.ireturn, 1) := by decide +kernel
theorem d_Sch_hasName_0 : decode b_Sch_hasName 0 = .ok (.aload_n 0, 1) := by decide +kernel
theorem d_Sch_hasName_1 : decode b_Sch_hasName 1 = .ok (.getfield 39, 3) := by decide +kernel
theorem d_Sch_hasName_4 : decode b_Sch_hasName 4 = .ok (.iload_n 1, 1) := by decide +kernel
theorem d_Sch_hasName_5 : decode b_Sch_hasName 5 = .ok (.iaload, 1) := by decide +kernel
theorem d_Sch_hasName_6 : decode b_Sch_hasName 6 = .ok (.iload 4, 2) := by decide +kernel
theorem d_Sch_hasName_8 : decode b_Sch_hasName 8 = .ok (.if_icmp .eq 5, 3) := by decide +kernel
theorem d_Sch_hasName_13 : decode b_Sch_hasName 13 = .ok (.iload_n 1, 1) := by decide +kernel
theorem d_Sch_hasName_14 : decode b_Sch_hasName 14 = .ok (.bipush 16, 2) := by decide +kernel
theorem d_Sch_hasName_16 : decode b_Sch_hasName 16 = .ok (.imul, 1) := by decide +kernel
theorem d_Sch_hasName_17 : decode b_Sch_hasName 17 = .ok (.istore 5, 2) := by decide +kernel
theorem d_Sch_hasName_19 : decode b_Sch_hasName 19 = .ok (.iconst 0, 1) := by decide +kernel
theorem d_Sch_hasName_20 : decode b_Sch_hasName 20 = .ok (.istore 6, 2) := by decide +kernel
theorem d_Sch_hasName_11 : decode b_Sch_hasName 11 = .ok (.iconst 0, 1) := by decide +kernel
theorem d_Sch_hasName_12 : decode b_Sch_hasName 12 = .ok (.ireturn, 1) := by decide +kernel
theorem d_Sch_find_48 : decode b_Sch_find 48 = .ok (.iinc 6 1, 3) := by decide +kernel
theorem d_Sch_find_51 : decode b_Sch_find 51 = .ok (.goto (-37), 3) := by decide +kernel
theorem d_Sch_find_14 : decode b_Sch_find 14 = .ok (.iload 6, 2) := by decide +kernel
theorem d_Sch_find_16 : decode b_Sch_find 16 = .ok (.iload 5, 2) := by decide +kernel
theorem d_Sch_find_18 : decode b_Sch_find 18 = .ok (.if_icmp .ge 36, 3) := by decide +kernel
theorem d_Sch_find_54 : decode b_Sch_find 54 = .ok (.iconst (-1), 1) := by decide +kernel
theorem d_Sch_find_55 : decode b_Sch_find 55 = .ok (.ireturn, 1) := by decide +kernel
theorem d_Sch_find_21 : decode b_Sch_find 21 = .ok (.aload_n 0, 1) := by decide +kernel
theorem d_Sch_find_22 : decode b_Sch_find 22 = .ok (.getfield 18, 3) := by decide +kernel
theorem d_Sch_find_25 : decode b_Sch_find 25 = .ok (.iload 6, 2) := by decide +kernel
theorem d_Sch_find_27 : decode b_Sch_find 27 = .ok (.iaload, 1) := by decide +kernel
theorem d_Sch_find_28 : decode b_Sch_find 28 = .ok (.iload_n 1, 1) := by decide +kernel
theorem d_Sch_find_29 : decode b_Sch_find 29 = .ok (.if_icmp .ne 19, 3) := by decide +kernel
theorem d_Sch_find_32 : decode b_Sch_find 32 = .ok (.aload_n 0, 1) := by decide +kernel
theorem d_Sch_find_33 : decode b_Sch_find 33 = .ok (.iload 6, 2) := by decide +kernel
theorem d_Sch_find_35 : decode b_Sch_find 35 = .ok (.aload_n 2, 1) := by decide +kernel
theorem d_Sch_find_36 : decode b_Sch_find 36 = .ok (.iload_n 3, 1) := by decide +kernel
theorem d_Sch_find_37 : decode b_Sch_find 37 = .ok (.iload 4, 2) := by decide +kernel
theorem d_Sch_find_39 : decode b_Sch_find 39 = .ok (.invokevirtual 60, 3) := by decide +kernel
theorem d_Sch_find_42 : decode b_Sch_find 42 = .ok (.ifCond .eq 6, 3) := by decide +kernel
theorem d_Sch_find_45 : decode b_Sch_find 45 = .ok (.iload 6, 2) := by decide +kernel
theorem d_Sch_find_47 : decode b_Sch_find 47 = .ok (.ireturn, 1) := by decide +kernel
theorem d_Sch_find_0 : decode b_Sch_find 0 = .ok (.aload_n 0, 1) := by decide +kernel
theorem d_Sch_find_1 : decode b_Sch_find 1 = .ok (.iload_n 1, 1) := by decide +kernel
theorem d_Sch_find_2 : decode b_Sch_find 2 = .ok (.invokevirtual 53, 3) := by decide +kernel
theorem d_Sch_find_5 : decode b_Sch_find 5 = .ok (.istore 5, 2) := by decide +kernel
theorem d_Sch_find_7 : decode b_Sch_find 7 = .ok (.aload_n 0, 1) := by decide +kernel
theorem d_Sch_find_8 : decode b_Sch_find 8 = .ok (.iload_n 1, 1) := by decide +kernel
theorem d_Sch_find_9 : decode b_Sch_find 9 = .ok (.invokevirtual 57, 3) := by decide +kernel
theorem d_Sch_find_12 : decode b_Sch_find 12 = .ok (.istore 6, 2) := by decide +kernel
section
variable (l : Launch) (dC : Nat → ClassId) (dI : Nat → Nat → Nat) (cI cB cJ cZ : ClassId)
set_option maxRecDepth 100000 in
set_option maxHeartbeats 4000000 in
set_option maxRecDepth 100000 in
theorem t_Scn_takeAnyWord_63 {p : Program} {l : Launch} {e : Env} {R : Room} {s : State} {m : MethodId} {args : Array Value} {below : List Frame} {meth : Method} {c : Code} {cells slots : Nat} {Q : State → Prop} {dC : Nat → ClassId} {dI : Nat → Nat → Nat} {cI cB cJ cZ : ClassId} {A : Nat → Prop} {ad : Nat → Nat} {NN : Nat} {E : Heap} {tM tC : Nat} {kK kV : Nat → Nat} {post : Int32 → St → Prop} (hx : p.tables.exec = Jvm.exec) (hb : c.code = b_Scn_takeAnyWord) (hml : c.maxLocals = 1) (hown : s.vm.findClass R_Scn = some m.cls) (hT : ∀ w ∈ TG, w.before args s = true) (hK : va_K (dC, dI) CL (TY cI cB cJ cZ) s) (hN : NW s) (hA : ∀ q : Nat, s.heap.size ≤ q → A q) (hRc : cells ≤ R.cells) (hRs : slots ≤ R.slots) (hRf : 1 ≤ R.frames) (hRl : 20 ≤ R.locals) (hNN : 152 ≤ NN) (hE : CE E tM tC kK kV A s) (hret : ∀ (r : Int32) (x : St) (H : Heap) (locs : List Loc) (pc : Nat) (ls : Array Slot), decode b_Scn_takeAnyWord pc = .ok (.ireturn, 1) → narrow .boolean (.int r) = .int r → post r x → Wd dC dI cI cB cJ cZ ad stC kcC NN A x H → va_S A s.heap H locs → W p l e R s m args below meth c H locs cells slots Q (F0 m pc ls [.int r]))  : ∀ (o : Nat) (x : St) (H : Heap) (locs : List Loc) (ls : Array Slot), (o < NN ∧ kcC o = 2) → j_Scn_takeAnyWord_63 post o x → Wd dC dI cI cB cJ cZ ad stC kcC NN A x H → va_S A s.heap H locs → lv_has ls 1 [(0, .ref (ad o))] → W p l e R s m args below meth c H locs cells slots Q (F0 m 63 ls []) := by
  intro o x H locs ls fo hw hW hS hl
  unfold j_Scn_takeAnyWord_63 at hw
  refine lv_aload_n hx hb d_Scn_takeAnyWord_63 rfl (lv_at hl 0 rfl) ?_
  refine lv_aload_n hx hb d_Scn_takeAnyWord_64 rfl (lv_at hl 0 rfl) ?_
  refine w_geti (k := 2) (t := 2) (C := R_Scn) (T := F_Scn) (N := 8) hx hb hT hown hK hW fo.1 fo.2 (by decide) in_Scn rfl rfl (by decide) rfl fr_Scn_2 w_1_85 d_Scn_takeAnyWord_65 ?_
  refine lv_aload_n hx hb d_Scn_takeAnyWord_68 rfl (lv_at hl 0 rfl) ?_
  refine w_geti (k := 4) (t := 2) (C := R_Scn) (T := F_Scn) (N := 8) hx hb hT hown hK hW fo.1 fo.2 (by decide) in_Scn rfl rfl (by decide) rfl fr_Scn_4 w_1_93 d_Scn_takeAnyWord_69 ?_
  refine lv_isub hx hb d_Scn_takeAnyWord_72 ?_
  refine w_puti (ty := .int) (k := 5) (t := 2) (C := R_Scn) (T := F_Scn) (N := 8) hx hb hT hown hK hW hS fo.1 fo.2 (by decide) in_Scn t_Scn t_Scn_ok n_Scn rfl rfl (by decide) rfl fr_Scn_5 w_1_97 (by decide +kernel) rfl rfl d_Scn_takeAnyWord_73 (fun H locs hW hS => ?_)
  obtain ⟨x1, ex1⟩ : ∃ y : St, y = setI x o 5 ((fI x o 2) - (fI x o 4)) := ⟨_, rfl⟩
  rw [← ex1] at hW
  have hw := hw x1 ex1
  refine lv_iconst (v := 1) hx hb d_Scn_takeAnyWord_76 (by decide) ?_
  exact hret 1 x1 H locs 77 ls d_Scn_takeAnyWord_77 rfl hw hW hS
set_option maxRecDepth 100000 in
set_option maxHeartbeats 4000000 in
set_option maxRecDepth 100000 in
theorem t_Scn_takeAnyWord_20 {p : Program} {l : Launch} {e : Env} {R : Room} {s : State} {m : MethodId} {args : Array Value} {below : List Frame} {meth : Method} {c : Code} {cells slots : Nat} {Q : State → Prop} {dC : Nat → ClassId} {dI : Nat → Nat → Nat} {cI cB cJ cZ : ClassId} {A : Nat → Prop} {ad : Nat → Nat} {NN : Nat} {E : Heap} {tM tC : Nat} {kK kV : Nat → Nat} {post : Int32 → St → Prop} {rec20 : Nat → St → Prop} (hx : p.tables.exec = Jvm.exec) (hb : c.code = b_Scn_takeAnyWord) (hml : c.maxLocals = 1) (hown : s.vm.findClass R_Scn = some m.cls) (hT : ∀ w ∈ TG, w.before args s = true) (hK : va_K (dC, dI) CL (TY cI cB cJ cZ) s) (hN : NW s) (hA : ∀ q : Nat, s.heap.size ≤ q → A q) (hRc : cells ≤ R.cells) (hRs : slots ≤ R.slots) (hRf : 1 ≤ R.frames) (hRl : 20 ≤ R.locals) (hNN : 152 ≤ NN) (hE : CE E tM tC kK kV A s) (hret : ∀ (r : Int32) (x : St) (H : Heap) (locs : List Loc) (pc : Nat) (ls : Array Slot), decode b_Scn_takeAnyWord pc = .ok (.ireturn, 1) → narrow .boolean (.int r) = .int r → post r x → Wd dC dI cI cB cJ cZ ad stC kcC NN A x H → va_S A s.heap H locs → W p l e R s m args below meth c H locs cells slots Q (F0 m pc ls [.int r])) (hrec20 : ∀ (o : Nat) (x : St) (H : Heap) (locs : List Loc) (ls : Array Slot), (o < NN ∧ kcC o = 2) → rec20 o x → Wd dC dI cI cB cJ cZ ad stC kcC NN A x H → va_S A s.heap H locs → lv_has ls 1 [(0, .ref (ad o))] → W p l e R s m args below meth c H locs cells slots Q (F0 m 20 ls [])) : ∀ (o : Nat) (x : St) (H : Heap) (locs : List Loc) (ls : Array Slot), (o < NN ∧ kcC o = 2) → j_Scn_takeAnyWord_20 post rec20 o x → Wd dC dI cI cB cJ cZ ad stC kcC NN A x H → va_S A s.heap H locs → lv_has ls 1 [(0, .ref (ad o))] → W p l e R s m args below meth c H locs cells slots Q (F0 m 20 ls []) := by
  intro o x H locs ls fo hw hW hS hl
  unfold j_Scn_takeAnyWord_20 at hw
  refine lv_aload_n hx hb d_Scn_takeAnyWord_20 rfl (lv_at hl 0 rfl) ?_
  refine w_geti (k := 2) (t := 2) (C := R_Scn) (T := F_Scn) (N := 8) hx hb hT hown hK hW fo.1 fo.2 (by decide) in_Scn rfl rfl (by decide) rfl fr_Scn_2 w_1_85 d_Scn_takeAnyWord_21 ?_
  refine lv_aload_n hx hb d_Scn_takeAnyWord_24 rfl (lv_at hl 0 rfl) ?_
  refine w_geti (k := 1) (t := 2) (C := R_Scn) (T := F_Scn) (N := 8) hx hb hT hown hK hW fo.1 fo.2 (by decide) in_Scn rfl rfl (by decide) rfl fr_Scn_1 w_1_81 d_Scn_takeAnyWord_25 ?_
  refine lv_icmp_ge (tgt := 63) hx hb d_Scn_takeAnyWord_28 (by decide) (fun c2 => ?_) (fun c2 => ?_)
  · have hw := hw.1 c2
    exact t_Scn_takeAnyWord_63 hx hb hml hown hT hK hN hA hRc hRs hRf hRl hNN hE hret  o x H locs ls fo hw hW hS (lv_sub hl [0] rfl)
  · have hw := hw.2 c2
    refine lv_aload_n hx hb d_Scn_takeAnyWord_31 rfl (lv_at hl 0 rfl) ?_
    obtain ⟨q3, hq3, hw⟩ := hw
    refine w_getr (q := q3) (k := 0) (t := 2) (C := R_Scn) (T := F_Scn) (N := 8) hx hb hT hown hK hW fo.1 fo.2 (by decide) in_Scn rfl rfl (by decide) rfl fr_Scn_0 w_1_77 d_Scn_takeAnyWord_32 hq3 (fun aq3 bq3 => ?_)
    have fq3 : q3 < NN ∧ kcC q3 = 21 := ⟨aq3, bq3⟩
    refine lv_aload_n hx hb d_Scn_takeAnyWord_35 rfl (lv_at hl 0 rfl) ?_
    refine w_geti (k := 2) (t := 2) (C := R_Scn) (T := F_Scn) (N := 8) hx hb hT hown hK hW fo.1 fo.2 (by decide) in_Scn rfl rfl (by decide) rfl fr_Scn_2 w_1_85 d_Scn_takeAnyWord_36 ?_
    obtain ⟨hi, hw⟩ := hw
    refine w_bald (o := q3) hx hb hK hW fq3.1 fq3.2 hi d_Scn_takeAnyWord_39 ?_
    refine lv_sipush (v := 255) hx hb d_Scn_takeAnyWord_40 (by decide) ?_
    refine lv_iand hx hb d_Scn_takeAnyWord_43 ?_
    have hF := hW.free hS hA
    refine va_calli (va_runSN (As := [.int ((rA x q3 (fI x o 2)) &&& 255)]) (rest := []) ⟨hx, hb, hml, hown, hT⟩ (k_V_isOfWord l dC dI cI cB cJ cZ ad NN E tM tC kK kV hNN H.size ((rA x q3 (fI x o 2)) &&& 255) x  hw) ⟨va_cnB 1 hT (gwt_in w_4_151) rfl rfl rfl (hN _ wn_4_149 rfl) (hT _ w_1_1) (by decide +kernel) ⟨Nat.le_trans (Nat.le_of_ble_eq_true rfl) hRf, Nat.le_trans (Nat.le_of_ble_eq_true rfl) hRl⟩, hT _ w_4_150, trivial⟩ ⟨PVc.blind, PVc.at _ hW hK hN hE hS hF⟩ rfl rfl hl.1 rfl (lv_room (Nat.le_of_ble_eq_true rfl)) d_Scn_takeAnyWord_44 ⟨hRc, hRs⟩) hS (fun q _ h => hF q h) hF (fun r5 x4 t H locs ht hvm hw hB hz1 hk1 hS => ?_)
    have hW := Wd.back hB ht hF
    clear hB ht hF hz1 hk1 hvm
    refine lv_if_eq (tgt := 63) hx hb d_Scn_takeAnyWord_47 (by decide) (fun c6 => ?_) (fun c6 => ?_)
    · have hw := hw.1 c6
      exact t_Scn_takeAnyWord_63 hx hb hml hown hT hK hN hA hRc hRs hRf hRl hNN hE hret  o x4 H locs ls fo hw hW hS (lv_sub hl [0] rfl)
    · have hw := hw.2 c6
      refine lv_aload_n hx hb d_Scn_takeAnyWord_50 rfl (lv_at hl 0 rfl) ?_
      refine lv_dup hx hb d_Scn_takeAnyWord_51 rfl ?_
      refine w_geti (k := 2) (t := 2) (C := R_Scn) (T := F_Scn) (N := 8) hx hb hT hown hK hW fo.1 fo.2 (by decide) in_Scn rfl rfl (by decide) rfl fr_Scn_2 w_1_85 d_Scn_takeAnyWord_52 ?_
      refine lv_iconst (v := 1) hx hb d_Scn_takeAnyWord_55 (by decide) ?_
      refine lv_iadd hx hb d_Scn_takeAnyWord_56 ?_
      refine w_puti (ty := .int) (k := 2) (t := 2) (C := R_Scn) (T := F_Scn) (N := 8) hx hb hT hown hK hW hS fo.1 fo.2 (by decide) in_Scn t_Scn t_Scn_ok n_Scn rfl rfl (by decide) rfl fr_Scn_2 w_1_85 (by decide +kernel) rfl rfl d_Scn_takeAnyWord_57 (fun H locs hW hS => ?_)
      obtain ⟨x7, ex7⟩ : ∃ y : St, y = setI x4 o 2 ((fI x4 o 2) + 1) := ⟨_, rfl⟩
      rw [← ex7] at hW
      have hw := hw x7 ex7
      refine lv_goto (tgt := 20) hx hb d_Scn_takeAnyWord_60 (by decide) ?_
      exact hrec20 o x7 H locs ls fo hw hW hS (lv_sub hl [0] rfl)
set_option maxHeartbeats 4000000 in
set_option maxRecDepth 100000 in
theorem tl_Scn_takeAnyWord_20 {p : Program} {l : Launch} {e : Env} {R : Room} {s : State} {m : MethodId} {args : Array Value} {below : List Frame} {meth : Method} {c : Code} {cells slots : Nat} {Q : State → Prop} {dC : Nat → ClassId} {dI : Nat → Nat → Nat} {cI cB cJ cZ : ClassId} {A : Nat → Prop} {ad : Nat → Nat} {NN : Nat} {E : Heap} {tM tC : Nat} {kK kV : Nat → Nat} {post : Int32 → St → Prop} (hx : p.tables.exec = Jvm.exec) (hb : c.code = b_Scn_takeAnyWord) (hml : c.maxLocals = 1) (hown : s.vm.findClass R_Scn = some m.cls) (hT : ∀ w ∈ TG, w.before args s = true) (hK : va_K (dC, dI) CL (TY cI cB cJ cZ) s) (hN : NW s) (hA : ∀ q : Nat, s.heap.size ≤ q → A q) (hRc : cells ≤ R.cells) (hRs : slots ≤ R.slots) (hRf : 1 ≤ R.frames) (hRl : 20 ≤ R.locals) (hNN : 152 ≤ NN) (hE : CE E tM tC kK kV A s) (hret : ∀ (r : Int32) (x : St) (H : Heap) (locs : List Loc) (pc : Nat) (ls : Array Slot), decode b_Scn_takeAnyWord pc = .ok (.ireturn, 1) → narrow .boolean (.int r) = .int r → post r x → Wd dC dI cI cB cJ cZ ad stC kcC NN A x H → va_S A s.heap H locs → W p l e R s m args below meth c H locs cells slots Q (F0 m pc ls [.int r]))  : ∀ n : Nat, ∀ (o : Nat) (x : St) (H : Heap) (locs : List Loc) (ls : Array Slot), (o < NN ∧ kcC o = 2) → wl_Scn_takeAnyWord_20 post n o x → Wd dC dI cI cB cJ cZ ad stC kcC NN A x H → va_S A s.heap H locs → lv_has ls 1 [(0, .ref (ad o))] → W p l e R s m args below meth c H locs cells slots Q (F0 m 20 ls []) := by
  intro n
  induction n with
  | zero => intro o x H locs ls fo hw; exact hw.elim
  | succ n ih => intro o x H locs ls fo hw hW hS hl; exact t_Scn_takeAnyWord_20 hx hb hml hown hT hK hN hA hRc hRs hRf hRl hNN hE hret  ih o x H locs ls fo hw hW hS hl
set_option maxRecDepth 100000 in
set_option maxHeartbeats 4000000 in
set_option maxRecDepth 100000 in
theorem t_Scn_takeAnyWord_e {p : Program} {l : Launch} {e : Env} {R : Room} {s : State} {m : MethodId} {args : Array Value} {below : List Frame} {meth : Method} {c : Code} {cells slots : Nat} {Q : State → Prop} {dC : Nat → ClassId} {dI : Nat → Nat → Nat} {cI cB cJ cZ : ClassId} {A : Nat → Prop} {ad : Nat → Nat} {NN : Nat} {E : Heap} {tM tC : Nat} {kK kV : Nat → Nat} {post : Int32 → St → Prop} (hx : p.tables.exec = Jvm.exec) (hb : c.code = b_Scn_takeAnyWord) (hml : c.maxLocals = 1) (hown : s.vm.findClass R_Scn = some m.cls) (hT : ∀ w ∈ TG, w.before args s = true) (hK : va_K (dC, dI) CL (TY cI cB cJ cZ) s) (hN : NW s) (hA : ∀ q : Nat, s.heap.size ≤ q → A q) (hRc : cells ≤ R.cells) (hRs : slots ≤ R.slots) (hRf : 1 ≤ R.frames) (hRl : 20 ≤ R.locals) (hNN : 152 ≤ NN) (hE : CE E tM tC kK kV A s) (hret : ∀ (r : Int32) (x : St) (H : Heap) (locs : List Loc) (pc : Nat) (ls : Array Slot), decode b_Scn_takeAnyWord pc = .ok (.ireturn, 1) → narrow .boolean (.int r) = .int r → post r x → Wd dC dI cI cB cJ cZ ad stC kcC NN A x H → va_S A s.heap H locs → W p l e R s m args below meth c H locs cells slots Q (F0 m pc ls [.int r])) : ∀ (o : Nat) (x : St) (H : Heap) (locs : List Loc) (ls : Array Slot), (o < NN ∧ kcC o = 2) → wp_Scn_takeAnyWord post o x → Wd dC dI cI cB cJ cZ ad stC kcC NN A x H → va_S A s.heap H locs → lv_has ls 1 [(0, .ref (ad o))] → W p l e R s m args below meth c H locs cells slots Q (F0 m 0 ls []) := by
  intro o x H locs ls fo hw hW hS hl
  unfold wp_Scn_takeAnyWord at hw
  refine lv_aload_n hx hb d_Scn_takeAnyWord_0 rfl (lv_at hl 0 rfl) ?_
  have hF := hW.free hS hA
  refine va_calli (va_runV (C := R_Scn) (As := []) (rest := []) ⟨hx, hb, hml, hown, hT⟩ (k_Scn_next l dC dI cI cB cJ cZ ad NN E tM tC kK kV hNN H.size o x fo hw) ⟨callB_of 0 hT (gwt_in w_4_110) rfl rfl rfl (hT _ w_1_4) (hT _ w_4_124) (by decide +kernel) ⟨Nat.le_trans (Nat.le_of_ble_eq_true rfl) hRf, Nat.le_trans (Nat.le_of_ble_eq_true rfl) hRl⟩, hT _ w_4_108, hT _ w_4_109⟩ ⟨PVc.blind, va_recv hK hW.1 (ci := 2) (q0 := o) rfl (pic_obj fo.1 fo.2 (by decide)), PVc.at _ hW hK hN hE hS hF⟩ rfl rfl hl.1 rfl (lv_room (Nat.le_of_ble_eq_true rfl)) d_Scn_takeAnyWord_1 ⟨hRc, hRs⟩) hS (fun q _ h => hF q h) hF (fun r9 x8 t H locs ht hvm hw hB hz1 hk1 hS => ?_)
  have hW := Wd.back hB ht hF
  clear hB ht hF hz1 hk1 hvm
  have hF := hW.free hS hA
  refine va_calli (va_runSN (As := [.int r9]) (rest := []) ⟨hx, hb, hml, hown, hT⟩ (k_V_isLetter l dC dI cI cB cJ cZ ad NN E tM tC kK kV hNN H.size r9 x8  hw) ⟨va_cnB 1 hT (gwt_in w_4_148) rfl rfl rfl (hN _ wn_4_146 rfl) (hT _ w_1_1) (by decide +kernel) ⟨Nat.le_trans (Nat.le_of_ble_eq_true rfl) hRf, Nat.le_trans (Nat.le_of_ble_eq_true rfl) hRl⟩, hT _ w_4_147, trivial⟩ ⟨PVc.blind, PVc.at _ hW hK hN hE hS hF⟩ rfl rfl hl.1 rfl (lv_room (Nat.le_of_ble_eq_true rfl)) d_Scn_takeAnyWord_4 ⟨hRc, hRs⟩) hS (fun q _ h => hF q h) hF (fun r11 x10 t H locs ht hvm hw hB hz1 hk1 hS => ?_)
  have hW := Wd.back hB ht hF
  clear hB ht hF hz1 hk1 hvm
  refine lv_if_ne (tgt := 12) hx hb d_Scn_takeAnyWord_7 (by decide) (fun c12 => ?_) (fun c12 => ?_)
  · have hw := hw.1 c12
    refine lv_aload_n hx hb d_Scn_takeAnyWord_12 rfl (lv_at hl 0 rfl) ?_
    refine lv_aload_n hx hb d_Scn_takeAnyWord_13 rfl (lv_at hl 0 rfl) ?_
    refine w_geti (k := 2) (t := 2) (C := R_Scn) (T := F_Scn) (N := 8) hx hb hT hown hK hW fo.1 fo.2 (by decide) in_Scn rfl rfl (by decide) rfl fr_Scn_2 w_1_85 d_Scn_takeAnyWord_14 ?_
    refine w_puti (ty := .int) (k := 4) (t := 2) (C := R_Scn) (T := F_Scn) (N := 8) hx hb hT hown hK hW hS fo.1 fo.2 (by decide) in_Scn t_Scn t_Scn_ok n_Scn rfl rfl (by decide) rfl fr_Scn_4 w_1_93 (by decide +kernel) rfl rfl d_Scn_takeAnyWord_17 (fun H locs hW hS => ?_)
    obtain ⟨x13, ex13⟩ : ∃ y : St, y = setI x10 o 4 (fI x10 o 2) := ⟨_, rfl⟩
    rw [← ex13] at hW
    have hw := hw x13 ex13
    obtain ⟨n, hw⟩ := hw
    exact tl_Scn_takeAnyWord_20 hx hb hml hown hT hK hN hA hRc hRs hRf hRl hNN hE hret  n o x13 H locs ls fo hw hW hS (lv_sub hl [0] rfl)
  · have hw := hw.2 c12
    refine lv_iconst (v := 0) hx hb d_Scn_takeAnyWord_10 (by decide) ?_
    exact hret 0 x10 H locs 11 ls d_Scn_takeAnyWord_11 rfl hw hW hS
set_option maxHeartbeats 4000000 in
set_option maxRecDepth 100000 in
theorem k_Scn_takeAnyWord (l : Launch) (dC : Nat → ClassId) (dI : Nat → Nat → Nat) (cI cB cJ cZ : ClassId) (ad : Nat → Nat) (NN : Nat) (E : Heap) (tM tC : Nat) (kK kV : Nat → Nat) (hNN : 152 ≤ NN) (sz : Nat) (o : Nat) (x : St) (fo : o < NN ∧ kcC o = 2) {post : Int32 → St → Prop} (hw : wp_Scn_takeAnyWord post o x) : Met l y_Scn_takeAnyWord (wsOf y_Scn_takeAnyWord b_Scn_takeAnyWord 1 (some (.boolean))) ({ frames := 1, cells := 0, slots := 0, locals := 20 }) (va_Pc [.ref (ad o)] (PVc dC dI cI cB cJ cZ ad stC kcC NN E tM tC kK kV sz x)) (va_Qi (fun (r : Int32) (y : St) => post r y) (fun y t => Wd dC dI cI cB cJ cZ ad stC kcC NN (va_A (pic ad stC kcC NN cI cB cJ cZ x) sz) y t.heap) (va_A (pic ad stC kcC NN cI cB cJ cZ x) sz)) 0 0 (va_A (pic ad stC kcC NN cI cB cJ cZ x) sz) := by
  refine Met.ofW (cc := b_Scn_takeAnyWord) (maxL := 1) (ret := some (.boolean)) (by decide) rfl ?_
  intro p e s m args below meth c s₁ B hml hv
  obtain ⟨rfl, ⟨hsz, hW0, hK, hN⟩, hE⟩ := hv
  have hx := B.exec
  have hb := B.bytes
  have hr := B.returns
  have hts := atoms_spec B.pre
  have hT : ∀ w ∈ TG, w.before _ s = true := fun w h => hts w (List.mem_cons_of_mem _ h)
  have hown : s.vm.findClass R_Scn = some m.cls := findClass_of_methodNamed B.named
  have hlocks := B.notSynchronized
  subst hsz
  have hW : Wd dC dI cI cB cJ cZ ad stC kcC NN (va_A (pic ad stC kcC NN cI cB cJ cZ x) s.heap.size) x s.heap := ⟨hW0.1, hW0.2.1.self (sz := s.heap.size), hW0.2.2⟩
  generalize hAe : va_A (pic ad stC kcC NN cI cB cJ cZ x) s.heap.size = A at hW hE ⊢
  have hA : ∀ q : Nat, s.heap.size ≤ q → A q := fun q h => by rw [← hAe]; exact Or.inr h
  have hS : va_S A s.heap s.heap [] := va_S.rf
  have hl := lv_entry ([.ref (ad o)]) (n := 1) (Nat.le_of_ble_eq_true rfl)
  rw [lg_entry_eq]
  generalize (lg_sl ([.ref (ad o)]) ++ List.replicate (1 - (lg_sl ([.ref (ad o)])).length) Slot.unset).toArray = ls at hl ⊢
  have hl : lv_has ls 1 [(0, .ref (ad o))] := hl
  exact t_Scn_takeAnyWord_e hx hb hml hown hT hK hN hA (Nat.le_refl 0) (Nat.le_refl 0) (Nat.le_refl 1) (Nat.le_refl 20) hNN hE (fun r x H locs pc ls hd hz hp hW hS => W.zret (v := r) (ty := .boolean) hx hb hr hz (fun t ht hM => ⟨⟨r, x, rfl, hp, Wd.back hW ht.symm (fun _ z => z)⟩, hS.F ht⟩) hS.2.2 hd hlocks)  o x _ _ ls fo hw hW hS hl
set_option maxRecDepth 100000 in
set_option maxHeartbeats 4000000 in
set_option maxRecDepth 100000 in
theorem t_Scn_isWord_15 {p : Program} {l : Launch} {e : Env} {R : Room} {s : State} {m : MethodId} {args : Array Value} {below : List Frame} {meth : Method} {c : Code} {cells slots : Nat} {Q : State → Prop} {dC : Nat → ClassId} {dI : Nat → Nat → Nat} {cI cB cJ cZ : ClassId} {A : Nat → Prop} {ad : Nat → Nat} {NN : Nat} {E : Heap} {tM tC : Nat} {kK kV : Nat → Nat} {post : Int32 → St → Prop} {rec15 : Nat → Nat → Int32 → St → Prop} (hx : p.tables.exec = Jvm.exec) (hb : c.code = b_Scn_isWord) (hml : c.maxLocals = 3) (hown : s.vm.findClass R_Scn = some m.cls) (hT : ∀ w ∈ TG, w.before args s = true) (hK : va_K (dC, dI) CL (TY cI cB cJ cZ) s) (hN : NW s) (hA : ∀ q : Nat, s.heap.size ≤ q → A q) (hRc : cells ≤ R.cells) (hRs : slots ≤ R.slots) (hRf : 4 ≤ R.frames) (hRl : 200 ≤ R.locals) (hNN : 152 ≤ NN) (hE : CE E tM tC kK kV A s) (hret : ∀ (r : Int32) (x : St) (H : Heap) (locs : List Loc) (pc : Nat) (ls : Array Slot), decode b_Scn_isWord pc = .ok (.ireturn, 1) → narrow .boolean (.int r) = .int r → post r x → Wd dC dI cI cB cJ cZ ad stC kcC NN A x H → va_S A s.heap H locs → W p l e R s m args below meth c H locs cells slots Q (F0 m pc ls [.int r])) (hrec15 : ∀ (o : Nat) (l1 : Nat) (l2 : Int32) (x : St) (H : Heap) (locs : List Loc) (ls : Array Slot), (o < NN ∧ kcC o = 2) → (l1 < NSTR) → rec15 o l1 l2 x → Wd dC dI cI cB cJ cZ ad stC kcC NN A x H → va_S A s.heap H locs → lv_has ls 3 [(0, .ref (ad o)), (1, .ref (kK l1)), (2, .int l2)] → W p l e R s m args below meth c H locs cells slots Q (F0 m 15 ls [])) : ∀ (o : Nat) (l1 : Nat) (l2 : Int32) (x : St) (H : Heap) (locs : List Loc) (ls : Array Slot), (o < NN ∧ kcC o = 2) → (l1 < NSTR) → j_Scn_isWord_15 post rec15 o l1 l2 x → Wd dC dI cI cB cJ cZ ad stC kcC NN A x H → va_S A s.heap H locs → lv_has ls 3 [(0, .ref (ad o)), (1, .ref (kK l1)), (2, .int l2)] → W p l e R s m args below meth c H locs cells slots Q (F0 m 15 ls []) := by
  intro o l1 l2 x H locs ls fo fl1 hw hW hS hl
  unfold j_Scn_isWord_15 at hw
  refine lv_iload_n hx hb d_Scn_isWord_15 rfl (lv_at hl 2 rfl) ?_
  refine lv_aload_n hx hb d_Scn_isWord_16 rfl (lv_at hl 0 rfl) ?_
  refine w_geti (k := 5) (t := 2) (C := R_Scn) (T := F_Scn) (N := 8) hx hb hT hown hK hW fo.1 fo.2 (by decide) in_Scn rfl rfl (by decide) rfl fr_Scn_5 w_1_97 d_Scn_isWord_17 ?_
  refine lv_icmp_ge (tgt := 54) hx hb d_Scn_isWord_20 (by decide) (fun c1 => ?_) (fun c1 => ?_)
  · have hw := hw.1 c1
    refine lv_iconst (v := 1) hx hb d_Scn_isWord_54 (by decide) ?_
    exact hret 1 x H locs 55 ls d_Scn_isWord_55 rfl hw hW hS
  · have hw := hw.2 c1
    refine lv_aload_n hx hb d_Scn_isWord_23 rfl (lv_at hl 0 rfl) ?_
    obtain ⟨q2, hq2, hw⟩ := hw
    refine w_getr (q := q2) (k := 0) (t := 2) (C := R_Scn) (T := F_Scn) (N := 8) hx hb hT hown hK hW fo.1 fo.2 (by decide) in_Scn rfl rfl (by decide) rfl fr_Scn_0 w_1_77 d_Scn_isWord_24 hq2 (fun aq2 bq2 => ?_)
    have fq2 : q2 < NN ∧ kcC q2 = 21 := ⟨aq2, bq2⟩
    refine lv_aload_n hx hb d_Scn_isWord_27 rfl (lv_at hl 0 rfl) ?_
    refine w_geti (k := 4) (t := 2) (C := R_Scn) (T := F_Scn) (N := 8) hx hb hT hown hK hW fo.1 fo.2 (by decide) in_Scn rfl rfl (by decide) rfl fr_Scn_4 w_1_93 d_Scn_isWord_28 ?_
    refine lv_iload_n hx hb d_Scn_isWord_31 rfl (lv_at hl 2 rfl) ?_
    refine lv_iadd hx hb d_Scn_isWord_32 ?_
    obtain ⟨hi, hw⟩ := hw
    refine w_bald (o := q2) hx hb hK hW fq2.1 fq2.2 hi d_Scn_isWord_33 ?_
    refine lv_sipush (v := 255) hx hb d_Scn_isWord_34 (by decide) ?_
    refine lv_iand hx hb d_Scn_isWord_37 ?_
    refine lv_aload_n hx hb d_Scn_isWord_38 rfl (lv_at hl 1 rfl) ?_
    refine lv_iload_n hx hb d_Scn_isWord_39 rfl (lv_at hl 2 rfl) ?_
    obtain ⟨h0, h1, hw⟩ := hw
    refine va_calli (va_runV (C := R_JStr) (As := [.int l2]) (rest := [.int ((rA x q2 ((fI x o 4) + l2)) &&& 255)]) ⟨hx, hb, hml, hown, hT⟩ (c_JStr_charAt l dC dI cI cB cJ cZ E tM tC kK kV H.size l1 fl1 l2 h0 h1) ⟨callB_of 1 hT (gwt_in w_4_169) rfl rfl rfl (hT _ w_1_17) (hT _ w_4_166) (by decide +kernel) ⟨Nat.le_trans (Nat.le_of_ble_eq_true rfl) hRf, Nat.le_trans (Nat.le_of_ble_eq_true rfl) hRl⟩, hT _ w_4_167, hT _ w_4_168⟩ ⟨PJ.blind, vk_recv hE.sS fl1 hS, PJ.at _ hK hN hE hS hA⟩ rfl rfl hl.1 rfl (lv_room (Nat.le_of_ble_eq_true rfl)) d_Scn_isWord_40 ⟨hRc, hRs⟩) hS (fun q _ h => hA q (Nat.le_trans hS.1 (nilA h))) (fun q h => hA q (Nat.le_trans hS.1 (nilA h))) (fun r3 u t H locs ht hvm hq9 hB hz1 hk1 hS => ?_)
    have hW := Wd.pure hW hk1
    clear hB ht hz1 hk1 hvm
    have hq9 : (sChr l1 l2) = r3 := Eq.symm hq9
    subst hq9
    refine lv_icmp_eq (tgt := 48) hx hb d_Scn_isWord_43 (by decide) (fun c4 => ?_) (fun c4 => ?_)
    · have hw := hw.1 c4
      refine lv_iinc (v := (l2 + 1)) (lv' := [(2, .int (l2 + 1)), (0, .ref (ad o)), (1, .ref (kK l1))]) hx hb d_Scn_isWord_48 hl (k := 2) rfl rfl (by decide) rfl (fun ls hl => ?_)
      refine lv_goto (tgt := 15) hx hb d_Scn_isWord_51 (by decide) ?_
      exact hrec15 o l1 (l2 + 1) x H locs ls fo fl1 hw hW hS (lv_sub hl [1, 2, 0] rfl)
    · have hw := hw.2 c4
      refine lv_iconst (v := 0) hx hb d_Scn_isWord_46 (by decide) ?_
      exact hret 0 x H locs 47 ls d_Scn_isWord_47 rfl hw hW hS
set_option maxHeartbeats 4000000 in
set_option maxRecDepth 100000 in
theorem tl_Scn_isWord_15 {p : Program} {l : Launch} {e : Env} {R : Room} {s : State} {m : MethodId} {args : Array Value} {below : List Frame} {meth : Method} {c : Code} {cells slots : Nat} {Q : State → Prop} {dC : Nat → ClassId} {dI : Nat → Nat → Nat} {cI cB cJ cZ : ClassId} {A : Nat → Prop} {ad : Nat → Nat} {NN : Nat} {E : Heap} {tM tC : Nat} {kK kV : Nat → Nat} {post : Int32 → St → Prop} (hx : p.tables.exec = Jvm.exec) (hb : c.code = b_Scn_isWord) (hml : c.maxLocals = 3) (hown : s.vm.findClass R_Scn = some m.cls) (hT : ∀ w ∈ TG, w.before args s = true) (hK : va_K (dC, dI) CL (TY cI cB cJ cZ) s) (hN : NW s) (hA : ∀ q : Nat, s.heap.size ≤ q → A q) (hRc : cells ≤ R.cells) (hRs : slots ≤ R.slots) (hRf : 4 ≤ R.frames) (hRl : 200 ≤ R.locals) (hNN : 152 ≤ NN) (hE : CE E tM tC kK kV A s) (hret : ∀ (r : Int32) (x : St) (H : Heap) (locs : List Loc) (pc : Nat) (ls : Array Slot), decode b_Scn_isWord pc = .ok (.ireturn, 1) → narrow .boolean (.int r) = .int r → post r x → Wd dC dI cI cB cJ cZ ad stC kcC NN A x H → va_S A s.heap H locs → W p l e R s m args below meth c H locs cells slots Q (F0 m pc ls [.int r]))  : ∀ n : Nat, ∀ (o : Nat) (l1 : Nat) (l2 : Int32) (x : St) (H : Heap) (locs : List Loc) (ls : Array Slot), (o < NN ∧ kcC o = 2) → (l1 < NSTR) → wl_Scn_isWord_15 post n o l1 l2 x → Wd dC dI cI cB cJ cZ ad stC kcC NN A x H → va_S A s.heap H locs → lv_has ls 3 [(0, .ref (ad o)), (1, .ref (kK l1)), (2, .int l2)] → W p l e R s m args below meth c H locs cells slots Q (F0 m 15 ls []) := by
  intro n
  induction n with
  | zero => intro o l1 l2 x H locs ls fo fl1 hw; exact hw.elim
  | succ n ih => intro o l1 l2 x H locs ls fo fl1 hw hW hS hl; exact t_Scn_isWord_15 hx hb hml hown hT hK hN hA hRc hRs hRf hRl hNN hE hret  ih o l1 l2 x H locs ls fo fl1 hw hW hS hl
set_option maxRecDepth 100000 in
set_option maxHeartbeats 4000000 in
set_option maxRecDepth 100000 in
theorem t_Scn_isWord_e {p : Program} {l : Launch} {e : Env} {R : Room} {s : State} {m : MethodId} {args : Array Value} {below : List Frame} {meth : Method} {c : Code} {cells slots : Nat} {Q : State → Prop} {dC : Nat → ClassId} {dI : Nat → Nat → Nat} {cI cB cJ cZ : ClassId} {A : Nat → Prop} {ad : Nat → Nat} {NN : Nat} {E : Heap} {tM tC : Nat} {kK kV : Nat → Nat} {post : Int32 → St → Prop} (hx : p.tables.exec = Jvm.exec) (hb : c.code = b_Scn_isWord) (hml : c.maxLocals = 3) (hown : s.vm.findClass R_Scn = some m.cls) (hT : ∀ w ∈ TG, w.before args s = true) (hK : va_K (dC, dI) CL (TY cI cB cJ cZ) s) (hN : NW s) (hA : ∀ q : Nat, s.heap.size ≤ q → A q) (hRc : cells ≤ R.cells) (hRs : slots ≤ R.slots) (hRf : 4 ≤ R.frames) (hRl : 200 ≤ R.locals) (hNN : 152 ≤ NN) (hE : CE E tM tC kK kV A s) (hret : ∀ (r : Int32) (x : St) (H : Heap) (locs : List Loc) (pc : Nat) (ls : Array Slot), decode b_Scn_isWord pc = .ok (.ireturn, 1) → narrow .boolean (.int r) = .int r → post r x → Wd dC dI cI cB cJ cZ ad stC kcC NN A x H → va_S A s.heap H locs → W p l e R s m args below meth c H locs cells slots Q (F0 m pc ls [.int r])) : ∀ (o : Nat) (l1 : Nat) (x : St) (H : Heap) (locs : List Loc) (ls : Array Slot), (o < NN ∧ kcC o = 2) → (l1 < NSTR) → wp_Scn_isWord post o l1 x → Wd dC dI cI cB cJ cZ ad stC kcC NN A x H → va_S A s.heap H locs → lv_has ls 3 [(0, .ref (ad o)), (1, .ref (kK l1))] → W p l e R s m args below meth c H locs cells slots Q (F0 m 0 ls []) := by
  intro o l1 x H locs ls fo fl1 hw hW hS hl
  unfold wp_Scn_isWord at hw
  refine lv_aload_n hx hb d_Scn_isWord_0 rfl (lv_at hl 0 rfl) ?_
  refine w_geti (k := 5) (t := 2) (C := R_Scn) (T := F_Scn) (N := 8) hx hb hT hown hK hW fo.1 fo.2 (by decide) in_Scn rfl rfl (by decide) rfl fr_Scn_5 w_1_97 d_Scn_isWord_1 ?_
  refine lv_aload_n hx hb d_Scn_isWord_4 rfl (lv_at hl 1 rfl) ?_
  refine va_calli (va_runV (C := R_JStr) (As := []) (rest := [.int (fI x o 5)]) ⟨hx, hb, hml, hown, hT⟩ (c_JStr_length l dC dI cI cB cJ cZ E tM tC kK kV H.size l1 fl1) ⟨callB_of 0 hT (gwt_in w_4_159) rfl rfl rfl (hT _ w_1_17) (hT _ w_4_156) (by decide +kernel) ⟨Nat.le_trans (Nat.le_of_ble_eq_true rfl) hRf, Nat.le_trans (Nat.le_of_ble_eq_true rfl) hRl⟩, hT _ w_4_157, hT _ w_4_158⟩ ⟨PJ.blind, vk_recv hE.sS fl1 hS, PJ.at _ hK hN hE hS hA⟩ rfl rfl hl.1 rfl (lv_room (Nat.le_of_ble_eq_true rfl)) d_Scn_isWord_5 ⟨hRc, hRs⟩) hS (fun q _ h => hA q (Nat.le_trans hS.1 (nilA h))) (fun q h => hA q (Nat.le_trans hS.1 (nilA h))) (fun r5 u t H locs ht hvm hq9 hB hz1 hk1 hS => ?_)
  have hW := Wd.pure hW hk1
  clear hB ht hz1 hk1 hvm
  have hq9 : (nI (sLen.getD l1 0)) = r5 := Eq.symm hq9
  subst hq9
  refine lv_icmp_eq (tgt := 13) hx hb d_Scn_isWord_8 (by decide) (fun c6 => ?_) (fun c6 => ?_)
  · have hw := hw.1 c6
    refine lv_iconst (v := 0) hx hb d_Scn_isWord_13 (by decide) ?_
    refine lv_istore_n (lv' := [(2, .int 0), (0, .ref (ad o)), (1, .ref (kK l1))]) hx hb d_Scn_isWord_14 rfl hl (by decide) rfl (fun ls hl => ?_)
    obtain ⟨n, hw⟩ := hw
    exact tl_Scn_isWord_15 hx hb hml hown hT hK hN hA hRc hRs hRf hRl hNN hE hret  n o l1 0 x H locs ls fo fl1 hw hW hS (lv_sub hl [1, 2, 0] rfl)
  · have hw := hw.2 c6
    refine lv_iconst (v := 0) hx hb d_Scn_isWord_11 (by decide) ?_
    exact hret 0 x H locs 12 ls d_Scn_isWord_12 rfl hw hW hS
set_option maxHeartbeats 4000000 in
set_option maxRecDepth 100000 in
theorem k_Scn_isWord (l : Launch) (dC : Nat → ClassId) (dI : Nat → Nat → Nat) (cI cB cJ cZ : ClassId) (ad : Nat → Nat) (NN : Nat) (E : Heap) (tM tC : Nat) (kK kV : Nat → Nat) (hNN : 152 ≤ NN) (sz : Nat) (o : Nat) (l1 : Nat) (x : St) (fo : o < NN ∧ kcC o = 2) (fl1 : l1 < NSTR) {post : Int32 → St → Prop} (hw : wp_Scn_isWord post o l1 x) : Met l y_Scn_isWord (wsOf y_Scn_isWord b_Scn_isWord 3 (some (.boolean))) ({ frames := 4, cells := 0, slots := 0, locals := 200 }) (va_Pc [.ref (ad o), .ref (kK l1)] (PVc dC dI cI cB cJ cZ ad stC kcC NN E tM tC kK kV sz x)) (va_Qi (fun (r : Int32) (y : St) => post r y) (fun y t => Wd dC dI cI cB cJ cZ ad stC kcC NN (va_A (pic ad stC kcC NN cI cB cJ cZ x) sz) y t.heap) (va_A (pic ad stC kcC NN cI cB cJ cZ x) sz)) 0 0 (va_A (pic ad stC kcC NN cI cB cJ cZ x) sz) := by
  refine Met.ofW (cc := b_Scn_isWord) (maxL := 3) (ret := some (.boolean)) (by decide) rfl ?_
  intro p e s m args below meth c s₁ B hml hv
  obtain ⟨rfl, ⟨hsz, hW0, hK, hN⟩, hE⟩ := hv
  have hx := B.exec
  have hb := B.bytes
  have hr := B.returns
  have hts := atoms_spec B.pre
  have hT : ∀ w ∈ TG, w.before _ s = true := fun w h => hts w (List.mem_cons_of_mem _ h)
  have hown : s.vm.findClass R_Scn = some m.cls := findClass_of_methodNamed B.named
  have hlocks := B.notSynchronized
  subst hsz
  have hW : Wd dC dI cI cB cJ cZ ad stC kcC NN (va_A (pic ad stC kcC NN cI cB cJ cZ x) s.heap.size) x s.heap := ⟨hW0.1, hW0.2.1.self (sz := s.heap.size), hW0.2.2⟩
  generalize hAe : va_A (pic ad stC kcC NN cI cB cJ cZ x) s.heap.size = A at hW hE ⊢
  have hA : ∀ q : Nat, s.heap.size ≤ q → A q := fun q h => by rw [← hAe]; exact Or.inr h
  have hS : va_S A s.heap s.heap [] := va_S.rf
  have hl := lv_entry ([.ref (ad o), .ref (kK l1)]) (n := 3) (Nat.le_of_ble_eq_true rfl)
  rw [lg_entry_eq]
  generalize (lg_sl ([.ref (ad o), .ref (kK l1)]) ++ List.replicate (3 - (lg_sl ([.ref (ad o), .ref (kK l1)])).length) Slot.unset).toArray = ls at hl ⊢
  have hl : lv_has ls 3 [(0, .ref (ad o)), (1, .ref (kK l1))] := hl
  exact t_Scn_isWord_e hx hb hml hown hT hK hN hA (Nat.le_refl 0) (Nat.le_refl 0) (Nat.le_refl 4) (Nat.le_refl 200) hNN hE (fun r x H locs pc ls hd hz hp hW hS => W.zret (v := r) (ty := .boolean) hx hb hr hz (fun t ht hM => ⟨⟨r, x, rfl, hp, Wd.back hW ht.symm (fun _ z => z)⟩, hS.F ht⟩) hS.2.2 hd hlocks)  o l1 x _ _ ls fo fl1 hw hW hS hl
set_option maxRecDepth 100000 in
set_option maxHeartbeats 4000000 in
set_option maxRecDepth 100000 in
theorem t_Scn_takeWord_e {p : Program} {l : Launch} {e : Env} {R : Room} {s : State} {m : MethodId} {args : Array Value} {below : List Frame} {meth : Method} {c : Code} {cells slots : Nat} {Q : State → Prop} {dC : Nat → ClassId} {dI : Nat → Nat → Nat} {cI cB cJ cZ : ClassId} {A : Nat → Prop} {ad : Nat → Nat} {NN : Nat} {E : Heap} {tM tC : Nat} {kK kV : Nat → Nat} {post : Int32 → St → Prop} (hx : p.tables.exec = Jvm.exec) (hb : c.code = b_Scn_takeWord) (hml : c.maxLocals = 2) (hown : s.vm.findClass R_Scn = some m.cls) (hT : ∀ w ∈ TG, w.before args s = true) (hK : va_K (dC, dI) CL (TY cI cB cJ cZ) s) (hN : NW s) (hA : ∀ q : Nat, s.heap.size ≤ q → A q) (hRc : cells ≤ R.cells) (hRs : slots ≤ R.slots) (hRf : 5 ≤ R.frames) (hRl : 222 ≤ R.locals) (hNN : 152 ≤ NN) (hE : CE E tM tC kK kV A s) (hret : ∀ (r : Int32) (x : St) (H : Heap) (locs : List Loc) (pc : Nat) (ls : Array Slot), decode b_Scn_takeWord pc = .ok (.ireturn, 1) → narrow .boolean (.int r) = .int r → post r x → Wd dC dI cI cB cJ cZ ad stC kcC NN A x H → va_S A s.heap H locs → W p l e R s m args below meth c H locs cells slots Q (F0 m pc ls [.int r])) : ∀ (o : Nat) (l1 : Nat) (x : St) (H : Heap) (locs : List Loc) (ls : Array Slot), (o < NN ∧ kcC o = 2) → (l1 < NSTR) → wp_Scn_takeWord post o l1 x → Wd dC dI cI cB cJ cZ ad stC kcC NN A x H → va_S A s.heap H locs → lv_has ls 2 [(0, .ref (ad o)), (1, .ref (kK l1))] → W p l e R s m args below meth c H locs cells slots Q (F0 m 0 ls []) := by
  intro o l1 x H locs ls fo fl1 hw hW hS hl
  unfold wp_Scn_takeWord at hw
  refine lv_aload_n hx hb d_Scn_takeWord_0 rfl (lv_at hl 0 rfl) ?_
  have hF := hW.free hS hA
  refine va_calli (va_runV (C := R_Scn) (As := []) (rest := []) ⟨hx, hb, hml, hown, hT⟩ (k_Scn_takeAnyWord l dC dI cI cB cJ cZ ad NN E tM tC kK kV hNN H.size o x fo hw) ⟨callB_of 0 hT (gwt_in w_4_145) rfl rfl rfl (hT _ w_1_4) (hT _ w_4_142) (by decide +kernel) ⟨Nat.le_trans (Nat.le_of_ble_eq_true rfl) hRf, Nat.le_trans (Nat.le_of_ble_eq_true rfl) hRl⟩, hT _ w_4_143, hT _ w_4_144⟩ ⟨PVc.blind, va_recv hK hW.1 (ci := 2) (q0 := o) rfl (pic_obj fo.1 fo.2 (by decide)), PVc.at _ hW hK hN hE hS hF⟩ rfl rfl hl.1 rfl (lv_room (Nat.le_of_ble_eq_true rfl)) d_Scn_takeWord_1 ⟨hRc, hRs⟩) hS (fun q _ h => hF q h) hF (fun r2 x1 t H locs ht hvm hw hB hz1 hk1 hS => ?_)
  have hW := Wd.back hB ht hF
  clear hB ht hF hz1 hk1 hvm
  refine lv_if_ne (tgt := 9) hx hb d_Scn_takeWord_4 (by decide) (fun c3 => ?_) (fun c3 => ?_)
  · have hw := hw.1 c3
    refine lv_aload_n hx hb d_Scn_takeWord_9 rfl (lv_at hl 0 rfl) ?_
    refine lv_aload_n hx hb d_Scn_takeWord_10 rfl (lv_at hl 1 rfl) ?_
    have hF := hW.free hS hA
    refine va_calli (va_runV (C := R_Scn) (As := [.ref (kK l1)]) (rest := []) ⟨hx, hb, hml, hown, hT⟩ (k_Scn_isWord l dC dI cI cB cJ cZ ad NN E tM tC kK kV hNN H.size o l1 x1 fo fl1 hw) ⟨callB_of 1 hT (gwt_in w_4_155) rfl rfl rfl (hT _ w_1_4) (hT _ w_4_152) (by decide +kernel) ⟨Nat.le_trans (Nat.le_of_ble_eq_true rfl) hRf, Nat.le_trans (Nat.le_of_ble_eq_true rfl) hRl⟩, hT _ w_4_153, hT _ w_4_154⟩ ⟨PVc.blind, va_recv hK hW.1 (ci := 2) (q0 := o) rfl (pic_obj fo.1 fo.2 (by decide)), PVc.at _ hW hK hN hE hS hF⟩ rfl rfl hl.1 rfl (lv_room (Nat.le_of_ble_eq_true rfl)) d_Scn_takeWord_11 ⟨hRc, hRs⟩) hS (fun q _ h => hF q h) hF (fun r5 x4 t H locs ht hvm hw hB hz1 hk1 hS => ?_)
    have hW := Wd.back hB ht hF
    clear hB ht hF hz1 hk1 hvm
    refine lv_if_eq (tgt := 19) hx hb d_Scn_takeWord_14 (by decide) (fun c6 => ?_) (fun c6 => ?_)
    · have hw := hw.1 c6
      refine lv_aload_n hx hb d_Scn_takeWord_19 rfl (lv_at hl 0 rfl) ?_
      refine lv_aload_n hx hb d_Scn_takeWord_20 rfl (lv_at hl 0 rfl) ?_
      refine w_geti (k := 4) (t := 2) (C := R_Scn) (T := F_Scn) (N := 8) hx hb hT hown hK hW fo.1 fo.2 (by decide) in_Scn rfl rfl (by decide) rfl fr_Scn_4 w_1_93 d_Scn_takeWord_21 ?_
      refine w_puti (ty := .int) (k := 2) (t := 2) (C := R_Scn) (T := F_Scn) (N := 8) hx hb hT hown hK hW hS fo.1 fo.2 (by decide) in_Scn t_Scn t_Scn_ok n_Scn rfl rfl (by decide) rfl fr_Scn_2 w_1_85 (by decide +kernel) rfl rfl d_Scn_takeWord_24 (fun H locs hW hS => ?_)
      obtain ⟨x7, ex7⟩ : ∃ y : St, y = setI x4 o 2 (fI x4 o 4) := ⟨_, rfl⟩
      rw [← ex7] at hW
      have hw := hw x7 ex7
      refine lv_iconst (v := 0) hx hb d_Scn_takeWord_27 (by decide) ?_
      exact hret 0 x7 H locs 28 ls d_Scn_takeWord_28 rfl hw hW hS
    · have hw := hw.2 c6
      refine lv_iconst (v := 1) hx hb d_Scn_takeWord_17 (by decide) ?_
      exact hret 1 x4 H locs 18 ls d_Scn_takeWord_18 rfl hw hW hS
  · have hw := hw.2 c3
    refine lv_iconst (v := 0) hx hb d_Scn_takeWord_7 (by decide) ?_
    exact hret 0 x1 H locs 8 ls d_Scn_takeWord_8 rfl hw hW hS
set_option maxHeartbeats 4000000 in
set_option maxRecDepth 100000 in
theorem k_Scn_takeWord (l : Launch) (dC : Nat → ClassId) (dI : Nat → Nat → Nat) (cI cB cJ cZ : ClassId) (ad : Nat → Nat) (NN : Nat) (E : Heap) (tM tC : Nat) (kK kV : Nat → Nat) (hNN : 152 ≤ NN) (sz : Nat) (o : Nat) (l1 : Nat) (x : St) (fo : o < NN ∧ kcC o = 2) (fl1 : l1 < NSTR) {post : Int32 → St → Prop} (hw : wp_Scn_takeWord post o l1 x) : Met l y_Scn_takeWord (wsOf y_Scn_takeWord b_Scn_takeWord 2 (some (.boolean))) ({ frames := 5, cells := 0, slots := 0, locals := 222 }) (va_Pc [.ref (ad o), .ref (kK l1)] (PVc dC dI cI cB cJ cZ ad stC kcC NN E tM tC kK kV sz x)) (va_Qi (fun (r : Int32) (y : St) => post r y) (fun y t => Wd dC dI cI cB cJ cZ ad stC kcC NN (va_A (pic ad stC kcC NN cI cB cJ cZ x) sz) y t.heap) (va_A (pic ad stC kcC NN cI cB cJ cZ x) sz)) 0 0 (va_A (pic ad stC kcC NN cI cB cJ cZ x) sz) := by
  refine Met.ofW (cc := b_Scn_takeWord) (maxL := 2) (ret := some (.boolean)) (by decide) rfl ?_
  intro p e s m args below meth c s₁ B hml hv
  obtain ⟨rfl, ⟨hsz, hW0, hK, hN⟩, hE⟩ := hv
  have hx := B.exec
  have hb := B.bytes
  have hr := B.returns
  have hts := atoms_spec B.pre
  have hT : ∀ w ∈ TG, w.before _ s = true := fun w h => hts w (List.mem_cons_of_mem _ h)
  have hown : s.vm.findClass R_Scn = some m.cls := findClass_of_methodNamed B.named
  have hlocks := B.notSynchronized
  subst hsz
  have hW : Wd dC dI cI cB cJ cZ ad stC kcC NN (va_A (pic ad stC kcC NN cI cB cJ cZ x) s.heap.size) x s.heap := ⟨hW0.1, hW0.2.1.self (sz := s.heap.size), hW0.2.2⟩
  generalize hAe : va_A (pic ad stC kcC NN cI cB cJ cZ x) s.heap.size = A at hW hE ⊢
  have hA : ∀ q : Nat, s.heap.size ≤ q → A q := fun q h => by rw [← hAe]; exact Or.inr h
  have hS : va_S A s.heap s.heap [] := va_S.rf
  have hl := lv_entry ([.ref (ad o), .ref (kK l1)]) (n := 2) (Nat.le_of_ble_eq_true rfl)
  rw [lg_entry_eq]
  generalize (lg_sl ([.ref (ad o), .ref (kK l1)]) ++ List.replicate (2 - (lg_sl ([.ref (ad o), .ref (kK l1)])).length) Slot.unset).toArray = ls at hl ⊢
  have hl : lv_has ls 2 [(0, .ref (ad o)), (1, .ref (kK l1))] := hl
  exact t_Scn_takeWord_e hx hb hml hown hT hK hN hA (Nat.le_refl 0) (Nat.le_refl 0) (Nat.le_refl 5) (Nat.le_refl 222) hNN hE (fun r x H locs pc ls hd hz hp hW hS => W.zret (v := r) (ty := .boolean) hx hb hr hz (fun t ht hM => ⟨⟨r, x, rfl, hp, Wd.back hW ht.symm (fun _ z => z)⟩, hS.F ht⟩) hS.2.2 hd hlocks)  o l1 x _ _ ls fo fl1 hw hW hS hl
set_option maxRecDepth 100000 in
set_option maxHeartbeats 4000000 in
set_option maxRecDepth 100000 in
theorem t_Scn_needWord_e {p : Program} {l : Launch} {e : Env} {R : Room} {s : State} {m : MethodId} {args : Array Value} {below : List Frame} {meth : Method} {c : Code} {cells slots : Nat} {Q : State → Prop} {dC : Nat → ClassId} {dI : Nat → Nat → Nat} {cI cB cJ cZ : ClassId} {A : Nat → Prop} {ad : Nat → Nat} {NN : Nat} {E : Heap} {tM tC : Nat} {kK kV : Nat → Nat} {post : St → Prop} (hx : p.tables.exec = Jvm.exec) (hb : c.code = b_Scn_needWord) (hml : c.maxLocals = 2) (hown : s.vm.findClass R_Scn = some m.cls) (hT : ∀ w ∈ TG, w.before args s = true) (hK : va_K (dC, dI) CL (TY cI cB cJ cZ) s) (hN : NW s) (hA : ∀ q : Nat, s.heap.size ≤ q → A q) (hRc : cells ≤ R.cells) (hRs : slots ≤ R.slots) (hRf : 6 ≤ R.frames) (hRl : 243 ≤ R.locals) (hNN : 152 ≤ NN) (hE : CE E tM tC kK kV A s) (hret : ∀ (x : St) (H : Heap) (locs : List Loc) (pc : Nat) (ls : Array Slot), decode b_Scn_needWord pc = .ok (.return_, 1) → post x → Wd dC dI cI cB cJ cZ ad stC kcC NN A x H → va_S A s.heap H locs → W p l e R s m args below meth c H locs cells slots Q (F0 m pc ls [])) : ∀ (o : Nat) (l1 : Nat) (x : St) (H : Heap) (locs : List Loc) (ls : Array Slot), (o < NN ∧ kcC o = 2) → (l1 < NSTR) → wp_Scn_needWord post o l1 x → Wd dC dI cI cB cJ cZ ad stC kcC NN A x H → va_S A s.heap H locs → lv_has ls 2 [(0, .ref (ad o)), (1, .ref (kK l1))] → W p l e R s m args below meth c H locs cells slots Q (F0 m 0 ls []) := by
  intro o l1 x H locs ls fo fl1 hw hW hS hl
  unfold wp_Scn_needWord at hw
  refine lv_aload_n hx hb d_Scn_needWord_0 rfl (lv_at hl 0 rfl) ?_
  have hF := hW.free hS hA
  refine va_calli (va_runV (C := R_Scn) (As := []) (rest := []) ⟨hx, hb, hml, hown, hT⟩ (k_Scn_good l dC dI cI cB cJ cZ ad NN E tM tC kK kV hNN H.size o x fo hw) ⟨callB_of 0 hT (gwt_in w_4_106) rfl rfl rfl (hT _ w_1_4) (hT _ w_4_119) (by decide +kernel) ⟨Nat.le_trans (Nat.le_of_ble_eq_true rfl) hRf, Nat.le_trans (Nat.le_of_ble_eq_true rfl) hRl⟩, hT _ w_4_104, hT _ w_4_105⟩ ⟨PVc.blind, va_recv hK hW.1 (ci := 2) (q0 := o) rfl (pic_obj fo.1 fo.2 (by decide)), PVc.at _ hW hK hN hE hS hF⟩ rfl rfl hl.1 rfl (lv_room (Nat.le_of_ble_eq_true rfl)) d_Scn_needWord_1 ⟨hRc, hRs⟩) hS (fun q _ h => hF q h) hF (fun r2 x1 t H locs ht hvm hw hB hz1 hk1 hS => ?_)
  have hW := Wd.back hB ht hF
  clear hB ht hF hz1 hk1 hvm
  refine lv_if_eq (tgt := 23) hx hb d_Scn_needWord_4 (by decide) (fun c3 => ?_) (fun c3 => ?_)
  · have hw := hw.1 c3
    exact hret x1 H locs 23 ls d_Scn_needWord_23 hw hW hS
  · have hw := hw.2 c3
    refine lv_aload_n hx hb d_Scn_needWord_7 rfl (lv_at hl 0 rfl) ?_
    refine lv_aload_n hx hb d_Scn_needWord_8 rfl (lv_at hl 1 rfl) ?_
    have hF := hW.free hS hA
    refine va_calli (va_runV (C := R_Scn) (As := [.ref (kK l1)]) (rest := []) ⟨hx, hb, hml, hown, hT⟩ (k_Scn_takeWord l dC dI cI cB cJ cZ ad NN E tM tC kK kV hNN H.size o l1 x1 fo fl1 hw) ⟨callB_of 1 hT (gwt_in w_4_141) rfl rfl rfl (hT _ w_1_4) (hT _ w_4_210) (by decide +kernel) ⟨Nat.le_trans (Nat.le_of_ble_eq_true rfl) hRf, Nat.le_trans (Nat.le_of_ble_eq_true rfl) hRl⟩, hT _ w_4_139, hT _ w_4_140⟩ ⟨PVc.blind, va_recv hK hW.1 (ci := 2) (q0 := o) rfl (pic_obj fo.1 fo.2 (by decide)), PVc.at _ hW hK hN hE hS hF⟩ rfl rfl hl.1 rfl (lv_room (Nat.le_of_ble_eq_true rfl)) d_Scn_needWord_9 ⟨hRc, hRs⟩) hS (fun q _ h => hF q h) hF (fun r5 x4 t H locs ht hvm hw hB hz1 hk1 hS => ?_)
    have hW := Wd.back hB ht hF
    clear hB ht hF hz1 hk1 hvm
    refine lv_if_ne (tgt := 23) hx hb d_Scn_needWord_12 (by decide) (fun c6 => ?_) (fun c6 => ?_)
    · have hw := hw.1 c6
      exact hret x4 H locs 23 ls d_Scn_needWord_23 hw hW hS
    · have hw := hw.2 c6
      refine lv_aload_n hx hb d_Scn_needWord_15 rfl (lv_at hl 0 rfl) ?_
      refine lv_aload_n hx hb d_Scn_needWord_16 rfl (lv_at hl 0 rfl) ?_
      refine w_geti (k := 2) (t := 2) (C := R_Scn) (T := F_Scn) (N := 8) hx hb hT hown hK hW fo.1 fo.2 (by decide) in_Scn rfl rfl (by decide) rfl fr_Scn_2 w_1_85 d_Scn_needWord_17 ?_
      have hF := hW.free hS hA
      refine va_callv (va_runV (C := R_Scn) (As := [.int (fI x4 o 2)]) (rest := []) ⟨hx, hb, hml, hown, hT⟩ (k_Scn_refuse l dC dI cI cB cJ cZ ad NN E tM tC kK kV hNN H.size o (fI x4 o 2) x4 fo hw) ⟨callB_of 1 hT (gwt_in w_4_128) rfl rfl rfl (hT _ w_1_4) (hT _ w_4_125) (by decide +kernel) ⟨Nat.le_trans (Nat.le_of_ble_eq_true rfl) hRf, Nat.le_trans (Nat.le_of_ble_eq_true rfl) hRl⟩, hT _ w_4_126, hT _ w_4_127⟩ ⟨PVc.blind, va_recv hK hW.1 (ci := 2) (q0 := o) rfl (pic_obj fo.1 fo.2 (by decide)), PVc.at _ hW hK hN hE hS hF⟩ rfl rfl hl.1 rfl (lv_room (Nat.le_of_ble_eq_true rfl)) d_Scn_needWord_20 ⟨hRc, hRs⟩) hS (fun q _ h => hF q h) hF (fun  x7 t H locs ht hvm hw hB hz1 hk1 hS => ?_)
      have hW := Wd.back hB ht hF
      clear hB ht hF hz1 hk1 hvm
      exact hret x7 H locs 23 ls d_Scn_needWord_23 hw hW hS
set_option maxHeartbeats 4000000 in
set_option maxRecDepth 100000 in
theorem k_Scn_needWord (l : Launch) (dC : Nat → ClassId) (dI : Nat → Nat → Nat) (cI cB cJ cZ : ClassId) (ad : Nat → Nat) (NN : Nat) (E : Heap) (tM tC : Nat) (kK kV : Nat → Nat) (hNN : 152 ≤ NN) (sz : Nat) (o : Nat) (l1 : Nat) (x : St) (fo : o < NN ∧ kcC o = 2) (fl1 : l1 < NSTR) {post : St → Prop} (hw : wp_Scn_needWord post o l1 x) : Met l y_Scn_needWord (wsOf y_Scn_needWord b_Scn_needWord 2 (none)) ({ frames := 6, cells := 0, slots := 0, locals := 243 }) (va_Pc [.ref (ad o), .ref (kK l1)] (PVc dC dI cI cB cJ cZ ad stC kcC NN E tM tC kK kV sz x)) (va_Qv (fun (y : St) => post y) (fun y t => Wd dC dI cI cB cJ cZ ad stC kcC NN (va_A (pic ad stC kcC NN cI cB cJ cZ x) sz) y t.heap) (va_A (pic ad stC kcC NN cI cB cJ cZ x) sz)) 0 0 (va_A (pic ad stC kcC NN cI cB cJ cZ x) sz) := by
  refine Met.ofW (cc := b_Scn_needWord) (maxL := 2) (ret := none) (by decide) rfl ?_
  intro p e s m args below meth c s₁ B hml hv
  obtain ⟨rfl, ⟨hsz, hW0, hK, hN⟩, hE⟩ := hv
  have hx := B.exec
  have hb := B.bytes
  have hr := B.returns
  have hts := atoms_spec B.pre
  have hT : ∀ w ∈ TG, w.before _ s = true := fun w h => hts w (List.mem_cons_of_mem _ h)
  have hown : s.vm.findClass R_Scn = some m.cls := findClass_of_methodNamed B.named
  have hlocks := B.notSynchronized
  subst hsz
  have hW : Wd dC dI cI cB cJ cZ ad stC kcC NN (va_A (pic ad stC kcC NN cI cB cJ cZ x) s.heap.size) x s.heap := ⟨hW0.1, hW0.2.1.self (sz := s.heap.size), hW0.2.2⟩
  generalize hAe : va_A (pic ad stC kcC NN cI cB cJ cZ x) s.heap.size = A at hW hE ⊢
  have hA : ∀ q : Nat, s.heap.size ≤ q → A q := fun q h => by rw [← hAe]; exact Or.inr h
  have hS : va_S A s.heap s.heap [] := va_S.rf
  have hl := lv_entry ([.ref (ad o), .ref (kK l1)]) (n := 2) (Nat.le_of_ble_eq_true rfl)
  rw [lg_entry_eq]
  generalize (lg_sl ([.ref (ad o), .ref (kK l1)]) ++ List.replicate (2 - (lg_sl ([.ref (ad o), .ref (kK l1)])).length) Slot.unset).toArray = ls at hl ⊢
  have hl : lv_has ls 2 [(0, .ref (ad o)), (1, .ref (kK l1))] := hl
  exact t_Scn_needWord_e hx hb hml hown hT hK hN hA (Nat.le_refl 0) (Nat.le_refl 0) (Nat.le_refl 6) (Nat.le_refl 243) hNN hE (fun x H locs pc ls hd hp hW hS => W.vret hx hb hr (fun t ht hM => ⟨⟨x, rfl, hp, Wd.back hW ht.symm (fun _ z => z)⟩, hS.F ht⟩) hS.2.2 hd hlocks)  o l1 x _ _ ls fo fl1 hw hW hS hl
set_option maxRecDepth 100000 in
set_option maxHeartbeats 4000000 in
set_option maxRecDepth 100000 in
theorem t_Sch_readMode_e {p : Program} {l : Launch} {e : Env} {R : Room} {s : State} {m : MethodId} {args : Array Value} {below : List Frame} {meth : Method} {c : Code} {cells slots : Nat} {Q : State → Prop} {dC : Nat → ClassId} {dI : Nat → Nat → Nat} {cI cB cJ cZ : ClassId} {A : Nat → Prop} {ad : Nat → Nat} {NN : Nat} {E : Heap} {tM tC : Nat} {kK kV : Nat → Nat} {post : Int32 → St → Prop} (hx : p.tables.exec = Jvm.exec) (hb : c.code = b_Sch_readMode) (hml : c.maxLocals = 2) (hown : s.vm.findClass R_Sch = some m.cls) (hT : ∀ w ∈ TG, w.before args s = true) (hK : va_K (dC, dI) CL (TY cI cB cJ cZ) s) (hN : NW s) (hA : ∀ q : Nat, s.heap.size ≤ q → A q) (hRc : cells ≤ R.cells) (hRs : slots ≤ R.slots) (hRf : 7 ≤ R.frames) (hRl : 264 ≤ R.locals) (hNN : 152 ≤ NN) (hE : CE E tM tC kK kV A s) (hret : ∀ (r : Int32) (x : St) (H : Heap) (locs : List Loc) (pc : Nat) (ls : Array Slot), decode b_Sch_readMode pc = .ok (.ireturn, 1) → post r x → Wd dC dI cI cB cJ cZ ad stC kcC NN A x H → va_S A s.heap H locs → W p l e R s m args below meth c H locs cells slots Q (F0 m pc ls [.int r])) : ∀ (o : Nat) (l1 : Nat) (x : St) (H : Heap) (locs : List Loc) (ls : Array Slot), (o < NN ∧ kcC o = 3) → (l1 < NN ∧ kcC l1 = 2) → wp_Sch_readMode post o l1 x → Wd dC dI cI cB cJ cZ ad stC kcC NN A x H → va_S A s.heap H locs → lv_has ls 2 [(0, .ref (ad o)), (1, .ref (ad l1))] → W p l e R s m args below meth c H locs cells slots Q (F0 m 0 ls []) := by
  intro o l1 x H locs ls fo fl1 hw hW hS hl
  unfold wp_Sch_readMode at hw
  refine lv_aload_n hx hb d_Sch_readMode_0 rfl (lv_at hl 1 rfl) ?_
  refine va_ldcS hx hb hown (hE.str 0 (by decide)) d_Sch_readMode_1 ?_
  have hF := hW.free hS hA
  refine va_calli (va_runV (C := R_Scn) (As := [.ref (kK 0)]) (rest := []) ⟨hx, hb, hml, hown, hT⟩ (k_Scn_takeWord l dC dI cI cB cJ cZ ad NN E tM tC kK kV hNN H.size l1 0 x fl1 (by decide) hw) ⟨callB_of 1 hT (gwt_in w_4_141) rfl rfl rfl (hT _ w_1_4) (hT _ w_4_138) (by decide +kernel) ⟨Nat.le_trans (Nat.le_of_ble_eq_true rfl) hRf, Nat.le_trans (Nat.le_of_ble_eq_true rfl) hRl⟩, hT _ w_4_139, hT _ w_4_140⟩ ⟨PVc.blind, va_recv hK hW.1 (ci := 2) (q0 := l1) rfl (pic_obj fl1.1 fl1.2 (by decide)), PVc.at _ hW hK hN hE hS hF⟩ rfl rfl hl.1 rfl (lv_room (Nat.le_of_ble_eq_true rfl)) d_Sch_readMode_3 ⟨hRc, hRs⟩) hS (fun q _ h => hF q h) hF (fun r2 x1 t H locs ht hvm hw hB hz1 hk1 hS => ?_)
  have hW := Wd.back hB ht hF
  clear hB ht hF hz1 hk1 hvm
  refine lv_if_eq (tgt := 11) hx hb d_Sch_readMode_6 (by decide) (fun c3 => ?_) (fun c3 => ?_)
  · have hw := hw.1 c3
    refine lv_aload_n hx hb d_Sch_readMode_11 rfl (lv_at hl 1 rfl) ?_
    refine va_ldcS hx hb hown (hE.str 1 (by decide)) d_Sch_readMode_12 ?_
    have hF := hW.free hS hA
    refine va_calli (va_runV (C := R_Scn) (As := [.ref (kK 1)]) (rest := []) ⟨hx, hb, hml, hown, hT⟩ (k_Scn_takeWord l dC dI cI cB cJ cZ ad NN E tM tC kK kV hNN H.size l1 1 x1 fl1 (by decide) hw) ⟨callB_of 1 hT (gwt_in w_4_141) rfl rfl rfl (hT _ w_1_4) (hT _ w_4_138) (by decide +kernel) ⟨Nat.le_trans (Nat.le_of_ble_eq_true rfl) hRf, Nat.le_trans (Nat.le_of_ble_eq_true rfl) hRl⟩, hT _ w_4_139, hT _ w_4_140⟩ ⟨PVc.blind, va_recv hK hW.1 (ci := 2) (q0 := l1) rfl (pic_obj fl1.1 fl1.2 (by decide)), PVc.at _ hW hK hN hE hS hF⟩ rfl rfl hl.1 rfl (lv_room (Nat.le_of_ble_eq_true rfl)) d_Sch_readMode_14 ⟨hRc, hRs⟩) hS (fun q _ h => hF q h) hF (fun r5 x4 t H locs ht hvm hw hB hz1 hk1 hS => ?_)
    have hW := Wd.back hB ht hF
    clear hB ht hF hz1 hk1 hvm
    refine lv_if_eq (tgt := 22) hx hb d_Sch_readMode_17 (by decide) (fun c6 => ?_) (fun c6 => ?_)
    · have hw := hw.1 c6
      refine lv_aload_n hx hb d_Sch_readMode_22 rfl (lv_at hl 1 rfl) ?_
      refine va_ldcS hx hb hown (hE.str 2 (by decide)) d_Sch_readMode_23 ?_
      have hF := hW.free hS hA
      refine va_callv (va_runV (C := R_Scn) (As := [.ref (kK 2)]) (rest := []) ⟨hx, hb, hml, hown, hT⟩ (k_Scn_needWord l dC dI cI cB cJ cZ ad NN E tM tC kK kV hNN H.size l1 2 x4 fl1 (by decide) hw) ⟨callB_of 1 hT (gwt_in w_4_209) rfl rfl rfl (hT _ w_1_4) (hT _ w_4_206) (by decide +kernel) ⟨Nat.le_trans (Nat.le_of_ble_eq_true rfl) hRf, Nat.le_trans (Nat.le_of_ble_eq_true rfl) hRl⟩, hT _ w_4_207, hT _ w_4_208⟩ ⟨PVc.blind, va_recv hK hW.1 (ci := 2) (q0 := l1) rfl (pic_obj fl1.1 fl1.2 (by decide)), PVc.at _ hW hK hN hE hS hF⟩ rfl rfl hl.1 rfl (lv_room (Nat.le_of_ble_eq_true rfl)) d_Sch_readMode_25 ⟨hRc, hRs⟩) hS (fun q _ h => hF q h) hF (fun  x7 t H locs ht hvm hw hB hz1 hk1 hS => ?_)
      have hW := Wd.back hB ht hF
      clear hB ht hF hz1 hk1 hvm
      refine lv_iconst (v := 2) hx hb d_Sch_readMode_28 (by decide) ?_
      exact hret 2 x7 H locs 29 ls d_Sch_readMode_29 hw hW hS
    · have hw := hw.2 c6
      refine lv_iconst (v := 1) hx hb d_Sch_readMode_20 (by decide) ?_
      exact hret 1 x4 H locs 21 ls d_Sch_readMode_21 hw hW hS
  · have hw := hw.2 c3
    refine lv_iconst (v := 0) hx hb d_Sch_readMode_9 (by decide) ?_
    exact hret 0 x1 H locs 10 ls d_Sch_readMode_10 hw hW hS
set_option maxHeartbeats 4000000 in
set_option maxRecDepth 100000 in
theorem k_Sch_readMode (l : Launch) (dC : Nat → ClassId) (dI : Nat → Nat → Nat) (cI cB cJ cZ : ClassId) (ad : Nat → Nat) (NN : Nat) (E : Heap) (tM tC : Nat) (kK kV : Nat → Nat) (hNN : 152 ≤ NN) (sz : Nat) (o : Nat) (l1 : Nat) (x : St) (fo : o < NN ∧ kcC o = 3) (fl1 : l1 < NN ∧ kcC l1 = 2) {post : Int32 → St → Prop} (hw : wp_Sch_readMode post o l1 x) : Met l y_Sch_readMode (wsOf y_Sch_readMode b_Sch_readMode 2 (some (.int))) ({ frames := 7, cells := 0, slots := 0, locals := 264 }) (va_Pc [.ref (ad o), .ref (ad l1)] (PVc dC dI cI cB cJ cZ ad stC kcC NN E tM tC kK kV sz x)) (va_Qi (fun (r : Int32) (y : St) => post r y) (fun y t => Wd dC dI cI cB cJ cZ ad stC kcC NN (va_A (pic ad stC kcC NN cI cB cJ cZ x) sz) y t.heap) (va_A (pic ad stC kcC NN cI cB cJ cZ x) sz)) 0 0 (va_A (pic ad stC kcC NN cI cB cJ cZ x) sz) := by
  refine Met.ofW (cc := b_Sch_readMode) (maxL := 2) (ret := some (.int)) (by decide) rfl ?_
  intro p e s m args below meth c s₁ B hml hv
  obtain ⟨rfl, ⟨hsz, hW0, hK, hN⟩, hE⟩ := hv
  have hx := B.exec
  have hb := B.bytes
  have hr := B.returns
  have hts := atoms_spec B.pre
  have hT : ∀ w ∈ TG, w.before _ s = true := fun w h => hts w (List.mem_cons_of_mem _ h)
  have hown : s.vm.findClass R_Sch = some m.cls := findClass_of_methodNamed B.named
  have hlocks := B.notSynchronized
  subst hsz
  have hW : Wd dC dI cI cB cJ cZ ad stC kcC NN (va_A (pic ad stC kcC NN cI cB cJ cZ x) s.heap.size) x s.heap := ⟨hW0.1, hW0.2.1.self (sz := s.heap.size), hW0.2.2⟩
  generalize hAe : va_A (pic ad stC kcC NN cI cB cJ cZ x) s.heap.size = A at hW hE ⊢
  have hA : ∀ q : Nat, s.heap.size ≤ q → A q := fun q h => by rw [← hAe]; exact Or.inr h
  have hS : va_S A s.heap s.heap [] := va_S.rf
  have hl := lv_entry ([.ref (ad o), .ref (ad l1)]) (n := 2) (Nat.le_of_ble_eq_true rfl)
  rw [lg_entry_eq]
  generalize (lg_sl ([.ref (ad o), .ref (ad l1)]) ++ List.replicate (2 - (lg_sl ([.ref (ad o), .ref (ad l1)])).length) Slot.unset).toArray = ls at hl ⊢
  have hl : lv_has ls 2 [(0, .ref (ad o)), (1, .ref (ad l1))] := hl
  exact t_Sch_readMode_e hx hb hml hown hT hK hN hA (Nat.le_refl 0) (Nat.le_refl 0) (Nat.le_refl 7) (Nat.le_refl 264) hNN hE (fun r x H locs pc ls hd hp hW hS => W.iret (v := r) hx hb hr (fun t ht hM => ⟨⟨r, x, rfl, hp, Wd.back hW ht.symm (fun _ z => z)⟩, hS.F ht⟩) hS.2.2 hd hlocks)  o l1 x _ _ ls fo fl1 hw hW hS hl
set_option maxRecDepth 100000 in
set_option maxHeartbeats 4000000 in
set_option maxRecDepth 100000 in
theorem t_Sch_readType_e {p : Program} {l : Launch} {e : Env} {R : Room} {s : State} {m : MethodId} {args : Array Value} {below : List Frame} {meth : Method} {c : Code} {cells slots : Nat} {Q : State → Prop} {dC : Nat → ClassId} {dI : Nat → Nat → Nat} {cI cB cJ cZ : ClassId} {A : Nat → Prop} {ad : Nat → Nat} {NN : Nat} {E : Heap} {tM tC : Nat} {kK kV : Nat → Nat} {post : Int32 → St → Prop} (hx : p.tables.exec = Jvm.exec) (hb : c.code = b_Sch_readType) (hml : c.maxLocals = 2) (hown : s.vm.findClass R_Sch = some m.cls) (hT : ∀ w ∈ TG, w.before args s = true) (hK : va_K (dC, dI) CL (TY cI cB cJ cZ) s) (hN : NW s) (hA : ∀ q : Nat, s.heap.size ≤ q → A q) (hRc : cells ≤ R.cells) (hRs : slots ≤ R.slots) (hRf : 7 ≤ R.frames) (hRl : 264 ≤ R.locals) (hNN : 152 ≤ NN) (hE : CE E tM tC kK kV A s) (hret : ∀ (r : Int32) (x : St) (H : Heap) (locs : List Loc) (pc : Nat) (ls : Array Slot), decode b_Sch_readType pc = .ok (.ireturn, 1) → post r x → Wd dC dI cI cB cJ cZ ad stC kcC NN A x H → va_S A s.heap H locs → W p l e R s m args below meth c H locs cells slots Q (F0 m pc ls [.int r])) : ∀ (o : Nat) (l1 : Nat) (x : St) (H : Heap) (locs : List Loc) (ls : Array Slot), (o < NN ∧ kcC o = 3) → (l1 < NN ∧ kcC l1 = 2) → wp_Sch_readType post o l1 x → Wd dC dI cI cB cJ cZ ad stC kcC NN A x H → va_S A s.heap H locs → lv_has ls 2 [(0, .ref (ad o)), (1, .ref (ad l1))] → W p l e R s m args below meth c H locs cells slots Q (F0 m 0 ls []) := by
  intro o l1 x H locs ls fo fl1 hw hW hS hl
  unfold wp_Sch_readType at hw
  refine lv_aload_n hx hb d_Sch_readType_0 rfl (lv_at hl 1 rfl) ?_
  have hF := hW.free hS hA
  refine va_calli (va_runV (C := R_Scn) (As := []) (rest := []) ⟨hx, hb, hml, hown, hT⟩ (k_Scn_good l dC dI cI cB cJ cZ ad NN E tM tC kK kV hNN H.size l1 x fl1 hw) ⟨callB_of 0 hT (gwt_in w_4_106) rfl rfl rfl (hT _ w_1_4) (hT _ w_4_103) (by decide +kernel) ⟨Nat.le_trans (Nat.le_of_ble_eq_true rfl) hRf, Nat.le_trans (Nat.le_of_ble_eq_true rfl) hRl⟩, hT _ w_4_104, hT _ w_4_105⟩ ⟨PVc.blind, va_recv hK hW.1 (ci := 2) (q0 := l1) rfl (pic_obj fl1.1 fl1.2 (by decide)), PVc.at _ hW hK hN hE hS hF⟩ rfl rfl hl.1 rfl (lv_room (Nat.le_of_ble_eq_true rfl)) d_Sch_readType_1 ⟨hRc, hRs⟩) hS (fun q _ h => hF q h) hF (fun r2 x1 t H locs ht hvm hw hB hz1 hk1 hS => ?_)
  have hW := Wd.back hB ht hF
  clear hB ht hF hz1 hk1 hvm
  refine lv_if_ne (tgt := 9) hx hb d_Sch_readType_4 (by decide) (fun c3 => ?_) (fun c3 => ?_)
  · have hw := hw.1 c3
    refine lv_aload_n hx hb d_Sch_readType_9 rfl (lv_at hl 1 rfl) ?_
    refine va_ldcS hx hb hown (hE.str 3 (by decide)) d_Sch_readType_10 ?_
    have hF := hW.free hS hA
    refine va_calli (va_runV (C := R_Scn) (As := [.ref (kK 3)]) (rest := []) ⟨hx, hb, hml, hown, hT⟩ (k_Scn_takeWord l dC dI cI cB cJ cZ ad NN E tM tC kK kV hNN H.size l1 3 x1 fl1 (by decide) hw) ⟨callB_of 1 hT (gwt_in w_4_141) rfl rfl rfl (hT _ w_1_4) (hT _ w_4_138) (by decide +kernel) ⟨Nat.le_trans (Nat.le_of_ble_eq_true rfl) hRf, Nat.le_trans (Nat.le_of_ble_eq_true rfl) hRl⟩, hT _ w_4_139, hT _ w_4_140⟩ ⟨PVc.blind, va_recv hK hW.1 (ci := 2) (q0 := l1) rfl (pic_obj fl1.1 fl1.2 (by decide)), PVc.at _ hW hK hN hE hS hF⟩ rfl rfl hl.1 rfl (lv_room (Nat.le_of_ble_eq_true rfl)) d_Sch_readType_12 ⟨hRc, hRs⟩) hS (fun q _ h => hF q h) hF (fun r5 x4 t H locs ht hvm hw hB hz1 hk1 hS => ?_)
    have hW := Wd.back hB ht hF
    clear hB ht hF hz1 hk1 hvm
    refine lv_if_eq (tgt := 20) hx hb d_Sch_readType_15 (by decide) (fun c6 => ?_) (fun c6 => ?_)
    · have hw := hw.1 c6
      refine lv_aload_n hx hb d_Sch_readType_20 rfl (lv_at hl 1 rfl) ?_
      refine va_ldcS hx hb hown (hE.str 4 (by decide)) d_Sch_readType_21 ?_
      have hF := hW.free hS hA
      refine va_calli (va_runV (C := R_Scn) (As := [.ref (kK 4)]) (rest := []) ⟨hx, hb, hml, hown, hT⟩ (k_Scn_takeWord l dC dI cI cB cJ cZ ad NN E tM tC kK kV hNN H.size l1 4 x4 fl1 (by decide) hw) ⟨callB_of 1 hT (gwt_in w_4_141) rfl rfl rfl (hT _ w_1_4) (hT _ w_4_138) (by decide +kernel) ⟨Nat.le_trans (Nat.le_of_ble_eq_true rfl) hRf, Nat.le_trans (Nat.le_of_ble_eq_true rfl) hRl⟩, hT _ w_4_139, hT _ w_4_140⟩ ⟨PVc.blind, va_recv hK hW.1 (ci := 2) (q0 := l1) rfl (pic_obj fl1.1 fl1.2 (by decide)), PVc.at _ hW hK hN hE hS hF⟩ rfl rfl hl.1 rfl (lv_room (Nat.le_of_ble_eq_true rfl)) d_Sch_readType_23 ⟨hRc, hRs⟩) hS (fun q _ h => hF q h) hF (fun r8 x7 t H locs ht hvm hw hB hz1 hk1 hS => ?_)
      have hW := Wd.back hB ht hF
      clear hB ht hF hz1 hk1 hvm
      refine lv_if_eq (tgt := 31) hx hb d_Sch_readType_26 (by decide) (fun c9 => ?_) (fun c9 => ?_)
      · have hw := hw.1 c9
        refine lv_aload_n hx hb d_Sch_readType_31 rfl (lv_at hl 1 rfl) ?_
        refine va_ldcS hx hb hown (hE.str 5 (by decide)) d_Sch_readType_32 ?_
        have hF := hW.free hS hA
        refine va_calli (va_runV (C := R_Scn) (As := [.ref (kK 5)]) (rest := []) ⟨hx, hb, hml, hown, hT⟩ (k_Scn_takeWord l dC dI cI cB cJ cZ ad NN E tM tC kK kV hNN H.size l1 5 x7 fl1 (by decide) hw) ⟨callB_of 1 hT (gwt_in w_4_141) rfl rfl rfl (hT _ w_1_4) (hT _ w_4_138) (by decide +kernel) ⟨Nat.le_trans (Nat.le_of_ble_eq_true rfl) hRf, Nat.le_trans (Nat.le_of_ble_eq_true rfl) hRl⟩, hT _ w_4_139, hT _ w_4_140⟩ ⟨PVc.blind, va_recv hK hW.1 (ci := 2) (q0 := l1) rfl (pic_obj fl1.1 fl1.2 (by decide)), PVc.at _ hW hK hN hE hS hF⟩ rfl rfl hl.1 rfl (lv_room (Nat.le_of_ble_eq_true rfl)) d_Sch_readType_34 ⟨hRc, hRs⟩) hS (fun q _ h => hF q h) hF (fun r11 x10 t H locs ht hvm hw hB hz1 hk1 hS => ?_)
        have hW := Wd.back hB ht hF
        clear hB ht hF hz1 hk1 hvm
        refine lv_if_eq (tgt := 42) hx hb d_Sch_readType_37 (by decide) (fun c12 => ?_) (fun c12 => ?_)
        · have hw := hw.1 c12
          refine lv_aload_n hx hb d_Sch_readType_42 rfl (lv_at hl 1 rfl) ?_
          refine va_ldcS hx hb hown (hE.str 6 (by decide)) d_Sch_readType_43 ?_
          have hF := hW.free hS hA
          refine va_calli (va_runV (C := R_Scn) (As := [.ref (kK 6)]) (rest := []) ⟨hx, hb, hml, hown, hT⟩ (k_Scn_takeWord l dC dI cI cB cJ cZ ad NN E tM tC kK kV hNN H.size l1 6 x10 fl1 (by decide) hw) ⟨callB_of 1 hT (gwt_in w_4_141) rfl rfl rfl (hT _ w_1_4) (hT _ w_4_138) (by decide +kernel) ⟨Nat.le_trans (Nat.le_of_ble_eq_true rfl) hRf, Nat.le_trans (Nat.le_of_ble_eq_true rfl) hRl⟩, hT _ w_4_139, hT _ w_4_140⟩ ⟨PVc.blind, va_recv hK hW.1 (ci := 2) (q0 := l1) rfl (pic_obj fl1.1 fl1.2 (by decide)), PVc.at _ hW hK hN hE hS hF⟩ rfl rfl hl.1 rfl (lv_room (Nat.le_of_ble_eq_true rfl)) d_Sch_readType_45 ⟨hRc, hRs⟩) hS (fun q _ h => hF q h) hF (fun r14 x13 t H locs ht hvm hw hB hz1 hk1 hS => ?_)
          have hW := Wd.back hB ht hF
          clear hB ht hF hz1 hk1 hvm
          refine lv_if_eq (tgt := 53) hx hb d_Sch_readType_48 (by decide) (fun c15 => ?_) (fun c15 => ?_)
          · have hw := hw.1 c15
            refine lv_aload_n hx hb d_Sch_readType_53 rfl (lv_at hl 1 rfl) ?_
            refine va_ldcS hx hb hown (hE.str 7 (by decide)) d_Sch_readType_54 ?_
            have hF := hW.free hS hA
            refine va_callv (va_runV (C := R_Scn) (As := [.ref (kK 7)]) (rest := []) ⟨hx, hb, hml, hown, hT⟩ (k_Scn_needWord l dC dI cI cB cJ cZ ad NN E tM tC kK kV hNN H.size l1 7 x13 fl1 (by decide) hw) ⟨callB_of 1 hT (gwt_in w_4_209) rfl rfl rfl (hT _ w_1_4) (hT _ w_4_206) (by decide +kernel) ⟨Nat.le_trans (Nat.le_of_ble_eq_true rfl) hRf, Nat.le_trans (Nat.le_of_ble_eq_true rfl) hRl⟩, hT _ w_4_207, hT _ w_4_208⟩ ⟨PVc.blind, va_recv hK hW.1 (ci := 2) (q0 := l1) rfl (pic_obj fl1.1 fl1.2 (by decide)), PVc.at _ hW hK hN hE hS hF⟩ rfl rfl hl.1 rfl (lv_room (Nat.le_of_ble_eq_true rfl)) d_Sch_readType_56 ⟨hRc, hRs⟩) hS (fun q _ h => hF q h) hF (fun  x16 t H locs ht hvm hw hB hz1 hk1 hS => ?_)
            have hW := Wd.back hB ht hF
            clear hB ht hF hz1 hk1 hvm
            refine lv_iconst (v := 4) hx hb d_Sch_readType_59 (by decide) ?_
            exact hret 4 x16 H locs 60 ls d_Sch_readType_60 hw hW hS
          · have hw := hw.2 c15
            refine lv_iconst (v := 3) hx hb d_Sch_readType_51 (by decide) ?_
            exact hret 3 x13 H locs 52 ls d_Sch_readType_52 hw hW hS
        · have hw := hw.2 c12
          refine lv_iconst (v := 2) hx hb d_Sch_readType_40 (by decide) ?_
          exact hret 2 x10 H locs 41 ls d_Sch_readType_41 hw hW hS
      · have hw := hw.2 c9
        refine lv_iconst (v := 1) hx hb d_Sch_readType_29 (by decide) ?_
        exact hret 1 x7 H locs 30 ls d_Sch_readType_30 hw hW hS
    · have hw := hw.2 c6
      refine lv_iconst (v := 0) hx hb d_Sch_readType_18 (by decide) ?_
      exact hret 0 x4 H locs 19 ls d_Sch_readType_19 hw hW hS
  · have hw := hw.2 c3
    refine lv_iconst (v := 0) hx hb d_Sch_readType_7 (by decide) ?_
    exact hret 0 x1 H locs 8 ls d_Sch_readType_8 hw hW hS
set_option maxHeartbeats 4000000 in
set_option maxRecDepth 100000 in
theorem k_Sch_readType (l : Launch) (dC : Nat → ClassId) (dI : Nat → Nat → Nat) (cI cB cJ cZ : ClassId) (ad : Nat → Nat) (NN : Nat) (E : Heap) (tM tC : Nat) (kK kV : Nat → Nat) (hNN : 152 ≤ NN) (sz : Nat) (o : Nat) (l1 : Nat) (x : St) (fo : o < NN ∧ kcC o = 3) (fl1 : l1 < NN ∧ kcC l1 = 2) {post : Int32 → St → Prop} (hw : wp_Sch_readType post o l1 x) : Met l y_Sch_readType (wsOf y_Sch_readType b_Sch_readType 2 (some (.int))) ({ frames := 7, cells := 0, slots := 0, locals := 264 }) (va_Pc [.ref (ad o), .ref (ad l1)] (PVc dC dI cI cB cJ cZ ad stC kcC NN E tM tC kK kV sz x)) (va_Qi (fun (r : Int32) (y : St) => post r y) (fun y t => Wd dC dI cI cB cJ cZ ad stC kcC NN (va_A (pic ad stC kcC NN cI cB cJ cZ x) sz) y t.heap) (va_A (pic ad stC kcC NN cI cB cJ cZ x) sz)) 0 0 (va_A (pic ad stC kcC NN cI cB cJ cZ x) sz) := by
  refine Met.ofW (cc := b_Sch_readType) (maxL := 2) (ret := some (.int)) (by decide) rfl ?_
  intro p e s m args below meth c s₁ B hml hv
  obtain ⟨rfl, ⟨hsz, hW0, hK, hN⟩, hE⟩ := hv
  have hx := B.exec
  have hb := B.bytes
  have hr := B.returns
  have hts := atoms_spec B.pre
  have hT : ∀ w ∈ TG, w.before _ s = true := fun w h => hts w (List.mem_cons_of_mem _ h)
  have hown : s.vm.findClass R_Sch = some m.cls := findClass_of_methodNamed B.named
  have hlocks := B.notSynchronized
  subst hsz
  have hW : Wd dC dI cI cB cJ cZ ad stC kcC NN (va_A (pic ad stC kcC NN cI cB cJ cZ x) s.heap.size) x s.heap := ⟨hW0.1, hW0.2.1.self (sz := s.heap.size), hW0.2.2⟩
  generalize hAe : va_A (pic ad stC kcC NN cI cB cJ cZ x) s.heap.size = A at hW hE ⊢
  have hA : ∀ q : Nat, s.heap.size ≤ q → A q := fun q h => by rw [← hAe]; exact Or.inr h
  have hS : va_S A s.heap s.heap [] := va_S.rf
  have hl := lv_entry ([.ref (ad o), .ref (ad l1)]) (n := 2) (Nat.le_of_ble_eq_true rfl)
  rw [lg_entry_eq]
  generalize (lg_sl ([.ref (ad o), .ref (ad l1)]) ++ List.replicate (2 - (lg_sl ([.ref (ad o), .ref (ad l1)])).length) Slot.unset).toArray = ls at hl ⊢
  have hl : lv_has ls 2 [(0, .ref (ad o)), (1, .ref (ad l1))] := hl
  exact t_Sch_readType_e hx hb hml hown hT hK hN hA (Nat.le_refl 0) (Nat.le_refl 0) (Nat.le_refl 7) (Nat.le_refl 264) hNN hE (fun r x H locs pc ls hd hp hW hS => W.iret (v := r) hx hb hr (fun t ht hM => ⟨⟨r, x, rfl, hp, Wd.back hW ht.symm (fun _ z => z)⟩, hS.F ht⟩) hS.2.2 hd hlocks)  o l1 x _ _ ls fo fl1 hw hW hS hl
set_option maxRecDepth 100000 in
set_option maxHeartbeats 4000000 in
set_option maxRecDepth 100000 in
theorem t_Sch_pastOf_e {p : Program} {l : Launch} {e : Env} {R : Room} {s : State} {m : MethodId} {args : Array Value} {below : List Frame} {meth : Method} {c : Code} {cells slots : Nat} {Q : State → Prop} {dC : Nat → ClassId} {dI : Nat → Nat → Nat} {cI cB cJ cZ : ClassId} {A : Nat → Prop} {ad : Nat → Nat} {NN : Nat} {E : Heap} {tM tC : Nat} {kK kV : Nat → Nat} {post : Int32 → St → Prop} (hx : p.tables.exec = Jvm.exec) (hb : c.code = b_Sch_pastOf) (hml : c.maxLocals = 2) (hown : s.vm.findClass R_Sch = some m.cls) (hT : ∀ w ∈ TG, w.before args s = true) (hK : va_K (dC, dI) CL (TY cI cB cJ cZ) s) (hN : NW s) (hA : ∀ q : Nat, s.heap.size ≤ q → A q) (hRc : cells ≤ R.cells) (hRs : slots ≤ R.slots) (hRf : 0 ≤ R.frames) (hRl : 0 ≤ R.locals) (hNN : 152 ≤ NN) (hE : CE E tM tC kK kV A s) (hret : ∀ (r : Int32) (x : St) (H : Heap) (locs : List Loc) (pc : Nat) (ls : Array Slot), decode b_Sch_pastOf pc = .ok (.ireturn, 1) → post r x → Wd dC dI cI cB cJ cZ ad stC kcC NN A x H → va_S A s.heap H locs → W p l e R s m args below meth c H locs cells slots Q (F0 m pc ls [.int r])) : ∀ (o : Nat) (l1 : Int32) (x : St) (H : Heap) (locs : List Loc) (ls : Array Slot), (o < NN ∧ kcC o = 3) → wp_Sch_pastOf post o l1 x → Wd dC dI cI cB cJ cZ ad stC kcC NN A x H → va_S A s.heap H locs → lv_has ls 2 [(0, .ref (ad o)), (1, .int l1)] → W p l e R s m args below meth c H locs cells slots Q (F0 m 0 ls []) := by
  intro o l1 x H locs ls fo hw hW hS hl
  unfold wp_Sch_pastOf at hw
  refine lv_iload_n hx hb d_Sch_pastOf_0 rfl (lv_at hl 1 rfl) ?_
  refine lv_iconst (v := (-1)) hx hb d_Sch_pastOf_1 (by decide) ?_
  refine lv_icmp_ne (tgt := 12) hx hb d_Sch_pastOf_2 (by decide) (fun c1 => ?_) (fun c1 => ?_)
  · have hw := hw.1 c1
    refine lv_aload_n hx hb d_Sch_pastOf_12 rfl (lv_at hl 0 rfl) ?_
    refine w_getf (q := (stC o 8)) (k := 8) (t := 3) (C := R_Sch) (T := F_Sch) (N := 13) hx hb hT hown hK hW fo.1 fo.2 (by decide) in_Sch rfl rfl (by decide) rfl fr_Sch_8 w_1_169 d_Sch_pastOf_13 rfl ?_
    refine lv_iload_n hx hb d_Sch_pastOf_16 rfl (lv_at hl 1 rfl) ?_
    obtain ⟨hi, hw⟩ := hw
    refine w_iald (o := (stC o 8)) hx hb hK hW (st_ty hNN fo.1 fo.2 rfl).1 (st_ty hNN fo.1 fo.2 rfl).2 hi d_Sch_pastOf_17 ?_
    exact hret (rA x (stC o 8) l1) x H locs 18 ls d_Sch_pastOf_18 hw hW hS
  · have hw := hw.2 c1
    refine lv_aload_n hx hb d_Sch_pastOf_5 rfl (lv_at hl 0 rfl) ?_
    refine w_geti (k := 0) (t := 3) (C := R_Sch) (T := F_Sch) (N := 13) hx hb hT hown hK hW fo.1 fo.2 (by decide) in_Sch rfl rfl (by decide) rfl fr_Sch_0 w_1_130 d_Sch_pastOf_6 ?_
    refine lv_goto (tgt := 18) hx hb d_Sch_pastOf_9 (by decide) ?_
    exact hret (fI x o 0) x H locs 18 ls d_Sch_pastOf_18 hw hW hS
set_option maxHeartbeats 4000000 in
set_option maxRecDepth 100000 in
theorem k_Sch_pastOf (l : Launch) (dC : Nat → ClassId) (dI : Nat → Nat → Nat) (cI cB cJ cZ : ClassId) (ad : Nat → Nat) (NN : Nat) (E : Heap) (tM tC : Nat) (kK kV : Nat → Nat) (hNN : 152 ≤ NN) (sz : Nat) (o : Nat) (l1 : Int32) (x : St) (fo : o < NN ∧ kcC o = 3) {post : Int32 → St → Prop} (hw : wp_Sch_pastOf post o l1 x) : Met l y_Sch_pastOf (wsOf y_Sch_pastOf b_Sch_pastOf 2 (some (.int))) ({ frames := 0, cells := 0, slots := 0, locals := 0 }) (va_Pc [.ref (ad o), .int l1] (PVc dC dI cI cB cJ cZ ad stC kcC NN E tM tC kK kV sz x)) (va_Qi (fun (r : Int32) (y : St) => post r y) (fun y t => Wd dC dI cI cB cJ cZ ad stC kcC NN (va_A (pic ad stC kcC NN cI cB cJ cZ x) sz) y t.heap) (va_A (pic ad stC kcC NN cI cB cJ cZ x) sz)) 0 0 (va_A (pic ad stC kcC NN cI cB cJ cZ x) sz) := by
  refine Met.ofW (cc := b_Sch_pastOf) (maxL := 2) (ret := some (.int)) (by decide) rfl ?_
  intro p e s m args below meth c s₁ B hml hv
  obtain ⟨rfl, ⟨hsz, hW0, hK, hN⟩, hE⟩ := hv
  have hx := B.exec
  have hb := B.bytes
  have hr := B.returns
  have hts := atoms_spec B.pre
  have hT : ∀ w ∈ TG, w.before _ s = true := fun w h => hts w (List.mem_cons_of_mem _ h)
  have hown : s.vm.findClass R_Sch = some m.cls := findClass_of_methodNamed B.named
  have hlocks := B.notSynchronized
  subst hsz
  have hW : Wd dC dI cI cB cJ cZ ad stC kcC NN (va_A (pic ad stC kcC NN cI cB cJ cZ x) s.heap.size) x s.heap := ⟨hW0.1, hW0.2.1.self (sz := s.heap.size), hW0.2.2⟩
  generalize hAe : va_A (pic ad stC kcC NN cI cB cJ cZ x) s.heap.size = A at hW hE ⊢
  have hA : ∀ q : Nat, s.heap.size ≤ q → A q := fun q h => by rw [← hAe]; exact Or.inr h
  have hS : va_S A s.heap s.heap [] := va_S.rf
  have hl := lv_entry ([.ref (ad o), .int l1]) (n := 2) (Nat.le_of_ble_eq_true rfl)
  rw [lg_entry_eq]
  generalize (lg_sl ([.ref (ad o), .int l1]) ++ List.replicate (2 - (lg_sl ([.ref (ad o), .int l1])).length) Slot.unset).toArray = ls at hl ⊢
  have hl : lv_has ls 2 [(0, .ref (ad o)), (1, .int l1)] := hl
  exact t_Sch_pastOf_e hx hb hml hown hT hK hN hA (Nat.le_refl 0) (Nat.le_refl 0) (Nat.le_refl 0) (Nat.le_refl 0) hNN hE (fun r x H locs pc ls hd hp hW hS => W.iret (v := r) hx hb hr (fun t ht hM => ⟨⟨r, x, rfl, hp, Wd.back hW ht.symm (fun _ z => z)⟩, hS.F ht⟩) hS.2.2 hd hlocks)  o l1 x _ _ ls fo hw hW hS hl
set_option maxRecDepth 100000 in
set_option maxHeartbeats 4000000 in
set_option maxRecDepth 100000 in
theorem t_Sch_firstIn_e {p : Program} {l : Launch} {e : Env} {R : Room} {s : State} {m : MethodId} {args : Array Value} {below : List Frame} {meth : Method} {c : Code} {cells slots : Nat} {Q : State → Prop} {dC : Nat → ClassId} {dI : Nat → Nat → Nat} {cI cB cJ cZ : ClassId} {A : Nat → Prop} {ad : Nat → Nat} {NN : Nat} {E : Heap} {tM tC : Nat} {kK kV : Nat → Nat} {post : Int32 → St → Prop} (hx : p.tables.exec = Jvm.exec) (hb : c.code = b_Sch_firstIn) (hml : c.maxLocals = 2) (hown : s.vm.findClass R_Sch = some m.cls) (hT : ∀ w ∈ TG, w.before args s = true) (hK : va_K (dC, dI) CL (TY cI cB cJ cZ) s) (hN : NW s) (hA : ∀ q : Nat, s.heap.size ≤ q → A q) (hRc : cells ≤ R.cells) (hRs : slots ≤ R.slots) (hRf : 0 ≤ R.frames) (hRl : 0 ≤ R.locals) (hNN : 152 ≤ NN) (hE : CE E tM tC kK kV A s) (hret : ∀ (r : Int32) (x : St) (H : Heap) (locs : List Loc) (pc : Nat) (ls : Array Slot), decode b_Sch_firstIn pc = .ok (.ireturn, 1) → post r x → Wd dC dI cI cB cJ cZ ad stC kcC NN A x H → va_S A s.heap H locs → W p l e R s m args below meth c H locs cells slots Q (F0 m pc ls [.int r])) : ∀ (o : Nat) (l1 : Int32) (x : St) (H : Heap) (locs : List Loc) (ls : Array Slot), (o < NN ∧ kcC o = 3) → wp_Sch_firstIn post o l1 x → Wd dC dI cI cB cJ cZ ad stC kcC NN A x H → va_S A s.heap H locs → lv_has ls 2 [(0, .ref (ad o)), (1, .int l1)] → W p l e R s m args below meth c H locs cells slots Q (F0 m 0 ls []) := by
  intro o l1 x H locs ls fo hw hW hS hl
  unfold wp_Sch_firstIn at hw
  refine lv_iload_n hx hb d_Sch_firstIn_0 rfl (lv_at hl 1 rfl) ?_
  refine lv_iconst (v := (-1)) hx hb d_Sch_firstIn_1 (by decide) ?_
  refine lv_icmp_ne (tgt := 9) hx hb d_Sch_firstIn_2 (by decide) (fun c1 => ?_) (fun c1 => ?_)
  · have hw := hw.1 c1
    refine lv_iload_n hx hb d_Sch_firstIn_9 rfl (lv_at hl 1 rfl) ?_
    refine lv_iconst (v := 1) hx hb d_Sch_firstIn_10 (by decide) ?_
    refine lv_iadd hx hb d_Sch_firstIn_11 ?_
    exact hret (l1 + 1) x H locs 12 ls d_Sch_firstIn_12 hw hW hS
  · have hw := hw.2 c1
    refine lv_iconst (v := 0) hx hb d_Sch_firstIn_5 (by decide) ?_
    refine lv_goto (tgt := 12) hx hb d_Sch_firstIn_6 (by decide) ?_
    exact hret 0 x H locs 12 ls d_Sch_firstIn_12 hw hW hS
set_option maxHeartbeats 4000000 in
set_option maxRecDepth 100000 in
theorem k_Sch_firstIn (l : Launch) (dC : Nat → ClassId) (dI : Nat → Nat → Nat) (cI cB cJ cZ : ClassId) (ad : Nat → Nat) (NN : Nat) (E : Heap) (tM tC : Nat) (kK kV : Nat → Nat) (hNN : 152 ≤ NN) (sz : Nat) (o : Nat) (l1 : Int32) (x : St) (fo : o < NN ∧ kcC o = 3) {post : Int32 → St → Prop} (hw : wp_Sch_firstIn post o l1 x) : Met l y_Sch_firstIn (wsOf y_Sch_firstIn b_Sch_firstIn 2 (some (.int))) ({ frames := 0, cells := 0, slots := 0, locals := 0 }) (va_Pc [.ref (ad o), .int l1] (PVc dC dI cI cB cJ cZ ad stC kcC NN E tM tC kK kV sz x)) (va_Qi (fun (r : Int32) (y : St) => post r y) (fun y t => Wd dC dI cI cB cJ cZ ad stC kcC NN (va_A (pic ad stC kcC NN cI cB cJ cZ x) sz) y t.heap) (va_A (pic ad stC kcC NN cI cB cJ cZ x) sz)) 0 0 (va_A (pic ad stC kcC NN cI cB cJ cZ x) sz) := by
  refine Met.ofW (cc := b_Sch_firstIn) (maxL := 2) (ret := some (.int)) (by decide) rfl ?_
  intro p e s m args below meth c s₁ B hml hv
  obtain ⟨rfl, ⟨hsz, hW0, hK, hN⟩, hE⟩ := hv
  have hx := B.exec
  have hb := B.bytes
  have hr := B.returns
  have hts := atoms_spec B.pre
  have hT : ∀ w ∈ TG, w.before _ s = true := fun w h => hts w (List.mem_cons_of_mem _ h)
  have hown : s.vm.findClass R_Sch = some m.cls := findClass_of_methodNamed B.named
  have hlocks := B.notSynchronized
  subst hsz
  have hW : Wd dC dI cI cB cJ cZ ad stC kcC NN (va_A (pic ad stC kcC NN cI cB cJ cZ x) s.heap.size) x s.heap := ⟨hW0.1, hW0.2.1.self (sz := s.heap.size), hW0.2.2⟩
  generalize hAe : va_A (pic ad stC kcC NN cI cB cJ cZ x) s.heap.size = A at hW hE ⊢
  have hA : ∀ q : Nat, s.heap.size ≤ q → A q := fun q h => by rw [← hAe]; exact Or.inr h
  have hS : va_S A s.heap s.heap [] := va_S.rf
  have hl := lv_entry ([.ref (ad o), .int l1]) (n := 2) (Nat.le_of_ble_eq_true rfl)
  rw [lg_entry_eq]
  generalize (lg_sl ([.ref (ad o), .int l1]) ++ List.replicate (2 - (lg_sl ([.ref (ad o), .int l1])).length) Slot.unset).toArray = ls at hl ⊢
  have hl : lv_has ls 2 [(0, .ref (ad o)), (1, .int l1)] := hl
  exact t_Sch_firstIn_e hx hb hml hown hT hK hN hA (Nat.le_refl 0) (Nat.le_refl 0) (Nat.le_refl 0) (Nat.le_refl 0) hNN hE (fun r x H locs pc ls hd hp hW hS => W.iret (v := r) hx hb hr (fun t ht hM => ⟨⟨r, x, rfl, hp, Wd.back hW ht.symm (fun _ z => z)⟩, hS.F ht⟩) hS.2.2 hd hlocks)  o l1 x _ _ ls fo hw hW hS hl
set_option maxRecDepth 100000 in
set_option maxHeartbeats 4000000 in
set_option maxRecDepth 100000 in
theorem t_Sch_hasName_22 {p : Program} {l : Launch} {e : Env} {R : Room} {s : State} {m : MethodId} {args : Array Value} {below : List Frame} {meth : Method} {c : Code} {cells slots : Nat} {Q : State → Prop} {dC : Nat → ClassId} {dI : Nat → Nat → Nat} {cI cB cJ cZ : ClassId} {A : Nat → Prop} {ad : Nat → Nat} {NN : Nat} {E : Heap} {tM tC : Nat} {kK kV : Nat → Nat} {post : Int32 → St → Prop} {rec22 : Nat → Int32 → Nat → Int32 → Int32 → Int32 → Int32 → St → Prop} (hx : p.tables.exec = Jvm.exec) (hb : c.code = b_Sch_hasName) (hml : c.maxLocals = 7) (hown : s.vm.findClass R_Sch = some m.cls) (hT : ∀ w ∈ TG, w.before args s = true) (hK : va_K (dC, dI) CL (TY cI cB cJ cZ) s) (hN : NW s) (hA : ∀ q : Nat, s.heap.size ≤ q → A q) (hRc : cells ≤ R.cells) (hRs : slots ≤ R.slots) (hRf : 0 ≤ R.frames) (hRl : 0 ≤ R.locals) (hNN : 152 ≤ NN) (hE : CE E tM tC kK kV A s) (hret : ∀ (r : Int32) (x : St) (H : Heap) (locs : List Loc) (pc : Nat) (ls : Array Slot), decode b_Sch_hasName pc = .ok (.ireturn, 1) → narrow .boolean (.int r) = .int r → post r x → Wd dC dI cI cB cJ cZ ad stC kcC NN A x H → va_S A s.heap H locs → W p l e R s m args below meth c H locs cells slots Q (F0 m pc ls [.int r])) (hrec22 : ∀ (o : Nat) (l1 : Int32) (l2 : Nat) (l3 : Int32) (l4 : Int32) (l5 : Int32) (l6 : Int32) (x : St) (H : Heap) (locs : List Loc) (ls : Array Slot), (o < NN ∧ kcC o = 3) → (l2 < NN ∧ kcC l2 = 21) → rec22 o l1 l2 l3 l4 l5 l6 x → Wd dC dI cI cB cJ cZ ad stC kcC NN A x H → va_S A s.heap H locs → lv_has ls 7 [(0, .ref (ad o)), (1, .int l1), (2, .ref (ad l2)), (3, .int l3), (4, .int l4), (5, .int l5), (6, .int l6)] → W p l e R s m args below meth c H locs cells slots Q (F0 m 22 ls [])) : ∀ (o : Nat) (l1 : Int32) (l2 : Nat) (l3 : Int32) (l4 : Int32) (l5 : Int32) (l6 : Int32) (x : St) (H : Heap) (locs : List Loc) (ls : Array Slot), (o < NN ∧ kcC o = 3) → (l2 < NN ∧ kcC l2 = 21) → j_Sch_hasName_22 post rec22 o l1 l2 l3 l4 l5 l6 x → Wd dC dI cI cB cJ cZ ad stC kcC NN A x H → va_S A s.heap H locs → lv_has ls 7 [(0, .ref (ad o)), (1, .int l1), (2, .ref (ad l2)), (3, .int l3), (4, .int l4), (5, .int l5), (6, .int l6)] → W p l e R s m args below meth c H locs cells slots Q (F0 m 22 ls []) := by
  intro o l1 l2 l3 l4 l5 l6 x H locs ls fo fl2 hw hW hS hl
  unfold j_Sch_hasName_22 at hw
  refine lv_iload hx hb d_Sch_hasName_22 (lv_at hl 6 rfl) ?_
  refine lv_iload hx hb d_Sch_hasName_24 (lv_at hl 4 rfl) ?_
  refine lv_icmp_ge (tgt := 56) hx hb d_Sch_hasName_26 (by decide) (fun c1 => ?_) (fun c1 => ?_)
  · have hw := hw.1 c1
    refine lv_iconst (v := 1) hx hb d_Sch_hasName_56 (by decide) ?_
    exact hret 1 x H locs 57 ls d_Sch_hasName_57 rfl hw hW hS
  · have hw := hw.2 c1
    refine lv_aload_n hx hb d_Sch_hasName_29 rfl (lv_at hl 0 rfl) ?_
    refine w_getf (q := (stC o 12)) (k := 12) (t := 3) (C := R_Sch) (T := F_Sch) (N := 13) hx hb hT hown hK hW fo.1 fo.2 (by decide) in_Sch rfl rfl (by decide) rfl fr_Sch_12 w_1_187 d_Sch_hasName_30 rfl ?_
    refine lv_iload hx hb d_Sch_hasName_33 (lv_at hl 5 rfl) ?_
    refine lv_iload hx hb d_Sch_hasName_35 (lv_at hl 6 rfl) ?_
    refine lv_iadd hx hb d_Sch_hasName_37 ?_
    obtain ⟨hi, hw⟩ := hw
    refine w_bald (o := (stC o 12)) hx hb hK hW (st_ty hNN fo.1 fo.2 rfl).1 (st_ty hNN fo.1 fo.2 rfl).2 hi d_Sch_hasName_38 ?_
    refine lv_aload_n hx hb d_Sch_hasName_39 rfl (lv_at hl 2 rfl) ?_
    refine lv_iload_n hx hb d_Sch_hasName_40 rfl (lv_at hl 3 rfl) ?_
    refine lv_iload hx hb d_Sch_hasName_41 (lv_at hl 6 rfl) ?_
    refine lv_iadd hx hb d_Sch_hasName_43 ?_
    obtain ⟨hi, hw⟩ := hw
    refine w_bald (o := l2) hx hb hK hW fl2.1 fl2.2 hi d_Sch_hasName_44 ?_
    refine lv_icmp_eq (tgt := 50) hx hb d_Sch_hasName_45 (by decide) (fun c2 => ?_) (fun c2 => ?_)
    · have hw := hw.1 c2
      refine lv_iinc (v := (l6 + 1)) (lv' := [(6, .int (l6 + 1)), (0, .ref (ad o)), (1, .int l1), (2, .ref (ad l2)), (3, .int l3), (4, .int l4), (5, .int l5)]) hx hb d_Sch_hasName_50 hl (k := 6) rfl rfl (by decide) rfl (fun ls hl => ?_)
      refine lv_goto (tgt := 22) hx hb d_Sch_hasName_53 (by decide) ?_
      exact hrec22 o l1 l2 l3 l4 l5 (l6 + 1) x H locs ls fo fl2 hw hW hS (lv_sub hl [1, 2, 3, 4, 5, 6, 0] rfl)
    · have hw := hw.2 c2
      refine lv_iconst (v := 0) hx hb d_Sch_hasName_48 (by decide) ?_
      exact hret 0 x H locs 49 ls d_Sch_hasName_49 rfl hw hW hS
set_option maxHeartbeats 4000000 in
set_option maxRecDepth 100000 in
theorem tl_Sch_hasName_22 {p : Program} {l : Launch} {e : Env} {R : Room} {s : State} {m : MethodId} {args : Array Value} {below : List Frame} {meth : Method} {c : Code} {cells slots : Nat} {Q : State → Prop} {dC : Nat → ClassId} {dI : Nat → Nat → Nat} {cI cB cJ cZ : ClassId} {A : Nat → Prop} {ad : Nat → Nat} {NN : Nat} {E : Heap} {tM tC : Nat} {kK kV : Nat → Nat} {post : Int32 → St → Prop} (hx : p.tables.exec = Jvm.exec) (hb : c.code = b_Sch_hasName) (hml : c.maxLocals = 7) (hown : s.vm.findClass R_Sch = some m.cls) (hT : ∀ w ∈ TG, w.before args s = true) (hK : va_K (dC, dI) CL (TY cI cB cJ cZ) s) (hN : NW s) (hA : ∀ q : Nat, s.heap.size ≤ q → A q) (hRc : cells ≤ R.cells) (hRs : slots ≤ R.slots) (hRf : 0 ≤ R.frames) (hRl : 0 ≤ R.locals) (hNN : 152 ≤ NN) (hE : CE E tM tC kK kV A s) (hret : ∀ (r : Int32) (x : St) (H : Heap) (locs : List Loc) (pc : Nat) (ls : Array Slot), decode b_Sch_hasName pc = .ok (.ireturn, 1) → narrow .boolean (.int r) = .int r → post r x → Wd dC dI cI cB cJ cZ ad stC kcC NN A x H → va_S A s.heap H locs → W p l e R s m args below meth c H locs cells slots Q (F0 m pc ls [.int r]))  : ∀ n : Nat, ∀ (o : Nat) (l1 : Int32) (l2 : Nat) (l3 : Int32) (l4 : Int32) (l5 : Int32) (l6 : Int32) (x : St) (H : Heap) (locs : List Loc) (ls : Array Slot), (o < NN ∧ kcC o = 3) → (l2 < NN ∧ kcC l2 = 21) → wl_Sch_hasName_22 post n o l1 l2 l3 l4 l5 l6 x → Wd dC dI cI cB cJ cZ ad stC kcC NN A x H → va_S A s.heap H locs → lv_has ls 7 [(0, .ref (ad o)), (1, .int l1), (2, .ref (ad l2)), (3, .int l3), (4, .int l4), (5, .int l5), (6, .int l6)] → W p l e R s m args below meth c H locs cells slots Q (F0 m 22 ls []) := by
  intro n
  induction n with
  | zero => intro o l1 l2 l3 l4 l5 l6 x H locs ls fo fl2 hw; exact hw.elim
  | succ n ih => intro o l1 l2 l3 l4 l5 l6 x H locs ls fo fl2 hw hW hS hl; exact t_Sch_hasName_22 hx hb hml hown hT hK hN hA hRc hRs hRf hRl hNN hE hret  ih o l1 l2 l3 l4 l5 l6 x H locs ls fo fl2 hw hW hS hl
set_option maxRecDepth 100000 in
set_option maxHeartbeats 4000000 in
set_option maxRecDepth 100000 in
theorem t_Sch_hasName_e {p : Program} {l : Launch} {e : Env} {R : Room} {s : State} {m : MethodId} {args : Array Value} {below : List Frame} {meth : Method} {c : Code} {cells slots : Nat} {Q : State → Prop} {dC : Nat → ClassId} {dI : Nat → Nat → Nat} {cI cB cJ cZ : ClassId} {A : Nat → Prop} {ad : Nat → Nat} {NN : Nat} {E : Heap} {tM tC : Nat} {kK kV : Nat → Nat} {post : Int32 → St → Prop} (hx : p.tables.exec = Jvm.exec) (hb : c.code = b_Sch_hasName) (hml : c.maxLocals = 7) (hown : s.vm.findClass R_Sch = some m.cls) (hT : ∀ w ∈ TG, w.before args s = true) (hK : va_K (dC, dI) CL (TY cI cB cJ cZ) s) (hN : NW s) (hA : ∀ q : Nat, s.heap.size ≤ q → A q) (hRc : cells ≤ R.cells) (hRs : slots ≤ R.slots) (hRf : 0 ≤ R.frames) (hRl : 0 ≤ R.locals) (hNN : 152 ≤ NN) (hE : CE E tM tC kK kV A s) (hret : ∀ (r : Int32) (x : St) (H : Heap) (locs : List Loc) (pc : Nat) (ls : Array Slot), decode b_Sch_hasName pc = .ok (.ireturn, 1) → narrow .boolean (.int r) = .int r → post r x → Wd dC dI cI cB cJ cZ ad stC kcC NN A x H → va_S A s.heap H locs → W p l e R s m args below meth c H locs cells slots Q (F0 m pc ls [.int r])) : ∀ (o : Nat) (l1 : Int32) (l2 : Nat) (l3 : Int32) (l4 : Int32) (x : St) (H : Heap) (locs : List Loc) (ls : Array Slot), (o < NN ∧ kcC o = 3) → (l2 < NN ∧ kcC l2 = 21) → wp_Sch_hasName post o l1 l2 l3 l4 x → Wd dC dI cI cB cJ cZ ad stC kcC NN A x H → va_S A s.heap H locs → lv_has ls 7 [(0, .ref (ad o)), (1, .int l1), (2, .ref (ad l2)), (3, .int l3), (4, .int l4)] → W p l e R s m args below meth c H locs cells slots Q (F0 m 0 ls []) := by
  intro o l1 l2 l3 l4 x H locs ls fo fl2 hw hW hS hl
  unfold wp_Sch_hasName at hw
  refine lv_aload_n hx hb d_Sch_hasName_0 rfl (lv_at hl 0 rfl) ?_
  refine w_getf (q := (stC o 11)) (k := 11) (t := 3) (C := R_Sch) (T := F_Sch) (N := 13) hx hb hT hown hK hW fo.1 fo.2 (by decide) in_Sch rfl rfl (by decide) rfl fr_Sch_11 w_1_184 d_Sch_hasName_1 rfl ?_
  refine lv_iload_n hx hb d_Sch_hasName_4 rfl (lv_at hl 1 rfl) ?_
  obtain ⟨hi, hw⟩ := hw
  refine w_iald (o := (stC o 11)) hx hb hK hW (st_ty hNN fo.1 fo.2 rfl).1 (st_ty hNN fo.1 fo.2 rfl).2 hi d_Sch_hasName_5 ?_
  refine lv_iload hx hb d_Sch_hasName_6 (lv_at hl 4 rfl) ?_
  refine lv_icmp_eq (tgt := 13) hx hb d_Sch_hasName_8 (by decide) (fun c3 => ?_) (fun c3 => ?_)
  · have hw := hw.1 c3
    refine lv_iload_n hx hb d_Sch_hasName_13 rfl (lv_at hl 1 rfl) ?_
    refine lv_bipush (v := 16) hx hb d_Sch_hasName_14 (by decide) ?_
    refine lv_imul hx hb d_Sch_hasName_16 ?_
    refine lv_topi (fun v4 ev4 => ?_)
    have hw := hw v4 ev4
    refine lv_istore (lv' := [(5, .int v4), (0, .ref (ad o)), (1, .int l1), (2, .ref (ad l2)), (3, .int l3), (4, .int l4)]) hx hb d_Sch_hasName_17 hl (by decide) rfl (fun ls hl => ?_)
    refine lv_iconst (v := 0) hx hb d_Sch_hasName_19 (by decide) ?_
    refine lv_istore (lv' := [(6, .int 0), (5, .int v4), (0, .ref (ad o)), (1, .int l1), (2, .ref (ad l2)), (3, .int l3), (4, .int l4)]) hx hb d_Sch_hasName_20 hl (by decide) rfl (fun ls hl => ?_)
    obtain ⟨n, hw⟩ := hw
    exact tl_Sch_hasName_22 hx hb hml hown hT hK hN hA hRc hRs hRf hRl hNN hE hret  n o l1 l2 l3 l4 v4 0 x H locs ls fo fl2 hw hW hS (lv_sub hl [2, 3, 4, 5, 6, 1, 0] rfl)
  · have hw := hw.2 c3
    refine lv_iconst (v := 0) hx hb d_Sch_hasName_11 (by decide) ?_
    exact hret 0 x H locs 12 ls d_Sch_hasName_12 rfl hw hW hS
set_option maxHeartbeats 4000000 in
set_option maxRecDepth 100000 in
theorem k_Sch_hasName (l : Launch) (dC : Nat → ClassId) (dI : Nat → Nat → Nat) (cI cB cJ cZ : ClassId) (ad : Nat → Nat) (NN : Nat) (E : Heap) (tM tC : Nat) (kK kV : Nat → Nat) (hNN : 152 ≤ NN) (sz : Nat) (o : Nat) (l1 : Int32) (l2 : Nat) (l3 : Int32) (l4 : Int32) (x : St) (fo : o < NN ∧ kcC o = 3) (fl2 : l2 < NN ∧ kcC l2 = 21) {post : Int32 → St → Prop} (hw : wp_Sch_hasName post o l1 l2 l3 l4 x) : Met l y_Sch_hasName (wsOf y_Sch_hasName b_Sch_hasName 7 (some (.boolean))) ({ frames := 0, cells := 0, slots := 0, locals := 0 }) (va_Pc [.ref (ad o), .int l1, .ref (ad l2), .int l3, .int l4] (PVc dC dI cI cB cJ cZ ad stC kcC NN E tM tC kK kV sz x)) (va_Qi (fun (r : Int32) (y : St) => post r y) (fun y t => Wd dC dI cI cB cJ cZ ad stC kcC NN (va_A (pic ad stC kcC NN cI cB cJ cZ x) sz) y t.heap) (va_A (pic ad stC kcC NN cI cB cJ cZ x) sz)) 0 0 (va_A (pic ad stC kcC NN cI cB cJ cZ x) sz) := by
  refine Met.ofW (cc := b_Sch_hasName) (maxL := 7) (ret := some (.boolean)) (by decide) rfl ?_
  intro p e s m args below meth c s₁ B hml hv
  obtain ⟨rfl, ⟨hsz, hW0, hK, hN⟩, hE⟩ := hv
  have hx := B.exec
  have hb := B.bytes
  have hr := B.returns
  have hts := atoms_spec B.pre
  have hT : ∀ w ∈ TG, w.before _ s = true := fun w h => hts w (List.mem_cons_of_mem _ h)
  have hown : s.vm.findClass R_Sch = some m.cls := findClass_of_methodNamed B.named
  have hlocks := B.notSynchronized
  subst hsz
  have hW : Wd dC dI cI cB cJ cZ ad stC kcC NN (va_A (pic ad stC kcC NN cI cB cJ cZ x) s.heap.size) x s.heap := ⟨hW0.1, hW0.2.1.self (sz := s.heap.size), hW0.2.2⟩
  generalize hAe : va_A (pic ad stC kcC NN cI cB cJ cZ x) s.heap.size = A at hW hE ⊢
  have hA : ∀ q : Nat, s.heap.size ≤ q → A q := fun q h => by rw [← hAe]; exact Or.inr h
  have hS : va_S A s.heap s.heap [] := va_S.rf
  have hl := lv_entry ([.ref (ad o), .int l1, .ref (ad l2), .int l3, .int l4]) (n := 7) (Nat.le_of_ble_eq_true rfl)
  rw [lg_entry_eq]
  generalize (lg_sl ([.ref (ad o), .int l1, .ref (ad l2), .int l3, .int l4]) ++ List.replicate (7 - (lg_sl ([.ref (ad o), .int l1, .ref (ad l2), .int l3, .int l4])).length) Slot.unset).toArray = ls at hl ⊢
  have hl : lv_has ls 7 [(0, .ref (ad o)), (1, .int l1), (2, .ref (ad l2)), (3, .int l3), (4, .int l4)] := hl
  exact t_Sch_hasName_e hx hb hml hown hT hK hN hA (Nat.le_refl 0) (Nat.le_refl 0) (Nat.le_refl 0) (Nat.le_refl 0) hNN hE (fun r x H locs pc ls hd hz hp hW hS => W.zret (v := r) (ty := .boolean) hx hb hr hz (fun t ht hM => ⟨⟨r, x, rfl, hp, Wd.back hW ht.symm (fun _ z => z)⟩, hS.F ht⟩) hS.2.2 hd hlocks)  o l1 l2 l3 l4 x _ _ ls fo fl2 hw hW hS hl
set_option maxRecDepth 100000 in
set_option maxHeartbeats 4000000 in
set_option maxRecDepth 100000 in
theorem t_Sch_find_48 {p : Program} {l : Launch} {e : Env} {R : Room} {s : State} {m : MethodId} {args : Array Value} {below : List Frame} {meth : Method} {c : Code} {cells slots : Nat} {Q : State → Prop} {dC : Nat → ClassId} {dI : Nat → Nat → Nat} {cI cB cJ cZ : ClassId} {A : Nat → Prop} {ad : Nat → Nat} {NN : Nat} {E : Heap} {tM tC : Nat} {kK kV : Nat → Nat} {post : Int32 → St → Prop} {rec14 : Nat → Int32 → Nat → Int32 → Int32 → Int32 → Int32 → St → Prop} (hx : p.tables.exec = Jvm.exec) (hb : c.code = b_Sch_find) (hml : c.maxLocals = 7) (hown : s.vm.findClass R_Sch = some m.cls) (hT : ∀ w ∈ TG, w.before args s = true) (hK : va_K (dC, dI) CL (TY cI cB cJ cZ) s) (hN : NW s) (hA : ∀ q : Nat, s.heap.size ≤ q → A q) (hRc : cells ≤ R.cells) (hRs : slots ≤ R.slots) (hRf : 1 ≤ R.frames) (hRl : 26 ≤ R.locals) (hNN : 152 ≤ NN) (hE : CE E tM tC kK kV A s) (hret : ∀ (r : Int32) (x : St) (H : Heap) (locs : List Loc) (pc : Nat) (ls : Array Slot), decode b_Sch_find pc = .ok (.ireturn, 1) → post r x → Wd dC dI cI cB cJ cZ ad stC kcC NN A x H → va_S A s.heap H locs → W p l e R s m args below meth c H locs cells slots Q (F0 m pc ls [.int r])) (hrec14 : ∀ (o : Nat) (l1 : Int32) (l2 : Nat) (l3 : Int32) (l4 : Int32) (l5 : Int32) (l6 : Int32) (x : St) (H : Heap) (locs : List Loc) (ls : Array Slot), (o < NN ∧ kcC o = 3) → (l2 < NN ∧ kcC l2 = 21) → rec14 o l1 l2 l3 l4 l5 l6 x → Wd dC dI cI cB cJ cZ ad stC kcC NN A x H → va_S A s.heap H locs → lv_has ls 7 [(0, .ref (ad o)), (1, .int l1), (2, .ref (ad l2)), (3, .int l3), (4, .int l4), (5, .int l5), (6, .int l6)] → W p l e R s m args below meth c H locs cells slots Q (F0 m 14 ls [])) : ∀ (o : Nat) (l1 : Int32) (l2 : Nat) (l3 : Int32) (l4 : Int32) (l5 : Int32) (l6 : Int32) (x : St) (H : Heap) (locs : List Loc) (ls : Array Slot), (o < NN ∧ kcC o = 3) → (l2 < NN ∧ kcC l2 = 21) → j_Sch_find_48 post rec14 o l1 l2 l3 l4 l5 l6 x → Wd dC dI cI cB cJ cZ ad stC kcC NN A x H → va_S A s.heap H locs → lv_has ls 7 [(0, .ref (ad o)), (1, .int l1), (2, .ref (ad l2)), (3, .int l3), (4, .int l4), (5, .int l5), (6, .int l6)] → W p l e R s m args below meth c H locs cells slots Q (F0 m 48 ls []) := by
  intro o l1 l2 l3 l4 l5 l6 x H locs ls fo fl2 hw hW hS hl
  unfold j_Sch_find_48 at hw
  refine lv_iinc (v := (l6 + 1)) (lv' := [(6, .int (l6 + 1)), (0, .ref (ad o)), (1, .int l1), (2, .ref (ad l2)), (3, .int l3), (4, .int l4), (5, .int l5)]) hx hb d_Sch_find_48 hl (k := 6) rfl rfl (by decide) rfl (fun ls hl => ?_)
  refine lv_goto (tgt := 14) hx hb d_Sch_find_51 (by decide) ?_
  exact hrec14 o l1 l2 l3 l4 l5 (l6 + 1) x H locs ls fo fl2 hw hW hS (lv_sub hl [1, 2, 3, 4, 5, 6, 0] rfl)
set_option maxRecDepth 100000 in
set_option maxHeartbeats 4000000 in
set_option maxRecDepth 100000 in
theorem t_Sch_find_14 {p : Program} {l : Launch} {e : Env} {R : Room} {s : State} {m : MethodId} {args : Array Value} {below : List Frame} {meth : Method} {c : Code} {cells slots : Nat} {Q : State → Prop} {dC : Nat → ClassId} {dI : Nat → Nat → Nat} {cI cB cJ cZ : ClassId} {A : Nat → Prop} {ad : Nat → Nat} {NN : Nat} {E : Heap} {tM tC : Nat} {kK kV : Nat → Nat} {post : Int32 → St → Prop} {rec14 : Nat → Int32 → Nat → Int32 → Int32 → Int32 → Int32 → St → Prop} (hx : p.tables.exec = Jvm.exec) (hb : c.code = b_Sch_find) (hml : c.maxLocals = 7) (hown : s.vm.findClass R_Sch = some m.cls) (hT : ∀ w ∈ TG, w.before args s = true) (hK : va_K (dC, dI) CL (TY cI cB cJ cZ) s) (hN : NW s) (hA : ∀ q : Nat, s.heap.size ≤ q → A q) (hRc : cells ≤ R.cells) (hRs : slots ≤ R.slots) (hRf : 1 ≤ R.frames) (hRl : 26 ≤ R.locals) (hNN : 152 ≤ NN) (hE : CE E tM tC kK kV A s) (hret : ∀ (r : Int32) (x : St) (H : Heap) (locs : List Loc) (pc : Nat) (ls : Array Slot), decode b_Sch_find pc = .ok (.ireturn, 1) → post r x → Wd dC dI cI cB cJ cZ ad stC kcC NN A x H → va_S A s.heap H locs → W p l e R s m args below meth c H locs cells slots Q (F0 m pc ls [.int r])) (hrec14 : ∀ (o : Nat) (l1 : Int32) (l2 : Nat) (l3 : Int32) (l4 : Int32) (l5 : Int32) (l6 : Int32) (x : St) (H : Heap) (locs : List Loc) (ls : Array Slot), (o < NN ∧ kcC o = 3) → (l2 < NN ∧ kcC l2 = 21) → rec14 o l1 l2 l3 l4 l5 l6 x → Wd dC dI cI cB cJ cZ ad stC kcC NN A x H → va_S A s.heap H locs → lv_has ls 7 [(0, .ref (ad o)), (1, .int l1), (2, .ref (ad l2)), (3, .int l3), (4, .int l4), (5, .int l5), (6, .int l6)] → W p l e R s m args below meth c H locs cells slots Q (F0 m 14 ls [])) : ∀ (o : Nat) (l1 : Int32) (l2 : Nat) (l3 : Int32) (l4 : Int32) (l5 : Int32) (l6 : Int32) (x : St) (H : Heap) (locs : List Loc) (ls : Array Slot), (o < NN ∧ kcC o = 3) → (l2 < NN ∧ kcC l2 = 21) → j_Sch_find_14 post rec14 o l1 l2 l3 l4 l5 l6 x → Wd dC dI cI cB cJ cZ ad stC kcC NN A x H → va_S A s.heap H locs → lv_has ls 7 [(0, .ref (ad o)), (1, .int l1), (2, .ref (ad l2)), (3, .int l3), (4, .int l4), (5, .int l5), (6, .int l6)] → W p l e R s m args below meth c H locs cells slots Q (F0 m 14 ls []) := by
  intro o l1 l2 l3 l4 l5 l6 x H locs ls fo fl2 hw hW hS hl
  unfold j_Sch_find_14 at hw
  refine lv_iload hx hb d_Sch_find_14 (lv_at hl 6 rfl) ?_
  refine lv_iload hx hb d_Sch_find_16 (lv_at hl 5 rfl) ?_
  refine lv_icmp_ge (tgt := 54) hx hb d_Sch_find_18 (by decide) (fun c1 => ?_) (fun c1 => ?_)
  · have hw := hw.1 c1
    refine lv_iconst (v := (-1)) hx hb d_Sch_find_54 (by decide) ?_
    exact hret (-1) x H locs 55 ls d_Sch_find_55 hw hW hS
  · have hw := hw.2 c1
    refine lv_aload_n hx hb d_Sch_find_21 rfl (lv_at hl 0 rfl) ?_
    refine w_getf (q := (stC o 4)) (k := 4) (t := 3) (C := R_Sch) (T := F_Sch) (N := 13) hx hb hT hown hK hW fo.1 fo.2 (by decide) in_Sch rfl rfl (by decide) rfl fr_Sch_4 w_1_152 d_Sch_find_22 rfl ?_
    refine lv_iload hx hb d_Sch_find_25 (lv_at hl 6 rfl) ?_
    obtain ⟨hi, hw⟩ := hw
    refine w_iald (o := (stC o 4)) hx hb hK hW (st_ty hNN fo.1 fo.2 rfl).1 (st_ty hNN fo.1 fo.2 rfl).2 hi d_Sch_find_27 ?_
    refine lv_iload_n hx hb d_Sch_find_28 rfl (lv_at hl 1 rfl) ?_
    refine lv_icmp_ne (tgt := 48) hx hb d_Sch_find_29 (by decide) (fun c2 => ?_) (fun c2 => ?_)
    · have hw := hw.1 c2
      exact t_Sch_find_48 hx hb hml hown hT hK hN hA hRc hRs hRf hRl hNN hE hret hrec14 o l1 l2 l3 l4 l5 l6 x H locs ls fo fl2 hw hW hS (lv_sub hl [0, 1, 2, 3, 4, 5, 6] rfl)
    · have hw := hw.2 c2
      refine lv_aload_n hx hb d_Sch_find_32 rfl (lv_at hl 0 rfl) ?_
      refine lv_iload hx hb d_Sch_find_33 (lv_at hl 6 rfl) ?_
      refine lv_aload_n hx hb d_Sch_find_35 rfl (lv_at hl 2 rfl) ?_
      refine lv_iload_n hx hb d_Sch_find_36 rfl (lv_at hl 3 rfl) ?_
      refine lv_iload hx hb d_Sch_find_37 (lv_at hl 4 rfl) ?_
      have hF := hW.free hS hA
      refine va_calli (va_runV (C := R_Sch) (As := [.int l6, .ref (ad l2), .int l3, .int l4]) (rest := []) ⟨hx, hb, hml, hown, hT⟩ (k_Sch_hasName l dC dI cI cB cJ cZ ad NN E tM tC kK kV hNN H.size o l6 l2 l3 l4 x fo fl2 hw) ⟨callB_of 4 hT (gwt_in w_5_1) rfl rfl rfl (hT _ w_1_5) (hT _ w_4_238) (by decide +kernel) ⟨Nat.le_trans (Nat.le_of_ble_eq_true rfl) hRf, Nat.le_trans (Nat.le_of_ble_eq_true rfl) hRl⟩, hT _ w_4_239, hT _ w_5_0⟩ ⟨PVc.blind, va_recv hK hW.1 (ci := 3) (q0 := o) rfl (pic_obj fo.1 fo.2 (by decide)), PVc.at _ hW hK hN hE hS hF⟩ rfl rfl hl.1 rfl (lv_room (Nat.le_of_ble_eq_true rfl)) d_Sch_find_39 ⟨hRc, hRs⟩) hS (fun q _ h => hF q h) hF (fun r4 x3 t H locs ht hvm hw hB hz1 hk1 hS => ?_)
      have hW := Wd.back hB ht hF
      clear hB ht hF hz1 hk1 hvm
      refine lv_if_eq (tgt := 48) hx hb d_Sch_find_42 (by decide) (fun c5 => ?_) (fun c5 => ?_)
      · have hw := hw.1 c5
        exact t_Sch_find_48 hx hb hml hown hT hK hN hA hRc hRs hRf hRl hNN hE hret hrec14 o l1 l2 l3 l4 l5 l6 x3 H locs ls fo fl2 hw hW hS (lv_sub hl [0, 1, 2, 3, 4, 5, 6] rfl)
      · have hw := hw.2 c5
        refine lv_iload hx hb d_Sch_find_45 (lv_at hl 6 rfl) ?_
        exact hret l6 x3 H locs 47 ls d_Sch_find_47 hw hW hS
set_option maxHeartbeats 4000000 in
set_option maxRecDepth 100000 in
theorem tl_Sch_find_14 {p : Program} {l : Launch} {e : Env} {R : Room} {s : State} {m : MethodId} {args : Array Value} {below : List Frame} {meth : Method} {c : Code} {cells slots : Nat} {Q : State → Prop} {dC : Nat → ClassId} {dI : Nat → Nat → Nat} {cI cB cJ cZ : ClassId} {A : Nat → Prop} {ad : Nat → Nat} {NN : Nat} {E : Heap} {tM tC : Nat} {kK kV : Nat → Nat} {post : Int32 → St → Prop} (hx : p.tables.exec = Jvm.exec) (hb : c.code = b_Sch_find) (hml : c.maxLocals = 7) (hown : s.vm.findClass R_Sch = some m.cls) (hT : ∀ w ∈ TG, w.before args s = true) (hK : va_K (dC, dI) CL (TY cI cB cJ cZ) s) (hN : NW s) (hA : ∀ q : Nat, s.heap.size ≤ q → A q) (hRc : cells ≤ R.cells) (hRs : slots ≤ R.slots) (hRf : 1 ≤ R.frames) (hRl : 26 ≤ R.locals) (hNN : 152 ≤ NN) (hE : CE E tM tC kK kV A s) (hret : ∀ (r : Int32) (x : St) (H : Heap) (locs : List Loc) (pc : Nat) (ls : Array Slot), decode b_Sch_find pc = .ok (.ireturn, 1) → post r x → Wd dC dI cI cB cJ cZ ad stC kcC NN A x H → va_S A s.heap H locs → W p l e R s m args below meth c H locs cells slots Q (F0 m pc ls [.int r]))  : ∀ n : Nat, ∀ (o : Nat) (l1 : Int32) (l2 : Nat) (l3 : Int32) (l4 : Int32) (l5 : Int32) (l6 : Int32) (x : St) (H : Heap) (locs : List Loc) (ls : Array Slot), (o < NN ∧ kcC o = 3) → (l2 < NN ∧ kcC l2 = 21) → wl_Sch_find_14 post n o l1 l2 l3 l4 l5 l6 x → Wd dC dI cI cB cJ cZ ad stC kcC NN A x H → va_S A s.heap H locs → lv_has ls 7 [(0, .ref (ad o)), (1, .int l1), (2, .ref (ad l2)), (3, .int l3), (4, .int l4), (5, .int l5), (6, .int l6)] → W p l e R s m args below meth c H locs cells slots Q (F0 m 14 ls []) := by
  intro n
  induction n with
  | zero => intro o l1 l2 l3 l4 l5 l6 x H locs ls fo fl2 hw; exact hw.elim
  | succ n ih => intro o l1 l2 l3 l4 l5 l6 x H locs ls fo fl2 hw hW hS hl; exact t_Sch_find_14 hx hb hml hown hT hK hN hA hRc hRs hRf hRl hNN hE hret  ih o l1 l2 l3 l4 l5 l6 x H locs ls fo fl2 hw hW hS hl
set_option maxRecDepth 100000 in
set_option maxHeartbeats 4000000 in
set_option maxRecDepth 100000 in
theorem t_Sch_find_e {p : Program} {l : Launch} {e : Env} {R : Room} {s : State} {m : MethodId} {args : Array Value} {below : List Frame} {meth : Method} {c : Code} {cells slots : Nat} {Q : State → Prop} {dC : Nat → ClassId} {dI : Nat → Nat → Nat} {cI cB cJ cZ : ClassId} {A : Nat → Prop} {ad : Nat → Nat} {NN : Nat} {E : Heap} {tM tC : Nat} {kK kV : Nat → Nat} {post : Int32 → St → Prop} (hx : p.tables.exec = Jvm.exec) (hb : c.code = b_Sch_find) (hml : c.maxLocals = 7) (hown : s.vm.findClass R_Sch = some m.cls) (hT : ∀ w ∈ TG, w.before args s = true) (hK : va_K (dC, dI) CL (TY cI cB cJ cZ) s) (hN : NW s) (hA : ∀ q : Nat, s.heap.size ≤ q → A q) (hRc : cells ≤ R.cells) (hRs : slots ≤ R.slots) (hRf : 1 ≤ R.frames) (hRl : 26 ≤ R.locals) (hNN : 152 ≤ NN) (hE : CE E tM tC kK kV A s) (hret : ∀ (r : Int32) (x : St) (H : Heap) (locs : List Loc) (pc : Nat) (ls : Array Slot), decode b_Sch_find pc = .ok (.ireturn, 1) → post r x → Wd dC dI cI cB cJ cZ ad stC kcC NN A x H → va_S A s.heap H locs → W p l e R s m args below meth c H locs cells slots Q (F0 m pc ls [.int r])) : ∀ (o : Nat) (l1 : Int32) (l2 : Nat) (l3 : Int32) (l4 : Int32) (x : St) (H : Heap) (locs : List Loc) (ls : Array Slot), (o < NN ∧ kcC o = 3) → (l2 < NN ∧ kcC l2 = 21) → wp_Sch_find post o l1 l2 l3 l4 x → Wd dC dI cI cB cJ cZ ad stC kcC NN A x H → va_S A s.heap H locs → lv_has ls 7 [(0, .ref (ad o)), (1, .int l1), (2, .ref (ad l2)), (3, .int l3), (4, .int l4)] → W p l e R s m args below meth c H locs cells slots Q (F0 m 0 ls []) := by
  intro o l1 l2 l3 l4 x H locs ls fo fl2 hw hW hS hl
  unfold wp_Sch_find at hw
  refine lv_aload_n hx hb d_Sch_find_0 rfl (lv_at hl 0 rfl) ?_
  refine lv_iload_n hx hb d_Sch_find_1 rfl (lv_at hl 1 rfl) ?_
  have hF := hW.free hS hA
  refine va_calli (va_runV (C := R_Sch) (As := [.int l1]) (rest := []) ⟨hx, hb, hml, hown, hT⟩ (k_Sch_pastOf l dC dI cI cB cJ cZ ad NN E tM tC kK kV hNN H.size o l1 x fo hw) ⟨callB_of 1 hT (gwt_in w_4_233) rfl rfl rfl (hT _ w_1_5) (hT _ w_4_230) (by decide +kernel) ⟨Nat.le_trans (Nat.le_of_ble_eq_true rfl) hRf, Nat.le_trans (Nat.le_of_ble_eq_true rfl) hRl⟩, hT _ w_4_231, hT _ w_4_232⟩ ⟨PVc.blind, va_recv hK hW.1 (ci := 3) (q0 := o) rfl (pic_obj fo.1 fo.2 (by decide)), PVc.at _ hW hK hN hE hS hF⟩ rfl rfl hl.1 rfl (lv_room (Nat.le_of_ble_eq_true rfl)) d_Sch_find_2 ⟨hRc, hRs⟩) hS (fun q _ h => hF q h) hF (fun r7 x6 t H locs ht hvm hw hB hz1 hk1 hS => ?_)
  have hW := Wd.back hB ht hF
  clear hB ht hF hz1 hk1 hvm
  refine lv_istore (lv' := [(5, .int r7), (0, .ref (ad o)), (1, .int l1), (2, .ref (ad l2)), (3, .int l3), (4, .int l4)]) hx hb d_Sch_find_5 hl (by decide) rfl (fun ls hl => ?_)
  refine lv_aload_n hx hb d_Sch_find_7 rfl (lv_at hl 1 rfl) ?_
  refine lv_iload_n hx hb d_Sch_find_8 rfl (lv_at hl 2 rfl) ?_
  have hF := hW.free hS hA
  refine va_calli (va_runV (C := R_Sch) (As := [.int l1]) (rest := []) ⟨hx, hb, hml, hown, hT⟩ (k_Sch_firstIn l dC dI cI cB cJ cZ ad NN E tM tC kK kV hNN H.size o l1 x6 fo hw) ⟨callB_of 1 hT (gwt_in w_4_237) rfl rfl rfl (hT _ w_1_5) (hT _ w_4_234) (by decide +kernel) ⟨Nat.le_trans (Nat.le_of_ble_eq_true rfl) hRf, Nat.le_trans (Nat.le_of_ble_eq_true rfl) hRl⟩, hT _ w_4_235, hT _ w_4_236⟩ ⟨PVc.blind, va_recv hK hW.1 (ci := 3) (q0 := o) rfl (pic_obj fo.1 fo.2 (by decide)), PVc.at _ hW hK hN hE hS hF⟩ rfl rfl hl.1 rfl (lv_room (Nat.le_of_ble_eq_true rfl)) d_Sch_find_9 ⟨hRc, hRs⟩) hS (fun q _ h => hF q h) hF (fun r9 x8 t H locs ht hvm hw hB hz1 hk1 hS => ?_)
  have hW := Wd.back hB ht hF
  clear hB ht hF hz1 hk1 hvm
  refine lv_istore (lv' := [(6, .int r9), (5, .int r7), (0, .ref (ad o)), (1, .int l1), (2, .ref (ad l2)), (3, .int l3), (4, .int l4)]) hx hb d_Sch_find_12 hl (by decide) rfl (fun ls hl => ?_)
  obtain ⟨n, hw⟩ := hw
  exact tl_Sch_find_14 hx hb hml hown hT hK hN hA hRc hRs hRf hRl hNN hE hret  n o l1 l2 l3 l4 r7 r9 x8 H locs ls fo fl2 hw hW hS (lv_sub hl [2, 3, 4, 5, 6, 1, 0] rfl)
set_option maxHeartbeats 4000000 in
set_option maxRecDepth 100000 in
theorem k_Sch_find (l : Launch) (dC : Nat → ClassId) (dI : Nat → Nat → Nat) (cI cB cJ cZ : ClassId) (ad : Nat → Nat) (NN : Nat) (E : Heap) (tM tC : Nat) (kK kV : Nat → Nat) (hNN : 152 ≤ NN) (sz : Nat) (o : Nat) (l1 : Int32) (l2 : Nat) (l3 : Int32) (l4 : Int32) (x : St) (fo : o < NN ∧ kcC o = 3) (fl2 : l2 < NN ∧ kcC l2 = 21) {post : Int32 → St → Prop} (hw : wp_Sch_find post o l1 l2 l3 l4 x) : Met l y_Sch_find (wsOf y_Sch_find b_Sch_find 7 (some (.int))) ({ frames := 1, cells := 0, slots := 0, locals := 26 }) (va_Pc [.ref (ad o), .int l1, .ref (ad l2), .int l3, .int l4] (PVc dC dI cI cB cJ cZ ad stC kcC NN E tM tC kK kV sz x)) (va_Qi (fun (r : Int32) (y : St) => post r y) (fun y t => Wd dC dI cI cB cJ cZ ad stC kcC NN (va_A (pic ad stC kcC NN cI cB cJ cZ x) sz) y t.heap) (va_A (pic ad stC kcC NN cI cB cJ cZ x) sz)) 0 0 (va_A (pic ad stC kcC NN cI cB cJ cZ x) sz) := by
  refine Met.ofW (cc := b_Sch_find) (maxL := 7) (ret := some (.int)) (by decide) rfl ?_
  intro p e s m args below meth c s₁ B hml hv
  obtain ⟨rfl, ⟨hsz, hW0, hK, hN⟩, hE⟩ := hv
  have hx := B.exec
  have hb := B.bytes
  have hr := B.returns
  have hts := atoms_spec B.pre
  have hT : ∀ w ∈ TG, w.before _ s = true := fun w h => hts w (List.mem_cons_of_mem _ h)
  have hown : s.vm.findClass R_Sch = some m.cls := findClass_of_methodNamed B.named
  have hlocks := B.notSynchronized
  subst hsz
  have hW : Wd dC dI cI cB cJ cZ ad stC kcC NN (va_A (pic ad stC kcC NN cI cB cJ cZ x) s.heap.size) x s.heap := ⟨hW0.1, hW0.2.1.self (sz := s.heap.size), hW0.2.2⟩
  generalize hAe : va_A (pic ad stC kcC NN cI cB cJ cZ x) s.heap.size = A at hW hE ⊢
  have hA : ∀ q : Nat, s.heap.size ≤ q → A q := fun q h => by rw [← hAe]; exact Or.inr h
  have hS : va_S A s.heap s.heap [] := va_S.rf
  have hl := lv_entry ([.ref (ad o), .int l1, .ref (ad l2), .int l3, .int l4]) (n := 7) (Nat.le_of_ble_eq_true rfl)
  rw [lg_entry_eq]
  generalize (lg_sl ([.ref (ad o), .int l1, .ref (ad l2), .int l3, .int l4]) ++ List.replicate (7 - (lg_sl ([.ref (ad o), .int l1, .ref (ad l2), .int l3, .int l4])).length) Slot.unset).toArray = ls at hl ⊢
  have hl : lv_has ls 7 [(0, .ref (ad o)), (1, .int l1), (2, .ref (ad l2)), (3, .int l3), (4, .int l4)] := hl
  exact t_Sch_find_e hx hb hml hown hT hK hN hA (Nat.le_refl 0) (Nat.le_refl 0) (Nat.le_refl 1) (Nat.le_refl 26) hNN hE (fun r x H locs pc ls hd hp hW hS => W.iret (v := r) hx hb hr (fun t ht hM => ⟨⟨r, x, rfl, hp, Wd.back hW ht.symm (fun _ z => z)⟩, hS.F ht⟩) hS.2.2 hd hlocks)  o l1 l2 l3 l4 x _ _ ls fo fl2 hw hW hS hl
end
