theorem w_11_143 : (Jvm.Cond.methodLink "StripedVaultModel" (795 : Nat) ({ cls := "StripedVaultModel", name := "many", desc := "(III)I" } : Jvm.MethodName)) ∈ TG := tw_11 143 (by decide +kernel) (by decide +kernel)
theorem w_11_145 : (Jvm.Cond.instanceMethod ({ cls := "StripedVaultModel", name := "many", desc := "(III)I" } : Jvm.MethodName)) ∈ TG := tw_11 145 (by decide +kernel) (by decide +kernel)
theorem w_11_146 : (Jvm.Cond.code ({ cls := "StripedVaultModel", name := "many", desc := "(III)I" } : Jvm.MethodName) prog_14_method_106_code (6 : Nat) (Option.some Jvm.ClassFile.FieldType.int)) ∈ TG := tw_11 146 (by decide +kernel) (by decide +kernel)
theorem w_11_147 : (Jvm.Cond.methodLink "StripedVaultModel" (798 : Nat) ({ cls := "StripedVaultModel", name := "textsOf", desc := "(III)I" } : Jvm.MethodName)) ∈ TG := tw_11 147 (by decide +kernel) (by decide +kernel)
theorem w_11_149 : (Jvm.Cond.instanceMethod ({ cls := "StripedVaultModel", name := "textsOf", desc := "(III)I" } : Jvm.MethodName)) ∈ TG := tw_11 149 (by decide +kernel) (by decide +kernel)
theorem w_11_150 : (Jvm.Cond.code ({ cls := "StripedVaultModel", name := "textsOf", desc := "(III)I" } : Jvm.MethodName) prog_14_method_108_code (6 : Nat) (Option.some Jvm.ClassFile.FieldType.int)) ∈ TG := tw_11 150 (by decide +kernel) (by decide +kernel)
theorem w_11_151 : (Jvm.Cond.methodLink "StripedVaultModel" (801 : Nat) ({ cls := "StripedVaultModel", name := "fillPage", desc := "(III)V" } : Jvm.MethodName)) ∈ TG := tw_11 151 (by decide +kernel) (by decide +kernel)
theorem w_11_153 : (Jvm.Cond.instanceMethod ({ cls := "StripedVaultModel", name := "fillPage", desc := "(III)V" } : Jvm.MethodName)) ∈ TG := tw_11 153 (by decide +kernel) (by decide +kernel)
theorem w_11_154 : (Jvm.Cond.code ({ cls := "StripedVaultModel", name := "fillPage", desc := "(III)V" } : Jvm.MethodName) prog_14_method_109_code (6 : Nat) (Option.none : Option Jvm.ClassFile.FieldType)) ∈ TG := tw_11 154 (by decide +kernel) (by decide +kernel)
theorem w_11_167 : (Jvm.Cond.methodLink "StripedVaultModel" (804 : Nat) ({ cls := "StripedVaultModel", name := "writePage", desc := "()V" } : Jvm.MethodName)) ∈ TG := tw_11 167 (by decide +kernel) (by decide +kernel)
theorem w_11_169 : (Jvm.Cond.instanceMethod ({ cls := "StripedVaultModel", name := "writePage", desc := "()V" } : Jvm.MethodName)) ∈ TG := tw_11 169 (by decide +kernel) (by decide +kernel)
theorem w_11_170 : (Jvm.Cond.code ({ cls := "StripedVaultModel", name := "writePage", desc := "()V" } : Jvm.MethodName) prog_14_method_103_code (3 : Nat) (Option.none : Option Jvm.ClassFile.FieldType)) ∈ TG := tw_11 170 (by decide +kernel) (by decide +kernel)
theorem w_12_52 : (Jvm.Cond.methodLink "StripedVaultModel" (807 : Nat) ({ cls := "StripedVaultModel", name := "addSheet", desc := "()V" } : Jvm.MethodName)) ∈ TG := tw_12 52 (by decide +kernel) (by decide +kernel)
theorem w_12_54 : (Jvm.Cond.instanceMethod ({ cls := "StripedVaultModel", name := "addSheet", desc := "()V" } : Jvm.MethodName)) ∈ TG := tw_12 54 (by decide +kernel) (by decide +kernel)
theorem w_12_55 : (Jvm.Cond.code ({ cls := "StripedVaultModel", name := "addSheet", desc := "()V" } : Jvm.MethodName) prog_14_method_105_code (2 : Nat) (Option.none : Option Jvm.ClassFile.FieldType)) ∈ TG := tw_12 55 (by decide +kernel) (by decide +kernel)
theorem w_12_64 : (Jvm.Cond.methodLink "StripedVaultModel" (810 : Nat) ({ cls := "StripedVaultModel", name := "has", desc := "(I)Z" } : Jvm.MethodName)) ∈ TG := tw_12 64 (by decide +kernel) (by decide +kernel)
theorem w_12_66 : (Jvm.Cond.instanceMethod ({ cls := "StripedVaultModel", name := "has", desc := "(I)Z" } : Jvm.MethodName)) ∈ TG := tw_12 66 (by decide +kernel) (by decide +kernel)
theorem w_12_67 : (Jvm.Cond.code ({ cls := "StripedVaultModel", name := "has", desc := "(I)Z" } : Jvm.MethodName) prog_14_method_107_code (2 : Nat) (Option.some Jvm.ClassFile.FieldType.boolean)) ∈ TG := tw_12 67 (by decide +kernel) (by decide +kernel)
theorem w_12_68 : (Jvm.Cond.methodLink "StripedVaultModel" (813 : Nat) ({ cls := "StripedVaultModel", name := "against2", desc := "(III)I" } : Jvm.MethodName)) ∈ TG := tw_12 68 (by decide +kernel) (by decide +kernel)
theorem w_12_70 : (Jvm.Cond.instanceMethod ({ cls := "StripedVaultModel", name := "against2", desc := "(III)I" } : Jvm.MethodName)) ∈ TG := tw_12 70 (by decide +kernel) (by decide +kernel)
theorem w_12_71 : (Jvm.Cond.code ({ cls := "StripedVaultModel", name := "against2", desc := "(III)I" } : Jvm.MethodName) prog_14_method_111_code (5 : Nat) (Option.some Jvm.ClassFile.FieldType.int)) ∈ TG := tw_12 71 (by decide +kernel) (by decide +kernel)
theorem w_12_72 : (Jvm.Cond.methodLink "StripedVaultModel" (816 : Nat) ({ cls := "StripedVaultModel", name := "putEntry", desc := "(II)V" } : Jvm.MethodName)) ∈ TG := tw_12 72 (by decide +kernel) (by decide +kernel)
theorem w_12_74 : (Jvm.Cond.instanceMethod ({ cls := "StripedVaultModel", name := "putEntry", desc := "(II)V" } : Jvm.MethodName)) ∈ TG := tw_12 74 (by decide +kernel) (by decide +kernel)
theorem w_12_75 : (Jvm.Cond.code ({ cls := "StripedVaultModel", name := "putEntry", desc := "(II)V" } : Jvm.MethodName) prog_14_method_112_code (4 : Nat) (Option.none : Option Jvm.ClassFile.FieldType)) ∈ TG := tw_12 75 (by decide +kernel) (by decide +kernel)
theorem ws_141 : Cond.selects R_Mod y_Mod_many y_Mod_many ∈ TG := tw_s 141 (by decide +kernel) (by decide +kernel)
theorem ws_142 : Cond.selects R_Mod y_Mod_textsOf y_Mod_textsOf ∈ TG := tw_s 142 (by decide +kernel) (by decide +kernel)
theorem ws_143 : Cond.selects R_Mod y_Mod_fillPage y_Mod_fillPage ∈ TG := tw_s 143 (by decide +kernel) (by decide +kernel)
theorem ws_147 : Cond.selects R_Mod y_Mod_writePage y_Mod_writePage ∈ TG := tw_s 147 (by decide +kernel) (by decide +kernel)
theorem ws_175 : Cond.selects R_Mod y_Mod_addSheet y_Mod_addSheet ∈ TG := tw_s 175 (by decide +kernel) (by decide +kernel)
theorem ws_178 : Cond.selects R_Mod y_Mod_has y_Mod_has ∈ TG := tw_s 178 (by decide +kernel) (by decide +kernel)
theorem ws_179 : Cond.selects R_Mod y_Mod_against2 y_Mod_against2 ∈ TG := tw_s 179 (by decide +kernel) (by decide +kernel)
theorem ws_180 : Cond.selects R_Mod y_Mod_putEntry y_Mod_putEntry ∈ TG := tw_s 180 (by decide +kernel) (by decide +kernel)
theorem d_Mod_addSheet_30 : decode b_Mod_addSheet 30 = .ok (.invokevirtual 783, 3) := by decide +kernel
theorem d_Mod_addSheet_33 : decode b_Mod_addSheet 33 = .ok (.iinc 1 1, 3) := by decide +kernel
theorem d_Mod_addSheet_36 : decode b_Mod_addSheet 36 = .ok (.goto (-34), 3) := by decide +kernel
theorem d_Mod_addSheet_2 : decode b_Mod_addSheet 2 = .ok (.iload_n 1, 1) := by decide +kernel
theorem d_Mod_addSheet_3 : decode b_Mod_addSheet 3 = .ok (.aload_n 0, 1) := by decide +kernel
theorem d_Mod_addSheet_4 : decode b_Mod_addSheet 4 = .ok (.getfield 547, 3) := by decide +kernel
theorem d_Mod_addSheet_7 : decode b_Mod_addSheet 7 = .ok (.if_icmp .ge 32, 3) := by decide +kernel
theorem d_Mod_addSheet_39 : decode b_Mod_addSheet 39 = .ok (.return_, 1) := by decide +kernel
theorem d_Mod_addSheet_10 : decode b_Mod_addSheet 10 = .ok (.aload_n 0, 1) := by decide +kernel
theorem d_Mod_addSheet_11 : decode b_Mod_addSheet 11 = .ok (.iload_n 1, 1) := by decide +kernel
theorem d_Mod_addSheet_12 : decode b_Mod_addSheet 12 = .ok (.aload_n 0, 1) := by decide +kernel
theorem d_Mod_addSheet_13 : decode b_Mod_addSheet 13 = .ok (.getfield 127, 3) := by decide +kernel
theorem d_Mod_addSheet_16 : decode b_Mod_addSheet 16 = .ok (.arraylength, 1) := by decide +kernel
theorem d_Mod_addSheet_17 : decode b_Mod_addSheet 17 = .ok (.if_icmp .ge 12, 3) := by decide +kernel
theorem d_Mod_addSheet_29 : decode b_Mod_addSheet 29 = .ok (.iconst 0, 1) := by decide +kernel
theorem d_Mod_addSheet_20 : decode b_Mod_addSheet 20 = .ok (.aload_n 0, 1) := by decide +kernel
theorem d_Mod_addSheet_21 : decode b_Mod_addSheet 21 = .ok (.getfield 127, 3) := by decide +kernel
theorem d_Mod_addSheet_24 : decode b_Mod_addSheet 24 = .ok (.iload_n 1, 1) := by decide +kernel
theorem d_Mod_addSheet_25 : decode b_Mod_addSheet 25 = .ok (.iaload, 1) := by decide +kernel
theorem d_Mod_addSheet_26 : decode b_Mod_addSheet 26 = .ok (.goto 4, 3) := by decide +kernel
theorem d_Mod_addSheet_0 : decode b_Mod_addSheet 0 = .ok (.iconst 0, 1) := by decide +kernel
theorem d_Mod_addSheet_1 : decode b_Mod_addSheet 1 = .ok (.istore_n 1, 1) := by decide +kernel
theorem d_Mod_writeChunk_124 : decode b_Mod_writeChunk 124 = .ok (.aload_n 0, 1) := by decide +kernel
theorem d_Mod_writeChunk_125 : decode b_Mod_writeChunk 125 = .ok (.iload_n 2, 1) := by decide +kernel
theorem d_Mod_writeChunk_126 : decode b_Mod_writeChunk 126 = .ok (.iload 7, 2) := by decide +kernel
theorem d_Mod_writeChunk_128 : decode b_Mod_writeChunk 128 = .ok (.iload 8, 2) := by decide +kernel
theorem d_Mod_writeChunk_130 : decode b_Mod_writeChunk 130 = .ok (.invokevirtual 801, 3) := by decide +kernel
theorem d_Mod_writeChunk_133 : decode b_Mod_writeChunk 133 = .ok (.aload_n 0, 1) := by decide +kernel
theorem d_Mod_writeChunk_134 : decode b_Mod_writeChunk 134 = .ok (.invokevirtual 804, 3) := by decide +kernel
theorem d_Mod_writeChunk_137 : decode b_Mod_writeChunk 137 = .ok (.aload_n 0, 1) := by decide +kernel
theorem d_Mod_writeChunk_138 : decode b_Mod_writeChunk 138 = .ok (.invokevirtual 807, 3) := by decide +kernel
theorem d_Mod_writeChunk_141 : decode b_Mod_writeChunk 141 = .ok (.aload_n 0, 1) := by decide +kernel
theorem d_Mod_writeChunk_142 : decode b_Mod_writeChunk 142 = .ok (.getfield 163, 3) := by decide +kernel
theorem d_Mod_writeChunk_145 : decode b_Mod_writeChunk 145 = .ok (.iload_n 1, 1) := by decide +kernel
theorem d_Mod_writeChunk_146 : decode b_Mod_writeChunk 146 = .ok (.dup2, 1) := by decide +kernel
theorem d_Mod_writeChunk_147 : decode b_Mod_writeChunk 147 = .ok (.iaload, 1) := by decide +kernel
theorem d_Mod_writeChunk_148 : decode b_Mod_writeChunk 148 = .ok (.iconst 1, 1) := by decide +kernel
theorem d_Mod_writeChunk_149 : decode b_Mod_writeChunk 149 = .ok (.iadd, 1) := by decide +kernel
theorem d_Mod_writeChunk_150 : decode b_Mod_writeChunk 150 = .ok (.iastore, 1) := by decide +kernel
theorem d_Mod_writeChunk_151 : decode b_Mod_writeChunk 151 = .ok (.iload 8, 2) := by decide +kernel
theorem d_Mod_writeChunk_153 : decode b_Mod_writeChunk 153 = .ok (.istore 7, 2) := by decide +kernel
theorem d_Mod_writeChunk_155 : decode b_Mod_writeChunk 155 = .ok (.goto (-139), 3) := by decide +kernel
theorem d_Mod_writeChunk_61 : decode b_Mod_writeChunk 61 = .ok (.iload 8, 2) := by decide +kernel
theorem d_Mod_writeChunk_63 : decode b_Mod_writeChunk 63 = .ok (.iload 4, 2) := by decide +kernel
theorem d_Mod_writeChunk_65 : decode b_Mod_writeChunk 65 = .ok (.if_icmp .ge 59, 3) := by decide +kernel
theorem d_Mod_writeChunk_68 : decode b_Mod_writeChunk 68 = .ok (.iload 9, 2) := by decide +kernel
theorem d_Mod_writeChunk_70 : decode b_Mod_writeChunk 70 = .ok (.aload_n 0, 1) := by decide +kernel
theorem d_Mod_writeChunk_71 : decode b_Mod_writeChunk 71 = .ok (.iload_n 2, 1) := by decide +kernel
theorem d_Mod_writeChunk_72 : decode b_Mod_writeChunk 72 = .ok (.iload 8, 2) := by decide +kernel
theorem d_Mod_writeChunk_74 : decode b_Mod_writeChunk 74 = .ok (.iload 8, 2) := by decide +kernel
theorem d_Mod_writeChunk_76 : decode b_Mod_writeChunk 76 = .ok (.iconst 1, 1) := by decide +kernel
theorem d_Mod_writeChunk_77 : decode b_Mod_writeChunk 77 = .ok (.iadd, 1) := by decide +kernel
theorem d_Mod_writeChunk_78 : decode b_Mod_writeChunk 78 = .ok (.invokevirtual 795, 3) := by decide +kernel
theorem d_Mod_writeChunk_81 : decode b_Mod_writeChunk 81 = .ok (.iadd, 1) := by decide +kernel
theorem d_Mod_writeChunk_82 : decode b_Mod_writeChunk 82 = .ok (.istore 9, 2) := by decide +kernel
theorem d_Mod_writeChunk_84 : decode b_Mod_writeChunk 84 = .ok (.iload 10, 2) := by decide +kernel
theorem d_Mod_writeChunk_86 : decode b_Mod_writeChunk 86 = .ok (.aload_n 0, 1) := by decide +kernel
theorem d_Mod_writeChunk_87 : decode b_Mod_writeChunk 87 = .ok (.iload_n 2, 1) := by decide +kernel
theorem d_Mod_writeChunk_88 : decode b_Mod_writeChunk 88 = .ok (.iload 8, 2) := by decide +kernel
theorem d_Mod_writeChunk_90 : decode b_Mod_writeChunk 90 = .ok (.iload 8, 2) := by decide +kernel
theorem d_Mod_writeChunk_92 : decode b_Mod_writeChunk 92 = .ok (.iconst 1, 1) := by decide +kernel
theorem d_Mod_writeChunk_93 : decode b_Mod_writeChunk 93 = .ok (.iadd, 1) := by decide +kernel
theorem d_Mod_writeChunk_94 : decode b_Mod_writeChunk 94 = .ok (.invokevirtual 798, 3) := by decide +kernel
theorem d_Mod_writeChunk_97 : decode b_Mod_writeChunk 97 = .ok (.iadd, 1) := by decide +kernel
theorem d_Mod_writeChunk_98 : decode b_Mod_writeChunk 98 = .ok (.istore 10, 2) := by decide +kernel
theorem d_Mod_writeChunk_100 : decode b_Mod_writeChunk 100 = .ok (.iload 9, 2) := by decide +kernel
theorem d_Mod_writeChunk_102 : decode b_Mod_writeChunk 102 = .ok (.iload 5, 2) := by decide +kernel
theorem d_Mod_writeChunk_104 : decode b_Mod_writeChunk 104 = .ok (.if_icmp .gt 20, 3) := by decide +kernel
theorem d_Mod_writeChunk_107 : decode b_Mod_writeChunk 107 = .ok (.iload 10, 2) := by decide +kernel
theorem d_Mod_writeChunk_109 : decode b_Mod_writeChunk 109 = .ok (.sipush 20000, 3) := by decide +kernel
theorem d_Mod_writeChunk_112 : decode b_Mod_writeChunk 112 = .ok (.if_icmp .le 6, 3) := by decide +kernel
theorem d_Mod_writeChunk_118 : decode b_Mod_writeChunk 118 = .ok (.iinc 8 1, 3) := by decide +kernel
theorem d_Mod_writeChunk_121 : decode b_Mod_writeChunk 121 = .ok (.goto (-60), 3) := by decide +kernel
theorem d_Mod_writeChunk_115 : decode b_Mod_writeChunk 115 = .ok (.goto 9, 3) := by decide +kernel
theorem d_Mod_writeChunk_16 : decode b_Mod_writeChunk 16 = .ok (.iload 7, 2) := by decide +kernel
theorem d_Mod_writeChunk_18 : decode b_Mod_writeChunk 18 = .ok (.iload 4, 2) := by decide +kernel
theorem d_Mod_writeChunk_20 : decode b_Mod_writeChunk 20 = .ok (.if_icmp .ge 138, 3) := by decide +kernel
theorem d_Mod_writeChunk_158 : decode b_Mod_writeChunk 158 = .ok (.aload_n 0, 1) := by decide +kernel
theorem d_Mod_writeChunk_159 : decode b_Mod_writeChunk 159 = .ok (.getfield 160, 3) := by decide +kernel
theorem d_Mod_writeChunk_162 : decode b_Mod_writeChunk 162 = .ok (.iload_n 1, 1) := by decide +kernel
theorem d_Mod_writeChunk_163 : decode b_Mod_writeChunk 163 = .ok (.aload_n 0, 1) := by decide +kernel
theorem d_Mod_writeChunk_164 : decode b_Mod_writeChunk 164 = .ok (.getfield 780, 3) := by decide +kernel
theorem d_Mod_writeChunk_167 : decode b_Mod_writeChunk 167 = .ok (.iload 6, 2) := by decide +kernel
theorem d_Mod_writeChunk_169 : decode b_Mod_writeChunk 169 = .ok (.isub, 1) := by decide +kernel
theorem d_Mod_writeChunk_170 : decode b_Mod_writeChunk 170 = .ok (.iastore, 1) := by decide +kernel
theorem d_Mod_writeChunk_171 : decode b_Mod_writeChunk 171 = .ok (.iconst 1, 1) := by decide +kernel
theorem d_Mod_writeChunk_172 : decode b_Mod_writeChunk 172 = .ok (.ireturn, 1) := by decide +kernel
theorem d_Mod_writeChunk_23 : decode b_Mod_writeChunk 23 = .ok (.iload 7, 2) := by decide +kernel
theorem d_Mod_writeChunk_25 : decode b_Mod_writeChunk 25 = .ok (.iconst 1, 1) := by decide +kernel
theorem d_Mod_writeChunk_26 : decode b_Mod_writeChunk 26 = .ok (.iadd, 1) := by decide +kernel
theorem d_Mod_writeChunk_27 : decode b_Mod_writeChunk 27 = .ok (.istore 8, 2) := by decide +kernel
theorem d_Mod_writeChunk_29 : decode b_Mod_writeChunk 29 = .ok (.aload_n 0, 1) := by decide +kernel
theorem d_Mod_writeChunk_30 : decode b_Mod_writeChunk 30 = .ok (.iload_n 2, 1) := by decide +kernel
theorem d_Mod_writeChunk_31 : decode b_Mod_writeChunk 31 = .ok (.iload 7, 2) := by decide +kernel
theorem d_Mod_writeChunk_33 : decode b_Mod_writeChunk 33 = .ok (.iload 8, 2) := by decide +kernel
theorem d_Mod_writeChunk_35 : decode b_Mod_writeChunk 35 = .ok (.invokevirtual 795, 3) := by decide +kernel
theorem d_Mod_writeChunk_38 : decode b_Mod_writeChunk 38 = .ok (.istore 9, 2) := by decide +kernel
theorem d_Mod_writeChunk_40 : decode b_Mod_writeChunk 40 = .ok (.aload_n 0, 1) := by decide +kernel
theorem d_Mod_writeChunk_41 : decode b_Mod_writeChunk 41 = .ok (.iload_n 2, 1) := by decide +kernel
theorem d_Mod_writeChunk_42 : decode b_Mod_writeChunk 42 = .ok (.iload 7, 2) := by decide +kernel
theorem d_Mod_writeChunk_44 : decode b_Mod_writeChunk 44 = .ok (.iload 8, 2) := by decide +kernel
theorem d_Mod_writeChunk_46 : decode b_Mod_writeChunk 46 = .ok (.invokevirtual 798, 3) := by decide +kernel
theorem d_Mod_writeChunk_49 : decode b_Mod_writeChunk 49 = .ok (.istore 10, 2) := by decide +kernel
theorem d_Mod_writeChunk_51 : decode b_Mod_writeChunk 51 = .ok (.iload 9, 2) := by decide +kernel
theorem d_Mod_writeChunk_53 : decode b_Mod_writeChunk 53 = .ok (.sipush 1000, 3) := by decide +kernel
theorem d_Mod_writeChunk_56 : decode b_Mod_writeChunk 56 = .ok (.if_icmp .le 5, 3) := by decide +kernel
theorem d_Mod_writeChunk_59 : decode b_Mod_writeChunk 59 = .ok (.iconst 0, 1) := by decide +kernel
theorem d_Mod_writeChunk_60 : decode b_Mod_writeChunk 60 = .ok (.ireturn, 1) := by decide +kernel
theorem d_Mod_writeChunk_0 : decode b_Mod_writeChunk 0 = .ok (.aload_n 0, 1) := by decide +kernel
theorem d_Mod_writeChunk_1 : decode b_Mod_writeChunk 1 = .ok (.getfield 780, 3) := by decide +kernel
theorem d_Mod_writeChunk_4 : decode b_Mod_writeChunk 4 = .ok (.istore 6, 2) := by decide +kernel
theorem d_Mod_writeChunk_6 : decode b_Mod_writeChunk 6 = .ok (.aload_n 0, 1) := by decide +kernel
theorem d_Mod_writeChunk_7 : decode b_Mod_writeChunk 7 = .ok (.getfield 163, 3) := by decide +kernel
theorem d_Mod_writeChunk_10 : decode b_Mod_writeChunk 10 = .ok (.iload_n 1, 1) := by decide +kernel
theorem d_Mod_writeChunk_11 : decode b_Mod_writeChunk 11 = .ok (.iconst 0, 1) := by decide +kernel
theorem d_Mod_writeChunk_12 : decode b_Mod_writeChunk 12 = .ok (.iastore, 1) := by decide +kernel
theorem d_Mod_writeChunk_13 : decode b_Mod_writeChunk 13 = .ok (.iload_n 3, 1) := by decide +kernel
theorem d_Mod_writeChunk_14 : decode b_Mod_writeChunk 14 = .ok (.istore 7, 2) := by decide +kernel
theorem d_Mod_has_0 : decode b_Mod_has 0 = .ok (.aload_n 0, 1) := by decide +kernel
theorem d_Mod_has_1 : decode b_Mod_has 1 = .ok (.getfield 66, 3) := by decide +kernel
theorem d_Mod_has_4 : decode b_Mod_has 4 = .ok (.iload_n 1, 1) := by decide +kernel
theorem d_Mod_has_5 : decode b_Mod_has 5 = .ok (.iaload, 1) := by decide +kernel
theorem d_Mod_has_6 : decode b_Mod_has 6 = .ok (.aload_n 0, 1) := by decide +kernel
theorem d_Mod_has_7 : decode b_Mod_has 7 = .ok (.iconst 0, 1) := by decide +kernel
theorem d_Mod_has_8 : decode b_Mod_has 8 = .ok (.aload_n 0, 1) := by decide +kernel
theorem d_Mod_has_9 : decode b_Mod_has 9 = .ok (.getfield 69, 3) := by decide +kernel
theorem d_Mod_has_12 : decode b_Mod_has 12 = .ok (.iload_n 1, 1) := by decide +kernel
theorem d_Mod_has_13 : decode b_Mod_has 13 = .ok (.iaload, 1) := by decide +kernel
theorem d_Mod_has_14 : decode b_Mod_has 14 = .ok (.invokevirtual 786, 3) := by decide +kernel
theorem d_Mod_has_17 : decode b_Mod_has 17 = .ok (.if_icmp .ne 7, 3) := by decide +kernel
theorem d_Mod_has_24 : decode b_Mod_has 24 = .ok (.iconst 0, 1) := by decide +kernel
theorem d_Mod_has_25 : decode b_Mod_has 25 = .ok (.ireturn, 1) := by decide +kernel
theorem d_Mod_has_20 : decode b_Mod_has 20 = .ok (.iconst 1, 1) := by decide +kernel
theorem d_Mod_has_21 : decode b_Mod_has 21 = .ok (.goto 4, 3) := by decide +kernel
theorem d_Mod_against2_139 : decode b_Mod_against2 139 = .ok (.aload_n 0, 1) := by decide +kernel
theorem d_Mod_against2_140 : decode b_Mod_against2 140 = .ok (.getfield 75, 3) := by decide +kernel
theorem d_Mod_against2_143 : decode b_Mod_against2 143 = .ok (.iload_n 1, 1) := by decide +kernel
theorem d_Mod_against2_144 : decode b_Mod_against2 144 = .ok (.iaload, 1) := by decide +kernel
theorem d_Mod_against2_145 : decode b_Mod_against2 145 = .ok (.aload_n 0, 1) := by decide +kernel
theorem d_Mod_against2_146 : decode b_Mod_against2 146 = .ok (.getfield 75, 3) := by decide +kernel
theorem d_Mod_against2_149 : decode b_Mod_against2 149 = .ok (.iload_n 2, 1) := by decide +kernel
theorem d_Mod_against2_150 : decode b_Mod_against2 150 = .ok (.iaload, 1) := by decide +kernel
theorem d_Mod_against2_151 : decode b_Mod_against2 151 = .ok (.isub, 1) := by decide +kernel
theorem d_Mod_against2_152 : decode b_Mod_against2 152 = .ok (.ireturn, 1) := by decide +kernel
theorem d_Mod_against2_50 : decode b_Mod_against2 50 = .ok (.iload 4, 2) := by decide +kernel
theorem d_Mod_against2_52 : decode b_Mod_against2 52 = .ok (.aload_n 0, 1) := by decide +kernel
theorem d_Mod_against2_53 : decode b_Mod_against2 53 = .ok (.getfield 75, 3) := by decide +kernel
theorem d_Mod_against2_56 : decode b_Mod_against2 56 = .ok (.iload_n 1, 1) := by decide +kernel
theorem d_Mod_against2_57 : decode b_Mod_against2 57 = .ok (.iaload, 1) := by decide +kernel
theorem d_Mod_against2_58 : decode b_Mod_against2 58 = .ok (.if_icmp .ge 81, 3) := by decide +kernel
theorem d_Mod_against2_61 : decode b_Mod_against2 61 = .ok (.iload 4, 2) := by decide +kernel
theorem d_Mod_against2_63 : decode b_Mod_against2 63 = .ok (.aload_n 0, 1) := by decide +kernel
theorem d_Mod_against2_64 : decode b_Mod_against2 64 = .ok (.getfield 75, 3) := by decide +kernel
theorem d_Mod_against2_67 : decode b_Mod_against2 67 = .ok (.iload_n 2, 1) := by decide +kernel
theorem d_Mod_against2_68 : decode b_Mod_against2 68 = .ok (.iaload, 1) := by decide +kernel
theorem d_Mod_against2_69 : decode b_Mod_against2 69 = .ok (.if_icmp .ge 70, 3) := by decide +kernel
theorem d_Mod_against2_72 : decode b_Mod_against2 72 = .ok (.aload_n 0, 1) := by decide +kernel
theorem d_Mod_against2_73 : decode b_Mod_against2 73 = .ok (.getfield 82, 3) := by decide +kernel
theorem d_Mod_against2_76 : decode b_Mod_against2 76 = .ok (.aload_n 0, 1) := by decide +kernel
theorem d_Mod_against2_77 : decode b_Mod_against2 77 = .ok (.getfield 72, 3) := by decide +kernel
theorem d_Mod_against2_80 : decode b_Mod_against2 80 = .ok (.iload_n 1, 1) := by decide +kernel
theorem d_Mod_against2_81 : decode b_Mod_against2 81 = .ok (.iaload, 1) := by decide +kernel
theorem d_Mod_against2_82 : decode b_Mod_against2 82 = .ok (.iload 4, 2) := by decide +kernel
theorem d_Mod_against2_84 : decode b_Mod_against2 84 = .ok (.iadd, 1) := by decide +kernel
theorem d_Mod_against2_85 : decode b_Mod_against2 85 = .ok (.iaload, 1) := by decide +kernel
theorem d_Mod_against2_86 : decode b_Mod_against2 86 = .ok (.aload_n 0, 1) := by decide +kernel
theorem d_Mod_against2_87 : decode b_Mod_against2 87 = .ok (.getfield 82, 3) := by decide +kernel
theorem d_Mod_against2_90 : decode b_Mod_against2 90 = .ok (.aload_n 0, 1) := by decide +kernel
theorem d_Mod_against2_91 : decode b_Mod_against2 91 = .ok (.getfield 72, 3) := by decide +kernel
theorem d_Mod_against2_94 : decode b_Mod_against2 94 = .ok (.iload_n 2, 1) := by decide +kernel
theorem d_Mod_against2_95 : decode b_Mod_against2 95 = .ok (.iaload, 1) := by decide +kernel
theorem d_Mod_against2_96 : decode b_Mod_against2 96 = .ok (.iload 4, 2) := by decide +kernel
theorem d_Mod_against2_98 : decode b_Mod_against2 98 = .ok (.iadd, 1) := by decide +kernel
theorem d_Mod_against2_99 : decode b_Mod_against2 99 = .ok (.iaload, 1) := by decide +kernel
theorem d_Mod_against2_100 : decode b_Mod_against2 100 = .ok (.if_icmp .eq 33, 3) := by decide +kernel
theorem d_Mod_against2_133 : decode b_Mod_against2 133 = .ok (.iinc 4 1, 3) := by decide +kernel
theorem d_Mod_against2_136 : decode b_Mod_against2 136 = .ok (.goto (-86), 3) := by decide +kernel
theorem d_Mod_against2_103 : decode b_Mod_against2 103 = .ok (.aload_n 0, 1) := by decide +kernel
theorem d_Mod_against2_104 : decode b_Mod_against2 104 = .ok (.getfield 82, 3) := by decide +kernel
theorem d_Mod_against2_107 : decode b_Mod_against2 107 = .ok (.aload_n 0, 1) := by decide +kernel
theorem d_Mod_against2_108 : decode b_Mod_against2 108 = .ok (.getfield 72, 3) := by decide +kernel
theorem d_Mod_against2_111 : decode b_Mod_against2 111 = .ok (.iload_n 1, 1) := by decide +kernel
theorem d_Mod_against2_112 : decode b_Mod_against2 112 = .ok (.iaload, 1) := by decide +kernel
theorem d_Mod_against2_113 : decode b_Mod_against2 113 = .ok (.iload 4, 2) := by decide +kernel
theorem d_Mod_against2_115 : decode b_Mod_against2 115 = .ok (.iadd, 1) := by decide +kernel
theorem d_Mod_against2_116 : decode b_Mod_against2 116 = .ok (.iaload, 1) := by decide +kernel
theorem d_Mod_against2_117 : decode b_Mod_against2 117 = .ok (.aload_n 0, 1) := by decide +kernel
theorem d_Mod_against2_118 : decode b_Mod_against2 118 = .ok (.getfield 82, 3) := by decide +kernel
theorem d_Mod_against2_121 : decode b_Mod_against2 121 = .ok (.aload_n 0, 1) := by decide +kernel
theorem d_Mod_against2_122 : decode b_Mod_against2 122 = .ok (.getfield 72, 3) := by decide +kernel
theorem d_Mod_against2_125 : decode b_Mod_against2 125 = .ok (.iload_n 2, 1) := by decide +kernel
theorem d_Mod_against2_126 : decode b_Mod_against2 126 = .ok (.iaload, 1) := by decide +kernel
theorem d_Mod_against2_127 : decode b_Mod_against2 127 = .ok (.iload 4, 2) := by decide +kernel
theorem d_Mod_against2_129 : decode b_Mod_against2 129 = .ok (.iadd, 1) := by decide +kernel
theorem d_Mod_against2_130 : decode b_Mod_against2 130 = .ok (.iaload, 1) := by decide +kernel
theorem d_Mod_against2_131 : decode b_Mod_against2 131 = .ok (.isub, 1) := by decide +kernel
theorem d_Mod_against2_132 : decode b_Mod_against2 132 = .ok (.ireturn, 1) := by decide +kernel
theorem d_Mod_against2_0 : decode b_Mod_against2 0 = .ok (.iload_n 3, 1) := by decide +kernel
theorem d_Mod_against2_1 : decode b_Mod_against2 1 = .ok (.iconst 3, 1) := by decide +kernel
theorem d_Mod_against2_2 : decode b_Mod_against2 2 = .ok (.if_icmp .eq 45, 3) := by decide +kernel
theorem d_Mod_against2_47 : decode b_Mod_against2 47 = .ok (.iconst 0, 1) := by decide +kernel
theorem d_Mod_against2_48 : decode b_Mod_against2 48 = .ok (.istore 4, 2) := by decide +kernel
theorem d_Mod_against2_5 : decode b_Mod_against2 5 = .ok (.aload_n 0, 1) := by decide +kernel
theorem d_Mod_against2_6 : decode b_Mod_against2 6 = .ok (.getfield 85, 3) := by decide +kernel
theorem d_Mod_against2_9 : decode b_Mod_against2 9 = .ok (.iload_n 1, 1) := by decide +kernel
theorem d_Mod_against2_10 : decode b_Mod_against2 10 = .ok (.laload, 1) := by decide +kernel
theorem d_Mod_against2_11 : decode b_Mod_against2 11 = .ok (.aload_n 0, 1) := by decide +kernel
theorem d_Mod_against2_12 : decode b_Mod_against2 12 = .ok (.getfield 85, 3) := by decide +kernel
theorem d_Mod_against2_15 : decode b_Mod_against2 15 = .ok (.iload_n 2, 1) := by decide +kernel
theorem d_Mod_against2_16 : decode b_Mod_against2 16 = .ok (.laload, 1) := by decide +kernel
theorem d_Mod_against2_17 : decode b_Mod_against2 17 = .ok (.lcmp, 1) := by decide +kernel
theorem d_Mod_against2_18 : decode b_Mod_against2 18 = .ok (.ifCond .ge 7, 3) := by decide +kernel
theorem d_Mod_against2_25 : decode b_Mod_against2 25 = .ok (.aload_n 0, 1) := by decide +kernel
theorem d_Mod_against2_26 : decode b_Mod_against2 26 = .ok (.getfield 85, 3) := by decide +kernel
theorem d_Mod_against2_29 : decode b_Mod_against2 29 = .ok (.iload_n 1, 1) := by decide +kernel
theorem d_Mod_against2_30 : decode b_Mod_against2 30 = .ok (.laload, 1) := by decide +kernel
theorem d_Mod_against2_31 : decode b_Mod_against2 31 = .ok (.aload_n 0, 1) := by decide +kernel
theorem d_Mod_against2_32 : decode b_Mod_against2 32 = .ok (.getfield 85, 3) := by decide +kernel
theorem d_Mod_against2_35 : decode b_Mod_against2 35 = .ok (.iload_n 2, 1) := by decide +kernel
theorem d_Mod_against2_36 : decode b_Mod_against2 36 = .ok (.laload, 1) := by decide +kernel
theorem d_Mod_against2_37 : decode b_Mod_against2 37 = .ok (.lcmp, 1) := by decide +kernel
theorem d_Mod_against2_38 : decode b_Mod_against2 38 = .ok (.ifCond .le 7, 3) := by decide +kernel
theorem d_Mod_against2_45 : decode b_Mod_against2 45 = .ok (.iconst 0, 1) := by decide +kernel
theorem d_Mod_against2_46 : decode b_Mod_against2 46 = .ok (.ireturn, 1) := by decide +kernel
theorem d_Mod_against2_41 : decode b_Mod_against2 41 = .ok (.iconst 1, 1) := by decide +kernel
theorem d_Mod_against2_42 : decode b_Mod_against2 42 = .ok (.goto 4, 3) := by decide +kernel
theorem d_Mod_against2_21 : decode b_Mod_against2 21 = .ok (.iconst (-1), 1) := by decide +kernel
theorem d_Mod_against2_22 : decode b_Mod_against2 22 = .ok (.goto 24, 3) := by decide +kernel
theorem d_Mod_putEntry_52 : decode b_Mod_putEntry 52 = .ok (.iload_n 3, 1) := by decide +kernel
theorem d_Mod_putEntry_53 : decode b_Mod_putEntry 53 = .ok (.aload_n 0, 1) := by decide +kernel
theorem d_Mod_putEntry_54 : decode b_Mod_putEntry 54 = .ok (.getfield 75, 3) := by decide +kernel
theorem d_Mod_putEntry_57 : decode b_Mod_putEntry 57 = .ok (.iload_n 1, 1) := by decide +kernel
theorem d_Mod_putEntry_58 : decode b_Mod_putEntry 58 = .ok (.iaload, 1) := by decide +kernel
theorem d_Mod_putEntry_59 : decode b_Mod_putEntry 59 = .ok (.if_icmp .ge 26, 3) := by decide +kernel
theorem d_Mod_putEntry_85 : decode b_Mod_putEntry 85 = .ok (.return_, 1) := by decide +kernel
theorem d_Mod_putEntry_62 : decode b_Mod_putEntry 62 = .ok (.aload_n 0, 1) := by decide +kernel
theorem d_Mod_putEntry_63 : decode b_Mod_putEntry 63 = .ok (.aload_n 0, 1) := by decide +kernel
theorem d_Mod_putEntry_64 : decode b_Mod_putEntry 64 = .ok (.getfield 82, 3) := by decide +kernel
theorem d_Mod_putEntry_67 : decode b_Mod_putEntry 67 = .ok (.aload_n 0, 1) := by decide +kernel
theorem d_Mod_putEntry_68 : decode b_Mod_putEntry 68 = .ok (.getfield 72, 3) := by decide +kernel
theorem d_Mod_putEntry_71 : decode b_Mod_putEntry 71 = .ok (.iload_n 1, 1) := by decide +kernel
theorem d_Mod_putEntry_72 : decode b_Mod_putEntry 72 = .ok (.iaload, 1) := by decide +kernel
theorem d_Mod_putEntry_73 : decode b_Mod_putEntry 73 = .ok (.iload_n 3, 1) := by decide +kernel
theorem d_Mod_putEntry_74 : decode b_Mod_putEntry 74 = .ok (.iadd, 1) := by decide +kernel
theorem d_Mod_putEntry_75 : decode b_Mod_putEntry 75 = .ok (.iaload, 1) := by decide +kernel
theorem d_Mod_putEntry_76 : decode b_Mod_putEntry 76 = .ok (.invokevirtual 558, 3) := by decide +kernel
theorem d_Mod_putEntry_79 : decode b_Mod_putEntry 79 = .ok (.iinc 3 1, 3) := by decide +kernel
theorem d_Mod_putEntry_82 : decode b_Mod_putEntry 82 = .ok (.goto (-30), 3) := by decide +kernel
theorem d_Mod_putEntry_0 : decode b_Mod_putEntry 0 = .ok (.iload_n 2, 1) := by decide +kernel
theorem d_Mod_putEntry_1 : decode b_Mod_putEntry 1 = .ok (.ifCond .ne 17, 3) := by decide +kernel
theorem d_Mod_putEntry_18 : decode b_Mod_putEntry 18 = .ok (.iload_n 2, 1) := by decide +kernel
theorem d_Mod_putEntry_19 : decode b_Mod_putEntry 19 = .ok (.iconst 3, 1) := by decide +kernel
theorem d_Mod_putEntry_20 : decode b_Mod_putEntry 20 = .ok (.if_icmp .eq 19, 3) := by decide +kernel
theorem d_Mod_putEntry_39 : decode b_Mod_putEntry 39 = .ok (.aload_n 0, 1) := by decide +kernel
theorem d_Mod_putEntry_40 : decode b_Mod_putEntry 40 = .ok (.aload_n 0, 1) := by decide +kernel
theorem d_Mod_putEntry_41 : decode b_Mod_putEntry 41 = .ok (.getfield 75, 3) := by decide +kernel
theorem d_Mod_putEntry_44 : decode b_Mod_putEntry 44 = .ok (.iload_n 1, 1) := by decide +kernel
theorem d_Mod_putEntry_45 : decode b_Mod_putEntry 45 = .ok (.iaload, 1) := by decide +kernel
theorem d_Mod_putEntry_46 : decode b_Mod_putEntry 46 = .ok (.i2l, 1) := by decide +kernel
theorem d_Mod_putEntry_47 : decode b_Mod_putEntry 47 = .ok (.invokevirtual 567, 3) := by decide +kernel
theorem d_Mod_putEntry_50 : decode b_Mod_putEntry 50 = .ok (.iconst 0, 1) := by decide +kernel
theorem d_Mod_putEntry_51 : decode b_Mod_putEntry 51 = .ok (.istore_n 3, 1) := by decide +kernel
theorem d_Mod_putEntry_23 : decode b_Mod_putEntry 23 = .ok (.aload_n 0, 1) := by decide +kernel
theorem d_Mod_putEntry_24 : decode b_Mod_putEntry 24 = .ok (.aload_n 0, 1) := by decide +kernel
theorem d_Mod_putEntry_25 : decode b_Mod_putEntry 25 = .ok (.getfield 85, 3) := by decide +kernel
theorem d_Mod_putEntry_28 : decode b_Mod_putEntry 28 = .ok (.iload_n 1, 1) := by decide +kernel
theorem d_Mod_putEntry_29 : decode b_Mod_putEntry 29 = .ok (.laload, 1) := by decide +kernel
theorem d_Mod_putEntry_30 : decode b_Mod_putEntry 30 = .ok (.invokestatic 594, 3) := by decide +kernel
theorem d_Mod_putEntry_33 : decode b_Mod_putEntry 33 = .ok (.invokevirtual 567, 3) := by decide +kernel
theorem d_Mod_putEntry_36 : decode b_Mod_putEntry 36 = .ok (.goto 49, 3) := by decide +kernel
theorem d_Mod_putEntry_4 : decode b_Mod_putEntry 4 = .ok (.aload_n 0, 1) := by decide +kernel
theorem d_Mod_putEntry_5 : decode b_Mod_putEntry 5 = .ok (.aload_n 0, 1) := by decide +kernel
theorem d_Mod_putEntry_6 : decode b_Mod_putEntry 6 = .ok (.getfield 85, 3) := by decide +kernel
theorem d_Mod_putEntry_9 : decode b_Mod_putEntry 9 = .ok (.iload_n 1, 1) := by decide +kernel
theorem d_Mod_putEntry_10 : decode b_Mod_putEntry 10 = .ok (.laload, 1) := by decide +kernel
theorem d_Mod_putEntry_11 : decode b_Mod_putEntry 11 = .ok (.l2i, 1) := by decide +kernel
theorem d_Mod_putEntry_12 : decode b_Mod_putEntry 12 = .ok (.invokevirtual 558, 3) := by decide +kernel
theorem d_Mod_putEntry_15 : decode b_Mod_putEntry 15 = .ok (.goto 70, 3) := by decide +kernel
theorem d_Mod_putChunk_122 : decode b_Mod_putChunk 122 = .ok (.iinc 9 1, 3) := by decide +kernel
theorem d_Mod_putChunk_125 : decode b_Mod_putChunk 125 = .ok (.goto (-100), 3) := by decide +kernel
theorem d_Mod_putChunk_120 : decode b_Mod_putChunk 120 = .ok (.istore 6, 2) := by decide +kernel
theorem d_Mod_putChunk_113 : decode b_Mod_putChunk 113 = .ok (.iload 9, 2) := by decide +kernel
theorem d_Mod_putChunk_115 : decode b_Mod_putChunk 115 = .ok (.goto 5, 3) := by decide +kernel
theorem d_Mod_putChunk_92 : decode b_Mod_putChunk 92 = .ok (.istore 5, 2) := by decide +kernel
theorem d_Mod_putChunk_94 : decode b_Mod_putChunk 94 = .ok (.iload 6, 2) := by decide +kernel
theorem d_Mod_putChunk_96 : decode b_Mod_putChunk 96 = .ok (.iconst (-1), 1) := by decide +kernel
theorem d_Mod_putChunk_97 : decode b_Mod_putChunk 97 = .ok (.if_icmp .eq 16, 3) := by decide +kernel
theorem d_Mod_putChunk_100 : decode b_Mod_putChunk 100 = .ok (.aload_n 0, 1) := by decide +kernel
theorem d_Mod_putChunk_101 : decode b_Mod_putChunk 101 = .ok (.iload 9, 2) := by decide +kernel
theorem d_Mod_putChunk_103 : decode b_Mod_putChunk 103 = .ok (.iload 6, 2) := by decide +kernel
theorem d_Mod_putChunk_105 : decode b_Mod_putChunk 105 = .ok (.iload 8, 2) := by decide +kernel
theorem d_Mod_putChunk_107 : decode b_Mod_putChunk 107 = .ok (.invokevirtual 813, 3) := by decide +kernel
theorem d_Mod_putChunk_110 : decode b_Mod_putChunk 110 = .ok (.ifCond .le 8, 3) := by decide +kernel
theorem d_Mod_putChunk_118 : decode b_Mod_putChunk 118 = .ok (.iload 6, 2) := by decide +kernel
theorem d_Mod_putChunk_85 : decode b_Mod_putChunk 85 = .ok (.iload 9, 2) := by decide +kernel
theorem d_Mod_putChunk_87 : decode b_Mod_putChunk 87 = .ok (.goto 5, 3) := by decide +kernel
theorem d_Mod_putChunk_25 : decode b_Mod_putChunk 25 = .ok (.iload 9, 2) := by decide +kernel
theorem d_Mod_putChunk_27 : decode b_Mod_putChunk 27 = .ok (.aload_n 0, 1) := by decide +kernel
theorem d_Mod_putChunk_28 : decode b_Mod_putChunk 28 = .ok (.getfield 78, 3) := by decide +kernel
theorem d_Mod_putChunk_31 : decode b_Mod_putChunk 31 = .ok (.iload 4, 2) := by decide +kernel
theorem d_Mod_putChunk_33 : decode b_Mod_putChunk 33 = .ok (.iaload, 1) := by decide +kernel
theorem d_Mod_putChunk_34 : decode b_Mod_putChunk 34 = .ok (.if_icmp .ge 94, 3) := by decide +kernel
theorem d_Mod_putChunk_128 : decode b_Mod_putChunk 128 = .ok (.aload_n 0, 1) := by decide +kernel
theorem d_Mod_putChunk_129 : decode b_Mod_putChunk 129 = .ok (.aload_n 0, 1) := by decide +kernel
theorem d_Mod_putChunk_130 : decode b_Mod_putChunk 130 = .ok (.getfield 160, 3) := by decide +kernel
theorem d_Mod_putChunk_133 : decode b_Mod_putChunk 133 = .ok (.iload_n 1, 1) := by decide +kernel
theorem d_Mod_putChunk_134 : decode b_Mod_putChunk 134 = .ok (.iaload, 1) := by decide +kernel
theorem d_Mod_putChunk_135 : decode b_Mod_putChunk 135 = .ok (.i2l, 1) := by decide +kernel
theorem d_Mod_putChunk_136 : decode b_Mod_putChunk 136 = .ok (.invokevirtual 567, 3) := by decide +kernel
theorem d_Mod_putChunk_139 : decode b_Mod_putChunk 139 = .ok (.aload_n 0, 1) := by decide +kernel
theorem d_Mod_putChunk_140 : decode b_Mod_putChunk 140 = .ok (.aload_n 0, 1) := by decide +kernel
theorem d_Mod_putChunk_141 : decode b_Mod_putChunk 141 = .ok (.getfield 163, 3) := by decide +kernel
theorem d_Mod_putChunk_144 : decode b_Mod_putChunk 144 = .ok (.iload_n 1, 1) := by decide +kernel
theorem d_Mod_putChunk_145 : decode b_Mod_putChunk 145 = .ok (.iaload, 1) := by decide +kernel
theorem d_Mod_putChunk_146 : decode b_Mod_putChunk 146 = .ok (.i2l, 1) := by decide +kernel
theorem d_Mod_putChunk_147 : decode b_Mod_putChunk 147 = .ok (.invokevirtual 567, 3) := by decide +kernel
theorem d_Mod_putChunk_150 : decode b_Mod_putChunk 150 = .ok (.aload_n 0, 1) := by decide +kernel
theorem d_Mod_putChunk_151 : decode b_Mod_putChunk 151 = .ok (.aload_n 0, 1) := by decide +kernel
theorem d_Mod_putChunk_152 : decode b_Mod_putChunk 152 = .ok (.iload_n 2, 1) := by decide +kernel
theorem d_Mod_putChunk_153 : decode b_Mod_putChunk 153 = .ok (.iload_n 3, 1) := by decide +kernel
theorem d_Mod_putChunk_154 : decode b_Mod_putChunk 154 = .ok (.iload 4, 2) := by decide +kernel
theorem d_Mod_putChunk_156 : decode b_Mod_putChunk 156 = .ok (.invokevirtual 795, 3) := by decide +kernel
theorem d_Mod_putChunk_159 : decode b_Mod_putChunk 159 = .ok (.i2l, 1) := by decide +kernel
theorem d_Mod_putChunk_160 : decode b_Mod_putChunk 160 = .ok (.invokevirtual 567, 3) := by decide +kernel
theorem d_Mod_putChunk_163 : decode b_Mod_putChunk 163 = .ok (.aload_n 0, 1) := by decide +kernel
theorem d_Mod_putChunk_164 : decode b_Mod_putChunk 164 = .ok (.iload 7, 2) := by decide +kernel
theorem d_Mod_putChunk_166 : decode b_Mod_putChunk 166 = .ok (.i2l, 1) := by decide +kernel
theorem d_Mod_putChunk_167 : decode b_Mod_putChunk 167 = .ok (.invokevirtual 567, 3) := by decide +kernel
theorem d_Mod_putChunk_170 : decode b_Mod_putChunk 170 = .ok (.iload 5, 2) := by decide +kernel
theorem d_Mod_putChunk_172 : decode b_Mod_putChunk 172 = .ok (.iconst (-1), 1) := by decide +kernel
theorem d_Mod_putChunk_173 : decode b_Mod_putChunk 173 = .ok (.if_icmp .ne 4, 3) := by decide +kernel
theorem d_Mod_putChunk_177 : decode b_Mod_putChunk 177 = .ok (.aload_n 0, 1) := by decide +kernel
theorem d_Mod_putChunk_178 : decode b_Mod_putChunk 178 = .ok (.iload 5, 2) := by decide +kernel
theorem d_Mod_putChunk_180 : decode b_Mod_putChunk 180 = .ok (.iload 8, 2) := by decide +kernel
theorem d_Mod_putChunk_182 : decode b_Mod_putChunk 182 = .ok (.invokevirtual 816, 3) := by decide +kernel
theorem d_Mod_putChunk_185 : decode b_Mod_putChunk 185 = .ok (.aload_n 0, 1) := by decide +kernel
theorem d_Mod_putChunk_186 : decode b_Mod_putChunk 186 = .ok (.iload 6, 2) := by decide +kernel
theorem d_Mod_putChunk_188 : decode b_Mod_putChunk 188 = .ok (.iload 8, 2) := by decide +kernel
theorem d_Mod_putChunk_190 : decode b_Mod_putChunk 190 = .ok (.invokevirtual 816, 3) := by decide +kernel
theorem d_Mod_putChunk_193 : decode b_Mod_putChunk 193 = .ok (.return_, 1) := by decide +kernel
theorem d_Mod_putChunk_176 : decode b_Mod_putChunk 176 = .ok (.return_, 1) := by decide +kernel
theorem d_Mod_putChunk_37 : decode b_Mod_putChunk 37 = .ok (.aload_n 0, 1) := by decide +kernel
theorem d_Mod_putChunk_38 : decode b_Mod_putChunk 38 = .ok (.getfield 69, 3) := by decide +kernel
theorem d_Mod_putChunk_41 : decode b_Mod_putChunk 41 = .ok (.iload 9, 2) := by decide +kernel
theorem d_Mod_putChunk_43 : decode b_Mod_putChunk 43 = .ok (.iaload, 1) := by decide +kernel
theorem d_Mod_putChunk_44 : decode b_Mod_putChunk 44 = .ok (.iload_n 2, 1) := by decide +kernel
theorem d_Mod_putChunk_45 : decode b_Mod_putChunk 45 = .ok (.if_icmp .eq 6, 3) := by decide +kernel
theorem d_Mod_putChunk_51 : decode b_Mod_putChunk 51 = .ok (.aload_n 0, 1) := by decide +kernel
theorem d_Mod_putChunk_52 : decode b_Mod_putChunk 52 = .ok (.iload 9, 2) := by decide +kernel
theorem d_Mod_putChunk_54 : decode b_Mod_putChunk 54 = .ok (.invokevirtual 810, 3) := by decide +kernel
theorem d_Mod_putChunk_57 : decode b_Mod_putChunk 57 = .ok (.ifCond .ne 9, 3) := by decide +kernel
theorem d_Mod_putChunk_66 : decode b_Mod_putChunk 66 = .ok (.iload 5, 2) := by decide +kernel
theorem d_Mod_putChunk_68 : decode b_Mod_putChunk 68 = .ok (.iconst (-1), 1) := by decide +kernel
theorem d_Mod_putChunk_69 : decode b_Mod_putChunk 69 = .ok (.if_icmp .eq 16, 3) := by decide +kernel
theorem d_Mod_putChunk_72 : decode b_Mod_putChunk 72 = .ok (.aload_n 0, 1) := by decide +kernel
theorem d_Mod_putChunk_73 : decode b_Mod_putChunk 73 = .ok (.iload 9, 2) := by decide +kernel
theorem d_Mod_putChunk_75 : decode b_Mod_putChunk 75 = .ok (.iload 5, 2) := by decide +kernel
theorem d_Mod_putChunk_77 : decode b_Mod_putChunk 77 = .ok (.iload 8, 2) := by decide +kernel
theorem d_Mod_putChunk_79 : decode b_Mod_putChunk 79 = .ok (.invokevirtual 813, 3) := by decide +kernel
theorem d_Mod_putChunk_82 : decode b_Mod_putChunk 82 = .ok (.ifCond .ge 8, 3) := by decide +kernel
theorem d_Mod_putChunk_90 : decode b_Mod_putChunk 90 = .ok (.iload 5, 2) := by decide +kernel
theorem d_Mod_putChunk_60 : decode b_Mod_putChunk 60 = .ok (.iinc 7 1, 3) := by decide +kernel
theorem d_Mod_putChunk_63 : decode b_Mod_putChunk 63 = .ok (.goto 59, 3) := by decide +kernel
theorem d_Mod_putChunk_48 : decode b_Mod_putChunk 48 = .ok (.goto 74, 3) := by decide +kernel
theorem d_Mod_putChunk_0 : decode b_Mod_putChunk 0 = .ok (.iconst (-1), 1) := by decide +kernel
theorem d_Mod_putChunk_1 : decode b_Mod_putChunk 1 = .ok (.istore 5, 2) := by decide +kernel
theorem d_Mod_putChunk_3 : decode b_Mod_putChunk 3 = .ok (.iconst (-1), 1) := by decide +kernel
theorem d_Mod_putChunk_4 : decode b_Mod_putChunk 4 = .ok (.istore 6, 2) := by decide +kernel
theorem d_Mod_putChunk_6 : decode b_Mod_putChunk 6 = .ok (.iconst 0, 1) := by decide +kernel
theorem d_Mod_putChunk_7 : decode b_Mod_putChunk 7 = .ok (.istore 7, 2) := by decide +kernel
theorem d_Mod_putChunk_9 : decode b_Mod_putChunk 9 = .ok (.aload_n 0, 1) := by decide +kernel
theorem d_Mod_putChunk_10 : decode b_Mod_putChunk 10 = .ok (.iconst 0, 1) := by decide +kernel
theorem d_Mod_putChunk_11 : decode b_Mod_putChunk 11 = .ok (.iload_n 2, 1) := by decide +kernel
theorem d_Mod_putChunk_12 : decode b_Mod_putChunk 12 = .ok (.invokevirtual 789, 3) := by decide +kernel
theorem d_Mod_putChunk_15 : decode b_Mod_putChunk 15 = .ok (.istore 8, 2) := by decide +kernel
theorem d_Mod_putChunk_17 : decode b_Mod_putChunk 17 = .ok (.aload_n 0, 1) := by decide +kernel
theorem d_Mod_putChunk_18 : decode b_Mod_putChunk 18 = .ok (.getfield 78, 3) := by decide +kernel
theorem d_Mod_putChunk_21 : decode b_Mod_putChunk 21 = .ok (.iload_n 3, 1) := by decide +kernel
theorem d_Mod_putChunk_22 : decode b_Mod_putChunk 22 = .ok (.iaload, 1) := by decide +kernel
theorem d_Mod_putChunk_23 : decode b_Mod_putChunk 23 = .ok (.istore 9, 2) := by decide +kernel
section
variable (l : Launch) (dC : Nat → ClassId) (dI : Nat → Nat → Nat) (cI cB cJ cZ : ClassId)
set_option maxRecDepth 100000 in
set_option maxHeartbeats 4000000 in
set_option maxRecDepth 100000 in
theorem t_Mod_addSheet_30 {p : Program} {l : Launch} {e : Env} {R : Room} {s : State} {m : MethodId} {args : Array Value} {below : List Frame} {meth : Method} {c : Code} {cells slots : Nat} {Q : State → Prop} {dC : Nat → ClassId} {dI : Nat → Nat → Nat} {cI cB cJ cZ : ClassId} {A : Nat → Prop} {ad : Nat → Nat} {post : St → Prop} {rec2 : Int32 → St → Prop} (hx : p.tables.exec = Jvm.exec) (hb : c.code = b_Mod_addSheet) (hml : c.maxLocals = 2) (hown : s.vm.findClass R_Mod = some m.cls) (hT : ∀ w ∈ TG, w.before args s = true) (hK : va_K (dC, dI) CL (TY cI cB cJ cZ) s) (hN : NW s) (hA : ∀ q : Nat, s.heap.size ≤ q → A q) (hRc : cells ≤ R.cells) (hRs : slots ≤ R.slots) (hRf : 1 ≤ R.frames) (hRl : 21 ≤ R.locals) (hret : ∀ (x : St) (H : Heap) (locs : List Loc) (pc : Nat) (ls : Array Slot), decode b_Mod_addSheet pc = .ok (.return_, 1) → post x → Wd dC dI cI cB cJ cZ ad stM kcM 115 A x H → va_S A s.heap H locs → W p l e R s m args below meth c H locs cells slots Q (F0 m pc ls [])) (hrec2 : ∀ (l1 : Int32) (x : St) (H : Heap) (locs : List Loc) (ls : Array Slot), rec2 l1 x → Wd dC dI cI cB cJ cZ ad stM kcM 115 A x H → va_S A s.heap H locs → lv_has ls 2 [(0, .ref (ad 0)), (1, .int l1)] → W p l e R s m args below meth c H locs cells slots Q (F0 m 2 ls [])) : ∀ (l1 : Int32) (s0 : Int32) (x : St) (H : Heap) (locs : List Loc) (ls : Array Slot), j_Mod_addSheet_30 post rec2 l1 s0 x → Wd dC dI cI cB cJ cZ ad stM kcM 115 A x H → va_S A s.heap H locs → lv_has ls 2 [(0, .ref (ad 0)), (1, .int l1)] → W p l e R s m args below meth c H locs cells slots Q (F0 m 30 ls [.int s0, .ref (ad 0)]) := by
  intro l1 s0 x H locs ls  hw hW hS hl
  unfold j_Mod_addSheet_30 at hw
  have hF := hW.free hS hA
  refine va_callv (va_runV (C := R_Mod) (As := [.int s0]) (rest := []) ⟨hx, hb, hml, hown, hT⟩ (k_Mod_addByte l dC dI cI cB cJ cZ ad H.size s0 x  hw) ⟨callB_of 1 hT (gwt_in w_11_138) rfl rfl rfl (hT _ w_1_15) (hT _ w_11_135) (by decide +kernel) ⟨Nat.le_trans (Nat.le_of_ble_eq_true rfl) hRf, Nat.le_trans (Nat.le_of_ble_eq_true rfl) hRl⟩, hT _ w_11_137, hT _ ws_139⟩ ⟨PW.blind, va_recv hK hW.1 (ci := 12) (q0 := 0) rfl (pic_obj ko_0.1 ko_0.2 (by decide)), PW.at _ hW hK hN⟩ rfl rfl hl.1 rfl (lv_room (Nat.le_of_ble_eq_true rfl)) d_Mod_addSheet_30 ⟨hRc, hRs⟩) hS (fun q _ h => hF q h) hF (fun  x776 t H locs ht hvm hw hB hz1 hk1 hS => ?_)
  have hW := Wd.back hB ht hF
  clear hB ht hF hz1 hk1 hvm
  refine lv_iinc (v := (l1 + 1)) (lv' := [(1, .int (l1 + 1)), (0, .ref (ad 0))]) hx hb d_Mod_addSheet_33 hl (k := 1) rfl rfl (by decide) rfl (fun ls hl => ?_)
  refine lv_goto (tgt := 2) hx hb d_Mod_addSheet_36 (by decide) ?_
  exact hrec2 (l1 + 1) x776 H locs ls  hw hW hS (lv_sub hl [1, 0] rfl)
set_option maxRecDepth 100000 in
set_option maxHeartbeats 4000000 in
set_option maxRecDepth 100000 in
theorem t_Mod_addSheet_2 {p : Program} {l : Launch} {e : Env} {R : Room} {s : State} {m : MethodId} {args : Array Value} {below : List Frame} {meth : Method} {c : Code} {cells slots : Nat} {Q : State → Prop} {dC : Nat → ClassId} {dI : Nat → Nat → Nat} {cI cB cJ cZ : ClassId} {A : Nat → Prop} {ad : Nat → Nat} {post : St → Prop} {rec2 : Int32 → St → Prop} (hx : p.tables.exec = Jvm.exec) (hb : c.code = b_Mod_addSheet) (hml : c.maxLocals = 2) (hown : s.vm.findClass R_Mod = some m.cls) (hT : ∀ w ∈ TG, w.before args s = true) (hK : va_K (dC, dI) CL (TY cI cB cJ cZ) s) (hN : NW s) (hA : ∀ q : Nat, s.heap.size ≤ q → A q) (hRc : cells ≤ R.cells) (hRs : slots ≤ R.slots) (hRf : 1 ≤ R.frames) (hRl : 21 ≤ R.locals) (hret : ∀ (x : St) (H : Heap) (locs : List Loc) (pc : Nat) (ls : Array Slot), decode b_Mod_addSheet pc = .ok (.return_, 1) → post x → Wd dC dI cI cB cJ cZ ad stM kcM 115 A x H → va_S A s.heap H locs → W p l e R s m args below meth c H locs cells slots Q (F0 m pc ls [])) (hrec2 : ∀ (l1 : Int32) (x : St) (H : Heap) (locs : List Loc) (ls : Array Slot), rec2 l1 x → Wd dC dI cI cB cJ cZ ad stM kcM 115 A x H → va_S A s.heap H locs → lv_has ls 2 [(0, .ref (ad 0)), (1, .int l1)] → W p l e R s m args below meth c H locs cells slots Q (F0 m 2 ls [])) : ∀ (l1 : Int32) (x : St) (H : Heap) (locs : List Loc) (ls : Array Slot), j_Mod_addSheet_2 post rec2 l1 x → Wd dC dI cI cB cJ cZ ad stM kcM 115 A x H → va_S A s.heap H locs → lv_has ls 2 [(0, .ref (ad 0)), (1, .int l1)] → W p l e R s m args below meth c H locs cells slots Q (F0 m 2 ls []) := by
  intro l1 x H locs ls  hw hW hS hl
  unfold j_Mod_addSheet_2 at hw
  refine lv_iload_n hx hb d_Mod_addSheet_2 rfl (lv_at hl 1 rfl) ?_
  refine lv_aload_n hx hb d_Mod_addSheet_3 rfl (lv_at hl 0 rfl) ?_
  refine w_geti (k := 64) (t := 12) (C := R_Mod) (T := F_Mod) (N := 167) hx hb hT hown hK hW ko_0.1 ko_0.2 (by decide) in_Mod rfl rfl (by decide) rfl fr_Mod_64 w_9_0 d_Mod_addSheet_4 ?_
  refine lv_icmp_ge (tgt := 39) hx hb d_Mod_addSheet_7 (by decide) (fun c777 => ?_) (fun c777 => ?_)
  · have hw := hw.1 c777
    exact hret x H locs 39 ls d_Mod_addSheet_39 hw hW hS
  · have hw := hw.2 c777
    refine lv_aload_n hx hb d_Mod_addSheet_10 rfl (lv_at hl 0 rfl) ?_
    refine lv_iload_n hx hb d_Mod_addSheet_11 rfl (lv_at hl 1 rfl) ?_
    refine lv_aload_n hx hb d_Mod_addSheet_12 rfl (lv_at hl 0 rfl) ?_
    refine w_getf (q := 39) (k := 60) (t := 12) (C := R_Mod) (T := F_Mod) (N := 167) hx hb hT hown hK hW ko_0.1 ko_0.2 (by decide) in_Mod rfl rfl (by decide) rfl fr_Mod_60 w_8_236 d_Mod_addSheet_13 rfl ?_
    refine w_alen (o := 39) (t0 := 0) hx hb hK hW (pic_int ko_39.1 ko_39.2) rfl rfl d_Mod_addSheet_16 ?_
    refine lv_icmp_ge (tgt := 29) hx hb d_Mod_addSheet_17 (by decide) (fun c778 => ?_) (fun c778 => ?_)
    · have hw := hw.1 c778
      refine lv_iconst (v := 0) hx hb d_Mod_addSheet_29 (by decide) ?_
      exact t_Mod_addSheet_30 hx hb hml hown hT hK hN hA hRc hRs hRf hRl hret hrec2 l1 0 x H locs ls  hw hW hS (lv_sub hl [0, 1] rfl)
    · have hw := hw.2 c778
      refine lv_aload_n hx hb d_Mod_addSheet_20 rfl (lv_at hl 0 rfl) ?_
      refine w_getf (q := 39) (k := 60) (t := 12) (C := R_Mod) (T := F_Mod) (N := 167) hx hb hT hown hK hW ko_0.1 ko_0.2 (by decide) in_Mod rfl rfl (by decide) rfl fr_Mod_60 w_8_236 d_Mod_addSheet_21 rfl ?_
      refine lv_iload_n hx hb d_Mod_addSheet_24 rfl (lv_at hl 1 rfl) ?_
      obtain ⟨hi, hw⟩ := hw
      refine w_iald (o := 39) hx hb hK hW ko_39.1 ko_39.2 hi d_Mod_addSheet_25 ?_
      refine lv_goto (tgt := 30) hx hb d_Mod_addSheet_26 (by decide) ?_
      exact t_Mod_addSheet_30 hx hb hml hown hT hK hN hA hRc hRs hRf hRl hret hrec2 l1 (rA x 39 l1) x H locs ls  hw hW hS (lv_sub hl [0, 1] rfl)
set_option maxHeartbeats 4000000 in
set_option maxRecDepth 100000 in
theorem tl_Mod_addSheet_2 {p : Program} {l : Launch} {e : Env} {R : Room} {s : State} {m : MethodId} {args : Array Value} {below : List Frame} {meth : Method} {c : Code} {cells slots : Nat} {Q : State → Prop} {dC : Nat → ClassId} {dI : Nat → Nat → Nat} {cI cB cJ cZ : ClassId} {A : Nat → Prop} {ad : Nat → Nat} {post : St → Prop} (hx : p.tables.exec = Jvm.exec) (hb : c.code = b_Mod_addSheet) (hml : c.maxLocals = 2) (hown : s.vm.findClass R_Mod = some m.cls) (hT : ∀ w ∈ TG, w.before args s = true) (hK : va_K (dC, dI) CL (TY cI cB cJ cZ) s) (hN : NW s) (hA : ∀ q : Nat, s.heap.size ≤ q → A q) (hRc : cells ≤ R.cells) (hRs : slots ≤ R.slots) (hRf : 1 ≤ R.frames) (hRl : 21 ≤ R.locals) (hret : ∀ (x : St) (H : Heap) (locs : List Loc) (pc : Nat) (ls : Array Slot), decode b_Mod_addSheet pc = .ok (.return_, 1) → post x → Wd dC dI cI cB cJ cZ ad stM kcM 115 A x H → va_S A s.heap H locs → W p l e R s m args below meth c H locs cells slots Q (F0 m pc ls []))  : ∀ n : Nat, ∀ (l1 : Int32) (x : St) (H : Heap) (locs : List Loc) (ls : Array Slot), wl_Mod_addSheet_2 post n l1 x → Wd dC dI cI cB cJ cZ ad stM kcM 115 A x H → va_S A s.heap H locs → lv_has ls 2 [(0, .ref (ad 0)), (1, .int l1)] → W p l e R s m args below meth c H locs cells slots Q (F0 m 2 ls []) := by
  intro n
  induction n with
  | zero => intro l1 x H locs ls  hw; exact hw.elim
  | succ n ih => intro l1 x H locs ls  hw hW hS hl; exact t_Mod_addSheet_2 hx hb hml hown hT hK hN hA hRc hRs hRf hRl hret  ih l1 x H locs ls  hw hW hS hl
set_option maxRecDepth 100000 in
set_option maxHeartbeats 4000000 in
set_option maxRecDepth 100000 in
theorem t_Mod_addSheet_e {p : Program} {l : Launch} {e : Env} {R : Room} {s : State} {m : MethodId} {args : Array Value} {below : List Frame} {meth : Method} {c : Code} {cells slots : Nat} {Q : State → Prop} {dC : Nat → ClassId} {dI : Nat → Nat → Nat} {cI cB cJ cZ : ClassId} {A : Nat → Prop} {ad : Nat → Nat} {post : St → Prop} (hx : p.tables.exec = Jvm.exec) (hb : c.code = b_Mod_addSheet) (hml : c.maxLocals = 2) (hown : s.vm.findClass R_Mod = some m.cls) (hT : ∀ w ∈ TG, w.before args s = true) (hK : va_K (dC, dI) CL (TY cI cB cJ cZ) s) (hN : NW s) (hA : ∀ q : Nat, s.heap.size ≤ q → A q) (hRc : cells ≤ R.cells) (hRs : slots ≤ R.slots) (hRf : 1 ≤ R.frames) (hRl : 21 ≤ R.locals) (hret : ∀ (x : St) (H : Heap) (locs : List Loc) (pc : Nat) (ls : Array Slot), decode b_Mod_addSheet pc = .ok (.return_, 1) → post x → Wd dC dI cI cB cJ cZ ad stM kcM 115 A x H → va_S A s.heap H locs → W p l e R s m args below meth c H locs cells slots Q (F0 m pc ls [])) : ∀  (x : St) (H : Heap) (locs : List Loc) (ls : Array Slot), wp_Mod_addSheet post  x → Wd dC dI cI cB cJ cZ ad stM kcM 115 A x H → va_S A s.heap H locs → lv_has ls 2 [(0, .ref (ad 0))] → W p l e R s m args below meth c H locs cells slots Q (F0 m 0 ls []) := by
  intro  x H locs ls  hw hW hS hl
  unfold wp_Mod_addSheet at hw
  refine lv_iconst (v := 0) hx hb d_Mod_addSheet_0 (by decide) ?_
  refine lv_istore_n (lv' := [(1, .int 0), (0, .ref (ad 0))]) hx hb d_Mod_addSheet_1 rfl hl (by decide) rfl (fun ls hl => ?_)
  obtain ⟨n, hw⟩ := hw
  exact tl_Mod_addSheet_2 hx hb hml hown hT hK hN hA hRc hRs hRf hRl hret  n 0 x H locs ls  hw hW hS (lv_sub hl [1, 0] rfl)
set_option maxHeartbeats 4000000 in
set_option maxRecDepth 100000 in
theorem k_Mod_addSheet (l : Launch) (dC : Nat → ClassId) (dI : Nat → Nat → Nat) (cI cB cJ cZ : ClassId) (ad : Nat → Nat) (sz : Nat)  (x : St) {post : St → Prop} (hw : wp_Mod_addSheet post  x) : Met l y_Mod_addSheet (wsOf y_Mod_addSheet b_Mod_addSheet 2 (none)) ({ frames := 1, cells := 0, slots := 0, locals := 21 }) (va_Pc [.ref (ad 0)] (PW dC dI cI cB cJ cZ ad stM kcM 115 sz x)) (va_Qv (fun (y : St) => post y) (fun y t => Wd dC dI cI cB cJ cZ ad stM kcM 115 (va_A (pic ad stM kcM 115 cI cB cJ cZ x) sz) y t.heap) (va_A (pic ad stM kcM 115 cI cB cJ cZ x) sz)) 0 0 (va_A (pic ad stM kcM 115 cI cB cJ cZ x) sz) := by
  refine Met.ofW (cc := b_Mod_addSheet) (maxL := 2) (ret := none) (by decide) rfl ?_
  intro p e s m args below meth c s₁ B hml hv
  obtain ⟨rfl, hsz, hW0, hK, hN⟩ := hv
  have hx := B.exec
  have hb := B.bytes
  have hr := B.returns
  have hts := atoms_spec B.pre
  have hT : ∀ w ∈ TG, w.before _ s = true := fun w h => hts w (List.mem_cons_of_mem _ h)
  have hown : s.vm.findClass R_Mod = some m.cls := findClass_of_methodNamed B.named
  have hlocks := B.notSynchronized
  subst hsz
  have hW : Wd dC dI cI cB cJ cZ ad stM kcM 115 (va_A (pic ad stM kcM 115 cI cB cJ cZ x) s.heap.size) x s.heap := ⟨hW0.1, hW0.2.1.self (sz := s.heap.size), hW0.2.2⟩
  generalize hAe : va_A (pic ad stM kcM 115 cI cB cJ cZ x) s.heap.size = A at hW ⊢
  have hA : ∀ q : Nat, s.heap.size ≤ q → A q := fun q h => by rw [← hAe]; exact Or.inr h
  have hS : va_S A s.heap s.heap [] := va_S.rf
  have hl := lv_entry ([.ref (ad 0)]) (n := 2) (Nat.le_of_ble_eq_true rfl)
  rw [lg_entry_eq]
  generalize (lg_sl ([.ref (ad 0)]) ++ List.replicate (2 - (lg_sl ([.ref (ad 0)])).length) Slot.unset).toArray = ls at hl ⊢
  have hl : lv_has ls 2 [(0, .ref (ad 0))] := hl
  exact t_Mod_addSheet_e hx hb hml hown hT hK hN hA (Nat.le_refl 0) (Nat.le_refl 0) (Nat.le_refl 1) (Nat.le_refl 21) (fun x H locs pc ls hd hp hW hS => W.vret hx hb hr (fun t ht hM => ⟨⟨x, rfl, hp, Wd.back hW ht.symm (fun _ z => z)⟩, hS.F ht⟩) hS.2.2 hd hlocks)   x _ _ ls  hw hW hS hl
set_option maxRecDepth 100000 in
set_option maxHeartbeats 4000000 in
set_option maxRecDepth 100000 in
theorem t_Mod_writeChunk_124 {p : Program} {l : Launch} {e : Env} {R : Room} {s : State} {m : MethodId} {args : Array Value} {below : List Frame} {meth : Method} {c : Code} {cells slots : Nat} {Q : State → Prop} {dC : Nat → ClassId} {dI : Nat → Nat → Nat} {cI cB cJ cZ : ClassId} {A : Nat → Prop} {ad : Nat → Nat} {post : Int32 → St → Prop} {rec16 : Int32 → Int32 → Int32 → Int32 → Int32 → Int32 → Int32 → St → Prop} (hx : p.tables.exec = Jvm.exec) (hb : c.code = b_Mod_writeChunk) (hml : c.maxLocals = 11) (hown : s.vm.findClass R_Mod = some m.cls) (hT : ∀ w ∈ TG, w.before args s = true) (hK : va_K (dC, dI) CL (TY cI cB cJ cZ) s) (hN : NW s) (hA : ∀ q : Nat, s.heap.size ≤ q → A q) (hRc : cells ≤ R.cells) (hRs : slots ≤ R.slots) (hRf : 7 ≤ R.frames) (hRl : 163 ≤ R.locals) (hret : ∀ (r : Int32) (x : St) (H : Heap) (locs : List Loc) (pc : Nat) (ls : Array Slot), decode b_Mod_writeChunk pc = .ok (.ireturn, 1) → narrow .boolean (.int r) = .int r → post r x → Wd dC dI cI cB cJ cZ ad stM kcM 115 A x H → va_S A s.heap H locs → W p l e R s m args below meth c H locs cells slots Q (F0 m pc ls [.int r])) (hrec16 : ∀ (l1 : Int32) (l2 : Int32) (l3 : Int32) (l4 : Int32) (l5 : Int32) (l6 : Int32) (l7 : Int32) (x : St) (H : Heap) (locs : List Loc) (ls : Array Slot), rec16 l1 l2 l3 l4 l5 l6 l7 x → Wd dC dI cI cB cJ cZ ad stM kcM 115 A x H → va_S A s.heap H locs → lv_has ls 11 [(0, .ref (ad 0)), (1, .int l1), (2, .int l2), (3, .int l3), (4, .int l4), (5, .int l5), (6, .int l6), (7, .int l7)] → W p l e R s m args below meth c H locs cells slots Q (F0 m 16 ls [])) : ∀ (l1 : Int32) (l2 : Int32) (l3 : Int32) (l4 : Int32) (l5 : Int32) (l6 : Int32) (l7 : Int32) (l8 : Int32) (l9 : Int32) (l10 : Int32) (x : St) (H : Heap) (locs : List Loc) (ls : Array Slot), j_Mod_writeChunk_124 post rec16 l1 l2 l3 l4 l5 l6 l7 l8 l9 l10 x → Wd dC dI cI cB cJ cZ ad stM kcM 115 A x H → va_S A s.heap H locs → lv_has ls 11 [(0, .ref (ad 0)), (1, .int l1), (2, .int l2), (3, .int l3), (4, .int l4), (5, .int l5), (6, .int l6), (7, .int l7), (8, .int l8), (9, .int l9), (10, .int l10)] → W p l e R s m args below meth c H locs cells slots Q (F0 m 124 ls []) := by
  intro l1 l2 l3 l4 l5 l6 l7 l8 l9 l10 x H locs ls  hw hW hS hl
  unfold j_Mod_writeChunk_124 at hw
  refine lv_aload_n hx hb d_Mod_writeChunk_124 rfl (lv_at hl 0 rfl) ?_
  refine lv_iload_n hx hb d_Mod_writeChunk_125 rfl (lv_at hl 2 rfl) ?_
  refine lv_iload hx hb d_Mod_writeChunk_126 (lv_at hl 7 rfl) ?_
  refine lv_iload hx hb d_Mod_writeChunk_128 (lv_at hl 8 rfl) ?_
  have hF := hW.free hS hA
  refine va_callv (va_runV (C := R_Mod) (As := [.int l2, .int l7, .int l8]) (rest := []) ⟨hx, hb, hml, hown, hT⟩ (k_Mod_fillPage l dC dI cI cB cJ cZ ad H.size l2 l7 l8 x  hw) ⟨callB_of 3 hT (gwt_in w_11_154) rfl rfl rfl (hT _ w_1_15) (hT _ w_11_151) (by decide +kernel) ⟨Nat.le_trans (Nat.le_of_ble_eq_true rfl) hRf, Nat.le_trans (Nat.le_of_ble_eq_true rfl) hRl⟩, hT _ w_11_153, hT _ ws_143⟩ ⟨PW.blind, va_recv hK hW.1 (ci := 12) (q0 := 0) rfl (pic_obj ko_0.1 ko_0.2 (by decide)), PW.at _ hW hK hN⟩ rfl rfl hl.1 rfl (lv_room (Nat.le_of_ble_eq_true rfl)) d_Mod_writeChunk_130 ⟨hRc, hRs⟩) hS (fun q _ h => hF q h) hF (fun  x779 t H locs ht hvm hw hB hz1 hk1 hS => ?_)
  have hW := Wd.back hB ht hF
  clear hB ht hF hz1 hk1 hvm
  refine lv_aload_n hx hb d_Mod_writeChunk_133 rfl (lv_at hl 0 rfl) ?_
  have hF := hW.free hS hA
  refine va_callv (va_runV (C := R_Mod) (As := []) (rest := []) ⟨hx, hb, hml, hown, hT⟩ (k_Mod_writePage l dC dI cI cB cJ cZ ad H.size  x779  hw) ⟨callB_of 0 hT (gwt_in w_11_170) rfl rfl rfl (hT _ w_1_15) (hT _ w_11_167) (by decide +kernel) ⟨Nat.le_trans (Nat.le_of_ble_eq_true rfl) hRf, Nat.le_trans (Nat.le_of_ble_eq_true rfl) hRl⟩, hT _ w_11_169, hT _ ws_147⟩ ⟨PW.blind, va_recv hK hW.1 (ci := 12) (q0 := 0) rfl (pic_obj ko_0.1 ko_0.2 (by decide)), PW.at _ hW hK hN⟩ rfl rfl hl.1 rfl (lv_room (Nat.le_of_ble_eq_true rfl)) d_Mod_writeChunk_134 ⟨hRc, hRs⟩) hS (fun q _ h => hF q h) hF (fun  x780 t H locs ht hvm hw hB hz1 hk1 hS => ?_)
  have hW := Wd.back hB ht hF
  clear hB ht hF hz1 hk1 hvm
  refine lv_aload_n hx hb d_Mod_writeChunk_137 rfl (lv_at hl 0 rfl) ?_
  have hF := hW.free hS hA
  refine va_callv (va_runV (C := R_Mod) (As := []) (rest := []) ⟨hx, hb, hml, hown, hT⟩ (k_Mod_addSheet l dC dI cI cB cJ cZ ad H.size  x780  hw) ⟨callB_of 0 hT (gwt_in w_12_55) rfl rfl rfl (hT _ w_1_15) (hT _ w_12_52) (by decide +kernel) ⟨Nat.le_trans (Nat.le_of_ble_eq_true rfl) hRf, Nat.le_trans (Nat.le_of_ble_eq_true rfl) hRl⟩, hT _ w_12_54, hT _ ws_175⟩ ⟨PW.blind, va_recv hK hW.1 (ci := 12) (q0 := 0) rfl (pic_obj ko_0.1 ko_0.2 (by decide)), PW.at _ hW hK hN⟩ rfl rfl hl.1 rfl (lv_room (Nat.le_of_ble_eq_true rfl)) d_Mod_writeChunk_138 ⟨hRc, hRs⟩) hS (fun q _ h => hF q h) hF (fun  x781 t H locs ht hvm hw hB hz1 hk1 hS => ?_)
  have hW := Wd.back hB ht hF
  clear hB ht hF hz1 hk1 hvm
  refine lv_aload_n hx hb d_Mod_writeChunk_141 rfl (lv_at hl 0 rfl) ?_
  refine w_getf (q := 51) (k := 79) (t := 12) (C := R_Mod) (T := F_Mod) (N := 167) hx hb hT hown hK hW ko_0.1 ko_0.2 (by decide) in_Mod rfl rfl (by decide) rfl fr_Mod_79 w_9_15 d_Mod_writeChunk_142 rfl ?_
  refine lv_iload_n hx hb d_Mod_writeChunk_145 rfl (lv_at hl 1 rfl) ?_
  refine lv_dup2_11 hx hb d_Mod_writeChunk_146 rfl rfl ?_
  obtain ⟨hi, hw⟩ := hw
  refine w_iald (o := 51) hx hb hK hW ko_51.1 ko_51.2 hi d_Mod_writeChunk_147 ?_
  refine lv_iconst (v := 1) hx hb d_Mod_writeChunk_148 (by decide) ?_
  refine lv_iadd hx hb d_Mod_writeChunk_149 ?_
  obtain ⟨hi, hw⟩ := hw
  refine w_iast (o := 51) hx hb hK hW hS ko_51.1 ko_51.2 hi d_Mod_writeChunk_150 (fun H locs hW hS => ?_)
  obtain ⟨x782, ex782⟩ : ∃ y : St, y = setA x781 51 l1 ((rA x781 51 l1) + 1) := ⟨_, rfl⟩
  rw [← ex782] at hW
  have hw := hw x782 ex782
  refine lv_iload hx hb d_Mod_writeChunk_151 (lv_at hl 8 rfl) ?_
  refine lv_istore (lv' := [(7, .int l8), (0, .ref (ad 0)), (1, .int l1), (2, .int l2), (3, .int l3), (4, .int l4), (5, .int l5), (6, .int l6), (8, .int l8), (9, .int l9), (10, .int l10)]) hx hb d_Mod_writeChunk_153 hl (by decide) rfl (fun ls hl => ?_)
  refine lv_goto (tgt := 16) hx hb d_Mod_writeChunk_155 (by decide) ?_
  exact hrec16 l1 l2 l3 l4 l5 l6 l8 x782 H locs ls  hw hW hS (lv_sub hl [1, 2, 3, 4, 5, 6, 7, 0] rfl)
set_option maxRecDepth 100000 in
set_option maxHeartbeats 4000000 in
set_option maxRecDepth 100000 in
theorem t_Mod_writeChunk_61 {p : Program} {l : Launch} {e : Env} {R : Room} {s : State} {m : MethodId} {args : Array Value} {below : List Frame} {meth : Method} {c : Code} {cells slots : Nat} {Q : State → Prop} {dC : Nat → ClassId} {dI : Nat → Nat → Nat} {cI cB cJ cZ : ClassId} {A : Nat → Prop} {ad : Nat → Nat} {post : Int32 → St → Prop} {rec16 : Int32 → Int32 → Int32 → Int32 → Int32 → Int32 → Int32 → St → Prop} {rec61 : Int32 → Int32 → Int32 → Int32 → Int32 → Int32 → Int32 → Int32 → Int32 → Int32 → St → Prop} (hx : p.tables.exec = Jvm.exec) (hb : c.code = b_Mod_writeChunk) (hml : c.maxLocals = 11) (hown : s.vm.findClass R_Mod = some m.cls) (hT : ∀ w ∈ TG, w.before args s = true) (hK : va_K (dC, dI) CL (TY cI cB cJ cZ) s) (hN : NW s) (hA : ∀ q : Nat, s.heap.size ≤ q → A q) (hRc : cells ≤ R.cells) (hRs : slots ≤ R.slots) (hRf : 7 ≤ R.frames) (hRl : 163 ≤ R.locals) (hret : ∀ (r : Int32) (x : St) (H : Heap) (locs : List Loc) (pc : Nat) (ls : Array Slot), decode b_Mod_writeChunk pc = .ok (.ireturn, 1) → narrow .boolean (.int r) = .int r → post r x → Wd dC dI cI cB cJ cZ ad stM kcM 115 A x H → va_S A s.heap H locs → W p l e R s m args below meth c H locs cells slots Q (F0 m pc ls [.int r])) (hrec16 : ∀ (l1 : Int32) (l2 : Int32) (l3 : Int32) (l4 : Int32) (l5 : Int32) (l6 : Int32) (l7 : Int32) (x : St) (H : Heap) (locs : List Loc) (ls : Array Slot), rec16 l1 l2 l3 l4 l5 l6 l7 x → Wd dC dI cI cB cJ cZ ad stM kcM 115 A x H → va_S A s.heap H locs → lv_has ls 11 [(0, .ref (ad 0)), (1, .int l1), (2, .int l2), (3, .int l3), (4, .int l4), (5, .int l5), (6, .int l6), (7, .int l7)] → W p l e R s m args below meth c H locs cells slots Q (F0 m 16 ls [])) (hrec61 : ∀ (l1 : Int32) (l2 : Int32) (l3 : Int32) (l4 : Int32) (l5 : Int32) (l6 : Int32) (l7 : Int32) (l8 : Int32) (l9 : Int32) (l10 : Int32) (x : St) (H : Heap) (locs : List Loc) (ls : Array Slot), rec61 l1 l2 l3 l4 l5 l6 l7 l8 l9 l10 x → Wd dC dI cI cB cJ cZ ad stM kcM 115 A x H → va_S A s.heap H locs → lv_has ls 11 [(0, .ref (ad 0)), (1, .int l1), (2, .int l2), (3, .int l3), (4, .int l4), (5, .int l5), (6, .int l6), (7, .int l7), (8, .int l8), (9, .int l9), (10, .int l10)] → W p l e R s m args below meth c H locs cells slots Q (F0 m 61 ls [])) : ∀ (l1 : Int32) (l2 : Int32) (l3 : Int32) (l4 : Int32) (l5 : Int32) (l6 : Int32) (l7 : Int32) (l8 : Int32) (l9 : Int32) (l10 : Int32) (x : St) (H : Heap) (locs : List Loc) (ls : Array Slot), j_Mod_writeChunk_61 post rec16 rec61 l1 l2 l3 l4 l5 l6 l7 l8 l9 l10 x → Wd dC dI cI cB cJ cZ ad stM kcM 115 A x H → va_S A s.heap H locs → lv_has ls 11 [(0, .ref (ad 0)), (1, .int l1), (2, .int l2), (3, .int l3), (4, .int l4), (5, .int l5), (6, .int l6), (7, .int l7), (8, .int l8), (9, .int l9), (10, .int l10)] → W p l e R s m args below meth c H locs cells slots Q (F0 m 61 ls []) := by
  intro l1 l2 l3 l4 l5 l6 l7 l8 l9 l10 x H locs ls  hw hW hS hl
  unfold j_Mod_writeChunk_61 at hw
  refine lv_iload hx hb d_Mod_writeChunk_61 (lv_at hl 8 rfl) ?_
  refine lv_iload hx hb d_Mod_writeChunk_63 (lv_at hl 4 rfl) ?_
  refine lv_icmp_ge (tgt := 124) hx hb d_Mod_writeChunk_65 (by decide) (fun c783 => ?_) (fun c783 => ?_)
  · have hw := hw.1 c783
    exact t_Mod_writeChunk_124 hx hb hml hown hT hK hN hA hRc hRs hRf hRl hret hrec16 l1 l2 l3 l4 l5 l6 l7 l8 l9 l10 x H locs ls  hw hW hS (lv_sub hl [0, 1, 2, 3, 4, 5, 6, 7, 8, 9, 10] rfl)
  · have hw := hw.2 c783
    refine lv_iload hx hb d_Mod_writeChunk_68 (lv_at hl 9 rfl) ?_
    refine lv_aload_n hx hb d_Mod_writeChunk_70 rfl (lv_at hl 0 rfl) ?_
    refine lv_iload_n hx hb d_Mod_writeChunk_71 rfl (lv_at hl 2 rfl) ?_
    refine lv_iload hx hb d_Mod_writeChunk_72 (lv_at hl 8 rfl) ?_
    refine lv_iload hx hb d_Mod_writeChunk_74 (lv_at hl 8 rfl) ?_
    refine lv_iconst (v := 1) hx hb d_Mod_writeChunk_76 (by decide) ?_
    refine lv_iadd hx hb d_Mod_writeChunk_77 ?_
    have hF := hW.free hS hA
    refine va_calli (va_runV (C := R_Mod) (As := [.int l2, .int l8, .int (l8 + 1)]) (rest := [.int l9]) ⟨hx, hb, hml, hown, hT⟩ (k_Mod_many l dC dI cI cB cJ cZ ad H.size l2 l8 (l8 + 1) x  hw) ⟨callB_of 3 hT (gwt_in w_11_146) rfl rfl rfl (hT _ w_1_15) (hT _ w_11_143) (by decide +kernel) ⟨Nat.le_trans (Nat.le_of_ble_eq_true rfl) hRf, Nat.le_trans (Nat.le_of_ble_eq_true rfl) hRl⟩, hT _ w_11_145, hT _ ws_141⟩ ⟨PW.blind, va_recv hK hW.1 (ci := 12) (q0 := 0) rfl (pic_obj ko_0.1 ko_0.2 (by decide)), PW.at _ hW hK hN⟩ rfl rfl hl.1 rfl (lv_room (Nat.le_of_ble_eq_true rfl)) d_Mod_writeChunk_78 ⟨hRc, hRs⟩) hS (fun q _ h => hF q h) hF (fun r785 x784 t H locs ht hvm hw hB hz1 hk1 hS => ?_)
    have hW := Wd.back hB ht hF
    clear hB ht hF hz1 hk1 hvm
    refine lv_iadd hx hb d_Mod_writeChunk_81 ?_
    refine lv_topi (fun v786 ev786 => ?_)
    have hw := hw v786 ev786
    refine lv_istore (lv' := [(9, .int v786), (0, .ref (ad 0)), (1, .int l1), (2, .int l2), (3, .int l3), (4, .int l4), (5, .int l5), (6, .int l6), (7, .int l7), (8, .int l8), (10, .int l10)]) hx hb d_Mod_writeChunk_82 hl (by decide) rfl (fun ls hl => ?_)
    refine lv_iload hx hb d_Mod_writeChunk_84 (lv_at hl 10 rfl) ?_
    refine lv_aload_n hx hb d_Mod_writeChunk_86 rfl (lv_at hl 1 rfl) ?_
    refine lv_iload_n hx hb d_Mod_writeChunk_87 rfl (lv_at hl 3 rfl) ?_
    refine lv_iload hx hb d_Mod_writeChunk_88 (lv_at hl 9 rfl) ?_
    refine lv_iload hx hb d_Mod_writeChunk_90 (lv_at hl 9 rfl) ?_
    refine lv_iconst (v := 1) hx hb d_Mod_writeChunk_92 (by decide) ?_
    refine lv_iadd hx hb d_Mod_writeChunk_93 ?_
    have hF := hW.free hS hA
    refine va_calli (va_runV (C := R_Mod) (As := [.int l2, .int l8, .int (l8 + 1)]) (rest := [.int l10]) ⟨hx, hb, hml, hown, hT⟩ (k_Mod_textsOf l dC dI cI cB cJ cZ ad H.size l2 l8 (l8 + 1) x784  hw) ⟨callB_of 3 hT (gwt_in w_11_150) rfl rfl rfl (hT _ w_1_15) (hT _ w_11_147) (by decide +kernel) ⟨Nat.le_trans (Nat.le_of_ble_eq_true rfl) hRf, Nat.le_trans (Nat.le_of_ble_eq_true rfl) hRl⟩, hT _ w_11_149, hT _ ws_142⟩ ⟨PW.blind, va_recv hK hW.1 (ci := 12) (q0 := 0) rfl (pic_obj ko_0.1 ko_0.2 (by decide)), PW.at _ hW hK hN⟩ rfl rfl hl.1 rfl (lv_room (Nat.le_of_ble_eq_true rfl)) d_Mod_writeChunk_94 ⟨hRc, hRs⟩) hS (fun q _ h => hF q h) hF (fun r788 x787 t H locs ht hvm hw hB hz1 hk1 hS => ?_)
    have hW := Wd.back hB ht hF
    clear hB ht hF hz1 hk1 hvm
    refine lv_iadd hx hb d_Mod_writeChunk_97 ?_
    refine lv_topi (fun v789 ev789 => ?_)
    have hw := hw v789 ev789
    refine lv_istore (lv' := [(10, .int v789), (9, .int v786), (0, .ref (ad 0)), (1, .int l1), (2, .int l2), (3, .int l3), (4, .int l4), (5, .int l5), (6, .int l6), (7, .int l7), (8, .int l8)]) hx hb d_Mod_writeChunk_98 hl (by decide) rfl (fun ls hl => ?_)
    refine lv_iload hx hb d_Mod_writeChunk_100 (lv_at hl 1 rfl) ?_
    refine lv_iload hx hb d_Mod_writeChunk_102 (lv_at hl 7 rfl) ?_
    refine lv_icmp_gt (tgt := 124) hx hb d_Mod_writeChunk_104 (by decide) (fun c790 => ?_) (fun c790 => ?_)
    · have hw := hw.1 c790
      exact t_Mod_writeChunk_124 hx hb hml hown hT hK hN hA hRc hRs hRf hRl hret hrec16 l1 l2 l3 l4 l5 l6 l7 l8 v786 v789 x787 H locs ls  hw hW hS (lv_sub hl [2, 3, 4, 5, 6, 7, 8, 9, 10, 1, 0] rfl)
    · have hw := hw.2 c790
      refine lv_iload hx hb d_Mod_writeChunk_107 (lv_at hl 0 rfl) ?_
      refine lv_sipush (v := 20000) hx hb d_Mod_writeChunk_109 (by decide) ?_
      refine lv_icmp_le (tgt := 118) hx hb d_Mod_writeChunk_112 (by decide) (fun c791 => ?_) (fun c791 => ?_)
      · have hw := hw.1 c791
        refine lv_iinc (v := (l8 + 1)) (lv' := [(8, .int (l8 + 1)), (10, .int v789), (9, .int v786), (0, .ref (ad 0)), (1, .int l1), (2, .int l2), (3, .int l3), (4, .int l4), (5, .int l5), (6, .int l6), (7, .int l7)]) hx hb d_Mod_writeChunk_118 hl (k := 10) rfl rfl (by decide) rfl (fun ls hl => ?_)
        refine lv_goto (tgt := 61) hx hb d_Mod_writeChunk_121 (by decide) ?_
        exact hrec61 l1 l2 l3 l4 l5 l6 l7 (l8 + 1) v786 v789 x787 H locs ls  hw hW hS (lv_sub hl [3, 4, 5, 6, 7, 8, 9, 10, 0, 2, 1] rfl)
      · have hw := hw.2 c791
        refine lv_goto (tgt := 124) hx hb d_Mod_writeChunk_115 (by decide) ?_
        exact t_Mod_writeChunk_124 hx hb hml hown hT hK hN hA hRc hRs hRf hRl hret hrec16 l1 l2 l3 l4 l5 l6 l7 l8 v786 v789 x787 H locs ls  hw hW hS (lv_sub hl [2, 3, 4, 5, 6, 7, 8, 9, 10, 1, 0] rfl)
set_option maxHeartbeats 4000000 in
set_option maxRecDepth 100000 in
theorem tl_Mod_writeChunk_61 {p : Program} {l : Launch} {e : Env} {R : Room} {s : State} {m : MethodId} {args : Array Value} {below : List Frame} {meth : Method} {c : Code} {cells slots : Nat} {Q : State → Prop} {dC : Nat → ClassId} {dI : Nat → Nat → Nat} {cI cB cJ cZ : ClassId} {A : Nat → Prop} {ad : Nat → Nat} {post : Int32 → St → Prop} {rec16 : Int32 → Int32 → Int32 → Int32 → Int32 → Int32 → Int32 → St → Prop} (hx : p.tables.exec = Jvm.exec) (hb : c.code = b_Mod_writeChunk) (hml : c.maxLocals = 11) (hown : s.vm.findClass R_Mod = some m.cls) (hT : ∀ w ∈ TG, w.before args s = true) (hK : va_K (dC, dI) CL (TY cI cB cJ cZ) s) (hN : NW s) (hA : ∀ q : Nat, s.heap.size ≤ q → A q) (hRc : cells ≤ R.cells) (hRs : slots ≤ R.slots) (hRf : 7 ≤ R.frames) (hRl : 163 ≤ R.locals) (hret : ∀ (r : Int32) (x : St) (H : Heap) (locs : List Loc) (pc : Nat) (ls : Array Slot), decode b_Mod_writeChunk pc = .ok (.ireturn, 1) → narrow .boolean (.int r) = .int r → post r x → Wd dC dI cI cB cJ cZ ad stM kcM 115 A x H → va_S A s.heap H locs → W p l e R s m args below meth c H locs cells slots Q (F0 m pc ls [.int r])) (hrec16 : ∀ (l1 : Int32) (l2 : Int32) (l3 : Int32) (l4 : Int32) (l5 : Int32) (l6 : Int32) (l7 : Int32) (x : St) (H : Heap) (locs : List Loc) (ls : Array Slot), rec16 l1 l2 l3 l4 l5 l6 l7 x → Wd dC dI cI cB cJ cZ ad stM kcM 115 A x H → va_S A s.heap H locs → lv_has ls 11 [(0, .ref (ad 0)), (1, .int l1), (2, .int l2), (3, .int l3), (4, .int l4), (5, .int l5), (6, .int l6), (7, .int l7)] → W p l e R s m args below meth c H locs cells slots Q (F0 m 16 ls [])) : ∀ n : Nat, ∀ (l1 : Int32) (l2 : Int32) (l3 : Int32) (l4 : Int32) (l5 : Int32) (l6 : Int32) (l7 : Int32) (l8 : Int32) (l9 : Int32) (l10 : Int32) (x : St) (H : Heap) (locs : List Loc) (ls : Array Slot), wl_Mod_writeChunk_61 post rec16 n l1 l2 l3 l4 l5 l6 l7 l8 l9 l10 x → Wd dC dI cI cB cJ cZ ad stM kcM 115 A x H → va_S A s.heap H locs → lv_has ls 11 [(0, .ref (ad 0)), (1, .int l1), (2, .int l2), (3, .int l3), (4, .int l4), (5, .int l5), (6, .int l6), (7, .int l7), (8, .int l8), (9, .int l9), (10, .int l10)] → W p l e R s m args below meth c H locs cells slots Q (F0 m 61 ls []) := by
  intro n
  induction n with
  | zero => intro l1 l2 l3 l4 l5 l6 l7 l8 l9 l10 x H locs ls  hw; exact hw.elim
  | succ n ih => intro l1 l2 l3 l4 l5 l6 l7 l8 l9 l10 x H locs ls  hw hW hS hl; exact t_Mod_writeChunk_61 hx hb hml hown hT hK hN hA hRc hRs hRf hRl hret hrec16 ih l1 l2 l3 l4 l5 l6 l7 l8 l9 l10 x H locs ls  hw hW hS hl
set_option maxRecDepth 100000 in
set_option maxHeartbeats 4000000 in
set_option maxRecDepth 100000 in
theorem t_Mod_writeChunk_16 {p : Program} {l : Launch} {e : Env} {R : Room} {s : State} {m : MethodId} {args : Array Value} {below : List Frame} {meth : Method} {c : Code} {cells slots : Nat} {Q : State → Prop} {dC : Nat → ClassId} {dI : Nat → Nat → Nat} {cI cB cJ cZ : ClassId} {A : Nat → Prop} {ad : Nat → Nat} {post : Int32 → St → Prop} {rec16 : Int32 → Int32 → Int32 → Int32 → Int32 → Int32 → Int32 → St → Prop} (hx : p.tables.exec = Jvm.exec) (hb : c.code = b_Mod_writeChunk) (hml : c.maxLocals = 11) (hown : s.vm.findClass R_Mod = some m.cls) (hT : ∀ w ∈ TG, w.before args s = true) (hK : va_K (dC, dI) CL (TY cI cB cJ cZ) s) (hN : NW s) (hA : ∀ q : Nat, s.heap.size ≤ q → A q) (hRc : cells ≤ R.cells) (hRs : slots ≤ R.slots) (hRf : 7 ≤ R.frames) (hRl : 163 ≤ R.locals) (hret : ∀ (r : Int32) (x : St) (H : Heap) (locs : List Loc) (pc : Nat) (ls : Array Slot), decode b_Mod_writeChunk pc = .ok (.ireturn, 1) → narrow .boolean (.int r) = .int r → post r x → Wd dC dI cI cB cJ cZ ad stM kcM 115 A x H → va_S A s.heap H locs → W p l e R s m args below meth c H locs cells slots Q (F0 m pc ls [.int r])) (hrec16 : ∀ (l1 : Int32) (l2 : Int32) (l3 : Int32) (l4 : Int32) (l5 : Int32) (l6 : Int32) (l7 : Int32) (x : St) (H : Heap) (locs : List Loc) (ls : Array Slot), rec16 l1 l2 l3 l4 l5 l6 l7 x → Wd dC dI cI cB cJ cZ ad stM kcM 115 A x H → va_S A s.heap H locs → lv_has ls 11 [(0, .ref (ad 0)), (1, .int l1), (2, .int l2), (3, .int l3), (4, .int l4), (5, .int l5), (6, .int l6), (7, .int l7)] → W p l e R s m args below meth c H locs cells slots Q (F0 m 16 ls [])) : ∀ (l1 : Int32) (l2 : Int32) (l3 : Int32) (l4 : Int32) (l5 : Int32) (l6 : Int32) (l7 : Int32) (x : St) (H : Heap) (locs : List Loc) (ls : Array Slot), j_Mod_writeChunk_16 post rec16 l1 l2 l3 l4 l5 l6 l7 x → Wd dC dI cI cB cJ cZ ad stM kcM 115 A x H → va_S A s.heap H locs → lv_has ls 11 [(0, .ref (ad 0)), (1, .int l1), (2, .int l2), (3, .int l3), (4, .int l4), (5, .int l5), (6, .int l6), (7, .int l7)] → W p l e R s m args below meth c H locs cells slots Q (F0 m 16 ls []) := by
  intro l1 l2 l3 l4 l5 l6 l7 x H locs ls  hw hW hS hl
  unfold j_Mod_writeChunk_16 at hw
  refine lv_iload hx hb d_Mod_writeChunk_16 (lv_at hl 7 rfl) ?_
  refine lv_iload hx hb d_Mod_writeChunk_18 (lv_at hl 4 rfl) ?_
  refine lv_icmp_ge (tgt := 158) hx hb d_Mod_writeChunk_20 (by decide) (fun c792 => ?_) (fun c792 => ?_)
  · have hw := hw.1 c792
    refine lv_aload_n hx hb d_Mod_writeChunk_158 rfl (lv_at hl 0 rfl) ?_
    refine w_getf (q := 50) (k := 78) (t := 12) (C := R_Mod) (T := F_Mod) (N := 167) hx hb hT hown hK hW ko_0.1 ko_0.2 (by decide) in_Mod rfl rfl (by decide) rfl fr_Mod_78 w_9_14 d_Mod_writeChunk_159 rfl ?_
    refine lv_iload_n hx hb d_Mod_writeChunk_162 rfl (lv_at hl 1 rfl) ?_
    refine lv_aload_n hx hb d_Mod_writeChunk_163 rfl (lv_at hl 0 rfl) ?_
    refine w_geti (k := 66) (t := 12) (C := R_Mod) (T := F_Mod) (N := 167) hx hb hT hown hK hW ko_0.1 ko_0.2 (by decide) in_Mod rfl rfl (by decide) rfl fr_Mod_66 w_9_2 d_Mod_writeChunk_164 ?_
    refine lv_iload hx hb d_Mod_writeChunk_167 (lv_at hl 6 rfl) ?_
    refine lv_isub hx hb d_Mod_writeChunk_169 ?_
    obtain ⟨hi, hw⟩ := hw
    refine w_iast (o := 50) hx hb hK hW hS ko_50.1 ko_50.2 hi d_Mod_writeChunk_170 (fun H locs hW hS => ?_)
    obtain ⟨x793, ex793⟩ : ∃ y : St, y = setA x 50 l1 ((fI x 0 66) - l6) := ⟨_, rfl⟩
    rw [← ex793] at hW
    have hw := hw x793 ex793
    refine lv_iconst (v := 1) hx hb d_Mod_writeChunk_171 (by decide) ?_
    exact hret 1 x793 H locs 172 ls d_Mod_writeChunk_172 rfl hw hW hS
  · have hw := hw.2 c792
    refine lv_iload hx hb d_Mod_writeChunk_23 (lv_at hl 7 rfl) ?_
    refine lv_iconst (v := 1) hx hb d_Mod_writeChunk_25 (by decide) ?_
    refine lv_iadd hx hb d_Mod_writeChunk_26 ?_
    refine lv_topi (fun v794 ev794 => ?_)
    have hw := hw v794 ev794
    refine lv_istore (lv' := [(8, .int v794), (0, .ref (ad 0)), (1, .int l1), (2, .int l2), (3, .int l3), (4, .int l4), (5, .int l5), (6, .int l6), (7, .int l7)]) hx hb d_Mod_writeChunk_27 hl (by decide) rfl (fun ls hl => ?_)
    refine lv_aload_n hx hb d_Mod_writeChunk_29 rfl (lv_at hl 1 rfl) ?_
    refine lv_iload_n hx hb d_Mod_writeChunk_30 rfl (lv_at hl 3 rfl) ?_
    refine lv_iload hx hb d_Mod_writeChunk_31 (lv_at hl 8 rfl) ?_
    refine lv_iload hx hb d_Mod_writeChunk_33 (lv_at hl 0 rfl) ?_
    have hF := hW.free hS hA
    refine va_calli (va_runV (C := R_Mod) (As := [.int l2, .int l7, .int v794]) (rest := []) ⟨hx, hb, hml, hown, hT⟩ (k_Mod_many l dC dI cI cB cJ cZ ad H.size l2 l7 v794 x  hw) ⟨callB_of 3 hT (gwt_in w_11_146) rfl rfl rfl (hT _ w_1_15) (hT _ w_11_143) (by decide +kernel) ⟨Nat.le_trans (Nat.le_of_ble_eq_true rfl) hRf, Nat.le_trans (Nat.le_of_ble_eq_true rfl) hRl⟩, hT _ w_11_145, hT _ ws_141⟩ ⟨PW.blind, va_recv hK hW.1 (ci := 12) (q0 := 0) rfl (pic_obj ko_0.1 ko_0.2 (by decide)), PW.at _ hW hK hN⟩ rfl rfl hl.1 rfl (lv_room (Nat.le_of_ble_eq_true rfl)) d_Mod_writeChunk_35 ⟨hRc, hRs⟩) hS (fun q _ h => hF q h) hF (fun r796 x795 t H locs ht hvm hw hB hz1 hk1 hS => ?_)
    have hW := Wd.back hB ht hF
    clear hB ht hF hz1 hk1 hvm
    refine lv_istore (lv' := [(9, .int r796), (8, .int v794), (0, .ref (ad 0)), (1, .int l1), (2, .int l2), (3, .int l3), (4, .int l4), (5, .int l5), (6, .int l6), (7, .int l7)]) hx hb d_Mod_writeChunk_38 hl (by decide) rfl (fun ls hl => ?_)
    refine lv_aload_n hx hb d_Mod_writeChunk_40 rfl (lv_at hl 2 rfl) ?_
    refine lv_iload_n hx hb d_Mod_writeChunk_41 rfl (lv_at hl 4 rfl) ?_
    refine lv_iload hx hb d_Mod_writeChunk_42 (lv_at hl 9 rfl) ?_
    refine lv_iload hx hb d_Mod_writeChunk_44 (lv_at hl 1 rfl) ?_
    have hF := hW.free hS hA
    refine va_calli (va_runV (C := R_Mod) (As := [.int l2, .int l7, .int v794]) (rest := []) ⟨hx, hb, hml, hown, hT⟩ (k_Mod_textsOf l dC dI cI cB cJ cZ ad H.size l2 l7 v794 x795  hw) ⟨callB_of 3 hT (gwt_in w_11_150) rfl rfl rfl (hT _ w_1_15) (hT _ w_11_147) (by decide +kernel) ⟨Nat.le_trans (Nat.le_of_ble_eq_true rfl) hRf, Nat.le_trans (Nat.le_of_ble_eq_true rfl) hRl⟩, hT _ w_11_149, hT _ ws_142⟩ ⟨PW.blind, va_recv hK hW.1 (ci := 12) (q0 := 0) rfl (pic_obj ko_0.1 ko_0.2 (by decide)), PW.at _ hW hK hN⟩ rfl rfl hl.1 rfl (lv_room (Nat.le_of_ble_eq_true rfl)) d_Mod_writeChunk_46 ⟨hRc, hRs⟩) hS (fun q _ h => hF q h) hF (fun r798 x797 t H locs ht hvm hw hB hz1 hk1 hS => ?_)
    have hW := Wd.back hB ht hF
    clear hB ht hF hz1 hk1 hvm
    refine lv_istore (lv' := [(10, .int r798), (9, .int r796), (8, .int v794), (0, .ref (ad 0)), (1, .int l1), (2, .int l2), (3, .int l3), (4, .int l4), (5, .int l5), (6, .int l6), (7, .int l7)]) hx hb d_Mod_writeChunk_49 hl (by decide) rfl (fun ls hl => ?_)
    refine lv_iload hx hb d_Mod_writeChunk_51 (lv_at hl 1 rfl) ?_
    refine lv_sipush (v := 1000) hx hb d_Mod_writeChunk_53 (by decide) ?_
    refine lv_icmp_le (tgt := 61) hx hb d_Mod_writeChunk_56 (by decide) (fun c799 => ?_) (fun c799 => ?_)
    · have hw := hw.1 c799
      obtain ⟨n, hw⟩ := hw
      exact tl_Mod_writeChunk_61 hx hb hml hown hT hK hN hA hRc hRs hRf hRl hret hrec16 n l1 l2 l3 l4 l5 l6 l7 v794 r796 r798 x797 H locs ls  hw hW hS (lv_sub hl [3, 4, 5, 6, 7, 8, 9, 10, 2, 1, 0] rfl)
    · have hw := hw.2 c799
      refine lv_iconst (v := 0) hx hb d_Mod_writeChunk_59 (by decide) ?_
      exact hret 0 x797 H locs 60 ls d_Mod_writeChunk_60 rfl hw hW hS
set_option maxHeartbeats 4000000 in
set_option maxRecDepth 100000 in
theorem tl_Mod_writeChunk_16 {p : Program} {l : Launch} {e : Env} {R : Room} {s : State} {m : MethodId} {args : Array Value} {below : List Frame} {meth : Method} {c : Code} {cells slots : Nat} {Q : State → Prop} {dC : Nat → ClassId} {dI : Nat → Nat → Nat} {cI cB cJ cZ : ClassId} {A : Nat → Prop} {ad : Nat → Nat} {post : Int32 → St → Prop} (hx : p.tables.exec = Jvm.exec) (hb : c.code = b_Mod_writeChunk) (hml : c.maxLocals = 11) (hown : s.vm.findClass R_Mod = some m.cls) (hT : ∀ w ∈ TG, w.before args s = true) (hK : va_K (dC, dI) CL (TY cI cB cJ cZ) s) (hN : NW s) (hA : ∀ q : Nat, s.heap.size ≤ q → A q) (hRc : cells ≤ R.cells) (hRs : slots ≤ R.slots) (hRf : 7 ≤ R.frames) (hRl : 163 ≤ R.locals) (hret : ∀ (r : Int32) (x : St) (H : Heap) (locs : List Loc) (pc : Nat) (ls : Array Slot), decode b_Mod_writeChunk pc = .ok (.ireturn, 1) → narrow .boolean (.int r) = .int r → post r x → Wd dC dI cI cB cJ cZ ad stM kcM 115 A x H → va_S A s.heap H locs → W p l e R s m args below meth c H locs cells slots Q (F0 m pc ls [.int r]))  : ∀ n : Nat, ∀ (l1 : Int32) (l2 : Int32) (l3 : Int32) (l4 : Int32) (l5 : Int32) (l6 : Int32) (l7 : Int32) (x : St) (H : Heap) (locs : List Loc) (ls : Array Slot), wl_Mod_writeChunk_16 post n l1 l2 l3 l4 l5 l6 l7 x → Wd dC dI cI cB cJ cZ ad stM kcM 115 A x H → va_S A s.heap H locs → lv_has ls 11 [(0, .ref (ad 0)), (1, .int l1), (2, .int l2), (3, .int l3), (4, .int l4), (5, .int l5), (6, .int l6), (7, .int l7)] → W p l e R s m args below meth c H locs cells slots Q (F0 m 16 ls []) := by
  intro n
  induction n with
  | zero => intro l1 l2 l3 l4 l5 l6 l7 x H locs ls  hw; exact hw.elim
  | succ n ih => intro l1 l2 l3 l4 l5 l6 l7 x H locs ls  hw hW hS hl; exact t_Mod_writeChunk_16 hx hb hml hown hT hK hN hA hRc hRs hRf hRl hret  ih l1 l2 l3 l4 l5 l6 l7 x H locs ls  hw hW hS hl
set_option maxRecDepth 100000 in
set_option maxHeartbeats 4000000 in
set_option maxRecDepth 100000 in
theorem t_Mod_writeChunk_e {p : Program} {l : Launch} {e : Env} {R : Room} {s : State} {m : MethodId} {args : Array Value} {below : List Frame} {meth : Method} {c : Code} {cells slots : Nat} {Q : State → Prop} {dC : Nat → ClassId} {dI : Nat → Nat → Nat} {cI cB cJ cZ : ClassId} {A : Nat → Prop} {ad : Nat → Nat} {post : Int32 → St → Prop} (hx : p.tables.exec = Jvm.exec) (hb : c.code = b_Mod_writeChunk) (hml : c.maxLocals = 11) (hown : s.vm.findClass R_Mod = some m.cls) (hT : ∀ w ∈ TG, w.before args s = true) (hK : va_K (dC, dI) CL (TY cI cB cJ cZ) s) (hN : NW s) (hA : ∀ q : Nat, s.heap.size ≤ q → A q) (hRc : cells ≤ R.cells) (hRs : slots ≤ R.slots) (hRf : 7 ≤ R.frames) (hRl : 163 ≤ R.locals) (hret : ∀ (r : Int32) (x : St) (H : Heap) (locs : List Loc) (pc : Nat) (ls : Array Slot), decode b_Mod_writeChunk pc = .ok (.ireturn, 1) → narrow .boolean (.int r) = .int r → post r x → Wd dC dI cI cB cJ cZ ad stM kcM 115 A x H → va_S A s.heap H locs → W p l e R s m args below meth c H locs cells slots Q (F0 m pc ls [.int r])) : ∀ (l1 : Int32) (l2 : Int32) (l3 : Int32) (l4 : Int32) (l5 : Int32) (x : St) (H : Heap) (locs : List Loc) (ls : Array Slot), wp_Mod_writeChunk post l1 l2 l3 l4 l5 x → Wd dC dI cI cB cJ cZ ad stM kcM 115 A x H → va_S A s.heap H locs → lv_has ls 11 [(0, .ref (ad 0)), (1, .int l1), (2, .int l2), (3, .int l3), (4, .int l4), (5, .int l5)] → W p l e R s m args below meth c H locs cells slots Q (F0 m 0 ls []) := by
  intro l1 l2 l3 l4 l5 x H locs ls  hw hW hS hl
  unfold wp_Mod_writeChunk at hw
  refine lv_aload_n hx hb d_Mod_writeChunk_0 rfl (lv_at hl 0 rfl) ?_
  refine w_geti (k := 66) (t := 12) (C := R_Mod) (T := F_Mod) (N := 167) hx hb hT hown hK hW ko_0.1 ko_0.2 (by decide) in_Mod rfl rfl (by decide) rfl fr_Mod_66 w_9_2 d_Mod_writeChunk_1 ?_
  refine lv_topi (fun v800 ev800 => ?_)
  have hw := hw v800 ev800
  refine lv_istore (lv' := [(6, .int v800), (0, .ref (ad 0)), (1, .int l1), (2, .int l2), (3, .int l3), (4, .int l4), (5, .int l5)]) hx hb d_Mod_writeChunk_4 hl (by decide) rfl (fun ls hl => ?_)
  refine lv_aload_n hx hb d_Mod_writeChunk_6 rfl (lv_at hl 1 rfl) ?_
  refine w_getf (q := 51) (k := 79) (t := 12) (C := R_Mod) (T := F_Mod) (N := 167) hx hb hT hown hK hW ko_0.1 ko_0.2 (by decide) in_Mod rfl rfl (by decide) rfl fr_Mod_79 w_9_15 d_Mod_writeChunk_7 rfl ?_
  refine lv_iload_n hx hb d_Mod_writeChunk_10 rfl (lv_at hl 2 rfl) ?_
  refine lv_iconst (v := 0) hx hb d_Mod_writeChunk_11 (by decide) ?_
  obtain ⟨hi, hw⟩ := hw
  refine w_iast (o := 51) hx hb hK hW hS ko_51.1 ko_51.2 hi d_Mod_writeChunk_12 (fun H locs hW hS => ?_)
  obtain ⟨x801, ex801⟩ : ∃ y : St, y = setA x 51 l1 0 := ⟨_, rfl⟩
  rw [← ex801] at hW
  have hw := hw x801 ex801
  refine lv_iload_n hx hb d_Mod_writeChunk_13 rfl (lv_at hl 4 rfl) ?_
  refine lv_istore (lv' := [(7, .int l3), (6, .int v800), (0, .ref (ad 0)), (1, .int l1), (2, .int l2), (3, .int l3), (4, .int l4), (5, .int l5)]) hx hb d_Mod_writeChunk_14 hl (by decide) rfl (fun ls hl => ?_)
  obtain ⟨n, hw⟩ := hw
  exact tl_Mod_writeChunk_16 hx hb hml hown hT hK hN hA hRc hRs hRf hRl hret  n l1 l2 l3 l4 l5 v800 l3 x801 H locs ls  hw hW hS (lv_sub hl [2, 3, 4, 5, 6, 7, 1, 0] rfl)
set_option maxHeartbeats 4000000 in
set_option maxRecDepth 100000 in
theorem k_Mod_writeChunk (l : Launch) (dC : Nat → ClassId) (dI : Nat → Nat → Nat) (cI cB cJ cZ : ClassId) (ad : Nat → Nat) (sz : Nat) (l1 : Int32) (l2 : Int32) (l3 : Int32) (l4 : Int32) (l5 : Int32) (x : St) {post : Int32 → St → Prop} (hw : wp_Mod_writeChunk post l1 l2 l3 l4 l5 x) : Met l y_Mod_writeChunk (wsOf y_Mod_writeChunk b_Mod_writeChunk 11 (some (.boolean))) ({ frames := 7, cells := 0, slots := 0, locals := 163 }) (va_Pc [.ref (ad 0), .int l1, .int l2, .int l3, .int l4, .int l5] (PW dC dI cI cB cJ cZ ad stM kcM 115 sz x)) (va_Qi (fun (r : Int32) (y : St) => post r y) (fun y t => Wd dC dI cI cB cJ cZ ad stM kcM 115 (va_A (pic ad stM kcM 115 cI cB cJ cZ x) sz) y t.heap) (va_A (pic ad stM kcM 115 cI cB cJ cZ x) sz)) 0 0 (va_A (pic ad stM kcM 115 cI cB cJ cZ x) sz) := by
  refine Met.ofW (cc := b_Mod_writeChunk) (maxL := 11) (ret := some (.boolean)) (by decide) rfl ?_
  intro p e s m args below meth c s₁ B hml hv
  obtain ⟨rfl, hsz, hW0, hK, hN⟩ := hv
  have hx := B.exec
  have hb := B.bytes
  have hr := B.returns
  have hts := atoms_spec B.pre
  have hT : ∀ w ∈ TG, w.before _ s = true := fun w h => hts w (List.mem_cons_of_mem _ h)
  have hown : s.vm.findClass R_Mod = some m.cls := findClass_of_methodNamed B.named
  have hlocks := B.notSynchronized
  subst hsz
  have hW : Wd dC dI cI cB cJ cZ ad stM kcM 115 (va_A (pic ad stM kcM 115 cI cB cJ cZ x) s.heap.size) x s.heap := ⟨hW0.1, hW0.2.1.self (sz := s.heap.size), hW0.2.2⟩
  generalize hAe : va_A (pic ad stM kcM 115 cI cB cJ cZ x) s.heap.size = A at hW ⊢
  have hA : ∀ q : Nat, s.heap.size ≤ q → A q := fun q h => by rw [← hAe]; exact Or.inr h
  have hS : va_S A s.heap s.heap [] := va_S.rf
  have hl := lv_entry ([.ref (ad 0), .int l1, .int l2, .int l3, .int l4, .int l5]) (n := 11) (Nat.le_of_ble_eq_true rfl)
  rw [lg_entry_eq]
  generalize (lg_sl ([.ref (ad 0), .int l1, .int l2, .int l3, .int l4, .int l5]) ++ List.replicate (11 - (lg_sl ([.ref (ad 0), .int l1, .int l2, .int l3, .int l4, .int l5])).length) Slot.unset).toArray = ls at hl ⊢
  have hl : lv_has ls 11 [(0, .ref (ad 0)), (1, .int l1), (2, .int l2), (3, .int l3), (4, .int l4), (5, .int l5)] := hl
  exact t_Mod_writeChunk_e hx hb hml hown hT hK hN hA (Nat.le_refl 0) (Nat.le_refl 0) (Nat.le_refl 7) (Nat.le_refl 163) (fun r x H locs pc ls hd hz hp hW hS => W.zret (v := r) (ty := .boolean) hx hb hr hz (fun t ht hM => ⟨⟨r, x, rfl, hp, Wd.back hW ht.symm (fun _ z => z)⟩, hS.F ht⟩) hS.2.2 hd hlocks)  l1 l2 l3 l4 l5 x _ _ ls  hw hW hS hl
set_option maxRecDepth 100000 in
set_option maxHeartbeats 4000000 in
set_option maxRecDepth 100000 in
theorem t_Mod_has_e {p : Program} {l : Launch} {e : Env} {R : Room} {s : State} {m : MethodId} {args : Array Value} {below : List Frame} {meth : Method} {c : Code} {cells slots : Nat} {Q : State → Prop} {dC : Nat → ClassId} {dI : Nat → Nat → Nat} {cI cB cJ cZ : ClassId} {A : Nat → Prop} {ad : Nat → Nat} {post : Int32 → St → Prop} (hx : p.tables.exec = Jvm.exec) (hb : c.code = b_Mod_has) (hml : c.maxLocals = 2) (hown : s.vm.findClass R_Mod = some m.cls) (hT : ∀ w ∈ TG, w.before args s = true) (hK : va_K (dC, dI) CL (TY cI cB cJ cZ) s) (hN : NW s) (hA : ∀ q : Nat, s.heap.size ≤ q → A q) (hRc : cells ≤ R.cells) (hRs : slots ≤ R.slots) (hRf : 3 ≤ R.frames) (hRl : 69 ≤ R.locals) (hret : ∀ (r : Int32) (x : St) (H : Heap) (locs : List Loc) (pc : Nat) (ls : Array Slot), decode b_Mod_has pc = .ok (.ireturn, 1) → narrow .boolean (.int r) = .int r → post r x → Wd dC dI cI cB cJ cZ ad stM kcM 115 A x H → va_S A s.heap H locs → W p l e R s m args below meth c H locs cells slots Q (F0 m pc ls [.int r])) : ∀ (l1 : Int32) (x : St) (H : Heap) (locs : List Loc) (ls : Array Slot), wp_Mod_has post l1 x → Wd dC dI cI cB cJ cZ ad stM kcM 115 A x H → va_S A s.heap H locs → lv_has ls 2 [(0, .ref (ad 0)), (1, .int l1)] → W p l e R s m args below meth c H locs cells slots Q (F0 m 0 ls []) := by
  intro l1 x H locs ls  hw hW hS hl
  unfold wp_Mod_has at hw
  refine lv_aload_n hx hb d_Mod_has_0 rfl (lv_at hl 0 rfl) ?_
  refine w_getf (q := 19) (k := 27) (t := 12) (C := R_Mod) (T := F_Mod) (N := 167) hx hb hT hown hK hW ko_0.1 ko_0.2 (by decide) in_Mod rfl rfl (by decide) rfl fr_Mod_27 w_8_203 d_Mod_has_1 rfl ?_
  refine lv_iload_n hx hb d_Mod_has_4 rfl (lv_at hl 1 rfl) ?_
  obtain ⟨hi, hw⟩ := hw
  refine w_iald (o := 19) hx hb hK hW ko_19.1 ko_19.2 hi d_Mod_has_5 ?_
  refine lv_aload_n hx hb d_Mod_has_6 rfl (lv_at hl 0 rfl) ?_
  refine lv_iconst (v := 0) hx hb d_Mod_has_7 (by decide) ?_
  refine lv_aload_n hx hb d_Mod_has_8 rfl (lv_at hl 0 rfl) ?_
  refine w_getf (q := 20) (k := 28) (t := 12) (C := R_Mod) (T := F_Mod) (N := 167) hx hb hT hown hK hW ko_0.1 ko_0.2 (by decide) in_Mod rfl rfl (by decide) rfl fr_Mod_28 w_8_204 d_Mod_has_9 rfl ?_
  refine lv_iload_n hx hb d_Mod_has_12 rfl (lv_at hl 1 rfl) ?_
  obtain ⟨hi, hw⟩ := hw
  refine w_iald (o := 20) hx hb hK hW ko_20.1 ko_20.2 hi d_Mod_has_13 ?_
  have hF := hW.free hS hA
  refine va_calli (va_runV (C := R_Mod) (As := [.int 0, .int (rA x 20 l1)]) (rest := [.int (rA x 19 l1)]) ⟨hx, hb, hml, hown, hT⟩ (k_Mod_mostD l dC dI cI cB cJ cZ ad H.size 0 (rA x 20 l1) x  hw) ⟨callB_of 2 hT (gwt_in w_11_166) rfl rfl rfl (hT _ w_1_15) (hT _ w_11_163) (by decide +kernel) ⟨Nat.le_trans (Nat.le_of_ble_eq_true rfl) hRf, Nat.le_trans (Nat.le_of_ble_eq_true rfl) hRl⟩, hT _ w_11_165, hT _ ws_146⟩ ⟨PW.blind, va_recv hK hW.1 (ci := 12) (q0 := 0) rfl (pic_obj ko_0.1 ko_0.2 (by decide)), PW.at _ hW hK hN⟩ rfl rfl hl.1 rfl (lv_room (Nat.le_of_ble_eq_true rfl)) d_Mod_has_14 ⟨hRc, hRs⟩) hS (fun q _ h => hF q h) hF (fun r803 x802 t H locs ht hvm hw hB hz1 hk1 hS => ?_)
  have hW := Wd.back hB ht hF
  clear hB ht hF hz1 hk1 hvm
  refine lv_icmp_ne (tgt := 24) hx hb d_Mod_has_17 (by decide) (fun c804 => ?_) (fun c804 => ?_)
  · have hw := hw.1 c804
    refine lv_iconst (v := 0) hx hb d_Mod_has_24 (by decide) ?_
    exact hret 0 x802 H locs 25 ls d_Mod_has_25 rfl hw hW hS
  · have hw := hw.2 c804
    refine lv_iconst (v := 1) hx hb d_Mod_has_20 (by decide) ?_
    refine lv_goto (tgt := 25) hx hb d_Mod_has_21 (by decide) ?_
    exact hret 1 x802 H locs 25 ls d_Mod_has_25 rfl hw hW hS
set_option maxHeartbeats 4000000 in
set_option maxRecDepth 100000 in
theorem k_Mod_has (l : Launch) (dC : Nat → ClassId) (dI : Nat → Nat → Nat) (cI cB cJ cZ : ClassId) (ad : Nat → Nat) (sz : Nat) (l1 : Int32) (x : St) {post : Int32 → St → Prop} (hw : wp_Mod_has post l1 x) : Met l y_Mod_has (wsOf y_Mod_has b_Mod_has 2 (some (.boolean))) ({ frames := 3, cells := 0, slots := 0, locals := 69 }) (va_Pc [.ref (ad 0), .int l1] (PW dC dI cI cB cJ cZ ad stM kcM 115 sz x)) (va_Qi (fun (r : Int32) (y : St) => post r y) (fun y t => Wd dC dI cI cB cJ cZ ad stM kcM 115 (va_A (pic ad stM kcM 115 cI cB cJ cZ x) sz) y t.heap) (va_A (pic ad stM kcM 115 cI cB cJ cZ x) sz)) 0 0 (va_A (pic ad stM kcM 115 cI cB cJ cZ x) sz) := by
  refine Met.ofW (cc := b_Mod_has) (maxL := 2) (ret := some (.boolean)) (by decide) rfl ?_
  intro p e s m args below meth c s₁ B hml hv
  obtain ⟨rfl, hsz, hW0, hK, hN⟩ := hv
  have hx := B.exec
  have hb := B.bytes
  have hr := B.returns
  have hts := atoms_spec B.pre
  have hT : ∀ w ∈ TG, w.before _ s = true := fun w h => hts w (List.mem_cons_of_mem _ h)
  have hown : s.vm.findClass R_Mod = some m.cls := findClass_of_methodNamed B.named
  have hlocks := B.notSynchronized
  subst hsz
  have hW : Wd dC dI cI cB cJ cZ ad stM kcM 115 (va_A (pic ad stM kcM 115 cI cB cJ cZ x) s.heap.size) x s.heap := ⟨hW0.1, hW0.2.1.self (sz := s.heap.size), hW0.2.2⟩
  generalize hAe : va_A (pic ad stM kcM 115 cI cB cJ cZ x) s.heap.size = A at hW ⊢
  have hA : ∀ q : Nat, s.heap.size ≤ q → A q := fun q h => by rw [← hAe]; exact Or.inr h
  have hS : va_S A s.heap s.heap [] := va_S.rf
  have hl := lv_entry ([.ref (ad 0), .int l1]) (n := 2) (Nat.le_of_ble_eq_true rfl)
  rw [lg_entry_eq]
  generalize (lg_sl ([.ref (ad 0), .int l1]) ++ List.replicate (2 - (lg_sl ([.ref (ad 0), .int l1])).length) Slot.unset).toArray = ls at hl ⊢
  have hl : lv_has ls 2 [(0, .ref (ad 0)), (1, .int l1)] := hl
  exact t_Mod_has_e hx hb hml hown hT hK hN hA (Nat.le_refl 0) (Nat.le_refl 0) (Nat.le_refl 3) (Nat.le_refl 69) (fun r x H locs pc ls hd hz hp hW hS => W.zret (v := r) (ty := .boolean) hx hb hr hz (fun t ht hM => ⟨⟨r, x, rfl, hp, Wd.back hW ht.symm (fun _ z => z)⟩, hS.F ht⟩) hS.2.2 hd hlocks)  l1 x _ _ ls  hw hW hS hl
set_option maxRecDepth 100000 in
set_option maxHeartbeats 4000000 in
set_option maxRecDepth 100000 in
theorem t_Mod_against2_139 {p : Program} {l : Launch} {e : Env} {R : Room} {s : State} {m : MethodId} {args : Array Value} {below : List Frame} {meth : Method} {c : Code} {cells slots : Nat} {Q : State → Prop} {dC : Nat → ClassId} {dI : Nat → Nat → Nat} {cI cB cJ cZ : ClassId} {A : Nat → Prop} {ad : Nat → Nat} {post : Int32 → St → Prop} (hx : p.tables.exec = Jvm.exec) (hb : c.code = b_Mod_against2) (hml : c.maxLocals = 5) (hown : s.vm.findClass R_Mod = some m.cls) (hT : ∀ w ∈ TG, w.before args s = true) (hK : va_K (dC, dI) CL (TY cI cB cJ cZ) s) (hN : NW s) (hA : ∀ q : Nat, s.heap.size ≤ q → A q) (hRc : cells ≤ R.cells) (hRs : slots ≤ R.slots) (hRf : 0 ≤ R.frames) (hRl : 0 ≤ R.locals) (hret : ∀ (r : Int32) (x : St) (H : Heap) (locs : List Loc) (pc : Nat) (ls : Array Slot), decode b_Mod_against2 pc = .ok (.ireturn, 1) → post r x → Wd dC dI cI cB cJ cZ ad stM kcM 115 A x H → va_S A s.heap H locs → W p l e R s m args below meth c H locs cells slots Q (F0 m pc ls [.int r]))  : ∀ (l1 : Int32) (l2 : Int32) (l3 : Int32) (l4 : Int32) (x : St) (H : Heap) (locs : List Loc) (ls : Array Slot), j_Mod_against2_139 post l1 l2 l3 l4 x → Wd dC dI cI cB cJ cZ ad stM kcM 115 A x H → va_S A s.heap H locs → lv_has ls 5 [(0, .ref (ad 0)), (1, .int l1), (2, .int l2), (3, .int l3), (4, .int l4)] → W p l e R s m args below meth c H locs cells slots Q (F0 m 139 ls []) := by
  intro l1 l2 l3 l4 x H locs ls  hw hW hS hl
  unfold j_Mod_against2_139 at hw
  refine lv_aload_n hx hb d_Mod_against2_139 rfl (lv_at hl 0 rfl) ?_
  refine w_getf (q := 22) (k := 30) (t := 12) (C := R_Mod) (T := F_Mod) (N := 167) hx hb hT hown hK hW ko_0.1 ko_0.2 (by decide) in_Mod rfl rfl (by decide) rfl fr_Mod_30 w_8_206 d_Mod_against2_140 rfl ?_
  refine lv_iload_n hx hb d_Mod_against2_143 rfl (lv_at hl 1 rfl) ?_
  obtain ⟨hi, hw⟩ := hw
  refine w_iald (o := 22) hx hb hK hW ko_22.1 ko_22.2 hi d_Mod_against2_144 ?_
  refine lv_aload_n hx hb d_Mod_against2_145 rfl (lv_at hl 0 rfl) ?_
  refine w_getf (q := 22) (k := 30) (t := 12) (C := R_Mod) (T := F_Mod) (N := 167) hx hb hT hown hK hW ko_0.1 ko_0.2 (by decide) in_Mod rfl rfl (by decide) rfl fr_Mod_30 w_8_206 d_Mod_against2_146 rfl ?_
  refine lv_iload_n hx hb d_Mod_against2_149 rfl (lv_at hl 2 rfl) ?_
  obtain ⟨hi, hw⟩ := hw
  refine w_iald (o := 22) hx hb hK hW ko_22.1 ko_22.2 hi d_Mod_against2_150 ?_
  refine lv_isub hx hb d_Mod_against2_151 ?_
  exact hret ((rA x 22 l1) - (rA x 22 l2)) x H locs 152 ls d_Mod_against2_152 hw hW hS
set_option maxRecDepth 100000 in
set_option maxHeartbeats 4000000 in
set_option maxRecDepth 100000 in
theorem t_Mod_against2_50 {p : Program} {l : Launch} {e : Env} {R : Room} {s : State} {m : MethodId} {args : Array Value} {below : List Frame} {meth : Method} {c : Code} {cells slots : Nat} {Q : State → Prop} {dC : Nat → ClassId} {dI : Nat → Nat → Nat} {cI cB cJ cZ : ClassId} {A : Nat → Prop} {ad : Nat → Nat} {post : Int32 → St → Prop} {rec50 : Int32 → Int32 → Int32 → Int32 → St → Prop} (hx : p.tables.exec = Jvm.exec) (hb : c.code = b_Mod_against2) (hml : c.maxLocals = 5) (hown : s.vm.findClass R_Mod = some m.cls) (hT : ∀ w ∈ TG, w.before args s = true) (hK : va_K (dC, dI) CL (TY cI cB cJ cZ) s) (hN : NW s) (hA : ∀ q : Nat, s.heap.size ≤ q → A q) (hRc : cells ≤ R.cells) (hRs : slots ≤ R.slots) (hRf : 0 ≤ R.frames) (hRl : 0 ≤ R.locals) (hret : ∀ (r : Int32) (x : St) (H : Heap) (locs : List Loc) (pc : Nat) (ls : Array Slot), decode b_Mod_against2 pc = .ok (.ireturn, 1) → post r x → Wd dC dI cI cB cJ cZ ad stM kcM 115 A x H → va_S A s.heap H locs → W p l e R s m args below meth c H locs cells slots Q (F0 m pc ls [.int r])) (hrec50 : ∀ (l1 : Int32) (l2 : Int32) (l3 : Int32) (l4 : Int32) (x : St) (H : Heap) (locs : List Loc) (ls : Array Slot), rec50 l1 l2 l3 l4 x → Wd dC dI cI cB cJ cZ ad stM kcM 115 A x H → va_S A s.heap H locs → lv_has ls 5 [(0, .ref (ad 0)), (1, .int l1), (2, .int l2), (3, .int l3), (4, .int l4)] → W p l e R s m args below meth c H locs cells slots Q (F0 m 50 ls [])) : ∀ (l1 : Int32) (l2 : Int32) (l3 : Int32) (l4 : Int32) (x : St) (H : Heap) (locs : List Loc) (ls : Array Slot), j_Mod_against2_50 post rec50 l1 l2 l3 l4 x → Wd dC dI cI cB cJ cZ ad stM kcM 115 A x H → va_S A s.heap H locs → lv_has ls 5 [(0, .ref (ad 0)), (1, .int l1), (2, .int l2), (3, .int l3), (4, .int l4)] → W p l e R s m args below meth c H locs cells slots Q (F0 m 50 ls []) := by
  intro l1 l2 l3 l4 x H locs ls  hw hW hS hl
  unfold j_Mod_against2_50 at hw
  refine lv_iload hx hb d_Mod_against2_50 (lv_at hl 4 rfl) ?_
  refine lv_aload_n hx hb d_Mod_against2_52 rfl (lv_at hl 0 rfl) ?_
  refine w_getf (q := 22) (k := 30) (t := 12) (C := R_Mod) (T := F_Mod) (N := 167) hx hb hT hown hK hW ko_0.1 ko_0.2 (by decide) in_Mod rfl rfl (by decide) rfl fr_Mod_30 w_8_206 d_Mod_against2_53 rfl ?_
  refine lv_iload_n hx hb d_Mod_against2_56 rfl (lv_at hl 1 rfl) ?_
  obtain ⟨hi, hw⟩ := hw
  refine w_iald (o := 22) hx hb hK hW ko_22.1 ko_22.2 hi d_Mod_against2_57 ?_
  refine lv_icmp_ge (tgt := 139) hx hb d_Mod_against2_58 (by decide) (fun c805 => ?_) (fun c805 => ?_)
  · have hw := hw.1 c805
    exact t_Mod_against2_139 hx hb hml hown hT hK hN hA hRc hRs hRf hRl hret  l1 l2 l3 l4 x H locs ls  hw hW hS (lv_sub hl [0, 1, 2, 3, 4] rfl)
  · have hw := hw.2 c805
    refine lv_iload hx hb d_Mod_against2_61 (lv_at hl 4 rfl) ?_
    refine lv_aload_n hx hb d_Mod_against2_63 rfl (lv_at hl 0 rfl) ?_
    refine w_getf (q := 22) (k := 30) (t := 12) (C := R_Mod) (T := F_Mod) (N := 167) hx hb hT hown hK hW ko_0.1 ko_0.2 (by decide) in_Mod rfl rfl (by decide) rfl fr_Mod_30 w_8_206 d_Mod_against2_64 rfl ?_
    refine lv_iload_n hx hb d_Mod_against2_67 rfl (lv_at hl 2 rfl) ?_
    obtain ⟨hi, hw⟩ := hw
    refine w_iald (o := 22) hx hb hK hW ko_22.1 ko_22.2 hi d_Mod_against2_68 ?_
    refine lv_icmp_ge (tgt := 139) hx hb d_Mod_against2_69 (by decide) (fun c806 => ?_) (fun c806 => ?_)
    · have hw := hw.1 c806
      exact t_Mod_against2_139 hx hb hml hown hT hK hN hA hRc hRs hRf hRl hret  l1 l2 l3 l4 x H locs ls  hw hW hS (lv_sub hl [0, 1, 2, 3, 4] rfl)
    · have hw := hw.2 c806
      refine lv_aload_n hx hb d_Mod_against2_72 rfl (lv_at hl 0 rfl) ?_
      refine w_getf (q := 24) (k := 32) (t := 12) (C := R_Mod) (T := F_Mod) (N := 167) hx hb hT hown hK hW ko_0.1 ko_0.2 (by decide) in_Mod rfl rfl (by decide) rfl fr_Mod_32 w_8_208 d_Mod_against2_73 rfl ?_
      refine lv_aload_n hx hb d_Mod_against2_76 rfl (lv_at hl 0 rfl) ?_
      refine w_getf (q := 21) (k := 29) (t := 12) (C := R_Mod) (T := F_Mod) (N := 167) hx hb hT hown hK hW ko_0.1 ko_0.2 (by decide) in_Mod rfl rfl (by decide) rfl fr_Mod_29 w_8_205 d_Mod_against2_77 rfl ?_
      refine lv_iload_n hx hb d_Mod_against2_80 rfl (lv_at hl 1 rfl) ?_
      obtain ⟨hi, hw⟩ := hw
      refine w_iald (o := 21) hx hb hK hW ko_21.1 ko_21.2 hi d_Mod_against2_81 ?_
      refine lv_iload hx hb d_Mod_against2_82 (lv_at hl 4 rfl) ?_
      refine lv_iadd hx hb d_Mod_against2_84 ?_
      obtain ⟨hi, hw⟩ := hw
      refine w_iald (o := 24) hx hb hK hW ko_24.1 ko_24.2 hi d_Mod_against2_85 ?_
      refine lv_aload_n hx hb d_Mod_against2_86 rfl (lv_at hl 0 rfl) ?_
      refine w_getf (q := 24) (k := 32) (t := 12) (C := R_Mod) (T := F_Mod) (N := 167) hx hb hT hown hK hW ko_0.1 ko_0.2 (by decide) in_Mod rfl rfl (by decide) rfl fr_Mod_32 w_8_208 d_Mod_against2_87 rfl ?_
      refine lv_aload_n hx hb d_Mod_against2_90 rfl (lv_at hl 0 rfl) ?_
      refine w_getf (q := 21) (k := 29) (t := 12) (C := R_Mod) (T := F_Mod) (N := 167) hx hb hT hown hK hW ko_0.1 ko_0.2 (by decide) in_Mod rfl rfl (by decide) rfl fr_Mod_29 w_8_205 d_Mod_against2_91 rfl ?_
      refine lv_iload_n hx hb d_Mod_against2_94 rfl (lv_at hl 2 rfl) ?_
      obtain ⟨hi, hw⟩ := hw
      refine w_iald (o := 21) hx hb hK hW ko_21.1 ko_21.2 hi d_Mod_against2_95 ?_
      refine lv_iload hx hb d_Mod_against2_96 (lv_at hl 4 rfl) ?_
      refine lv_iadd hx hb d_Mod_against2_98 ?_
      obtain ⟨hi, hw⟩ := hw
      refine w_iald (o := 24) hx hb hK hW ko_24.1 ko_24.2 hi d_Mod_against2_99 ?_
      refine lv_icmp_eq (tgt := 133) hx hb d_Mod_against2_100 (by decide) (fun c807 => ?_) (fun c807 => ?_)
      · have hw := hw.1 c807
        refine lv_iinc (v := (l4 + 1)) (lv' := [(4, .int (l4 + 1)), (0, .ref (ad 0)), (1, .int l1), (2, .int l2), (3, .int l3)]) hx hb d_Mod_against2_133 hl (k := 4) rfl rfl (by decide) rfl (fun ls hl => ?_)
        refine lv_goto (tgt := 50) hx hb d_Mod_against2_136 (by decide) ?_
        exact hrec50 l1 l2 l3 (l4 + 1) x H locs ls  hw hW hS (lv_sub hl [1, 2, 3, 4, 0] rfl)
      · have hw := hw.2 c807
        refine lv_aload_n hx hb d_Mod_against2_103 rfl (lv_at hl 0 rfl) ?_
        refine w_getf (q := 24) (k := 32) (t := 12) (C := R_Mod) (T := F_Mod) (N := 167) hx hb hT hown hK hW ko_0.1 ko_0.2 (by decide) in_Mod rfl rfl (by decide) rfl fr_Mod_32 w_8_208 d_Mod_against2_104 rfl ?_
        refine lv_aload_n hx hb d_Mod_against2_107 rfl (lv_at hl 0 rfl) ?_
        refine w_getf (q := 21) (k := 29) (t := 12) (C := R_Mod) (T := F_Mod) (N := 167) hx hb hT hown hK hW ko_0.1 ko_0.2 (by decide) in_Mod rfl rfl (by decide) rfl fr_Mod_29 w_8_205 d_Mod_against2_108 rfl ?_
        refine lv_iload_n hx hb d_Mod_against2_111 rfl (lv_at hl 1 rfl) ?_
        obtain ⟨hi, hw⟩ := hw
        refine w_iald (o := 21) hx hb hK hW ko_21.1 ko_21.2 hi d_Mod_against2_112 ?_
        refine lv_iload hx hb d_Mod_against2_113 (lv_at hl 4 rfl) ?_
        refine lv_iadd hx hb d_Mod_against2_115 ?_
        obtain ⟨hi, hw⟩ := hw
        refine w_iald (o := 24) hx hb hK hW ko_24.1 ko_24.2 hi d_Mod_against2_116 ?_
        refine lv_aload_n hx hb d_Mod_against2_117 rfl (lv_at hl 0 rfl) ?_
        refine w_getf (q := 24) (k := 32) (t := 12) (C := R_Mod) (T := F_Mod) (N := 167) hx hb hT hown hK hW ko_0.1 ko_0.2 (by decide) in_Mod rfl rfl (by decide) rfl fr_Mod_32 w_8_208 d_Mod_against2_118 rfl ?_
        refine lv_aload_n hx hb d_Mod_against2_121 rfl (lv_at hl 0 rfl) ?_
        refine w_getf (q := 21) (k := 29) (t := 12) (C := R_Mod) (T := F_Mod) (N := 167) hx hb hT hown hK hW ko_0.1 ko_0.2 (by decide) in_Mod rfl rfl (by decide) rfl fr_Mod_29 w_8_205 d_Mod_against2_122 rfl ?_
        refine lv_iload_n hx hb d_Mod_against2_125 rfl (lv_at hl 2 rfl) ?_
        obtain ⟨hi, hw⟩ := hw
        refine w_iald (o := 21) hx hb hK hW ko_21.1 ko_21.2 hi d_Mod_against2_126 ?_
        refine lv_iload hx hb d_Mod_against2_127 (lv_at hl 4 rfl) ?_
        refine lv_iadd hx hb d_Mod_against2_129 ?_
        obtain ⟨hi, hw⟩ := hw
        refine w_iald (o := 24) hx hb hK hW ko_24.1 ko_24.2 hi d_Mod_against2_130 ?_
        refine lv_isub hx hb d_Mod_against2_131 ?_
        exact hret ((rA x 24 ((rA x 21 l1) + l4)) - (rA x 24 ((rA x 21 l2) + l4))) x H locs 132 ls d_Mod_against2_132 hw hW hS
set_option maxHeartbeats 4000000 in
set_option maxRecDepth 100000 in
theorem tl_Mod_against2_50 {p : Program} {l : Launch} {e : Env} {R : Room} {s : State} {m : MethodId} {args : Array Value} {below : List Frame} {meth : Method} {c : Code} {cells slots : Nat} {Q : State → Prop} {dC : Nat → ClassId} {dI : Nat → Nat → Nat} {cI cB cJ cZ : ClassId} {A : Nat → Prop} {ad : Nat → Nat} {post : Int32 → St → Prop} (hx : p.tables.exec = Jvm.exec) (hb : c.code = b_Mod_against2) (hml : c.maxLocals = 5) (hown : s.vm.findClass R_Mod = some m.cls) (hT : ∀ w ∈ TG, w.before args s = true) (hK : va_K (dC, dI) CL (TY cI cB cJ cZ) s) (hN : NW s) (hA : ∀ q : Nat, s.heap.size ≤ q → A q) (hRc : cells ≤ R.cells) (hRs : slots ≤ R.slots) (hRf : 0 ≤ R.frames) (hRl : 0 ≤ R.locals) (hret : ∀ (r : Int32) (x : St) (H : Heap) (locs : List Loc) (pc : Nat) (ls : Array Slot), decode b_Mod_against2 pc = .ok (.ireturn, 1) → post r x → Wd dC dI cI cB cJ cZ ad stM kcM 115 A x H → va_S A s.heap H locs → W p l e R s m args below meth c H locs cells slots Q (F0 m pc ls [.int r]))  : ∀ n : Nat, ∀ (l1 : Int32) (l2 : Int32) (l3 : Int32) (l4 : Int32) (x : St) (H : Heap) (locs : List Loc) (ls : Array Slot), wl_Mod_against2_50 post n l1 l2 l3 l4 x → Wd dC dI cI cB cJ cZ ad stM kcM 115 A x H → va_S A s.heap H locs → lv_has ls 5 [(0, .ref (ad 0)), (1, .int l1), (2, .int l2), (3, .int l3), (4, .int l4)] → W p l e R s m args below meth c H locs cells slots Q (F0 m 50 ls []) := by
  intro n
  induction n with
  | zero => intro l1 l2 l3 l4 x H locs ls  hw; exact hw.elim
  | succ n ih => intro l1 l2 l3 l4 x H locs ls  hw hW hS hl; exact t_Mod_against2_50 hx hb hml hown hT hK hN hA hRc hRs hRf hRl hret  ih l1 l2 l3 l4 x H locs ls  hw hW hS hl
set_option maxRecDepth 100000 in
set_option maxHeartbeats 4000000 in
set_option maxRecDepth 100000 in
theorem t_Mod_against2_e {p : Program} {l : Launch} {e : Env} {R : Room} {s : State} {m : MethodId} {args : Array Value} {below : List Frame} {meth : Method} {c : Code} {cells slots : Nat} {Q : State → Prop} {dC : Nat → ClassId} {dI : Nat → Nat → Nat} {cI cB cJ cZ : ClassId} {A : Nat → Prop} {ad : Nat → Nat} {post : Int32 → St → Prop} (hx : p.tables.exec = Jvm.exec) (hb : c.code = b_Mod_against2) (hml : c.maxLocals = 5) (hown : s.vm.findClass R_Mod = some m.cls) (hT : ∀ w ∈ TG, w.before args s = true) (hK : va_K (dC, dI) CL (TY cI cB cJ cZ) s) (hN : NW s) (hA : ∀ q : Nat, s.heap.size ≤ q → A q) (hRc : cells ≤ R.cells) (hRs : slots ≤ R.slots) (hRf : 0 ≤ R.frames) (hRl : 0 ≤ R.locals) (hret : ∀ (r : Int32) (x : St) (H : Heap) (locs : List Loc) (pc : Nat) (ls : Array Slot), decode b_Mod_against2 pc = .ok (.ireturn, 1) → post r x → Wd dC dI cI cB cJ cZ ad stM kcM 115 A x H → va_S A s.heap H locs → W p l e R s m args below meth c H locs cells slots Q (F0 m pc ls [.int r])) : ∀ (l1 : Int32) (l2 : Int32) (l3 : Int32) (x : St) (H : Heap) (locs : List Loc) (ls : Array Slot), wp_Mod_against2 post l1 l2 l3 x → Wd dC dI cI cB cJ cZ ad stM kcM 115 A x H → va_S A s.heap H locs → lv_has ls 5 [(0, .ref (ad 0)), (1, .int l1), (2, .int l2), (3, .int l3)] → W p l e R s m args below meth c H locs cells slots Q (F0 m 0 ls []) := by
  intro l1 l2 l3 x H locs ls  hw hW hS hl
  unfold wp_Mod_against2 at hw
  refine lv_iload_n hx hb d_Mod_against2_0 rfl (lv_at hl 3 rfl) ?_
  refine lv_iconst (v := 3) hx hb d_Mod_against2_1 (by decide) ?_
  refine lv_icmp_eq (tgt := 47) hx hb d_Mod_against2_2 (by decide) (fun c808 => ?_) (fun c808 => ?_)
  · have hw := hw.1 c808
    refine lv_iconst (v := 0) hx hb d_Mod_against2_47 (by decide) ?_
    refine lv_istore (lv' := [(4, .int 0), (0, .ref (ad 0)), (1, .int l1), (2, .int l2), (3, .int l3)]) hx hb d_Mod_against2_48 hl (by decide) rfl (fun ls hl => ?_)
    obtain ⟨n, hw⟩ := hw
    exact tl_Mod_against2_50 hx hb hml hown hT hK hN hA hRc hRs hRf hRl hret  n l1 l2 l3 0 x H locs ls  hw hW hS (lv_sub hl [1, 2, 3, 4, 0] rfl)
  · have hw := hw.2 c808
    refine lv_aload_n hx hb d_Mod_against2_5 rfl (lv_at hl 0 rfl) ?_
    refine w_getf (q := 25) (k := 33) (t := 12) (C := R_Mod) (T := F_Mod) (N := 167) hx hb hT hown hK hW ko_0.1 ko_0.2 (by decide) in_Mod rfl rfl (by decide) rfl fr_Mod_33 w_8_209 d_Mod_against2_6 rfl ?_
    refine lv_iload_n hx hb d_Mod_against2_9 rfl (lv_at hl 1 rfl) ?_
    obtain ⟨hi, hw⟩ := hw
    refine w_lald (o := 25) hx hb hK hW ko_25.1 ko_25.2 hi d_Mod_against2_10 ?_
    refine lv_aload_n hx hb d_Mod_against2_11 rfl (lv_at hl 0 rfl) ?_
    refine w_getf (q := 25) (k := 33) (t := 12) (C := R_Mod) (T := F_Mod) (N := 167) hx hb hT hown hK hW ko_0.1 ko_0.2 (by decide) in_Mod rfl rfl (by decide) rfl fr_Mod_33 w_8_209 d_Mod_against2_12 rfl ?_
    refine lv_iload_n hx hb d_Mod_against2_15 rfl (lv_at hl 2 rfl) ?_
    obtain ⟨hi, hw⟩ := hw
    refine w_lald (o := 25) hx hb hK hW ko_25.1 ko_25.2 hi d_Mod_against2_16 ?_
    refine W.lcmp hx hb d_Mod_against2_17 ?_
    refine lv_if_ge (tgt := 25) hx hb d_Mod_against2_18 (by decide) (fun c809 => ?_) (fun c809 => ?_)
    · have hw := hw.1 c809
      refine lv_aload_n hx hb d_Mod_against2_25 rfl (lv_at hl 0 rfl) ?_
      refine w_getf (q := 25) (k := 33) (t := 12) (C := R_Mod) (T := F_Mod) (N := 167) hx hb hT hown hK hW ko_0.1 ko_0.2 (by decide) in_Mod rfl rfl (by decide) rfl fr_Mod_33 w_8_209 d_Mod_against2_26 rfl ?_
      refine lv_iload_n hx hb d_Mod_against2_29 rfl (lv_at hl 1 rfl) ?_
      obtain ⟨hi, hw⟩ := hw
      refine w_lald (o := 25) hx hb hK hW ko_25.1 ko_25.2 hi d_Mod_against2_30 ?_
      refine lv_aload_n hx hb d_Mod_against2_31 rfl (lv_at hl 0 rfl) ?_
      refine w_getf (q := 25) (k := 33) (t := 12) (C := R_Mod) (T := F_Mod) (N := 167) hx hb hT hown hK hW ko_0.1 ko_0.2 (by decide) in_Mod rfl rfl (by decide) rfl fr_Mod_33 w_8_209 d_Mod_against2_32 rfl ?_
      refine lv_iload_n hx hb d_Mod_against2_35 rfl (lv_at hl 2 rfl) ?_
      obtain ⟨hi, hw⟩ := hw
      refine w_lald (o := 25) hx hb hK hW ko_25.1 ko_25.2 hi d_Mod_against2_36 ?_
      refine W.lcmp hx hb d_Mod_against2_37 ?_
      refine lv_if_le (tgt := 45) hx hb d_Mod_against2_38 (by decide) (fun c810 => ?_) (fun c810 => ?_)
      · have hw := hw.1 c810
        refine lv_iconst (v := 0) hx hb d_Mod_against2_45 (by decide) ?_
        exact hret 0 x H locs 46 ls d_Mod_against2_46 hw hW hS
      · have hw := hw.2 c810
        refine lv_iconst (v := 1) hx hb d_Mod_against2_41 (by decide) ?_
        refine lv_goto (tgt := 46) hx hb d_Mod_against2_42 (by decide) ?_
        exact hret 1 x H locs 46 ls d_Mod_against2_46 hw hW hS
    · have hw := hw.2 c809
      refine lv_iconst (v := (-1)) hx hb d_Mod_against2_21 (by decide) ?_
      refine lv_goto (tgt := 46) hx hb d_Mod_against2_22 (by decide) ?_
      exact hret (-1) x H locs 46 ls d_Mod_against2_46 hw hW hS
set_option maxHeartbeats 4000000 in
set_option maxRecDepth 100000 in
theorem k_Mod_against2 (l : Launch) (dC : Nat → ClassId) (dI : Nat → Nat → Nat) (cI cB cJ cZ : ClassId) (ad : Nat → Nat) (sz : Nat) (l1 : Int32) (l2 : Int32) (l3 : Int32) (x : St) {post : Int32 → St → Prop} (hw : wp_Mod_against2 post l1 l2 l3 x) : Met l y_Mod_against2 (wsOf y_Mod_against2 b_Mod_against2 5 (some (.int))) ({ frames := 0, cells := 0, slots := 0, locals := 0 }) (va_Pc [.ref (ad 0), .int l1, .int l2, .int l3] (PW dC dI cI cB cJ cZ ad stM kcM 115 sz x)) (va_Qi (fun (r : Int32) (y : St) => post r y) (fun y t => Wd dC dI cI cB cJ cZ ad stM kcM 115 (va_A (pic ad stM kcM 115 cI cB cJ cZ x) sz) y t.heap) (va_A (pic ad stM kcM 115 cI cB cJ cZ x) sz)) 0 0 (va_A (pic ad stM kcM 115 cI cB cJ cZ x) sz) := by
  refine Met.ofW (cc := b_Mod_against2) (maxL := 5) (ret := some (.int)) (by decide) rfl ?_
  intro p e s m args below meth c s₁ B hml hv
  obtain ⟨rfl, hsz, hW0, hK, hN⟩ := hv
  have hx := B.exec
  have hb := B.bytes
  have hr := B.returns
  have hts := atoms_spec B.pre
  have hT : ∀ w ∈ TG, w.before _ s = true := fun w h => hts w (List.mem_cons_of_mem _ h)
  have hown : s.vm.findClass R_Mod = some m.cls := findClass_of_methodNamed B.named
  have hlocks := B.notSynchronized
  subst hsz
  have hW : Wd dC dI cI cB cJ cZ ad stM kcM 115 (va_A (pic ad stM kcM 115 cI cB cJ cZ x) s.heap.size) x s.heap := ⟨hW0.1, hW0.2.1.self (sz := s.heap.size), hW0.2.2⟩
  generalize hAe : va_A (pic ad stM kcM 115 cI cB cJ cZ x) s.heap.size = A at hW ⊢
  have hA : ∀ q : Nat, s.heap.size ≤ q → A q := fun q h => by rw [← hAe]; exact Or.inr h
  have hS : va_S A s.heap s.heap [] := va_S.rf
  have hl := lv_entry ([.ref (ad 0), .int l1, .int l2, .int l3]) (n := 5) (Nat.le_of_ble_eq_true rfl)
  rw [lg_entry_eq]
  generalize (lg_sl ([.ref (ad 0), .int l1, .int l2, .int l3]) ++ List.replicate (5 - (lg_sl ([.ref (ad 0), .int l1, .int l2, .int l3])).length) Slot.unset).toArray = ls at hl ⊢
  have hl : lv_has ls 5 [(0, .ref (ad 0)), (1, .int l1), (2, .int l2), (3, .int l3)] := hl
  exact t_Mod_against2_e hx hb hml hown hT hK hN hA (Nat.le_refl 0) (Nat.le_refl 0) (Nat.le_refl 0) (Nat.le_refl 0) (fun r x H locs pc ls hd hp hW hS => W.iret (v := r) hx hb hr (fun t ht hM => ⟨⟨r, x, rfl, hp, Wd.back hW ht.symm (fun _ z => z)⟩, hS.F ht⟩) hS.2.2 hd hlocks)  l1 l2 l3 x _ _ ls  hw hW hS hl
set_option maxRecDepth 100000 in
set_option maxHeartbeats 4000000 in
set_option maxRecDepth 100000 in
theorem t_Mod_putEntry_52 {p : Program} {l : Launch} {e : Env} {R : Room} {s : State} {m : MethodId} {args : Array Value} {below : List Frame} {meth : Method} {c : Code} {cells slots : Nat} {Q : State → Prop} {dC : Nat → ClassId} {dI : Nat → Nat → Nat} {cI cB cJ cZ : ClassId} {A : Nat → Prop} {ad : Nat → Nat} {post : St → Prop} {rec52 : Int32 → Int32 → Int32 → St → Prop} (hx : p.tables.exec = Jvm.exec) (hb : c.code = b_Mod_putEntry) (hml : c.maxLocals = 4) (hown : s.vm.findClass R_Mod = some m.cls) (hT : ∀ w ∈ TG, w.before args s = true) (hK : va_K (dC, dI) CL (TY cI cB cJ cZ) s) (hN : NW s) (hA : ∀ q : Nat, s.heap.size ≤ q → A q) (hRc : cells ≤ R.cells) (hRs : slots ≤ R.slots) (hRf : 2 ≤ R.frames) (hRl : 45 ≤ R.locals) (hret : ∀ (x : St) (H : Heap) (locs : List Loc) (pc : Nat) (ls : Array Slot), decode b_Mod_putEntry pc = .ok (.return_, 1) → post x → Wd dC dI cI cB cJ cZ ad stM kcM 115 A x H → va_S A s.heap H locs → W p l e R s m args below meth c H locs cells slots Q (F0 m pc ls [])) (hrec52 : ∀ (l1 : Int32) (l2 : Int32) (l3 : Int32) (x : St) (H : Heap) (locs : List Loc) (ls : Array Slot), rec52 l1 l2 l3 x → Wd dC dI cI cB cJ cZ ad stM kcM 115 A x H → va_S A s.heap H locs → lv_has ls 4 [(0, .ref (ad 0)), (1, .int l1), (2, .int l2), (3, .int l3)] → W p l e R s m args below meth c H locs cells slots Q (F0 m 52 ls [])) : ∀ (l1 : Int32) (l2 : Int32) (l3 : Int32) (x : St) (H : Heap) (locs : List Loc) (ls : Array Slot), j_Mod_putEntry_52 post rec52 l1 l2 l3 x → Wd dC dI cI cB cJ cZ ad stM kcM 115 A x H → va_S A s.heap H locs → lv_has ls 4 [(0, .ref (ad 0)), (1, .int l1), (2, .int l2), (3, .int l3)] → W p l e R s m args below meth c H locs cells slots Q (F0 m 52 ls []) := by
  intro l1 l2 l3 x H locs ls  hw hW hS hl
  unfold j_Mod_putEntry_52 at hw
  refine lv_iload_n hx hb d_Mod_putEntry_52 rfl (lv_at hl 3 rfl) ?_
  refine lv_aload_n hx hb d_Mod_putEntry_53 rfl (lv_at hl 0 rfl) ?_
  refine w_getf (q := 22) (k := 30) (t := 12) (C := R_Mod) (T := F_Mod) (N := 167) hx hb hT hown hK hW ko_0.1 ko_0.2 (by decide) in_Mod rfl rfl (by decide) rfl fr_Mod_30 w_8_206 d_Mod_putEntry_54 rfl ?_
  refine lv_iload_n hx hb d_Mod_putEntry_57 rfl (lv_at hl 1 rfl) ?_
  obtain ⟨hi, hw⟩ := hw
  refine w_iald (o := 22) hx hb hK hW ko_22.1 ko_22.2 hi d_Mod_putEntry_58 ?_
  refine lv_icmp_ge (tgt := 85) hx hb d_Mod_putEntry_59 (by decide) (fun c811 => ?_) (fun c811 => ?_)
  · have hw := hw.1 c811
    exact hret x H locs 85 ls d_Mod_putEntry_85 hw hW hS
  · have hw := hw.2 c811
    refine lv_aload_n hx hb d_Mod_putEntry_62 rfl (lv_at hl 0 rfl) ?_
    refine lv_aload_n hx hb d_Mod_putEntry_63 rfl (lv_at hl 0 rfl) ?_
    refine w_getf (q := 24) (k := 32) (t := 12) (C := R_Mod) (T := F_Mod) (N := 167) hx hb hT hown hK hW ko_0.1 ko_0.2 (by decide) in_Mod rfl rfl (by decide) rfl fr_Mod_32 w_8_208 d_Mod_putEntry_64 rfl ?_
    refine lv_aload_n hx hb d_Mod_putEntry_67 rfl (lv_at hl 0 rfl) ?_
    refine w_getf (q := 21) (k := 29) (t := 12) (C := R_Mod) (T := F_Mod) (N := 167) hx hb hT hown hK hW ko_0.1 ko_0.2 (by decide) in_Mod rfl rfl (by decide) rfl fr_Mod_29 w_8_205 d_Mod_putEntry_68 rfl ?_
    refine lv_iload_n hx hb d_Mod_putEntry_71 rfl (lv_at hl 1 rfl) ?_
    obtain ⟨hi, hw⟩ := hw
    refine w_iald (o := 21) hx hb hK hW ko_21.1 ko_21.2 hi d_Mod_putEntry_72 ?_
    refine lv_iload_n hx hb d_Mod_putEntry_73 rfl (lv_at hl 3 rfl) ?_
    refine lv_iadd hx hb d_Mod_putEntry_74 ?_
    obtain ⟨hi, hw⟩ := hw
    refine w_iald (o := 24) hx hb hK hW ko_24.1 ko_24.2 hi d_Mod_putEntry_75 ?_
    have hF := hW.free hS hA
    refine va_callv (va_runV (C := R_Mod) (As := [.int (rA x 24 ((rA x 21 l1) + l3))]) (rest := []) ⟨hx, hb, hml, hown, hT⟩ (k_Mod_put l dC dI cI cB cJ cZ ad H.size (rA x 24 ((rA x 21 l1) + l3)) x  hw) ⟨callB_of 1 hT (gwt_in w_11_199) rfl rfl rfl (hT _ w_1_15) (hT _ w_11_196) (by decide +kernel) ⟨Nat.le_trans (Nat.le_of_ble_eq_true rfl) hRf, Nat.le_trans (Nat.le_of_ble_eq_true rfl) hRl⟩, hT _ w_11_198, hT _ ws_153⟩ ⟨PW.blind, va_recv hK hW.1 (ci := 12) (q0 := 0) rfl (pic_obj ko_0.1 ko_0.2 (by decide)), PW.at _ hW hK hN⟩ rfl rfl hl.1 rfl (lv_room (Nat.le_of_ble_eq_true rfl)) d_Mod_putEntry_76 ⟨hRc, hRs⟩) hS (fun q _ h => hF q h) hF (fun  x812 t H locs ht hvm hw hB hz1 hk1 hS => ?_)
    have hW := Wd.back hB ht hF
    clear hB ht hF hz1 hk1 hvm
    refine lv_iinc (v := (l3 + 1)) (lv' := [(3, .int (l3 + 1)), (0, .ref (ad 0)), (1, .int l1), (2, .int l2)]) hx hb d_Mod_putEntry_79 hl (k := 3) rfl rfl (by decide) rfl (fun ls hl => ?_)
    refine lv_goto (tgt := 52) hx hb d_Mod_putEntry_82 (by decide) ?_
    exact hrec52 l1 l2 (l3 + 1) x812 H locs ls  hw hW hS (lv_sub hl [1, 2, 3, 0] rfl)
set_option maxHeartbeats 4000000 in
set_option maxRecDepth 100000 in
theorem tl_Mod_putEntry_52 {p : Program} {l : Launch} {e : Env} {R : Room} {s : State} {m : MethodId} {args : Array Value} {below : List Frame} {meth : Method} {c : Code} {cells slots : Nat} {Q : State → Prop} {dC : Nat → ClassId} {dI : Nat → Nat → Nat} {cI cB cJ cZ : ClassId} {A : Nat → Prop} {ad : Nat → Nat} {post : St → Prop} (hx : p.tables.exec = Jvm.exec) (hb : c.code = b_Mod_putEntry) (hml : c.maxLocals = 4) (hown : s.vm.findClass R_Mod = some m.cls) (hT : ∀ w ∈ TG, w.before args s = true) (hK : va_K (dC, dI) CL (TY cI cB cJ cZ) s) (hN : NW s) (hA : ∀ q : Nat, s.heap.size ≤ q → A q) (hRc : cells ≤ R.cells) (hRs : slots ≤ R.slots) (hRf : 2 ≤ R.frames) (hRl : 45 ≤ R.locals) (hret : ∀ (x : St) (H : Heap) (locs : List Loc) (pc : Nat) (ls : Array Slot), decode b_Mod_putEntry pc = .ok (.return_, 1) → post x → Wd dC dI cI cB cJ cZ ad stM kcM 115 A x H → va_S A s.heap H locs → W p l e R s m args below meth c H locs cells slots Q (F0 m pc ls []))  : ∀ n : Nat, ∀ (l1 : Int32) (l2 : Int32) (l3 : Int32) (x : St) (H : Heap) (locs : List Loc) (ls : Array Slot), wl_Mod_putEntry_52 post n l1 l2 l3 x → Wd dC dI cI cB cJ cZ ad stM kcM 115 A x H → va_S A s.heap H locs → lv_has ls 4 [(0, .ref (ad 0)), (1, .int l1), (2, .int l2), (3, .int l3)] → W p l e R s m args below meth c H locs cells slots Q (F0 m 52 ls []) := by
  intro n
  induction n with
  | zero => intro l1 l2 l3 x H locs ls  hw; exact hw.elim
  | succ n ih => intro l1 l2 l3 x H locs ls  hw hW hS hl; exact t_Mod_putEntry_52 hx hb hml hown hT hK hN hA hRc hRs hRf hRl hret  ih l1 l2 l3 x H locs ls  hw hW hS hl
set_option maxRecDepth 100000 in
set_option maxHeartbeats 4000000 in
set_option maxRecDepth 100000 in
theorem t_Mod_putEntry_e {p : Program} {l : Launch} {e : Env} {R : Room} {s : State} {m : MethodId} {args : Array Value} {below : List Frame} {meth : Method} {c : Code} {cells slots : Nat} {Q : State → Prop} {dC : Nat → ClassId} {dI : Nat → Nat → Nat} {cI cB cJ cZ : ClassId} {A : Nat → Prop} {ad : Nat → Nat} {post : St → Prop} (hx : p.tables.exec = Jvm.exec) (hb : c.code = b_Mod_putEntry) (hml : c.maxLocals = 4) (hown : s.vm.findClass R_Mod = some m.cls) (hT : ∀ w ∈ TG, w.before args s = true) (hK : va_K (dC, dI) CL (TY cI cB cJ cZ) s) (hN : NW s) (hA : ∀ q : Nat, s.heap.size ≤ q → A q) (hRc : cells ≤ R.cells) (hRs : slots ≤ R.slots) (hRf : 2 ≤ R.frames) (hRl : 45 ≤ R.locals) (hret : ∀ (x : St) (H : Heap) (locs : List Loc) (pc : Nat) (ls : Array Slot), decode b_Mod_putEntry pc = .ok (.return_, 1) → post x → Wd dC dI cI cB cJ cZ ad stM kcM 115 A x H → va_S A s.heap H locs → W p l e R s m args below meth c H locs cells slots Q (F0 m pc ls [])) : ∀ (l1 : Int32) (l2 : Int32) (x : St) (H : Heap) (locs : List Loc) (ls : Array Slot), wp_Mod_putEntry post l1 l2 x → Wd dC dI cI cB cJ cZ ad stM kcM 115 A x H → va_S A s.heap H locs → lv_has ls 4 [(0, .ref (ad 0)), (1, .int l1), (2, .int l2)] → W p l e R s m args below meth c H locs cells slots Q (F0 m 0 ls []) := by
  intro l1 l2 x H locs ls  hw hW hS hl
  unfold wp_Mod_putEntry at hw
  refine lv_iload_n hx hb d_Mod_putEntry_0 rfl (lv_at hl 2 rfl) ?_
  refine lv_if_ne (tgt := 18) hx hb d_Mod_putEntry_1 (by decide) (fun c813 => ?_) (fun c813 => ?_)
  · have hw := hw.1 c813
    refine lv_iload_n hx hb d_Mod_putEntry_18 rfl (lv_at hl 2 rfl) ?_
    refine lv_iconst (v := 3) hx hb d_Mod_putEntry_19 (by decide) ?_
    refine lv_icmp_eq (tgt := 39) hx hb d_Mod_putEntry_20 (by decide) (fun c814 => ?_) (fun c814 => ?_)
    · have hw := hw.1 c814
      refine lv_aload_n hx hb d_Mod_putEntry_39 rfl (lv_at hl 0 rfl) ?_
      refine lv_aload_n hx hb d_Mod_putEntry_40 rfl (lv_at hl 0 rfl) ?_
      refine w_getf (q := 22) (k := 30) (t := 12) (C := R_Mod) (T := F_Mod) (N := 167) hx hb hT hown hK hW ko_0.1 ko_0.2 (by decide) in_Mod rfl rfl (by decide) rfl fr_Mod_30 w_8_206 d_Mod_putEntry_41 rfl ?_
      refine lv_iload_n hx hb d_Mod_putEntry_44 rfl (lv_at hl 1 rfl) ?_
      obtain ⟨hi, hw⟩ := hw
      refine w_iald (o := 22) hx hb hK hW ko_22.1 ko_22.2 hi d_Mod_putEntry_45 ?_
      refine lv_i2l hx hb d_Mod_putEntry_46 rfl ?_
      have hF := hW.free hS hA
      refine va_callv (va_runV (C := R_Mod) (As := [.long ((rA x 22 l1) : Int32).toInt64]) (rest := []) ⟨hx, hb, hml, hown, hT⟩ (k_Mod_putVarint l dC dI cI cB cJ cZ ad H.size ((rA x 22 l1) : Int32).toInt64 x  hw) ⟨callB_of 1 hT (gwt_in w_11_194) rfl rfl rfl (hT _ w_1_15) (hT _ w_11_191) (by decide +kernel) ⟨Nat.le_trans (Nat.le_of_ble_eq_true rfl) hRf, Nat.le_trans (Nat.le_of_ble_eq_true rfl) hRl⟩, hT _ w_11_193, hT _ ws_152⟩ ⟨PW.blind, va_recv hK hW.1 (ci := 12) (q0 := 0) rfl (pic_obj ko_0.1 ko_0.2 (by decide)), PW.at _ hW hK hN⟩ rfl rfl hl.1 rfl (lv_room (Nat.le_of_ble_eq_true rfl)) d_Mod_putEntry_47 ⟨hRc, hRs⟩) hS (fun q _ h => hF q h) hF (fun  x815 t H locs ht hvm hw hB hz1 hk1 hS => ?_)
      have hW := Wd.back hB ht hF
      clear hB ht hF hz1 hk1 hvm
      refine lv_iconst (v := 0) hx hb d_Mod_putEntry_50 (by decide) ?_
      refine lv_istore_n (lv' := [(3, .int 0), (0, .ref (ad 0)), (1, .int l1), (2, .int l2)]) hx hb d_Mod_putEntry_51 rfl hl (by decide) rfl (fun ls hl => ?_)
      obtain ⟨n, hw⟩ := hw
      exact tl_Mod_putEntry_52 hx hb hml hown hT hK hN hA hRc hRs hRf hRl hret  n l1 l2 0 x815 H locs ls  hw hW hS (lv_sub hl [1, 2, 3, 0] rfl)
    · have hw := hw.2 c814
      refine lv_aload_n hx hb d_Mod_putEntry_23 rfl (lv_at hl 0 rfl) ?_
      refine lv_aload_n hx hb d_Mod_putEntry_24 rfl (lv_at hl 0 rfl) ?_
      refine w_getf (q := 25) (k := 33) (t := 12) (C := R_Mod) (T := F_Mod) (N := 167) hx hb hT hown hK hW ko_0.1 ko_0.2 (by decide) in_Mod rfl rfl (by decide) rfl fr_Mod_33 w_8_209 d_Mod_putEntry_25 rfl ?_
      refine lv_iload_n hx hb d_Mod_putEntry_28 rfl (lv_at hl 1 rfl) ?_
      obtain ⟨hi, hw⟩ := hw
      refine w_lald (o := 25) hx hb hK hW ko_25.1 ko_25.2 hi d_Mod_putEntry_29 ?_
      have hF := hW.free hS hA
      refine va_calll (va_runS (As := [.long (rL x 25 l1)]) (rest := [.ref (ad 0)]) ⟨hx, hb, hml, hown, hT⟩ (k_Mod_zigzag l dC dI cI cB cJ cZ ad H.size (rL x 25 l1) x  hw) ⟨callB_of 1 hT (gwt_in w_11_218) rfl rfl rfl (hT _ w_1_15) (hT _ w_11_216) (by decide +kernel) ⟨Nat.le_trans (Nat.le_of_ble_eq_true rfl) hRf, Nat.le_trans (Nat.le_of_ble_eq_true rfl) hRl⟩, hT _ w_11_217⟩ ⟨PW.blind, PW.at _ hW hK hN⟩ rfl rfl hl.1 rfl (lv_room (Nat.le_of_ble_eq_true rfl)) d_Mod_putEntry_30 ⟨hRc, hRs⟩) hS (fun q _ h => hF q h) hF (fun r817 x816 t H locs ht hvm hw hB hz1 hk1 hS => ?_)
      have hW := Wd.back hB ht hF
      clear hB ht hF hz1 hk1 hvm
      have hF := hW.free hS hA
      refine va_callv (va_runV (C := R_Mod) (As := [.long r817]) (rest := []) ⟨hx, hb, hml, hown, hT⟩ (k_Mod_putVarint l dC dI cI cB cJ cZ ad H.size r817 x816  hw) ⟨callB_of 1 hT (gwt_in w_11_194) rfl rfl rfl (hT _ w_1_15) (hT _ w_11_191) (by decide +kernel) ⟨Nat.le_trans (Nat.le_of_ble_eq_true rfl) hRf, Nat.le_trans (Nat.le_of_ble_eq_true rfl) hRl⟩, hT _ w_11_193, hT _ ws_152⟩ ⟨PW.blind, va_recv hK hW.1 (ci := 12) (q0 := 0) rfl (pic_obj ko_0.1 ko_0.2 (by decide)), PW.at _ hW hK hN⟩ rfl rfl hl.1 rfl (lv_room (Nat.le_of_ble_eq_true rfl)) d_Mod_putEntry_33 ⟨hRc, hRs⟩) hS (fun q _ h => hF q h) hF (fun  x818 t H locs ht hvm hw hB hz1 hk1 hS => ?_)
      have hW := Wd.back hB ht hF
      clear hB ht hF hz1 hk1 hvm
      refine lv_goto (tgt := 85) hx hb d_Mod_putEntry_36 (by decide) ?_
      exact hret x818 H locs 85 ls d_Mod_putEntry_85 hw hW hS
  · have hw := hw.2 c813
    refine lv_aload_n hx hb d_Mod_putEntry_4 rfl (lv_at hl 0 rfl) ?_
    refine lv_aload_n hx hb d_Mod_putEntry_5 rfl (lv_at hl 0 rfl) ?_
    refine w_getf (q := 25) (k := 33) (t := 12) (C := R_Mod) (T := F_Mod) (N := 167) hx hb hT hown hK hW ko_0.1 ko_0.2 (by decide) in_Mod rfl rfl (by decide) rfl fr_Mod_33 w_8_209 d_Mod_putEntry_6 rfl ?_
    refine lv_iload_n hx hb d_Mod_putEntry_9 rfl (lv_at hl 1 rfl) ?_
    obtain ⟨hi, hw⟩ := hw
    refine w_lald (o := 25) hx hb hK hW ko_25.1 ko_25.2 hi d_Mod_putEntry_10 ?_
    refine lv_l2i hx hb d_Mod_putEntry_11 rfl ?_
    have hF := hW.free hS hA
    refine va_callv (va_runV (C := R_Mod) (As := [.int ((rL x 25 l1) : Int64).toInt32]) (rest := []) ⟨hx, hb, hml, hown, hT⟩ (k_Mod_put l dC dI cI cB cJ cZ ad H.size ((rL x 25 l1) : Int64).toInt32 x  hw) ⟨callB_of 1 hT (gwt_in w_11_199) rfl rfl rfl (hT _ w_1_15) (hT _ w_11_196) (by decide +kernel) ⟨Nat.le_trans (Nat.le_of_ble_eq_true rfl) hRf, Nat.le_trans (Nat.le_of_ble_eq_true rfl) hRl⟩, hT _ w_11_198, hT _ ws_153⟩ ⟨PW.blind, va_recv hK hW.1 (ci := 12) (q0 := 0) rfl (pic_obj ko_0.1 ko_0.2 (by decide)), PW.at _ hW hK hN⟩ rfl rfl hl.1 rfl (lv_room (Nat.le_of_ble_eq_true rfl)) d_Mod_putEntry_12 ⟨hRc, hRs⟩) hS (fun q _ h => hF q h) hF (fun  x819 t H locs ht hvm hw hB hz1 hk1 hS => ?_)
    have hW := Wd.back hB ht hF
    clear hB ht hF hz1 hk1 hvm
    refine lv_goto (tgt := 85) hx hb d_Mod_putEntry_15 (by decide) ?_
    exact hret x819 H locs 85 ls d_Mod_putEntry_85 hw hW hS
set_option maxHeartbeats 4000000 in
set_option maxRecDepth 100000 in
theorem k_Mod_putEntry (l : Launch) (dC : Nat → ClassId) (dI : Nat → Nat → Nat) (cI cB cJ cZ : ClassId) (ad : Nat → Nat) (sz : Nat) (l1 : Int32) (l2 : Int32) (x : St) {post : St → Prop} (hw : wp_Mod_putEntry post l1 l2 x) : Met l y_Mod_putEntry (wsOf y_Mod_putEntry b_Mod_putEntry 4 (none)) ({ frames := 2, cells := 0, slots := 0, locals := 45 }) (va_Pc [.ref (ad 0), .int l1, .int l2] (PW dC dI cI cB cJ cZ ad stM kcM 115 sz x)) (va_Qv (fun (y : St) => post y) (fun y t => Wd dC dI cI cB cJ cZ ad stM kcM 115 (va_A (pic ad stM kcM 115 cI cB cJ cZ x) sz) y t.heap) (va_A (pic ad stM kcM 115 cI cB cJ cZ x) sz)) 0 0 (va_A (pic ad stM kcM 115 cI cB cJ cZ x) sz) := by
  refine Met.ofW (cc := b_Mod_putEntry) (maxL := 4) (ret := none) (by decide) rfl ?_
  intro p e s m args below meth c s₁ B hml hv
  obtain ⟨rfl, hsz, hW0, hK, hN⟩ := hv
  have hx := B.exec
  have hb := B.bytes
  have hr := B.returns
  have hts := atoms_spec B.pre
  have hT : ∀ w ∈ TG, w.before _ s = true := fun w h => hts w (List.mem_cons_of_mem _ h)
  have hown : s.vm.findClass R_Mod = some m.cls := findClass_of_methodNamed B.named
  have hlocks := B.notSynchronized
  subst hsz
  have hW : Wd dC dI cI cB cJ cZ ad stM kcM 115 (va_A (pic ad stM kcM 115 cI cB cJ cZ x) s.heap.size) x s.heap := ⟨hW0.1, hW0.2.1.self (sz := s.heap.size), hW0.2.2⟩
  generalize hAe : va_A (pic ad stM kcM 115 cI cB cJ cZ x) s.heap.size = A at hW ⊢
  have hA : ∀ q : Nat, s.heap.size ≤ q → A q := fun q h => by rw [← hAe]; exact Or.inr h
  have hS : va_S A s.heap s.heap [] := va_S.rf
  have hl := lv_entry ([.ref (ad 0), .int l1, .int l2]) (n := 4) (Nat.le_of_ble_eq_true rfl)
  rw [lg_entry_eq]
  generalize (lg_sl ([.ref (ad 0), .int l1, .int l2]) ++ List.replicate (4 - (lg_sl ([.ref (ad 0), .int l1, .int l2])).length) Slot.unset).toArray = ls at hl ⊢
  have hl : lv_has ls 4 [(0, .ref (ad 0)), (1, .int l1), (2, .int l2)] := hl
  exact t_Mod_putEntry_e hx hb hml hown hT hK hN hA (Nat.le_refl 0) (Nat.le_refl 0) (Nat.le_refl 2) (Nat.le_refl 45) (fun x H locs pc ls hd hp hW hS => W.vret hx hb hr (fun t ht hM => ⟨⟨x, rfl, hp, Wd.back hW ht.symm (fun _ z => z)⟩, hS.F ht⟩) hS.2.2 hd hlocks)  l1 l2 x _ _ ls  hw hW hS hl
set_option maxRecDepth 100000 in
set_option maxHeartbeats 4000000 in
set_option maxRecDepth 100000 in
theorem t_Mod_putChunk_122 {p : Program} {l : Launch} {e : Env} {R : Room} {s : State} {m : MethodId} {args : Array Value} {below : List Frame} {meth : Method} {c : Code} {cells slots : Nat} {Q : State → Prop} {dC : Nat → ClassId} {dI : Nat → Nat → Nat} {cI cB cJ cZ : ClassId} {A : Nat → Prop} {ad : Nat → Nat} {post : St → Prop} {rec25 : Int32 → Int32 → Int32 → Int32 → Int32 → Int32 → Int32 → Int32 → Int32 → St → Prop} (hx : p.tables.exec = Jvm.exec) (hb : c.code = b_Mod_putChunk) (hml : c.maxLocals = 10) (hown : s.vm.findClass R_Mod = some m.cls) (hT : ∀ w ∈ TG, w.before args s = true) (hK : va_K (dC, dI) CL (TY cI cB cJ cZ) s) (hN : NW s) (hA : ∀ q : Nat, s.heap.size ≤ q → A q) (hRc : cells ≤ R.cells) (hRs : slots ≤ R.slots) (hRf : 4 ≤ R.frames) (hRl : 90 ≤ R.locals) (hret : ∀ (x : St) (H : Heap) (locs : List Loc) (pc : Nat) (ls : Array Slot), decode b_Mod_putChunk pc = .ok (.return_, 1) → post x → Wd dC dI cI cB cJ cZ ad stM kcM 115 A x H → va_S A s.heap H locs → W p l e R s m args below meth c H locs cells slots Q (F0 m pc ls [])) (hrec25 : ∀ (l1 : Int32) (l2 : Int32) (l3 : Int32) (l4 : Int32) (l5 : Int32) (l6 : Int32) (l7 : Int32) (l8 : Int32) (l9 : Int32) (x : St) (H : Heap) (locs : List Loc) (ls : Array Slot), rec25 l1 l2 l3 l4 l5 l6 l7 l8 l9 x → Wd dC dI cI cB cJ cZ ad stM kcM 115 A x H → va_S A s.heap H locs → lv_has ls 10 [(0, .ref (ad 0)), (1, .int l1), (2, .int l2), (3, .int l3), (4, .int l4), (5, .int l5), (6, .int l6), (7, .int l7), (8, .int l8), (9, .int l9)] → W p l e R s m args below meth c H locs cells slots Q (F0 m 25 ls [])) : ∀ (l1 : Int32) (l2 : Int32) (l3 : Int32) (l4 : Int32) (l5 : Int32) (l6 : Int32) (l7 : Int32) (l8 : Int32) (l9 : Int32) (x : St) (H : Heap) (locs : List Loc) (ls : Array Slot), j_Mod_putChunk_122 post rec25 l1 l2 l3 l4 l5 l6 l7 l8 l9 x → Wd dC dI cI cB cJ cZ ad stM kcM 115 A x H → va_S A s.heap H locs → lv_has ls 10 [(0, .ref (ad 0)), (1, .int l1), (2, .int l2), (3, .int l3), (4, .int l4), (5, .int l5), (6, .int l6), (7, .int l7), (8, .int l8), (9, .int l9)] → W p l e R s m args below meth c H locs cells slots Q (F0 m 122 ls []) := by
  intro l1 l2 l3 l4 l5 l6 l7 l8 l9 x H locs ls  hw hW hS hl
  unfold j_Mod_putChunk_122 at hw
  refine lv_iinc (v := (l9 + 1)) (lv' := [(9, .int (l9 + 1)), (0, .ref (ad 0)), (1, .int l1), (2, .int l2), (3, .int l3), (4, .int l4), (5, .int l5), (6, .int l6), (7, .int l7), (8, .int l8)]) hx hb d_Mod_putChunk_122 hl (k := 9) rfl rfl (by decide) rfl (fun ls hl => ?_)
  refine lv_goto (tgt := 25) hx hb d_Mod_putChunk_125 (by decide) ?_
  exact hrec25 l1 l2 l3 l4 l5 l6 l7 l8 (l9 + 1) x H locs ls  hw hW hS (lv_sub hl [1, 2, 3, 4, 5, 6, 7, 8, 9, 0] rfl)
set_option maxRecDepth 100000 in
set_option maxHeartbeats 4000000 in
set_option maxRecDepth 100000 in
theorem t_Mod_putChunk_120 {p : Program} {l : Launch} {e : Env} {R : Room} {s : State} {m : MethodId} {args : Array Value} {below : List Frame} {meth : Method} {c : Code} {cells slots : Nat} {Q : State → Prop} {dC : Nat → ClassId} {dI : Nat → Nat → Nat} {cI cB cJ cZ : ClassId} {A : Nat → Prop} {ad : Nat → Nat} {post : St → Prop} {rec25 : Int32 → Int32 → Int32 → Int32 → Int32 → Int32 → Int32 → Int32 → Int32 → St → Prop} (hx : p.tables.exec = Jvm.exec) (hb : c.code = b_Mod_putChunk) (hml : c.maxLocals = 10) (hown : s.vm.findClass R_Mod = some m.cls) (hT : ∀ w ∈ TG, w.before args s = true) (hK : va_K (dC, dI) CL (TY cI cB cJ cZ) s) (hN : NW s) (hA : ∀ q : Nat, s.heap.size ≤ q → A q) (hRc : cells ≤ R.cells) (hRs : slots ≤ R.slots) (hRf : 4 ≤ R.frames) (hRl : 90 ≤ R.locals) (hret : ∀ (x : St) (H : Heap) (locs : List Loc) (pc : Nat) (ls : Array Slot), decode b_Mod_putChunk pc = .ok (.return_, 1) → post x → Wd dC dI cI cB cJ cZ ad stM kcM 115 A x H → va_S A s.heap H locs → W p l e R s m args below meth c H locs cells slots Q (F0 m pc ls [])) (hrec25 : ∀ (l1 : Int32) (l2 : Int32) (l3 : Int32) (l4 : Int32) (l5 : Int32) (l6 : Int32) (l7 : Int32) (l8 : Int32) (l9 : Int32) (x : St) (H : Heap) (locs : List Loc) (ls : Array Slot), rec25 l1 l2 l3 l4 l5 l6 l7 l8 l9 x → Wd dC dI cI cB cJ cZ ad stM kcM 115 A x H → va_S A s.heap H locs → lv_has ls 10 [(0, .ref (ad 0)), (1, .int l1), (2, .int l2), (3, .int l3), (4, .int l4), (5, .int l5), (6, .int l6), (7, .int l7), (8, .int l8), (9, .int l9)] → W p l e R s m args below meth c H locs cells slots Q (F0 m 25 ls [])) : ∀ (l1 : Int32) (l2 : Int32) (l3 : Int32) (l4 : Int32) (l5 : Int32) (l6 : Int32) (l7 : Int32) (l8 : Int32) (l9 : Int32) (s0 : Int32) (x : St) (H : Heap) (locs : List Loc) (ls : Array Slot), j_Mod_putChunk_120 post rec25 l1 l2 l3 l4 l5 l6 l7 l8 l9 s0 x → Wd dC dI cI cB cJ cZ ad stM kcM 115 A x H → va_S A s.heap H locs → lv_has ls 10 [(0, .ref (ad 0)), (1, .int l1), (2, .int l2), (3, .int l3), (4, .int l4), (5, .int l5), (6, .int l6), (7, .int l7), (8, .int l8), (9, .int l9)] → W p l e R s m args below meth c H locs cells slots Q (F0 m 120 ls [.int s0]) := by
  intro l1 l2 l3 l4 l5 l6 l7 l8 l9 s0 x H locs ls  hw hW hS hl
  unfold j_Mod_putChunk_120 at hw
  refine lv_istore (lv' := [(6, .int s0), (0, .ref (ad 0)), (1, .int l1), (2, .int l2), (3, .int l3), (4, .int l4), (5, .int l5), (7, .int l7), (8, .int l8), (9, .int l9)]) hx hb d_Mod_putChunk_120 hl (by decide) rfl (fun ls hl => ?_)
  exact t_Mod_putChunk_122 hx hb hml hown hT hK hN hA hRc hRs hRf hRl hret hrec25 l1 l2 l3 l4 l5 s0 l7 l8 l9 x H locs ls  hw hW hS (lv_sub hl [1, 2, 3, 4, 5, 6, 0, 7, 8, 9] rfl)
set_option maxRecDepth 100000 in
set_option maxHeartbeats 4000000 in
set_option maxRecDepth 100000 in
theorem t_Mod_putChunk_113 {p : Program} {l : Launch} {e : Env} {R : Room} {s : State} {m : MethodId} {args : Array Value} {below : List Frame} {meth : Method} {c : Code} {cells slots : Nat} {Q : State → Prop} {dC : Nat → ClassId} {dI : Nat → Nat → Nat} {cI cB cJ cZ : ClassId} {A : Nat → Prop} {ad : Nat → Nat} {post : St → Prop} {rec25 : Int32 → Int32 → Int32 → Int32 → Int32 → Int32 → Int32 → Int32 → Int32 → St → Prop} (hx : p.tables.exec = Jvm.exec) (hb : c.code = b_Mod_putChunk) (hml : c.maxLocals = 10) (hown : s.vm.findClass R_Mod = some m.cls) (hT : ∀ w ∈ TG, w.before args s = true) (hK : va_K (dC, dI) CL (TY cI cB cJ cZ) s) (hN : NW s) (hA : ∀ q : Nat, s.heap.size ≤ q → A q) (hRc : cells ≤ R.cells) (hRs : slots ≤ R.slots) (hRf : 4 ≤ R.frames) (hRl : 90 ≤ R.locals) (hret : ∀ (x : St) (H : Heap) (locs : List Loc) (pc : Nat) (ls : Array Slot), decode b_Mod_putChunk pc = .ok (.return_, 1) → post x → Wd dC dI cI cB cJ cZ ad stM kcM 115 A x H → va_S A s.heap H locs → W p l e R s m args below meth c H locs cells slots Q (F0 m pc ls [])) (hrec25 : ∀ (l1 : Int32) (l2 : Int32) (l3 : Int32) (l4 : Int32) (l5 : Int32) (l6 : Int32) (l7 : Int32) (l8 : Int32) (l9 : Int32) (x : St) (H : Heap) (locs : List Loc) (ls : Array Slot), rec25 l1 l2 l3 l4 l5 l6 l7 l8 l9 x → Wd dC dI cI cB cJ cZ ad stM kcM 115 A x H → va_S A s.heap H locs → lv_has ls 10 [(0, .ref (ad 0)), (1, .int l1), (2, .int l2), (3, .int l3), (4, .int l4), (5, .int l5), (6, .int l6), (7, .int l7), (8, .int l8), (9, .int l9)] → W p l e R s m args below meth c H locs cells slots Q (F0 m 25 ls [])) : ∀ (l1 : Int32) (l2 : Int32) (l3 : Int32) (l4 : Int32) (l5 : Int32) (l6 : Int32) (l7 : Int32) (l8 : Int32) (l9 : Int32) (x : St) (H : Heap) (locs : List Loc) (ls : Array Slot), j_Mod_putChunk_113 post rec25 l1 l2 l3 l4 l5 l6 l7 l8 l9 x → Wd dC dI cI cB cJ cZ ad stM kcM 115 A x H → va_S A s.heap H locs → lv_has ls 10 [(0, .ref (ad 0)), (1, .int l1), (2, .int l2), (3, .int l3), (4, .int l4), (5, .int l5), (6, .int l6), (7, .int l7), (8, .int l8), (9, .int l9)] → W p l e R s m args below meth c H locs cells slots Q (F0 m 113 ls []) := by
  intro l1 l2 l3 l4 l5 l6 l7 l8 l9 x H locs ls  hw hW hS hl
  unfold j_Mod_putChunk_113 at hw
  refine lv_iload hx hb d_Mod_putChunk_113 (lv_at hl 9 rfl) ?_
  refine lv_goto (tgt := 120) hx hb d_Mod_putChunk_115 (by decide) ?_
  exact t_Mod_putChunk_120 hx hb hml hown hT hK hN hA hRc hRs hRf hRl hret hrec25 l1 l2 l3 l4 l5 l6 l7 l8 l9 l9 x H locs ls  hw hW hS (lv_sub hl [0, 1, 2, 3, 4, 5, 6, 7, 8, 9] rfl)
set_option maxRecDepth 100000 in
set_option maxHeartbeats 4000000 in
set_option maxRecDepth 100000 in
theorem t_Mod_putChunk_92 {p : Program} {l : Launch} {e : Env} {R : Room} {s : State} {m : MethodId} {args : Array Value} {below : List Frame} {meth : Method} {c : Code} {cells slots : Nat} {Q : State → Prop} {dC : Nat → ClassId} {dI : Nat → Nat → Nat} {cI cB cJ cZ : ClassId} {A : Nat → Prop} {ad : Nat → Nat} {post : St → Prop} {rec25 : Int32 → Int32 → Int32 → Int32 → Int32 → Int32 → Int32 → Int32 → Int32 → St → Prop} (hx : p.tables.exec = Jvm.exec) (hb : c.code = b_Mod_putChunk) (hml : c.maxLocals = 10) (hown : s.vm.findClass R_Mod = some m.cls) (hT : ∀ w ∈ TG, w.before args s = true) (hK : va_K (dC, dI) CL (TY cI cB cJ cZ) s) (hN : NW s) (hA : ∀ q : Nat, s.heap.size ≤ q → A q) (hRc : cells ≤ R.cells) (hRs : slots ≤ R.slots) (hRf : 4 ≤ R.frames) (hRl : 90 ≤ R.locals) (hret : ∀ (x : St) (H : Heap) (locs : List Loc) (pc : Nat) (ls : Array Slot), decode b_Mod_putChunk pc = .ok (.return_, 1) → post x → Wd dC dI cI cB cJ cZ ad stM kcM 115 A x H → va_S A s.heap H locs → W p l e R s m args below meth c H locs cells slots Q (F0 m pc ls [])) (hrec25 : ∀ (l1 : Int32) (l2 : Int32) (l3 : Int32) (l4 : Int32) (l5 : Int32) (l6 : Int32) (l7 : Int32) (l8 : Int32) (l9 : Int32) (x : St) (H : Heap) (locs : List Loc) (ls : Array Slot), rec25 l1 l2 l3 l4 l5 l6 l7 l8 l9 x → Wd dC dI cI cB cJ cZ ad stM kcM 115 A x H → va_S A s.heap H locs → lv_has ls 10 [(0, .ref (ad 0)), (1, .int l1), (2, .int l2), (3, .int l3), (4, .int l4), (5, .int l5), (6, .int l6), (7, .int l7), (8, .int l8), (9, .int l9)] → W p l e R s m args below meth c H locs cells slots Q (F0 m 25 ls [])) : ∀ (l1 : Int32) (l2 : Int32) (l3 : Int32) (l4 : Int32) (l5 : Int32) (l6 : Int32) (l7 : Int32) (l8 : Int32) (l9 : Int32) (s0 : Int32) (x : St) (H : Heap) (locs : List Loc) (ls : Array Slot), j_Mod_putChunk_92 post rec25 l1 l2 l3 l4 l5 l6 l7 l8 l9 s0 x → Wd dC dI cI cB cJ cZ ad stM kcM 115 A x H → va_S A s.heap H locs → lv_has ls 10 [(0, .ref (ad 0)), (1, .int l1), (2, .int l2), (3, .int l3), (4, .int l4), (5, .int l5), (6, .int l6), (7, .int l7), (8, .int l8), (9, .int l9)] → W p l e R s m args below meth c H locs cells slots Q (F0 m 92 ls [.int s0]) := by
  intro l1 l2 l3 l4 l5 l6 l7 l8 l9 s0 x H locs ls  hw hW hS hl
  unfold j_Mod_putChunk_92 at hw
  refine lv_istore (lv' := [(5, .int s0), (0, .ref (ad 0)), (1, .int l1), (2, .int l2), (3, .int l3), (4, .int l4), (6, .int l6), (7, .int l7), (8, .int l8), (9, .int l9)]) hx hb d_Mod_putChunk_92 hl (by decide) rfl (fun ls hl => ?_)
  refine lv_iload hx hb d_Mod_putChunk_94 (lv_at hl 6 rfl) ?_
  refine lv_iconst (v := (-1)) hx hb d_Mod_putChunk_96 (by decide) ?_
  refine lv_icmp_eq (tgt := 113) hx hb d_Mod_putChunk_97 (by decide) (fun c820 => ?_) (fun c820 => ?_)
  · have hw := hw.1 c820
    exact t_Mod_putChunk_113 hx hb hml hown hT hK hN hA hRc hRs hRf hRl hret hrec25 l1 l2 l3 l4 s0 l6 l7 l8 l9 x H locs ls  hw hW hS (lv_sub hl [1, 2, 3, 4, 5, 0, 6, 7, 8, 9] rfl)
  · have hw := hw.2 c820
    refine lv_aload_n hx hb d_Mod_putChunk_100 rfl (lv_at hl 1 rfl) ?_
    refine lv_iload hx hb d_Mod_putChunk_101 (lv_at hl 9 rfl) ?_
    refine lv_iload hx hb d_Mod_putChunk_103 (lv_at hl 6 rfl) ?_
    refine lv_iload hx hb d_Mod_putChunk_105 (lv_at hl 8 rfl) ?_
    have hF := hW.free hS hA
    refine va_calli (va_runV (C := R_Mod) (As := [.int l9, .int l6, .int l8]) (rest := []) ⟨hx, hb, hml, hown, hT⟩ (k_Mod_against2 l dC dI cI cB cJ cZ ad H.size l9 l6 l8 x  hw) ⟨callB_of 3 hT (gwt_in w_12_71) rfl rfl rfl (hT _ w_1_15) (hT _ w_12_68) (by decide +kernel) ⟨Nat.le_trans (Nat.le_of_ble_eq_true rfl) hRf, Nat.le_trans (Nat.le_of_ble_eq_true rfl) hRl⟩, hT _ w_12_70, hT _ ws_179⟩ ⟨PW.blind, va_recv hK hW.1 (ci := 12) (q0 := 0) rfl (pic_obj ko_0.1 ko_0.2 (by decide)), PW.at _ hW hK hN⟩ rfl rfl hl.1 rfl (lv_room (Nat.le_of_ble_eq_true rfl)) d_Mod_putChunk_107 ⟨hRc, hRs⟩) hS (fun q _ h => hF q h) hF (fun r822 x821 t H locs ht hvm hw hB hz1 hk1 hS => ?_)
    have hW := Wd.back hB ht hF
    clear hB ht hF hz1 hk1 hvm
    refine lv_if_le (tgt := 118) hx hb d_Mod_putChunk_110 (by decide) (fun c823 => ?_) (fun c823 => ?_)
    · have hw := hw.1 c823
      refine lv_iload hx hb d_Mod_putChunk_118 (lv_at hl 6 rfl) ?_
      exact t_Mod_putChunk_120 hx hb hml hown hT hK hN hA hRc hRs hRf hRl hret hrec25 l1 l2 l3 l4 s0 l6 l7 l8 l9 l6 x821 H locs ls  hw hW hS (lv_sub hl [1, 2, 3, 4, 5, 0, 6, 7, 8, 9] rfl)
    · have hw := hw.2 c823
      exact t_Mod_putChunk_113 hx hb hml hown hT hK hN hA hRc hRs hRf hRl hret hrec25 l1 l2 l3 l4 s0 l6 l7 l8 l9 x821 H locs ls  hw hW hS (lv_sub hl [1, 2, 3, 4, 5, 0, 6, 7, 8, 9] rfl)
set_option maxRecDepth 100000 in
set_option maxHeartbeats 4000000 in
set_option maxRecDepth 100000 in
theorem t_Mod_putChunk_85 {p : Program} {l : Launch} {e : Env} {R : Room} {s : State} {m : MethodId} {args : Array Value} {below : List Frame} {meth : Method} {c : Code} {cells slots : Nat} {Q : State → Prop} {dC : Nat → ClassId} {dI : Nat → Nat → Nat} {cI cB cJ cZ : ClassId} {A : Nat → Prop} {ad : Nat → Nat} {post : St → Prop} {rec25 : Int32 → Int32 → Int32 → Int32 → Int32 → Int32 → Int32 → Int32 → Int32 → St → Prop} (hx : p.tables.exec = Jvm.exec) (hb : c.code = b_Mod_putChunk) (hml : c.maxLocals = 10) (hown : s.vm.findClass R_Mod = some m.cls) (hT : ∀ w ∈ TG, w.before args s = true) (hK : va_K (dC, dI) CL (TY cI cB cJ cZ) s) (hN : NW s) (hA : ∀ q : Nat, s.heap.size ≤ q → A q) (hRc : cells ≤ R.cells) (hRs : slots ≤ R.slots) (hRf : 4 ≤ R.frames) (hRl : 90 ≤ R.locals) (hret : ∀ (x : St) (H : Heap) (locs : List Loc) (pc : Nat) (ls : Array Slot), decode b_Mod_putChunk pc = .ok (.return_, 1) → post x → Wd dC dI cI cB cJ cZ ad stM kcM 115 A x H → va_S A s.heap H locs → W p l e R s m args below meth c H locs cells slots Q (F0 m pc ls [])) (hrec25 : ∀ (l1 : Int32) (l2 : Int32) (l3 : Int32) (l4 : Int32) (l5 : Int32) (l6 : Int32) (l7 : Int32) (l8 : Int32) (l9 : Int32) (x : St) (H : Heap) (locs : List Loc) (ls : Array Slot), rec25 l1 l2 l3 l4 l5 l6 l7 l8 l9 x → Wd dC dI cI cB cJ cZ ad stM kcM 115 A x H → va_S A s.heap H locs → lv_has ls 10 [(0, .ref (ad 0)), (1, .int l1), (2, .int l2), (3, .int l3), (4, .int l4), (5, .int l5), (6, .int l6), (7, .int l7), (8, .int l8), (9, .int l9)] → W p l e R s m args below meth c H locs cells slots Q (F0 m 25 ls [])) : ∀ (l1 : Int32) (l2 : Int32) (l3 : Int32) (l4 : Int32) (l5 : Int32) (l6 : Int32) (l7 : Int32) (l8 : Int32) (l9 : Int32) (x : St) (H : Heap) (locs : List Loc) (ls : Array Slot), j_Mod_putChunk_85 post rec25 l1 l2 l3 l4 l5 l6 l7 l8 l9 x → Wd dC dI cI cB cJ cZ ad stM kcM 115 A x H → va_S A s.heap H locs → lv_has ls 10 [(0, .ref (ad 0)), (1, .int l1), (2, .int l2), (3, .int l3), (4, .int l4), (5, .int l5), (6, .int l6), (7, .int l7), (8, .int l8), (9, .int l9)] → W p l e R s m args below meth c H locs cells slots Q (F0 m 85 ls []) := by
  intro l1 l2 l3 l4 l5 l6 l7 l8 l9 x H locs ls  hw hW hS hl
  unfold j_Mod_putChunk_85 at hw
  refine lv_iload hx hb d_Mod_putChunk_85 (lv_at hl 9 rfl) ?_
  refine lv_goto (tgt := 92) hx hb d_Mod_putChunk_87 (by decide) ?_
  exact t_Mod_putChunk_92 hx hb hml hown hT hK hN hA hRc hRs hRf hRl hret hrec25 l1 l2 l3 l4 l5 l6 l7 l8 l9 l9 x H locs ls  hw hW hS (lv_sub hl [0, 1, 2, 3, 4, 5, 6, 7, 8, 9] rfl)
set_option maxRecDepth 100000 in
set_option maxHeartbeats 4000000 in
set_option maxRecDepth 100000 in
theorem t_Mod_putChunk_25 {p : Program} {l : Launch} {e : Env} {R : Room} {s : State} {m : MethodId} {args : Array Value} {below : List Frame} {meth : Method} {c : Code} {cells slots : Nat} {Q : State → Prop} {dC : Nat → ClassId} {dI : Nat → Nat → Nat} {cI cB cJ cZ : ClassId} {A : Nat → Prop} {ad : Nat → Nat} {post : St → Prop} {rec25 : Int32 → Int32 → Int32 → Int32 → Int32 → Int32 → Int32 → Int32 → Int32 → St → Prop} (hx : p.tables.exec = Jvm.exec) (hb : c.code = b_Mod_putChunk) (hml : c.maxLocals = 10) (hown : s.vm.findClass R_Mod = some m.cls) (hT : ∀ w ∈ TG, w.before args s = true) (hK : va_K (dC, dI) CL (TY cI cB cJ cZ) s) (hN : NW s) (hA : ∀ q : Nat, s.heap.size ≤ q → A q) (hRc : cells ≤ R.cells) (hRs : slots ≤ R.slots) (hRf : 4 ≤ R.frames) (hRl : 90 ≤ R.locals) (hret : ∀ (x : St) (H : Heap) (locs : List Loc) (pc : Nat) (ls : Array Slot), decode b_Mod_putChunk pc = .ok (.return_, 1) → post x → Wd dC dI cI cB cJ cZ ad stM kcM 115 A x H → va_S A s.heap H locs → W p l e R s m args below meth c H locs cells slots Q (F0 m pc ls [])) (hrec25 : ∀ (l1 : Int32) (l2 : Int32) (l3 : Int32) (l4 : Int32) (l5 : Int32) (l6 : Int32) (l7 : Int32) (l8 : Int32) (l9 : Int32) (x : St) (H : Heap) (locs : List Loc) (ls : Array Slot), rec25 l1 l2 l3 l4 l5 l6 l7 l8 l9 x → Wd dC dI cI cB cJ cZ ad stM kcM 115 A x H → va_S A s.heap H locs → lv_has ls 10 [(0, .ref (ad 0)), (1, .int l1), (2, .int l2), (3, .int l3), (4, .int l4), (5, .int l5), (6, .int l6), (7, .int l7), (8, .int l8), (9, .int l9)] → W p l e R s m args below meth c H locs cells slots Q (F0 m 25 ls [])) : ∀ (l1 : Int32) (l2 : Int32) (l3 : Int32) (l4 : Int32) (l5 : Int32) (l6 : Int32) (l7 : Int32) (l8 : Int32) (l9 : Int32) (x : St) (H : Heap) (locs : List Loc) (ls : Array Slot), j_Mod_putChunk_25 post rec25 l1 l2 l3 l4 l5 l6 l7 l8 l9 x → Wd dC dI cI cB cJ cZ ad stM kcM 115 A x H → va_S A s.heap H locs → lv_has ls 10 [(0, .ref (ad 0)), (1, .int l1), (2, .int l2), (3, .int l3), (4, .int l4), (5, .int l5), (6, .int l6), (7, .int l7), (8, .int l8), (9, .int l9)] → W p l e R s m args below meth c H locs cells slots Q (F0 m 25 ls []) := by
  intro l1 l2 l3 l4 l5 l6 l7 l8 l9 x H locs ls  hw hW hS hl
  unfold j_Mod_putChunk_25 at hw
  refine lv_iload hx hb d_Mod_putChunk_25 (lv_at hl 9 rfl) ?_
  refine lv_aload_n hx hb d_Mod_putChunk_27 rfl (lv_at hl 0 rfl) ?_
  refine w_getf (q := 23) (k := 31) (t := 12) (C := R_Mod) (T := F_Mod) (N := 167) hx hb hT hown hK hW ko_0.1 ko_0.2 (by decide) in_Mod rfl rfl (by decide) rfl fr_Mod_31 w_8_207 d_Mod_putChunk_28 rfl ?_
  refine lv_iload hx hb d_Mod_putChunk_31 (lv_at hl 4 rfl) ?_
  obtain ⟨hi, hw⟩ := hw
  refine w_iald (o := 23) hx hb hK hW ko_23.1 ko_23.2 hi d_Mod_putChunk_33 ?_
  refine lv_icmp_ge (tgt := 128) hx hb d_Mod_putChunk_34 (by decide) (fun c824 => ?_) (fun c824 => ?_)
  · have hw := hw.1 c824
    refine lv_aload_n hx hb d_Mod_putChunk_128 rfl (lv_at hl 0 rfl) ?_
    refine lv_aload_n hx hb d_Mod_putChunk_129 rfl (lv_at hl 0 rfl) ?_
    refine w_getf (q := 50) (k := 78) (t := 12) (C := R_Mod) (T := F_Mod) (N := 167) hx hb hT hown hK hW ko_0.1 ko_0.2 (by decide) in_Mod rfl rfl (by decide) rfl fr_Mod_78 w_9_14 d_Mod_putChunk_130 rfl ?_
    refine lv_iload_n hx hb d_Mod_putChunk_133 rfl (lv_at hl 1 rfl) ?_
    obtain ⟨hi, hw⟩ := hw
    refine w_iald (o := 50) hx hb hK hW ko_50.1 ko_50.2 hi d_Mod_putChunk_134 ?_
    refine lv_i2l hx hb d_Mod_putChunk_135 rfl ?_
    have hF := hW.free hS hA
    refine va_callv (va_runV (C := R_Mod) (As := [.long ((rA x 50 l1) : Int32).toInt64]) (rest := []) ⟨hx, hb, hml, hown, hT⟩ (k_Mod_putVarint l dC dI cI cB cJ cZ ad H.size ((rA x 50 l1) : Int32).toInt64 x  hw) ⟨callB_of 1 hT (gwt_in w_11_194) rfl rfl rfl (hT _ w_1_15) (hT _ w_11_191) (by decide +kernel) ⟨Nat.le_trans (Nat.le_of_ble_eq_true rfl) hRf, Nat.le_trans (Nat.le_of_ble_eq_true rfl) hRl⟩, hT _ w_11_193, hT _ ws_152⟩ ⟨PW.blind, va_recv hK hW.1 (ci := 12) (q0 := 0) rfl (pic_obj ko_0.1 ko_0.2 (by decide)), PW.at _ hW hK hN⟩ rfl rfl hl.1 rfl (lv_room (Nat.le_of_ble_eq_true rfl)) d_Mod_putChunk_136 ⟨hRc, hRs⟩) hS (fun q _ h => hF q h) hF (fun  x825 t H locs ht hvm hw hB hz1 hk1 hS => ?_)
    have hW := Wd.back hB ht hF
    clear hB ht hF hz1 hk1 hvm
    refine lv_aload_n hx hb d_Mod_putChunk_139 rfl (lv_at hl 0 rfl) ?_
    refine lv_aload_n hx hb d_Mod_putChunk_140 rfl (lv_at hl 0 rfl) ?_
    refine w_getf (q := 51) (k := 79) (t := 12) (C := R_Mod) (T := F_Mod) (N := 167) hx hb hT hown hK hW ko_0.1 ko_0.2 (by decide) in_Mod rfl rfl (by decide) rfl fr_Mod_79 w_9_15 d_Mod_putChunk_141 rfl ?_
    refine lv_iload_n hx hb d_Mod_putChunk_144 rfl (lv_at hl 1 rfl) ?_
    obtain ⟨hi, hw⟩ := hw
    refine w_iald (o := 51) hx hb hK hW ko_51.1 ko_51.2 hi d_Mod_putChunk_145 ?_
    refine lv_i2l hx hb d_Mod_putChunk_146 rfl ?_
    have hF := hW.free hS hA
    refine va_callv (va_runV (C := R_Mod) (As := [.long ((rA x825 51 l1) : Int32).toInt64]) (rest := []) ⟨hx, hb, hml, hown, hT⟩ (k_Mod_putVarint l dC dI cI cB cJ cZ ad H.size ((rA x825 51 l1) : Int32).toInt64 x825  hw) ⟨callB_of 1 hT (gwt_in w_11_194) rfl rfl rfl (hT _ w_1_15) (hT _ w_11_191) (by decide +kernel) ⟨Nat.le_trans (Nat.le_of_ble_eq_true rfl) hRf, Nat.le_trans (Nat.le_of_ble_eq_true rfl) hRl⟩, hT _ w_11_193, hT _ ws_152⟩ ⟨PW.blind, va_recv hK hW.1 (ci := 12) (q0 := 0) rfl (pic_obj ko_0.1 ko_0.2 (by decide)), PW.at _ hW hK hN⟩ rfl rfl hl.1 rfl (lv_room (Nat.le_of_ble_eq_true rfl)) d_Mod_putChunk_147 ⟨hRc, hRs⟩) hS (fun q _ h => hF q h) hF (fun  x826 t H locs ht hvm hw hB hz1 hk1 hS => ?_)
    have hW := Wd.back hB ht hF
    clear hB ht hF hz1 hk1 hvm
    refine lv_aload_n hx hb d_Mod_putChunk_150 rfl (lv_at hl 0 rfl) ?_
    refine lv_aload_n hx hb d_Mod_putChunk_151 rfl (lv_at hl 0 rfl) ?_
    refine lv_iload_n hx hb d_Mod_putChunk_152 rfl (lv_at hl 2 rfl) ?_
    refine lv_iload_n hx hb d_Mod_putChunk_153 rfl (lv_at hl 3 rfl) ?_
    refine lv_iload hx hb d_Mod_putChunk_154 (lv_at hl 4 rfl) ?_
    have hF := hW.free hS hA
    refine va_calli (va_runV (C := R_Mod) (As := [.int l2, .int l3, .int l4]) (rest := [.ref (ad 0)]) ⟨hx, hb, hml, hown, hT⟩ (k_Mod_many l dC dI cI cB cJ cZ ad H.size l2 l3 l4 x826  hw) ⟨callB_of 3 hT (gwt_in w_11_146) rfl rfl rfl (hT _ w_1_15) (hT _ w_11_143) (by decide +kernel) ⟨Nat.le_trans (Nat.le_of_ble_eq_true rfl) hRf, Nat.le_trans (Nat.le_of_ble_eq_true rfl) hRl⟩, hT _ w_11_145, hT _ ws_141⟩ ⟨PW.blind, va_recv hK hW.1 (ci := 12) (q0 := 0) rfl (pic_obj ko_0.1 ko_0.2 (by decide)), PW.at _ hW hK hN⟩ rfl rfl hl.1 rfl (lv_room (Nat.le_of_ble_eq_true rfl)) d_Mod_putChunk_156 ⟨hRc, hRs⟩) hS (fun q _ h => hF q h) hF (fun r828 x827 t H locs ht hvm hw hB hz1 hk1 hS => ?_)
    have hW := Wd.back hB ht hF
    clear hB ht hF hz1 hk1 hvm
    refine lv_i2l hx hb d_Mod_putChunk_159 rfl ?_
    have hF := hW.free hS hA
    refine va_callv (va_runV (C := R_Mod) (As := [.long (r828 : Int32).toInt64]) (rest := []) ⟨hx, hb, hml, hown, hT⟩ (k_Mod_putVarint l dC dI cI cB cJ cZ ad H.size (r828 : Int32).toInt64 x827  hw) ⟨callB_of 1 hT (gwt_in w_11_194) rfl rfl rfl (hT _ w_1_15) (hT _ w_11_191) (by decide +kernel) ⟨Nat.le_trans (Nat.le_of_ble_eq_true rfl) hRf, Nat.le_trans (Nat.le_of_ble_eq_true rfl) hRl⟩, hT _ w_11_193, hT _ ws_152⟩ ⟨PW.blind, va_recv hK hW.1 (ci := 12) (q0 := 0) rfl (pic_obj ko_0.1 ko_0.2 (by decide)), PW.at _ hW hK hN⟩ rfl rfl hl.1 rfl (lv_room (Nat.le_of_ble_eq_true rfl)) d_Mod_putChunk_160 ⟨hRc, hRs⟩) hS (fun q _ h => hF q h) hF (fun  x829 t H locs ht hvm hw hB hz1 hk1 hS => ?_)
    have hW := Wd.back hB ht hF
    clear hB ht hF hz1 hk1 hvm
    refine lv_aload_n hx hb d_Mod_putChunk_163 rfl (lv_at hl 0 rfl) ?_
    refine lv_iload hx hb d_Mod_putChunk_164 (lv_at hl 7 rfl) ?_
    refine lv_i2l hx hb d_Mod_putChunk_166 rfl ?_
    have hF := hW.free hS hA
    refine va_callv (va_runV (C := R_Mod) (As := [.long (l7 : Int32).toInt64]) (rest := []) ⟨hx, hb, hml, hown, hT⟩ (k_Mod_putVarint l dC dI cI cB cJ cZ ad H.size (l7 : Int32).toInt64 x829  hw) ⟨callB_of 1 hT (gwt_in w_11_194) rfl rfl rfl (hT _ w_1_15) (hT _ w_11_191) (by decide +kernel) ⟨Nat.le_trans (Nat.le_of_ble_eq_true rfl) hRf, Nat.le_trans (Nat.le_of_ble_eq_true rfl) hRl⟩, hT _ w_11_193, hT _ ws_152⟩ ⟨PW.blind, va_recv hK hW.1 (ci := 12) (q0 := 0) rfl (pic_obj ko_0.1 ko_0.2 (by decide)), PW.at _ hW hK hN⟩ rfl rfl hl.1 rfl (lv_room (Nat.le_of_ble_eq_true rfl)) d_Mod_putChunk_167 ⟨hRc, hRs⟩) hS (fun q _ h => hF q h) hF (fun  x830 t H locs ht hvm hw hB hz1 hk1 hS => ?_)
    have hW := Wd.back hB ht hF
    clear hB ht hF hz1 hk1 hvm
    refine lv_iload hx hb d_Mod_putChunk_170 (lv_at hl 5 rfl) ?_
    refine lv_iconst (v := (-1)) hx hb d_Mod_putChunk_172 (by decide) ?_
    refine lv_icmp_ne (tgt := 177) hx hb d_Mod_putChunk_173 (by decide) (fun c831 => ?_) (fun c831 => ?_)
    · have hw := hw.1 c831
      refine lv_aload_n hx hb d_Mod_putChunk_177 rfl (lv_at hl 0 rfl) ?_
      refine lv_iload hx hb d_Mod_putChunk_178 (lv_at hl 5 rfl) ?_
      refine lv_iload hx hb d_Mod_putChunk_180 (lv_at hl 8 rfl) ?_
      have hF := hW.free hS hA
      refine va_callv (va_runV (C := R_Mod) (As := [.int l5, .int l8]) (rest := []) ⟨hx, hb, hml, hown, hT⟩ (k_Mod_putEntry l dC dI cI cB cJ cZ ad H.size l5 l8 x830  hw) ⟨callB_of 2 hT (gwt_in w_12_75) rfl rfl rfl (hT _ w_1_15) (hT _ w_12_72) (by decide +kernel) ⟨Nat.le_trans (Nat.le_of_ble_eq_true rfl) hRf, Nat.le_trans (Nat.le_of_ble_eq_true rfl) hRl⟩, hT _ w_12_74, hT _ ws_180⟩ ⟨PW.blind, va_recv hK hW.1 (ci := 12) (q0 := 0) rfl (pic_obj ko_0.1 ko_0.2 (by decide)), PW.at _ hW hK hN⟩ rfl rfl hl.1 rfl (lv_room (Nat.le_of_ble_eq_true rfl)) d_Mod_putChunk_182 ⟨hRc, hRs⟩) hS (fun q _ h => hF q h) hF (fun  x832 t H locs ht hvm hw hB hz1 hk1 hS => ?_)
      have hW := Wd.back hB ht hF
      clear hB ht hF hz1 hk1 hvm
      refine lv_aload_n hx hb d_Mod_putChunk_185 rfl (lv_at hl 0 rfl) ?_
      refine lv_iload hx hb d_Mod_putChunk_186 (lv_at hl 6 rfl) ?_
      refine lv_iload hx hb d_Mod_putChunk_188 (lv_at hl 8 rfl) ?_
      have hF := hW.free hS hA
      refine va_callv (va_runV (C := R_Mod) (As := [.int l6, .int l8]) (rest := []) ⟨hx, hb, hml, hown, hT⟩ (k_Mod_putEntry l dC dI cI cB cJ cZ ad H.size l6 l8 x832  hw) ⟨callB_of 2 hT (gwt_in w_12_75) rfl rfl rfl (hT _ w_1_15) (hT _ w_12_72) (by decide +kernel) ⟨Nat.le_trans (Nat.le_of_ble_eq_true rfl) hRf, Nat.le_trans (Nat.le_of_ble_eq_true rfl) hRl⟩, hT _ w_12_74, hT _ ws_180⟩ ⟨PW.blind, va_recv hK hW.1 (ci := 12) (q0 := 0) rfl (pic_obj ko_0.1 ko_0.2 (by decide)), PW.at _ hW hK hN⟩ rfl rfl hl.1 rfl (lv_room (Nat.le_of_ble_eq_true rfl)) d_Mod_putChunk_190 ⟨hRc, hRs⟩) hS (fun q _ h => hF q h) hF (fun  x833 t H locs ht hvm hw hB hz1 hk1 hS => ?_)
      have hW := Wd.back hB ht hF
      clear hB ht hF hz1 hk1 hvm
      exact hret x833 H locs 193 ls d_Mod_putChunk_193 hw hW hS
    · have hw := hw.2 c831
      exact hret x830 H locs 176 ls d_Mod_putChunk_176 hw hW hS
  · have hw := hw.2 c824
    refine lv_aload_n hx hb d_Mod_putChunk_37 rfl (lv_at hl 0 rfl) ?_
    refine w_getf (q := 20) (k := 28) (t := 12) (C := R_Mod) (T := F_Mod) (N := 167) hx hb hT hown hK hW ko_0.1 ko_0.2 (by decide) in_Mod rfl rfl (by decide) rfl fr_Mod_28 w_8_204 d_Mod_putChunk_38 rfl ?_
    refine lv_iload hx hb d_Mod_putChunk_41 (lv_at hl 9 rfl) ?_
    obtain ⟨hi, hw⟩ := hw
    refine w_iald (o := 20) hx hb hK hW ko_20.1 ko_20.2 hi d_Mod_putChunk_43 ?_
    refine lv_iload_n hx hb d_Mod_putChunk_44 rfl (lv_at hl 2 rfl) ?_
    refine lv_icmp_eq (tgt := 51) hx hb d_Mod_putChunk_45 (by decide) (fun c834 => ?_) (fun c834 => ?_)
    · have hw := hw.1 c834
      refine lv_aload_n hx hb d_Mod_putChunk_51 rfl (lv_at hl 0 rfl) ?_
      refine lv_iload hx hb d_Mod_putChunk_52 (lv_at hl 9 rfl) ?_
      have hF := hW.free hS hA
      refine va_calli (va_runV (C := R_Mod) (As := [.int l9]) (rest := []) ⟨hx, hb, hml, hown, hT⟩ (k_Mod_has l dC dI cI cB cJ cZ ad H.size l9 x  hw) ⟨callB_of 1 hT (gwt_in w_12_67) rfl rfl rfl (hT _ w_1_15) (hT _ w_12_64) (by decide +kernel) ⟨Nat.le_trans (Nat.le_of_ble_eq_true rfl) hRf, Nat.le_trans (Nat.le_of_ble_eq_true rfl) hRl⟩, hT _ w_12_66, hT _ ws_178⟩ ⟨PW.blind, va_recv hK hW.1 (ci := 12) (q0 := 0) rfl (pic_obj ko_0.1 ko_0.2 (by decide)), PW.at _ hW hK hN⟩ rfl rfl hl.1 rfl (lv_room (Nat.le_of_ble_eq_true rfl)) d_Mod_putChunk_54 ⟨hRc, hRs⟩) hS (fun q _ h => hF q h) hF (fun r836 x835 t H locs ht hvm hw hB hz1 hk1 hS => ?_)
      have hW := Wd.back hB ht hF
      clear hB ht hF hz1 hk1 hvm
      refine lv_if_ne (tgt := 66) hx hb d_Mod_putChunk_57 (by decide) (fun c837 => ?_) (fun c837 => ?_)
      · have hw := hw.1 c837
        refine lv_iload hx hb d_Mod_putChunk_66 (lv_at hl 5 rfl) ?_
        refine lv_iconst (v := (-1)) hx hb d_Mod_putChunk_68 (by decide) ?_
        refine lv_icmp_eq (tgt := 85) hx hb d_Mod_putChunk_69 (by decide) (fun c838 => ?_) (fun c838 => ?_)
        · have hw := hw.1 c838
          exact t_Mod_putChunk_85 hx hb hml hown hT hK hN hA hRc hRs hRf hRl hret hrec25 l1 l2 l3 l4 l5 l6 l7 l8 l9 x835 H locs ls  hw hW hS (lv_sub hl [0, 1, 2, 3, 4, 5, 6, 7, 8, 9] rfl)
        · have hw := hw.2 c838
          refine lv_aload_n hx hb d_Mod_putChunk_72 rfl (lv_at hl 0 rfl) ?_
          refine lv_iload hx hb d_Mod_putChunk_73 (lv_at hl 9 rfl) ?_
          refine lv_iload hx hb d_Mod_putChunk_75 (lv_at hl 5 rfl) ?_
          refine lv_iload hx hb d_Mod_putChunk_77 (lv_at hl 8 rfl) ?_
          have hF := hW.free hS hA
          refine va_calli (va_runV (C := R_Mod) (As := [.int l9, .int l5, .int l8]) (rest := []) ⟨hx, hb, hml, hown, hT⟩ (k_Mod_against2 l dC dI cI cB cJ cZ ad H.size l9 l5 l8 x835  hw) ⟨callB_of 3 hT (gwt_in w_12_71) rfl rfl rfl (hT _ w_1_15) (hT _ w_12_68) (by decide +kernel) ⟨Nat.le_trans (Nat.le_of_ble_eq_true rfl) hRf, Nat.le_trans (Nat.le_of_ble_eq_true rfl) hRl⟩, hT _ w_12_70, hT _ ws_179⟩ ⟨PW.blind, va_recv hK hW.1 (ci := 12) (q0 := 0) rfl (pic_obj ko_0.1 ko_0.2 (by decide)), PW.at _ hW hK hN⟩ rfl rfl hl.1 rfl (lv_room (Nat.le_of_ble_eq_true rfl)) d_Mod_putChunk_79 ⟨hRc, hRs⟩) hS (fun q _ h => hF q h) hF (fun r840 x839 t H locs ht hvm hw hB hz1 hk1 hS => ?_)
          have hW := Wd.back hB ht hF
          clear hB ht hF hz1 hk1 hvm
          refine lv_if_ge (tgt := 90) hx hb d_Mod_putChunk_82 (by decide) (fun c841 => ?_) (fun c841 => ?_)
          · have hw := hw.1 c841
            refine lv_iload hx hb d_Mod_putChunk_90 (lv_at hl 5 rfl) ?_
            exact t_Mod_putChunk_92 hx hb hml hown hT hK hN hA hRc hRs hRf hRl hret hrec25 l1 l2 l3 l4 l5 l6 l7 l8 l9 l5 x839 H locs ls  hw hW hS (lv_sub hl [0, 1, 2, 3, 4, 5, 6, 7, 8, 9] rfl)
          · have hw := hw.2 c841
            exact t_Mod_putChunk_85 hx hb hml hown hT hK hN hA hRc hRs hRf hRl hret hrec25 l1 l2 l3 l4 l5 l6 l7 l8 l9 x839 H locs ls  hw hW hS (lv_sub hl [0, 1, 2, 3, 4, 5, 6, 7, 8, 9] rfl)
      · have hw := hw.2 c837
        refine lv_iinc (v := (l7 + 1)) (lv' := [(7, .int (l7 + 1)), (0, .ref (ad 0)), (1, .int l1), (2, .int l2), (3, .int l3), (4, .int l4), (5, .int l5), (6, .int l6), (8, .int l8), (9, .int l9)]) hx hb d_Mod_putChunk_60 hl (k := 7) rfl rfl (by decide) rfl (fun ls hl => ?_)
        refine lv_goto (tgt := 122) hx hb d_Mod_putChunk_63 (by decide) ?_
        exact t_Mod_putChunk_122 hx hb hml hown hT hK hN hA hRc hRs hRf hRl hret hrec25 l1 l2 l3 l4 l5 l6 (l7 + 1) l8 l9 x835 H locs ls  hw hW hS (lv_sub hl [1, 2, 3, 4, 5, 6, 7, 0, 8, 9] rfl)
    · have hw := hw.2 c834
      refine lv_goto (tgt := 122) hx hb d_Mod_putChunk_48 (by decide) ?_
      exact t_Mod_putChunk_122 hx hb hml hown hT hK hN hA hRc hRs hRf hRl hret hrec25 l1 l2 l3 l4 l5 l6 l7 l8 l9 x H locs ls  hw hW hS (lv_sub hl [0, 1, 2, 3, 4, 5, 6, 7, 8, 9] rfl)
set_option maxHeartbeats 4000000 in
set_option maxRecDepth 100000 in
theorem tl_Mod_putChunk_25 {p : Program} {l : Launch} {e : Env} {R : Room} {s : State} {m : MethodId} {args : Array Value} {below : List Frame} {meth : Method} {c : Code} {cells slots : Nat} {Q : State → Prop} {dC : Nat → ClassId} {dI : Nat → Nat → Nat} {cI cB cJ cZ : ClassId} {A : Nat → Prop} {ad : Nat → Nat} {post : St → Prop} (hx : p.tables.exec = Jvm.exec) (hb : c.code = b_Mod_putChunk) (hml : c.maxLocals = 10) (hown : s.vm.findClass R_Mod = some m.cls) (hT : ∀ w ∈ TG, w.before args s = true) (hK : va_K (dC, dI) CL (TY cI cB cJ cZ) s) (hN : NW s) (hA : ∀ q : Nat, s.heap.size ≤ q → A q) (hRc : cells ≤ R.cells) (hRs : slots ≤ R.slots) (hRf : 4 ≤ R.frames) (hRl : 90 ≤ R.locals) (hret : ∀ (x : St) (H : Heap) (locs : List Loc) (pc : Nat) (ls : Array Slot), decode b_Mod_putChunk pc = .ok (.return_, 1) → post x → Wd dC dI cI cB cJ cZ ad stM kcM 115 A x H → va_S A s.heap H locs → W p l e R s m args below meth c H locs cells slots Q (F0 m pc ls []))  : ∀ n : Nat, ∀ (l1 : Int32) (l2 : Int32) (l3 : Int32) (l4 : Int32) (l5 : Int32) (l6 : Int32) (l7 : Int32) (l8 : Int32) (l9 : Int32) (x : St) (H : Heap) (locs : List Loc) (ls : Array Slot), wl_Mod_putChunk_25 post n l1 l2 l3 l4 l5 l6 l7 l8 l9 x → Wd dC dI cI cB cJ cZ ad stM kcM 115 A x H → va_S A s.heap H locs → lv_has ls 10 [(0, .ref (ad 0)), (1, .int l1), (2, .int l2), (3, .int l3), (4, .int l4), (5, .int l5), (6, .int l6), (7, .int l7), (8, .int l8), (9, .int l9)] → W p l e R s m args below meth c H locs cells slots Q (F0 m 25 ls []) := by
  intro n
  induction n with
  | zero => intro l1 l2 l3 l4 l5 l6 l7 l8 l9 x H locs ls  hw; exact hw.elim
  | succ n ih => intro l1 l2 l3 l4 l5 l6 l7 l8 l9 x H locs ls  hw hW hS hl; exact t_Mod_putChunk_25 hx hb hml hown hT hK hN hA hRc hRs hRf hRl hret  ih l1 l2 l3 l4 l5 l6 l7 l8 l9 x H locs ls  hw hW hS hl
set_option maxRecDepth 100000 in
set_option maxHeartbeats 4000000 in
set_option maxRecDepth 100000 in
theorem t_Mod_putChunk_e {p : Program} {l : Launch} {e : Env} {R : Room} {s : State} {m : MethodId} {args : Array Value} {below : List Frame} {meth : Method} {c : Code} {cells slots : Nat} {Q : State → Prop} {dC : Nat → ClassId} {dI : Nat → Nat → Nat} {cI cB cJ cZ : ClassId} {A : Nat → Prop} {ad : Nat → Nat} {post : St → Prop} (hx : p.tables.exec = Jvm.exec) (hb : c.code = b_Mod_putChunk) (hml : c.maxLocals = 10) (hown : s.vm.findClass R_Mod = some m.cls) (hT : ∀ w ∈ TG, w.before args s = true) (hK : va_K (dC, dI) CL (TY cI cB cJ cZ) s) (hN : NW s) (hA : ∀ q : Nat, s.heap.size ≤ q → A q) (hRc : cells ≤ R.cells) (hRs : slots ≤ R.slots) (hRf : 4 ≤ R.frames) (hRl : 90 ≤ R.locals) (hret : ∀ (x : St) (H : Heap) (locs : List Loc) (pc : Nat) (ls : Array Slot), decode b_Mod_putChunk pc = .ok (.return_, 1) → post x → Wd dC dI cI cB cJ cZ ad stM kcM 115 A x H → va_S A s.heap H locs → W p l e R s m args below meth c H locs cells slots Q (F0 m pc ls [])) : ∀ (l1 : Int32) (l2 : Int32) (l3 : Int32) (l4 : Int32) (x : St) (H : Heap) (locs : List Loc) (ls : Array Slot), wp_Mod_putChunk post l1 l2 l3 l4 x → Wd dC dI cI cB cJ cZ ad stM kcM 115 A x H → va_S A s.heap H locs → lv_has ls 10 [(0, .ref (ad 0)), (1, .int l1), (2, .int l2), (3, .int l3), (4, .int l4)] → W p l e R s m args below meth c H locs cells slots Q (F0 m 0 ls []) := by
  intro l1 l2 l3 l4 x H locs ls  hw hW hS hl
  unfold wp_Mod_putChunk at hw
  refine lv_iconst (v := (-1)) hx hb d_Mod_putChunk_0 (by decide) ?_
  refine lv_istore (lv' := [(5, .int (-1)), (0, .ref (ad 0)), (1, .int l1), (2, .int l2), (3, .int l3), (4, .int l4)]) hx hb d_Mod_putChunk_1 hl (by decide) rfl (fun ls hl => ?_)
  refine lv_iconst (v := (-1)) hx hb d_Mod_putChunk_3 (by decide) ?_
  refine lv_istore (lv' := [(6, .int (-1)), (5, .int (-1)), (0, .ref (ad 0)), (1, .int l1), (2, .int l2), (3, .int l3), (4, .int l4)]) hx hb d_Mod_putChunk_4 hl (by decide) rfl (fun ls hl => ?_)
  refine lv_iconst (v := 0) hx hb d_Mod_putChunk_6 (by decide) ?_
  refine lv_istore (lv' := [(7, .int 0), (6, .int (-1)), (5, .int (-1)), (0, .ref (ad 0)), (1, .int l1), (2, .int l2), (3, .int l3), (4, .int l4)]) hx hb d_Mod_putChunk_7 hl (by decide) rfl (fun ls hl => ?_)
  refine lv_aload_n hx hb d_Mod_putChunk_9 rfl (lv_at hl 3 rfl) ?_
  refine lv_iconst (v := 0) hx hb d_Mod_putChunk_10 (by decide) ?_
  refine lv_iload_n hx hb d_Mod_putChunk_11 rfl (lv_at hl 5 rfl) ?_
  have hF := hW.free hS hA
  refine va_calli (va_runV (C := R_Mod) (As := [.int 0, .int l2]) (rest := []) ⟨hx, hb, hml, hown, hT⟩ (k_Mod_typeOf l dC dI cI cB cJ cZ ad H.size 0 l2 x  hw) ⟨callB_of 2 hT (gwt_in w_11_158) rfl rfl rfl (hT _ w_1_15) (hT _ w_11_155) (by decide +kernel) ⟨Nat.le_trans (Nat.le_of_ble_eq_true rfl) hRf, Nat.le_trans (Nat.le_of_ble_eq_true rfl) hRl⟩, hT _ w_11_157, hT _ ws_144⟩ ⟨PW.blind, va_recv hK hW.1 (ci := 12) (q0 := 0) rfl (pic_obj ko_0.1 ko_0.2 (by decide)), PW.at _ hW hK hN⟩ rfl rfl hl.1 rfl (lv_room (Nat.le_of_ble_eq_true rfl)) d_Mod_putChunk_12 ⟨hRc, hRs⟩) hS (fun q _ h => hF q h) hF (fun r843 x842 t H locs ht hvm hw hB hz1 hk1 hS => ?_)
  have hW := Wd.back hB ht hF
  clear hB ht hF hz1 hk1 hvm
  refine lv_istore (lv' := [(8, .int r843), (7, .int 0), (6, .int (-1)), (5, .int (-1)), (0, .ref (ad 0)), (1, .int l1), (2, .int l2), (3, .int l3), (4, .int l4)]) hx hb d_Mod_putChunk_15 hl (by decide) rfl (fun ls hl => ?_)
  refine lv_aload_n hx hb d_Mod_putChunk_17 rfl (lv_at hl 4 rfl) ?_
  refine w_getf (q := 23) (k := 31) (t := 12) (C := R_Mod) (T := F_Mod) (N := 167) hx hb hT hown hK hW ko_0.1 ko_0.2 (by decide) in_Mod rfl rfl (by decide) rfl fr_Mod_31 w_8_207 d_Mod_putChunk_18 rfl ?_
  refine lv_iload_n hx hb d_Mod_putChunk_21 rfl (lv_at hl 7 rfl) ?_
  obtain ⟨hi, hw⟩ := hw
  refine w_iald (o := 23) hx hb hK hW ko_23.1 ko_23.2 hi d_Mod_putChunk_22 ?_
  refine lv_topi (fun v844 ev844 => ?_)
  have hw := hw v844 ev844
  refine lv_istore (lv' := [(9, .int v844), (8, .int r843), (7, .int 0), (6, .int (-1)), (5, .int (-1)), (0, .ref (ad 0)), (1, .int l1), (2, .int l2), (3, .int l3), (4, .int l4)]) hx hb d_Mod_putChunk_23 hl (by decide) rfl (fun ls hl => ?_)
  obtain ⟨n, hw⟩ := hw
  exact tl_Mod_putChunk_25 hx hb hml hown hT hK hN hA hRc hRs hRf hRl hret  n l1 l2 l3 l4 (-1) (-1) 0 r843 v844 x842 H locs ls  hw hW hS (lv_sub hl [5, 6, 7, 8, 9, 4, 3, 2, 1, 0] rfl)
set_option maxHeartbeats 4000000 in
set_option maxRecDepth 100000 in
theorem k_Mod_putChunk (l : Launch) (dC : Nat → ClassId) (dI : Nat → Nat → Nat) (cI cB cJ cZ : ClassId) (ad : Nat → Nat) (sz : Nat) (l1 : Int32) (l2 : Int32) (l3 : Int32) (l4 : Int32) (x : St) {post : St → Prop} (hw : wp_Mod_putChunk post l1 l2 l3 l4 x) : Met l y_Mod_putChunk (wsOf y_Mod_putChunk b_Mod_putChunk 10 (none)) ({ frames := 4, cells := 0, slots := 0, locals := 90 }) (va_Pc [.ref (ad 0), .int l1, .int l2, .int l3, .int l4] (PW dC dI cI cB cJ cZ ad stM kcM 115 sz x)) (va_Qv (fun (y : St) => post y) (fun y t => Wd dC dI cI cB cJ cZ ad stM kcM 115 (va_A (pic ad stM kcM 115 cI cB cJ cZ x) sz) y t.heap) (va_A (pic ad stM kcM 115 cI cB cJ cZ x) sz)) 0 0 (va_A (pic ad stM kcM 115 cI cB cJ cZ x) sz) := by
  refine Met.ofW (cc := b_Mod_putChunk) (maxL := 10) (ret := none) (by decide) rfl ?_
  intro p e s m args below meth c s₁ B hml hv
  obtain ⟨rfl, hsz, hW0, hK, hN⟩ := hv
  have hx := B.exec
  have hb := B.bytes
  have hr := B.returns
  have hts := atoms_spec B.pre
  have hT : ∀ w ∈ TG, w.before _ s = true := fun w h => hts w (List.mem_cons_of_mem _ h)
  have hown : s.vm.findClass R_Mod = some m.cls := findClass_of_methodNamed B.named
  have hlocks := B.notSynchronized
  subst hsz
  have hW : Wd dC dI cI cB cJ cZ ad stM kcM 115 (va_A (pic ad stM kcM 115 cI cB cJ cZ x) s.heap.size) x s.heap := ⟨hW0.1, hW0.2.1.self (sz := s.heap.size), hW0.2.2⟩
  generalize hAe : va_A (pic ad stM kcM 115 cI cB cJ cZ x) s.heap.size = A at hW ⊢
  have hA : ∀ q : Nat, s.heap.size ≤ q → A q := fun q h => by rw [← hAe]; exact Or.inr h
  have hS : va_S A s.heap s.heap [] := va_S.rf
  have hl := lv_entry ([.ref (ad 0), .int l1, .int l2, .int l3, .int l4]) (n := 10) (Nat.le_of_ble_eq_true rfl)
  rw [lg_entry_eq]
  generalize (lg_sl ([.ref (ad 0), .int l1, .int l2, .int l3, .int l4]) ++ List.replicate (10 - (lg_sl ([.ref (ad 0), .int l1, .int l2, .int l3, .int l4])).length) Slot.unset).toArray = ls at hl ⊢
  have hl : lv_has ls 10 [(0, .ref (ad 0)), (1, .int l1), (2, .int l2), (3, .int l3), (4, .int l4)] := hl
  exact t_Mod_putChunk_e hx hb hml hown hT hK hN hA (Nat.le_refl 0) (Nat.le_refl 0) (Nat.le_refl 4) (Nat.le_refl 90) (fun x H locs pc ls hd hp hW hS => W.vret hx hb hr (fun t ht hM => ⟨⟨x, rfl, hp, Wd.back hW ht.symm (fun _ z => z)⟩, hS.F ht⟩) hS.2.2 hd hlocks)  l1 l2 l3 l4 x _ _ ls  hw hW hS hl
end
