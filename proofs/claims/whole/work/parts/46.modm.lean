theorem w_11_100 : (Jvm.Cond.code ({ cls := "StripedVaultModel", name := "readNumber", desc := "()J" } : Jvm.MethodName) prog_14_method_33_code (9 : Nat) (Option.some Jvm.ClassFile.FieldType.long)) ∈ TG := tw_11 100 (by decide +kernel) (by decide +kernel)
theorem w_11_101 : (Jvm.Cond.constantLong "StripedVaultModel" (487 : Nat) (-9223372036854775808 : Int64)) ∈ TG := tw_11 101 (by decide +kernel) (by decide +kernel)
theorem w_11_102 : (Jvm.Cond.constantLong "StripedVaultModel" (489 : Nat) (10 : Int64)) ∈ TG := tw_11 102 (by decide +kernel) (by decide +kernel)
theorem w_11_59 : (Jvm.Cond.methodLink "StripedVaultModel" (495 : Nat) ({ cls := "StripedVaultModel", name := "readGroup", desc := "(II)V" } : Jvm.MethodName)) ∈ TG := tw_11 59 (by decide +kernel) (by decide +kernel)
theorem w_11_61 : (Jvm.Cond.instanceMethod ({ cls := "StripedVaultModel", name := "readGroup", desc := "(II)V" } : Jvm.MethodName)) ∈ TG := tw_11 61 (by decide +kernel) (by decide +kernel)
theorem w_11_62 : (Jvm.Cond.code ({ cls := "StripedVaultModel", name := "readGroup", desc := "(II)V" } : Jvm.MethodName) prog_14_method_37_code (7 : Nat) (Option.none : Option Jvm.ClassFile.FieldType)) ∈ TG := tw_11 62 (by decide +kernel) (by decide +kernel)
theorem w_11_63 : (Jvm.Cond.methodLink "StripedVaultModel" (513 : Nat) ({ cls := "StripedVaultModel", name := "ends", desc := "(II)V" } : Jvm.MethodName)) ∈ TG := tw_11 63 (by decide +kernel) (by decide +kernel)
theorem w_11_65 : (Jvm.Cond.instanceMethod ({ cls := "StripedVaultModel", name := "ends", desc := "(II)V" } : Jvm.MethodName)) ∈ TG := tw_11 65 (by decide +kernel) (by decide +kernel)
theorem w_11_66 : (Jvm.Cond.code ({ cls := "StripedVaultModel", name := "ends", desc := "(II)V" } : Jvm.MethodName) prog_14_method_38_code (3 : Nat) (Option.none : Option Jvm.ClassFile.FieldType)) ∈ TG := tw_11 66 (by decide +kernel) (by decide +kernel)
theorem w_11_71 : (Jvm.Cond.methodLink "StripedVaultModel" (520 : Nat) ({ cls := "StripedVaultModel", name := "readRow", desc := "(II)V" } : Jvm.MethodName)) ∈ TG := tw_11 71 (by decide +kernel) (by decide +kernel)
theorem w_11_73 : (Jvm.Cond.instanceMethod ({ cls := "StripedVaultModel", name := "readRow", desc := "(II)V" } : Jvm.MethodName)) ∈ TG := tw_11 73 (by decide +kernel) (by decide +kernel)
theorem w_11_74 : (Jvm.Cond.code ({ cls := "StripedVaultModel", name := "readRow", desc := "(II)V" } : Jvm.MethodName) prog_14_method_35_code (3 : Nat) (Option.none : Option Jvm.ClassFile.FieldType)) ∈ TG := tw_11 74 (by decide +kernel) (by decide +kernel)
theorem w_11_75 : (Jvm.Cond.methodLink "StripedVaultModel" (510 : Nat) ({ cls := "StripedVaultModel", name := "readValue", desc := "(II)V" } : Jvm.MethodName)) ∈ TG := tw_11 75 (by decide +kernel) (by decide +kernel)
theorem w_11_77 : (Jvm.Cond.instanceMethod ({ cls := "StripedVaultModel", name := "readValue", desc := "(II)V" } : Jvm.MethodName)) ∈ TG := tw_11 77 (by decide +kernel) (by decide +kernel)
theorem w_11_78 : (Jvm.Cond.code ({ cls := "StripedVaultModel", name := "readValue", desc := "(II)V" } : Jvm.MethodName) prog_14_method_34_code (7 : Nat) (Option.none : Option Jvm.ClassFile.FieldType)) ∈ TG := tw_11 78 (by decide +kernel) (by decide +kernel)
theorem w_11_79 : (Jvm.Cond.methodLink "StripedVaultModel" (491 : Nat) ({ cls := "StripedVaultModel", name := "node", desc := "(IIJ)I" } : Jvm.MethodName)) ∈ TG := tw_11 79 (by decide +kernel) (by decide +kernel)
theorem w_11_81 : (Jvm.Cond.instanceMethod ({ cls := "StripedVaultModel", name := "node", desc := "(IIJ)I" } : Jvm.MethodName)) ∈ TG := tw_11 81 (by decide +kernel) (by decide +kernel)
theorem w_11_82 : (Jvm.Cond.code ({ cls := "StripedVaultModel", name := "node", desc := "(IIJ)I" } : Jvm.MethodName) prog_14_method_29_code (5 : Nat) (Option.some Jvm.ClassFile.FieldType.int)) ∈ TG := tw_11 82 (by decide +kernel) (by decide +kernel)
theorem w_11_83 : (Jvm.Cond.methodLink "StripedVaultModel" (499 : Nat) ({ cls := "StripedVaultModel", name := "readText", desc := "()V" } : Jvm.MethodName)) ∈ TG := tw_11 83 (by decide +kernel) (by decide +kernel)
theorem w_11_85 : (Jvm.Cond.instanceMethod ({ cls := "StripedVaultModel", name := "readText", desc := "()V" } : Jvm.MethodName)) ∈ TG := tw_11 85 (by decide +kernel) (by decide +kernel)
theorem w_11_86 : (Jvm.Cond.code ({ cls := "StripedVaultModel", name := "readText", desc := "()V" } : Jvm.MethodName) prog_14_method_31_code (4 : Nat) (Option.none : Option Jvm.ClassFile.FieldType)) ∈ TG := tw_11 86 (by decide +kernel) (by decide +kernel)
theorem w_11_87 : (Jvm.Cond.methodLink "StripedVaultModel" (479 : Nat) ({ cls := "StripedVaultModel", name := "behind", desc := "(I)I" } : Jvm.MethodName)) ∈ TG := tw_11 87 (by decide +kernel) (by decide +kernel)
theorem w_11_89 : (Jvm.Cond.instanceMethod ({ cls := "StripedVaultModel", name := "behind", desc := "(I)I" } : Jvm.MethodName)) ∈ TG := tw_11 89 (by decide +kernel) (by decide +kernel)
theorem w_11_90 : (Jvm.Cond.code ({ cls := "StripedVaultModel", name := "behind", desc := "(I)I" } : Jvm.MethodName) prog_14_method_32_code (7 : Nat) (Option.some Jvm.ClassFile.FieldType.int)) ∈ TG := tw_11 90 (by decide +kernel) (by decide +kernel)
theorem w_11_91 : (Jvm.Cond.methodLink "StripedVaultModel" (482 : Nat) ({ cls := "StripedVaultModel", name := "say", desc := "(I)V" } : Jvm.MethodName)) ∈ TG := tw_11 91 (by decide +kernel) (by decide +kernel)
theorem w_11_93 : (Jvm.Cond.instanceMethod ({ cls := "StripedVaultModel", name := "say", desc := "(I)V" } : Jvm.MethodName)) ∈ TG := tw_11 93 (by decide +kernel) (by decide +kernel)
theorem w_11_94 : (Jvm.Cond.code ({ cls := "StripedVaultModel", name := "say", desc := "(I)V" } : Jvm.MethodName) prog_14_method_30_code (2 : Nat) (Option.none : Option Jvm.ClassFile.FieldType)) ∈ TG := tw_11 94 (by decide +kernel) (by decide +kernel)
theorem w_11_95 : (Jvm.Cond.constantLong "StripedVaultModel" (502 : Nat) (1953658213 : Int64)) ∈ TG := tw_11 95 (by decide +kernel) (by decide +kernel)
theorem w_11_96 : (Jvm.Cond.constantLong "StripedVaultModel" (504 : Nat) (439721161573 : Int64)) ∈ TG := tw_11 96 (by decide +kernel) (by decide +kernel)
theorem w_11_97 : (Jvm.Cond.methodLink "StripedVaultModel" (506 : Nat) ({ cls := "StripedVaultModel", name := "readNumber", desc := "()J" } : Jvm.MethodName)) ∈ TG := tw_11 97 (by decide +kernel) (by decide +kernel)
theorem w_11_99 : (Jvm.Cond.instanceMethod ({ cls := "StripedVaultModel", name := "readNumber", desc := "()J" } : Jvm.MethodName)) ∈ TG := tw_11 99 (by decide +kernel) (by decide +kernel)
theorem ws_124 : Cond.selects R_Mod y_Mod_readGroup y_Mod_readGroup ∈ TG := tw_s 124 (by decide +kernel) (by decide +kernel)
theorem ws_125 : Cond.selects R_Mod y_Mod_ends y_Mod_ends ∈ TG := tw_s 125 (by decide +kernel) (by decide +kernel)
theorem ws_127 : Cond.selects R_Mod y_Mod_readRow y_Mod_readRow ∈ TG := tw_s 127 (by decide +kernel) (by decide +kernel)
theorem ws_128 : Cond.selects R_Mod y_Mod_readValue y_Mod_readValue ∈ TG := tw_s 128 (by decide +kernel) (by decide +kernel)
theorem ws_129 : Cond.selects R_Mod y_Mod_node y_Mod_node ∈ TG := tw_s 129 (by decide +kernel) (by decide +kernel)
theorem ws_130 : Cond.selects R_Mod y_Mod_readText y_Mod_readText ∈ TG := tw_s 130 (by decide +kernel) (by decide +kernel)
theorem ws_131 : Cond.selects R_Mod y_Mod_behind y_Mod_behind ∈ TG := tw_s 131 (by decide +kernel) (by decide +kernel)
theorem ws_132 : Cond.selects R_Mod y_Mod_say y_Mod_say ∈ TG := tw_s 132 (by decide +kernel) (by decide +kernel)
theorem ws_133 : Cond.selects R_Mod y_Mod_readNumber y_Mod_readNumber ∈ TG := tw_s 133 (by decide +kernel) (by decide +kernel)
theorem d_Mod_say_0 : decode b_Mod_say 0 = .ok (.aload_n 0, 1) := by decide +kernel
theorem d_Mod_say_1 : decode b_Mod_say 1 = .ok (.getfield 56, 3) := by decide +kernel
theorem d_Mod_say_4 : decode b_Mod_say 4 = .ok (.aload_n 0, 1) := by decide +kernel
theorem d_Mod_say_5 : decode b_Mod_say 5 = .ok (.getfield 476, 3) := by decide +kernel
theorem d_Mod_say_8 : decode b_Mod_say 8 = .ok (.iload_n 1, 1) := by decide +kernel
theorem d_Mod_say_9 : decode b_Mod_say 9 = .ok (.iastore, 1) := by decide +kernel
theorem d_Mod_say_10 : decode b_Mod_say 10 = .ok (.aload_n 0, 1) := by decide +kernel
theorem d_Mod_say_11 : decode b_Mod_say 11 = .ok (.dup, 1) := by decide +kernel
theorem d_Mod_say_12 : decode b_Mod_say 12 = .ok (.getfield 476, 3) := by decide +kernel
theorem d_Mod_say_15 : decode b_Mod_say 15 = .ok (.iconst 1, 1) := by decide +kernel
theorem d_Mod_say_16 : decode b_Mod_say 16 = .ok (.iadd, 1) := by decide +kernel
theorem d_Mod_say_17 : decode b_Mod_say 17 = .ok (.putfield 476, 3) := by decide +kernel
theorem d_Mod_say_20 : decode b_Mod_say 20 = .ok (.return_, 1) := by decide +kernel
theorem d_Mod_readText_120 : decode b_Mod_readText 120 = .ok (.aload_n 0, 1) := by decide +kernel
theorem d_Mod_readText_121 : decode b_Mod_readText 121 = .ok (.dup, 1) := by decide +kernel
theorem d_Mod_readText_122 : decode b_Mod_readText 122 = .ok (.getfield 373, 3) := by decide +kernel
theorem d_Mod_readText_125 : decode b_Mod_readText 125 = .ok (.iconst 1, 1) := by decide +kernel
theorem d_Mod_readText_126 : decode b_Mod_readText 126 = .ok (.iadd, 1) := by decide +kernel
theorem d_Mod_readText_127 : decode b_Mod_readText 127 = .ok (.putfield 373, 3) := by decide +kernel
theorem d_Mod_readText_130 : decode b_Mod_readText 130 = .ok (.return_, 1) := by decide +kernel
theorem d_Mod_readText_111 : decode b_Mod_readText 111 = .ok (.invokevirtual 482, 3) := by decide +kernel
theorem d_Mod_readText_114 : decode b_Mod_readText 114 = .ok (.iinc 1 1, 3) := by decide +kernel
theorem d_Mod_readText_117 : decode b_Mod_readText 117 = .ok (.goto (-87), 3) := by decide +kernel
theorem d_Mod_readText_71 : decode b_Mod_readText 71 = .ok (.aload_n 0, 1) := by decide +kernel
theorem d_Mod_readText_72 : decode b_Mod_readText 72 = .ok (.aload_n 0, 1) := by decide +kernel
theorem d_Mod_readText_73 : decode b_Mod_readText 73 = .ok (.getfield 373, 3) := by decide +kernel
theorem d_Mod_readText_76 : decode b_Mod_readText 76 = .ok (.invokevirtual 408, 3) := by decide +kernel
theorem d_Mod_readText_79 : decode b_Mod_readText 79 = .ok (.return_, 1) := by decide +kernel
theorem d_Mod_readText_30 : decode b_Mod_readText 30 = .ok (.aload_n 0, 1) := by decide +kernel
theorem d_Mod_readText_31 : decode b_Mod_readText 31 = .ok (.getfield 376, 3) := by decide +kernel
theorem d_Mod_readText_34 : decode b_Mod_readText 34 = .ok (.iconst (-1), 1) := by decide +kernel
theorem d_Mod_readText_35 : decode b_Mod_readText 35 = .ok (.if_icmp .ne 85, 3) := by decide +kernel
theorem d_Mod_readText_38 : decode b_Mod_readText 38 = .ok (.aload_n 0, 1) := by decide +kernel
theorem d_Mod_readText_39 : decode b_Mod_readText 39 = .ok (.invokevirtual 379, 3) := by decide +kernel
theorem d_Mod_readText_42 : decode b_Mod_readText 42 = .ok (.bipush 39, 2) := by decide +kernel
theorem d_Mod_readText_44 : decode b_Mod_readText 44 = .ok (.if_icmp .eq 76, 3) := by decide +kernel
theorem d_Mod_readText_47 : decode b_Mod_readText 47 = .ok (.aload_n 0, 1) := by decide +kernel
theorem d_Mod_readText_48 : decode b_Mod_readText 48 = .ok (.invokevirtual 379, 3) := by decide +kernel
theorem d_Mod_readText_51 : decode b_Mod_readText 51 = .ok (.istore_n 2, 1) := by decide +kernel
theorem d_Mod_readText_52 : decode b_Mod_readText 52 = .ok (.iload_n 2, 1) := by decide +kernel
theorem d_Mod_readText_53 : decode b_Mod_readText 53 = .ok (.bipush 32, 2) := by decide +kernel
theorem d_Mod_readText_55 : decode b_Mod_readText 55 = .ok (.if_icmp .lt 16, 3) := by decide +kernel
theorem d_Mod_readText_58 : decode b_Mod_readText 58 = .ok (.iload_n 2, 1) := by decide +kernel
theorem d_Mod_readText_59 : decode b_Mod_readText 59 = .ok (.bipush 126, 2) := by decide +kernel
theorem d_Mod_readText_61 : decode b_Mod_readText 61 = .ok (.if_icmp .gt 10, 3) := by decide +kernel
theorem d_Mod_readText_64 : decode b_Mod_readText 64 = .ok (.iload_n 1, 1) := by decide +kernel
theorem d_Mod_readText_65 : decode b_Mod_readText 65 = .ok (.sipush 255, 3) := by decide +kernel
theorem d_Mod_readText_68 : decode b_Mod_readText 68 = .ok (.if_icmp .ne 12, 3) := by decide +kernel
theorem d_Mod_readText_80 : decode b_Mod_readText 80 = .ok (.aload_n 0, 1) := by decide +kernel
theorem d_Mod_readText_81 : decode b_Mod_readText 81 = .ok (.getfield 373, 3) := by decide +kernel
theorem d_Mod_readText_84 : decode b_Mod_readText 84 = .ok (.istore_n 3, 1) := by decide +kernel
theorem d_Mod_readText_85 : decode b_Mod_readText 85 = .ok (.aload_n 0, 1) := by decide +kernel
theorem d_Mod_readText_86 : decode b_Mod_readText 86 = .ok (.dup, 1) := by decide +kernel
theorem d_Mod_readText_87 : decode b_Mod_readText 87 = .ok (.getfield 373, 3) := by decide +kernel
theorem d_Mod_readText_90 : decode b_Mod_readText 90 = .ok (.iconst 1, 1) := by decide +kernel
theorem d_Mod_readText_91 : decode b_Mod_readText 91 = .ok (.iadd, 1) := by decide +kernel
theorem d_Mod_readText_92 : decode b_Mod_readText 92 = .ok (.putfield 373, 3) := by decide +kernel
theorem d_Mod_readText_95 : decode b_Mod_readText 95 = .ok (.aload_n 0, 1) := by decide +kernel
theorem d_Mod_readText_96 : decode b_Mod_readText 96 = .ok (.iload_n 2, 1) := by decide +kernel
theorem d_Mod_readText_97 : decode b_Mod_readText 97 = .ok (.bipush 92, 2) := by decide +kernel
theorem d_Mod_readText_99 : decode b_Mod_readText 99 = .ok (.if_icmp .ne 11, 3) := by decide +kernel
theorem d_Mod_readText_110 : decode b_Mod_readText 110 = .ok (.iload_n 2, 1) := by decide +kernel
theorem d_Mod_readText_102 : decode b_Mod_readText 102 = .ok (.aload_n 0, 1) := by decide +kernel
theorem d_Mod_readText_103 : decode b_Mod_readText 103 = .ok (.iload_n 3, 1) := by decide +kernel
theorem d_Mod_readText_104 : decode b_Mod_readText 104 = .ok (.invokevirtual 479, 3) := by decide +kernel
theorem d_Mod_readText_107 : decode b_Mod_readText 107 = .ok (.goto 4, 3) := by decide +kernel
theorem d_Mod_readText_0 : decode b_Mod_readText 0 = .ok (.aload_n 0, 1) := by decide +kernel
theorem d_Mod_readText_1 : decode b_Mod_readText 1 = .ok (.invokevirtual 379, 3) := by decide +kernel
theorem d_Mod_readText_4 : decode b_Mod_readText 4 = .ok (.bipush 39, 2) := by decide +kernel
theorem d_Mod_readText_6 : decode b_Mod_readText 6 = .ok (.if_icmp .eq 12, 3) := by decide +kernel
theorem d_Mod_readText_18 : decode b_Mod_readText 18 = .ok (.aload_n 0, 1) := by decide +kernel
theorem d_Mod_readText_19 : decode b_Mod_readText 19 = .ok (.dup, 1) := by decide +kernel
theorem d_Mod_readText_20 : decode b_Mod_readText 20 = .ok (.getfield 373, 3) := by decide +kernel
theorem d_Mod_readText_23 : decode b_Mod_readText 23 = .ok (.iconst 1, 1) := by decide +kernel
theorem d_Mod_readText_24 : decode b_Mod_readText 24 = .ok (.iadd, 1) := by decide +kernel
theorem d_Mod_readText_25 : decode b_Mod_readText 25 = .ok (.putfield 373, 3) := by decide +kernel
theorem d_Mod_readText_28 : decode b_Mod_readText 28 = .ok (.iconst 0, 1) := by decide +kernel
theorem d_Mod_readText_29 : decode b_Mod_readText 29 = .ok (.istore_n 1, 1) := by decide +kernel
theorem d_Mod_readText_9 : decode b_Mod_readText 9 = .ok (.aload_n 0, 1) := by decide +kernel
theorem d_Mod_readText_10 : decode b_Mod_readText 10 = .ok (.aload_n 0, 1) := by decide +kernel
theorem d_Mod_readText_11 : decode b_Mod_readText 11 = .ok (.getfield 373, 3) := by decide +kernel
theorem d_Mod_readText_14 : decode b_Mod_readText 14 = .ok (.invokevirtual 408, 3) := by decide +kernel
theorem d_Mod_readText_17 : decode b_Mod_readText 17 = .ok (.return_, 1) := by decide +kernel
theorem d_Mod_readNumber_211 : decode b_Mod_readNumber 211 = .ok (.iload_n 2, 1) := by decide +kernel
theorem d_Mod_readNumber_212 : decode b_Mod_readNumber 212 = .ok (.ifCond .eq 8, 3) := by decide +kernel
theorem d_Mod_readNumber_220 : decode b_Mod_readNumber 220 = .ok (.lload 5, 2) := by decide +kernel
theorem d_Mod_readNumber_222 : decode b_Mod_readNumber 222 = .ok (.lneg, 1) := by decide +kernel
theorem d_Mod_readNumber_223 : decode b_Mod_readNumber 223 = .ok (.lreturn, 1) := by decide +kernel
theorem d_Mod_readNumber_215 : decode b_Mod_readNumber 215 = .ok (.lload 5, 2) := by decide +kernel
theorem d_Mod_readNumber_217 : decode b_Mod_readNumber 217 = .ok (.goto 6, 3) := by decide +kernel
theorem d_Mod_readNumber_206 : decode b_Mod_readNumber 206 = .ok (.aload_n 0, 1) := by decide +kernel
theorem d_Mod_readNumber_207 : decode b_Mod_readNumber 207 = .ok (.iload_n 1, 1) := by decide +kernel
theorem d_Mod_readNumber_208 : decode b_Mod_readNumber 208 = .ok (.invokevirtual 408, 3) := by decide +kernel
theorem d_Mod_readNumber_193 : decode b_Mod_readNumber 193 = .ok (.iload_n 2, 1) := by decide +kernel
theorem d_Mod_readNumber_194 : decode b_Mod_readNumber 194 = .ok (.ifCond .ne 17, 3) := by decide +kernel
theorem d_Mod_readNumber_197 : decode b_Mod_readNumber 197 = .ok (.lload 5, 2) := by decide +kernel
theorem d_Mod_readNumber_199 : decode b_Mod_readNumber 199 = .ok (.ldc2_w 487, 3) := by decide +kernel
theorem d_Mod_readNumber_202 : decode b_Mod_readNumber 202 = .ok (.lcmp, 1) := by decide +kernel
theorem d_Mod_readNumber_203 : decode b_Mod_readNumber 203 = .ok (.ifCond .ne 8, 3) := by decide +kernel
theorem d_Mod_readNumber_142 : decode b_Mod_readNumber 142 = .ok (.istore 7, 2) := by decide +kernel
theorem d_Mod_readNumber_144 : decode b_Mod_readNumber 144 = .ok (.ldc2_w 489, 3) := by decide +kernel
theorem d_Mod_readNumber_147 : decode b_Mod_readNumber 147 = .ok (.lload 5, 2) := by decide +kernel
theorem d_Mod_readNumber_149 : decode b_Mod_readNumber 149 = .ok (.lmul, 1) := by decide +kernel
theorem d_Mod_readNumber_150 : decode b_Mod_readNumber 150 = .ok (.iload 8, 2) := by decide +kernel
theorem d_Mod_readNumber_152 : decode b_Mod_readNumber 152 = .ok (.i2l, 1) := by decide +kernel
theorem d_Mod_readNumber_153 : decode b_Mod_readNumber 153 = .ok (.lsub, 1) := by decide +kernel
theorem d_Mod_readNumber_154 : decode b_Mod_readNumber 154 = .ok (.lstore 5, 2) := by decide +kernel
theorem d_Mod_readNumber_156 : decode b_Mod_readNumber 156 = .ok (.aload_n 0, 1) := by decide +kernel
theorem d_Mod_readNumber_157 : decode b_Mod_readNumber 157 = .ok (.dup, 1) := by decide +kernel
theorem d_Mod_readNumber_158 : decode b_Mod_readNumber 158 = .ok (.getfield 373, 3) := by decide +kernel
theorem d_Mod_readNumber_161 : decode b_Mod_readNumber 161 = .ok (.iconst 1, 1) := by decide +kernel
theorem d_Mod_readNumber_162 : decode b_Mod_readNumber 162 = .ok (.iadd, 1) := by decide +kernel
theorem d_Mod_readNumber_163 : decode b_Mod_readNumber 163 = .ok (.putfield 373, 3) := by decide +kernel
theorem d_Mod_readNumber_166 : decode b_Mod_readNumber 166 = .ok (.goto (-70), 3) := by decide +kernel
theorem d_Mod_readNumber_137 : decode b_Mod_readNumber 137 = .ok (.iconst 1, 1) := by decide +kernel
theorem d_Mod_readNumber_138 : decode b_Mod_readNumber 138 = .ok (.goto 4, 3) := by decide +kernel
theorem d_Mod_readNumber_96 : decode b_Mod_readNumber 96 = .ok (.aload_n 0, 1) := by decide +kernel
theorem d_Mod_readNumber_97 : decode b_Mod_readNumber 97 = .ok (.invokevirtual 379, 3) := by decide +kernel
theorem d_Mod_readNumber_100 : decode b_Mod_readNumber 100 = .ok (.invokestatic 387, 3) := by decide +kernel
theorem d_Mod_readNumber_103 : decode b_Mod_readNumber 103 = .ok (.ifCond .eq 66, 3) := by decide +kernel
theorem d_Mod_readNumber_169 : decode b_Mod_readNumber 169 = .ok (.iload 7, 2) := by decide +kernel
theorem d_Mod_readNumber_171 : decode b_Mod_readNumber 171 = .ok (.ifCond .ne 35, 3) := by decide +kernel
theorem d_Mod_readNumber_174 : decode b_Mod_readNumber 174 = .ok (.iload_n 3, 1) := by decide +kernel
theorem d_Mod_readNumber_175 : decode b_Mod_readNumber 175 = .ok (.ifCond .eq 18, 3) := by decide +kernel
theorem d_Mod_readNumber_178 : decode b_Mod_readNumber 178 = .ok (.iload_n 2, 1) := by decide +kernel
theorem d_Mod_readNumber_179 : decode b_Mod_readNumber 179 = .ok (.ifCond .ne 27, 3) := by decide +kernel
theorem d_Mod_readNumber_182 : decode b_Mod_readNumber 182 = .ok (.aload_n 0, 1) := by decide +kernel
theorem d_Mod_readNumber_183 : decode b_Mod_readNumber 183 = .ok (.getfield 373, 3) := by decide +kernel
theorem d_Mod_readNumber_186 : decode b_Mod_readNumber 186 = .ok (.iload 4, 2) := by decide +kernel
theorem d_Mod_readNumber_188 : decode b_Mod_readNumber 188 = .ok (.iconst 1, 1) := by decide +kernel
theorem d_Mod_readNumber_189 : decode b_Mod_readNumber 189 = .ok (.iadd, 1) := by decide +kernel
theorem d_Mod_readNumber_190 : decode b_Mod_readNumber 190 = .ok (.if_icmp .gt 16, 3) := by decide +kernel
theorem d_Mod_readNumber_106 : decode b_Mod_readNumber 106 = .ok (.aload_n 0, 1) := by decide +kernel
theorem d_Mod_readNumber_107 : decode b_Mod_readNumber 107 = .ok (.invokevirtual 379, 3) := by decide +kernel
theorem d_Mod_readNumber_110 : decode b_Mod_readNumber 110 = .ok (.bipush 48, 2) := by decide +kernel
theorem d_Mod_readNumber_112 : decode b_Mod_readNumber 112 = .ok (.isub, 1) := by decide +kernel
theorem d_Mod_readNumber_113 : decode b_Mod_readNumber 113 = .ok (.istore 8, 2) := by decide +kernel
theorem d_Mod_readNumber_115 : decode b_Mod_readNumber 115 = .ok (.iload 7, 2) := by decide +kernel
theorem d_Mod_readNumber_117 : decode b_Mod_readNumber 117 = .ok (.ifCond .ne 20, 3) := by decide +kernel
theorem d_Mod_readNumber_120 : decode b_Mod_readNumber 120 = .ok (.lload 5, 2) := by decide +kernel
theorem d_Mod_readNumber_122 : decode b_Mod_readNumber 122 = .ok (.ldc2_w 487, 3) := by decide +kernel
theorem d_Mod_readNumber_125 : decode b_Mod_readNumber 125 = .ok (.iload 8, 2) := by decide +kernel
theorem d_Mod_readNumber_127 : decode b_Mod_readNumber 127 = .ok (.i2l, 1) := by decide +kernel
theorem d_Mod_readNumber_128 : decode b_Mod_readNumber 128 = .ok (.ladd, 1) := by decide +kernel
theorem d_Mod_readNumber_129 : decode b_Mod_readNumber 129 = .ok (.ldc2_w 489, 3) := by decide +kernel
theorem d_Mod_readNumber_132 : decode b_Mod_readNumber 132 = .ok (.ldiv, 1) := by decide +kernel
theorem d_Mod_readNumber_133 : decode b_Mod_readNumber 133 = .ok (.lcmp, 1) := by decide +kernel
theorem d_Mod_readNumber_134 : decode b_Mod_readNumber 134 = .ok (.ifCond .ge 7, 3) := by decide +kernel
theorem d_Mod_readNumber_141 : decode b_Mod_readNumber 141 = .ok (.iconst 0, 1) := by decide +kernel
theorem d_Mod_readNumber_83 : decode b_Mod_readNumber 83 = .ok (.istore_n 3, 1) := by decide +kernel
theorem d_Mod_readNumber_84 : decode b_Mod_readNumber 84 = .ok (.aload_n 0, 1) := by decide +kernel
theorem d_Mod_readNumber_85 : decode b_Mod_readNumber 85 = .ok (.getfield 373, 3) := by decide +kernel
theorem d_Mod_readNumber_88 : decode b_Mod_readNumber 88 = .ok (.istore 4, 2) := by decide +kernel
theorem d_Mod_readNumber_90 : decode b_Mod_readNumber 90 = .ok (.lconst 0, 1) := by decide +kernel
theorem d_Mod_readNumber_91 : decode b_Mod_readNumber 91 = .ok (.lstore 5, 2) := by decide +kernel
theorem d_Mod_readNumber_93 : decode b_Mod_readNumber 93 = .ok (.iconst 0, 1) := by decide +kernel
theorem d_Mod_readNumber_94 : decode b_Mod_readNumber 94 = .ok (.istore 7, 2) := by decide +kernel
theorem d_Mod_readNumber_64 : decode b_Mod_readNumber 64 = .ok (.invokevirtual 408, 3) := by decide +kernel
theorem d_Mod_readNumber_67 : decode b_Mod_readNumber 67 = .ok (.lconst 0, 1) := by decide +kernel
theorem d_Mod_readNumber_68 : decode b_Mod_readNumber 68 = .ok (.lreturn, 1) := by decide +kernel
theorem d_Mod_readNumber_34 : decode b_Mod_readNumber 34 = .ok (.aload_n 0, 1) := by decide +kernel
theorem d_Mod_readNumber_35 : decode b_Mod_readNumber 35 = .ok (.invokevirtual 379, 3) := by decide +kernel
theorem d_Mod_readNumber_38 : decode b_Mod_readNumber 38 = .ok (.invokestatic 387, 3) := by decide +kernel
theorem d_Mod_readNumber_41 : decode b_Mod_readNumber 41 = .ok (.ifCond .ne 28, 3) := by decide +kernel
theorem d_Mod_readNumber_69 : decode b_Mod_readNumber 69 = .ok (.aload_n 0, 1) := by decide +kernel
theorem d_Mod_readNumber_70 : decode b_Mod_readNumber 70 = .ok (.invokevirtual 379, 3) := by decide +kernel
theorem d_Mod_readNumber_73 : decode b_Mod_readNumber 73 = .ok (.bipush 48, 2) := by decide +kernel
theorem d_Mod_readNumber_75 : decode b_Mod_readNumber 75 = .ok (.if_icmp .ne 7, 3) := by decide +kernel
theorem d_Mod_readNumber_82 : decode b_Mod_readNumber 82 = .ok (.iconst 0, 1) := by decide +kernel
theorem d_Mod_readNumber_78 : decode b_Mod_readNumber 78 = .ok (.iconst 1, 1) := by decide +kernel
theorem d_Mod_readNumber_79 : decode b_Mod_readNumber 79 = .ok (.goto 4, 3) := by decide +kernel
theorem d_Mod_readNumber_44 : decode b_Mod_readNumber 44 = .ok (.aload_n 0, 1) := by decide +kernel
theorem d_Mod_readNumber_45 : decode b_Mod_readNumber 45 = .ok (.aload_n 0, 1) := by decide +kernel
theorem d_Mod_readNumber_46 : decode b_Mod_readNumber 46 = .ok (.getfield 373, 3) := by decide +kernel
theorem d_Mod_readNumber_49 : decode b_Mod_readNumber 49 = .ok (.aload_n 0, 1) := by decide +kernel
theorem d_Mod_readNumber_50 : decode b_Mod_readNumber 50 = .ok (.getfield 370, 3) := by decide +kernel
theorem d_Mod_readNumber_53 : decode b_Mod_readNumber 53 = .ok (.if_icmp .ne 10, 3) := by decide +kernel
theorem d_Mod_readNumber_63 : decode b_Mod_readNumber 63 = .ok (.iload_n 1, 1) := by decide +kernel
theorem d_Mod_readNumber_56 : decode b_Mod_readNumber 56 = .ok (.aload_n 0, 1) := by decide +kernel
theorem d_Mod_readNumber_57 : decode b_Mod_readNumber 57 = .ok (.getfield 370, 3) := by decide +kernel
theorem d_Mod_readNumber_60 : decode b_Mod_readNumber 60 = .ok (.goto 4, 3) := by decide +kernel
theorem d_Mod_readNumber_19 : decode b_Mod_readNumber 19 = .ok (.istore_n 2, 1) := by decide +kernel
theorem d_Mod_readNumber_20 : decode b_Mod_readNumber 20 = .ok (.iload_n 2, 1) := by decide +kernel
theorem d_Mod_readNumber_21 : decode b_Mod_readNumber 21 = .ok (.ifCond .eq 13, 3) := by decide +kernel
theorem d_Mod_readNumber_24 : decode b_Mod_readNumber 24 = .ok (.aload_n 0, 1) := by decide +kernel
theorem d_Mod_readNumber_25 : decode b_Mod_readNumber 25 = .ok (.dup, 1) := by decide +kernel
theorem d_Mod_readNumber_26 : decode b_Mod_readNumber 26 = .ok (.getfield 373, 3) := by decide +kernel
theorem d_Mod_readNumber_29 : decode b_Mod_readNumber 29 = .ok (.iconst 1, 1) := by decide +kernel
theorem d_Mod_readNumber_30 : decode b_Mod_readNumber 30 = .ok (.iadd, 1) := by decide +kernel
theorem d_Mod_readNumber_31 : decode b_Mod_readNumber 31 = .ok (.putfield 373, 3) := by decide +kernel
theorem d_Mod_readNumber_0 : decode b_Mod_readNumber 0 = .ok (.aload_n 0, 1) := by decide +kernel
theorem d_Mod_readNumber_1 : decode b_Mod_readNumber 1 = .ok (.getfield 373, 3) := by decide +kernel
theorem d_Mod_readNumber_4 : decode b_Mod_readNumber 4 = .ok (.istore_n 1, 1) := by decide +kernel
theorem d_Mod_readNumber_5 : decode b_Mod_readNumber 5 = .ok (.aload_n 0, 1) := by decide +kernel
theorem d_Mod_readNumber_6 : decode b_Mod_readNumber 6 = .ok (.invokevirtual 379, 3) := by decide +kernel
theorem d_Mod_readNumber_9 : decode b_Mod_readNumber 9 = .ok (.bipush 45, 2) := by decide +kernel
theorem d_Mod_readNumber_11 : decode b_Mod_readNumber 11 = .ok (.if_icmp .ne 7, 3) := by decide +kernel
theorem d_Mod_readNumber_18 : decode b_Mod_readNumber 18 = .ok (.iconst 0, 1) := by decide +kernel
theorem d_Mod_readNumber_14 : decode b_Mod_readNumber 14 = .ok (.iconst 1, 1) := by decide +kernel
theorem d_Mod_readNumber_15 : decode b_Mod_readNumber 15 = .ok (.goto 4, 3) := by decide +kernel
theorem d_Mod_readGroup_201 : decode b_Mod_readGroup 201 = .ok (.aload_n 0, 1) := by decide +kernel
theorem d_Mod_readGroup_202 : decode b_Mod_readGroup 202 = .ok (.bipush 44, 2) := by decide +kernel
theorem d_Mod_readGroup_204 : decode b_Mod_readGroup 204 = .ok (.invokevirtual 454, 3) := by decide +kernel
theorem d_Mod_readGroup_207 : decode b_Mod_readGroup 207 = .ok (.goto (-196), 3) := by decide +kernel
theorem d_Mod_readGroup_173 : decode b_Mod_readGroup 173 = .ok (.aload_n 0, 1) := by decide +kernel
theorem d_Mod_readGroup_174 : decode b_Mod_readGroup 174 = .ok (.invokevirtual 394, 3) := by decide +kernel
theorem d_Mod_readGroup_177 : decode b_Mod_readGroup 177 = .ok (.aload_n 0, 1) := by decide +kernel
theorem d_Mod_readGroup_178 : decode b_Mod_readGroup 178 = .ok (.getfield 376, 3) := by decide +kernel
theorem d_Mod_readGroup_181 : decode b_Mod_readGroup 181 = .ok (.iconst (-1), 1) := by decide +kernel
theorem d_Mod_readGroup_182 : decode b_Mod_readGroup 182 = .ok (.if_icmp .ne 19, 3) := by decide +kernel
theorem d_Mod_readGroup_185 : decode b_Mod_readGroup 185 = .ok (.aload_n 0, 1) := by decide +kernel
theorem d_Mod_readGroup_186 : decode b_Mod_readGroup 186 = .ok (.invokevirtual 379, 3) := by decide +kernel
theorem d_Mod_readGroup_189 : decode b_Mod_readGroup 189 = .ok (.bipush 125, 2) := by decide +kernel
theorem d_Mod_readGroup_191 : decode b_Mod_readGroup 191 = .ok (.if_icmp .ne 10, 3) := by decide +kernel
theorem d_Mod_readGroup_194 : decode b_Mod_readGroup 194 = .ok (.aload_n 0, 1) := by decide +kernel
theorem d_Mod_readGroup_195 : decode b_Mod_readGroup 195 = .ok (.iload_n 2, 1) := by decide +kernel
theorem d_Mod_readGroup_196 : decode b_Mod_readGroup 196 = .ok (.iload_n 3, 1) := by decide +kernel
theorem d_Mod_readGroup_197 : decode b_Mod_readGroup 197 = .ok (.invokevirtual 513, 3) := by decide +kernel
theorem d_Mod_readGroup_200 : decode b_Mod_readGroup 200 = .ok (.return_, 1) := by decide +kernel
theorem d_Mod_readGroup_101 : decode b_Mod_readGroup 101 = .ok (.aload_n 0, 1) := by decide +kernel
theorem d_Mod_readGroup_102 : decode b_Mod_readGroup 102 = .ok (.aload_n 0, 1) := by decide +kernel
theorem d_Mod_readGroup_103 : decode b_Mod_readGroup 103 = .ok (.getfield 373, 3) := by decide +kernel
theorem d_Mod_readGroup_106 : decode b_Mod_readGroup 106 = .ok (.invokevirtual 408, 3) := by decide +kernel
theorem d_Mod_readGroup_109 : decode b_Mod_readGroup 109 = .ok (.return_, 1) := by decide +kernel
theorem d_Mod_readGroup_82 : decode b_Mod_readGroup 82 = .ok (.istore 6, 2) := by decide +kernel
theorem d_Mod_readGroup_84 : decode b_Mod_readGroup 84 = .ok (.iload 6, 2) := by decide +kernel
theorem d_Mod_readGroup_86 : decode b_Mod_readGroup 86 = .ok (.iload_n 3, 1) := by decide +kernel
theorem d_Mod_readGroup_87 : decode b_Mod_readGroup 87 = .ok (.if_icmp .lt 14, 3) := by decide +kernel
theorem d_Mod_readGroup_90 : decode b_Mod_readGroup 90 = .ok (.aload_n 0, 1) := by decide +kernel
theorem d_Mod_readGroup_91 : decode b_Mod_readGroup 91 = .ok (.iload_n 2, 1) := by decide +kernel
theorem d_Mod_readGroup_92 : decode b_Mod_readGroup 92 = .ok (.iload_n 3, 1) := by decide +kernel
theorem d_Mod_readGroup_93 : decode b_Mod_readGroup 93 = .ok (.iload 6, 2) := by decide +kernel
theorem d_Mod_readGroup_95 : decode b_Mod_readGroup 95 = .ok (.invokevirtual 516, 3) := by decide +kernel
theorem d_Mod_readGroup_98 : decode b_Mod_readGroup 98 = .ok (.ifCond .eq 12, 3) := by decide +kernel
theorem d_Mod_readGroup_110 : decode b_Mod_readGroup 110 = .ok (.aload_n 0, 1) := by decide +kernel
theorem d_Mod_readGroup_111 : decode b_Mod_readGroup 111 = .ok (.dup, 1) := by decide +kernel
theorem d_Mod_readGroup_112 : decode b_Mod_readGroup 112 = .ok (.getfield 373, 3) := by decide +kernel
theorem d_Mod_readGroup_115 : decode b_Mod_readGroup 115 = .ok (.iload 5, 2) := by decide +kernel
theorem d_Mod_readGroup_117 : decode b_Mod_readGroup 117 = .ok (.iadd, 1) := by decide +kernel
theorem d_Mod_readGroup_118 : decode b_Mod_readGroup 118 = .ok (.putfield 373, 3) := by decide +kernel
theorem d_Mod_readGroup_121 : decode b_Mod_readGroup 121 = .ok (.iload 6, 2) := by decide +kernel
theorem d_Mod_readGroup_123 : decode b_Mod_readGroup 123 = .ok (.iconst 1, 1) := by decide +kernel
theorem d_Mod_readGroup_124 : decode b_Mod_readGroup 124 = .ok (.iadd, 1) := by decide +kernel
theorem d_Mod_readGroup_125 : decode b_Mod_readGroup 125 = .ok (.istore_n 3, 1) := by decide +kernel
theorem d_Mod_readGroup_126 : decode b_Mod_readGroup 126 = .ok (.aload_n 0, 1) := by decide +kernel
theorem d_Mod_readGroup_127 : decode b_Mod_readGroup 127 = .ok (.bipush 58, 2) := by decide +kernel
theorem d_Mod_readGroup_129 : decode b_Mod_readGroup 129 = .ok (.invokevirtual 454, 3) := by decide +kernel
theorem d_Mod_readGroup_132 : decode b_Mod_readGroup 132 = .ok (.aload_n 0, 1) := by decide +kernel
theorem d_Mod_readGroup_133 : decode b_Mod_readGroup 133 = .ok (.getfield 376, 3) := by decide +kernel
theorem d_Mod_readGroup_136 : decode b_Mod_readGroup 136 = .ok (.iconst (-1), 1) := by decide +kernel
theorem d_Mod_readGroup_137 : decode b_Mod_readGroup 137 = .ok (.if_icmp .eq 4, 3) := by decide +kernel
theorem d_Mod_readGroup_141 : decode b_Mod_readGroup 141 = .ok (.aload_n 0, 1) := by decide +kernel
theorem d_Mod_readGroup_142 : decode b_Mod_readGroup 142 = .ok (.getfield 17, 3) := by decide +kernel
theorem d_Mod_readGroup_145 : decode b_Mod_readGroup 145 = .ok (.iconst 0, 1) := by decide +kernel
theorem d_Mod_readGroup_146 : decode b_Mod_readGroup 146 = .ok (.iload 6, 2) := by decide +kernel
theorem d_Mod_readGroup_148 : decode b_Mod_readGroup 148 = .ok (.invokestatic 412, 3) := by decide +kernel
theorem d_Mod_readGroup_151 : decode b_Mod_readGroup 151 = .ok (.iaload, 1) := by decide +kernel
theorem d_Mod_readGroup_152 : decode b_Mod_readGroup 152 = .ok (.iconst 2, 1) := by decide +kernel
theorem d_Mod_readGroup_153 : decode b_Mod_readGroup 153 = .ok (.if_icmp .ne 13, 3) := by decide +kernel
theorem d_Mod_readGroup_166 : decode b_Mod_readGroup 166 = .ok (.aload_n 0, 1) := by decide +kernel
theorem d_Mod_readGroup_167 : decode b_Mod_readGroup 167 = .ok (.iload_n 1, 1) := by decide +kernel
theorem d_Mod_readGroup_168 : decode b_Mod_readGroup 168 = .ok (.iload 6, 2) := by decide +kernel
theorem d_Mod_readGroup_170 : decode b_Mod_readGroup 170 = .ok (.invokevirtual 510, 3) := by decide +kernel
theorem d_Mod_readGroup_156 : decode b_Mod_readGroup 156 = .ok (.aload_n 0, 1) := by decide +kernel
theorem d_Mod_readGroup_157 : decode b_Mod_readGroup 157 = .ok (.iload_n 1, 1) := by decide +kernel
theorem d_Mod_readGroup_158 : decode b_Mod_readGroup 158 = .ok (.iload 6, 2) := by decide +kernel
theorem d_Mod_readGroup_160 : decode b_Mod_readGroup 160 = .ok (.invokevirtual 520, 3) := by decide +kernel
theorem d_Mod_readGroup_163 : decode b_Mod_readGroup 163 = .ok (.goto 10, 3) := by decide +kernel
theorem d_Mod_readGroup_140 : decode b_Mod_readGroup 140 = .ok (.return_, 1) := by decide +kernel
theorem d_Mod_readGroup_44 : decode b_Mod_readGroup 44 = .ok (.iconst 0, 1) := by decide +kernel
theorem d_Mod_readGroup_45 : decode b_Mod_readGroup 45 = .ok (.istore 4, 2) := by decide +kernel
theorem d_Mod_readGroup_47 : decode b_Mod_readGroup 47 = .ok (.aload_n 0, 1) := by decide +kernel
theorem d_Mod_readGroup_48 : decode b_Mod_readGroup 48 = .ok (.aload_n 0, 1) := by decide +kernel
theorem d_Mod_readGroup_49 : decode b_Mod_readGroup 49 = .ok (.getfield 373, 3) := by decide +kernel
theorem d_Mod_readGroup_52 : decode b_Mod_readGroup 52 = .ok (.invokevirtual 390, 3) := by decide +kernel
theorem d_Mod_readGroup_55 : decode b_Mod_readGroup 55 = .ok (.istore 5, 2) := by decide +kernel
theorem d_Mod_readGroup_57 : decode b_Mod_readGroup 57 = .ok (.iload 5, 2) := by decide +kernel
theorem d_Mod_readGroup_59 : decode b_Mod_readGroup 59 = .ok (.ifCond .ne 7, 3) := by decide +kernel
theorem d_Mod_readGroup_66 : decode b_Mod_readGroup 66 = .ok (.aload_n 0, 1) := by decide +kernel
theorem d_Mod_readGroup_67 : decode b_Mod_readGroup 67 = .ok (.iconst 0, 1) := by decide +kernel
theorem d_Mod_readGroup_68 : decode b_Mod_readGroup 68 = .ok (.iload_n 2, 1) := by decide +kernel
theorem d_Mod_readGroup_69 : decode b_Mod_readGroup 69 = .ok (.aload_n 0, 1) := by decide +kernel
theorem d_Mod_readGroup_70 : decode b_Mod_readGroup 70 = .ok (.getfield 14, 3) := by decide +kernel
theorem d_Mod_readGroup_73 : decode b_Mod_readGroup 73 = .ok (.aload_n 0, 1) := by decide +kernel
theorem d_Mod_readGroup_74 : decode b_Mod_readGroup 74 = .ok (.getfield 373, 3) := by decide +kernel
theorem d_Mod_readGroup_77 : decode b_Mod_readGroup 77 = .ok (.iload 5, 2) := by decide +kernel
theorem d_Mod_readGroup_79 : decode b_Mod_readGroup 79 = .ok (.invokevirtual 446, 3) := by decide +kernel
theorem d_Mod_readGroup_62 : decode b_Mod_readGroup 62 = .ok (.iconst (-1), 1) := by decide +kernel
theorem d_Mod_readGroup_63 : decode b_Mod_readGroup 63 = .ok (.goto 19, 3) := by decide +kernel
theorem d_Mod_readGroup_11 : decode b_Mod_readGroup 11 = .ok (.aload_n 0, 1) := by decide +kernel
theorem d_Mod_readGroup_12 : decode b_Mod_readGroup 12 = .ok (.getfield 376, 3) := by decide +kernel
theorem d_Mod_readGroup_15 : decode b_Mod_readGroup 15 = .ok (.iconst (-1), 1) := by decide +kernel
theorem d_Mod_readGroup_16 : decode b_Mod_readGroup 16 = .ok (.if_icmp .ne 194, 3) := by decide +kernel
theorem d_Mod_readGroup_210 : decode b_Mod_readGroup 210 = .ok (.return_, 1) := by decide +kernel
theorem d_Mod_readGroup_19 : decode b_Mod_readGroup 19 = .ok (.aload_n 0, 1) := by decide +kernel
theorem d_Mod_readGroup_20 : decode b_Mod_readGroup 20 = .ok (.invokevirtual 394, 3) := by decide +kernel
theorem d_Mod_readGroup_23 : decode b_Mod_readGroup 23 = .ok (.iload 4, 2) := by decide +kernel
theorem d_Mod_readGroup_25 : decode b_Mod_readGroup 25 = .ok (.ifCond .eq 19, 3) := by decide +kernel
theorem d_Mod_readGroup_28 : decode b_Mod_readGroup 28 = .ok (.aload_n 0, 1) := by decide +kernel
theorem d_Mod_readGroup_29 : decode b_Mod_readGroup 29 = .ok (.invokevirtual 379, 3) := by decide +kernel
theorem d_Mod_readGroup_32 : decode b_Mod_readGroup 32 = .ok (.bipush 125, 2) := by decide +kernel
theorem d_Mod_readGroup_34 : decode b_Mod_readGroup 34 = .ok (.if_icmp .ne 10, 3) := by decide +kernel
theorem d_Mod_readGroup_37 : decode b_Mod_readGroup 37 = .ok (.aload_n 0, 1) := by decide +kernel
theorem d_Mod_readGroup_38 : decode b_Mod_readGroup 38 = .ok (.iload_n 2, 1) := by decide +kernel
theorem d_Mod_readGroup_39 : decode b_Mod_readGroup 39 = .ok (.iload_n 3, 1) := by decide +kernel
theorem d_Mod_readGroup_40 : decode b_Mod_readGroup 40 = .ok (.invokevirtual 513, 3) := by decide +kernel
theorem d_Mod_readGroup_43 : decode b_Mod_readGroup 43 = .ok (.return_, 1) := by decide +kernel
theorem d_Mod_readGroup_0 : decode b_Mod_readGroup 0 = .ok (.aload_n 0, 1) := by decide +kernel
theorem d_Mod_readGroup_1 : decode b_Mod_readGroup 1 = .ok (.bipush 123, 2) := by decide +kernel
theorem d_Mod_readGroup_3 : decode b_Mod_readGroup 3 = .ok (.invokevirtual 454, 3) := by decide +kernel
theorem d_Mod_readGroup_6 : decode b_Mod_readGroup 6 = .ok (.iconst 0, 1) := by decide +kernel
theorem d_Mod_readGroup_7 : decode b_Mod_readGroup 7 = .ok (.istore_n 3, 1) := by decide +kernel
theorem d_Mod_readGroup_8 : decode b_Mod_readGroup 8 = .ok (.iconst 1, 1) := by decide +kernel
theorem d_Mod_readGroup_9 : decode b_Mod_readGroup 9 = .ok (.istore 4, 2) := by decide +kernel
theorem d_Mod_readRow_16 : decode b_Mod_readRow 16 = .ok (.aload_n 0, 1) := by decide +kernel
theorem d_Mod_readRow_17 : decode b_Mod_readRow 17 = .ok (.getfield 376, 3) := by decide +kernel
theorem d_Mod_readRow_20 : decode b_Mod_readRow 20 = .ok (.iconst (-1), 1) := by decide +kernel
theorem d_Mod_readRow_21 : decode b_Mod_readRow 21 = .ok (.if_icmp .ne 28, 3) := by decide +kernel
theorem d_Mod_readRow_49 : decode b_Mod_readRow 49 = .ok (.return_, 1) := by decide +kernel
theorem d_Mod_readRow_24 : decode b_Mod_readRow 24 = .ok (.aload_n 0, 1) := by decide +kernel
theorem d_Mod_readRow_25 : decode b_Mod_readRow 25 = .ok (.iload_n 1, 1) := by decide +kernel
theorem d_Mod_readRow_26 : decode b_Mod_readRow 26 = .ok (.iload_n 2, 1) := by decide +kernel
theorem d_Mod_readRow_27 : decode b_Mod_readRow 27 = .ok (.invokevirtual 510, 3) := by decide +kernel
theorem d_Mod_readRow_30 : decode b_Mod_readRow 30 = .ok (.aload_n 0, 1) := by decide +kernel
theorem d_Mod_readRow_31 : decode b_Mod_readRow 31 = .ok (.bipush 93, 2) := by decide +kernel
theorem d_Mod_readRow_33 : decode b_Mod_readRow 33 = .ok (.invokevirtual 405, 3) := by decide +kernel
theorem d_Mod_readRow_36 : decode b_Mod_readRow 36 = .ok (.ifCond .eq 4, 3) := by decide +kernel
theorem d_Mod_readRow_40 : decode b_Mod_readRow 40 = .ok (.aload_n 0, 1) := by decide +kernel
theorem d_Mod_readRow_41 : decode b_Mod_readRow 41 = .ok (.bipush 44, 2) := by decide +kernel
theorem d_Mod_readRow_43 : decode b_Mod_readRow 43 = .ok (.invokevirtual 454, 3) := by decide +kernel
theorem d_Mod_readRow_46 : decode b_Mod_readRow 46 = .ok (.goto (-30), 3) := by decide +kernel
theorem d_Mod_readRow_39 : decode b_Mod_readRow 39 = .ok (.return_, 1) := by decide +kernel
theorem d_Mod_readRow_0 : decode b_Mod_readRow 0 = .ok (.aload_n 0, 1) := by decide +kernel
theorem d_Mod_readRow_1 : decode b_Mod_readRow 1 = .ok (.bipush 91, 2) := by decide +kernel
theorem d_Mod_readRow_3 : decode b_Mod_readRow 3 = .ok (.invokevirtual 454, 3) := by decide +kernel
theorem d_Mod_readRow_6 : decode b_Mod_readRow 6 = .ok (.aload_n 0, 1) := by decide +kernel
theorem d_Mod_readRow_7 : decode b_Mod_readRow 7 = .ok (.bipush 93, 2) := by decide +kernel
theorem d_Mod_readRow_9 : decode b_Mod_readRow 9 = .ok (.invokevirtual 405, 3) := by decide +kernel
theorem d_Mod_readRow_12 : decode b_Mod_readRow 12 = .ok (.ifCond .eq 4, 3) := by decide +kernel
theorem d_Mod_readRow_15 : decode b_Mod_readRow 15 = .ok (.return_, 1) := by decide +kernel
theorem d_Mod_readValue_173 : decode b_Mod_readValue 173 = .ok (.aload_n 0, 1) := by decide +kernel
theorem d_Mod_readValue_174 : decode b_Mod_readValue 174 = .ok (.iload_n 1, 1) := by decide +kernel
theorem d_Mod_readValue_175 : decode b_Mod_readValue 175 = .ok (.iload_n 2, 1) := by decide +kernel
theorem d_Mod_readValue_176 : decode b_Mod_readValue 176 = .ok (.lload 5, 2) := by decide +kernel
theorem d_Mod_readValue_178 : decode b_Mod_readValue 178 = .ok (.invokevirtual 491, 3) := by decide +kernel
theorem d_Mod_readValue_181 : decode b_Mod_readValue 181 = .ok (.pop, 1) := by decide +kernel
theorem d_Mod_readValue_182 : decode b_Mod_readValue 182 = .ok (.return_, 1) := by decide +kernel
theorem d_Mod_readValue_133 : decode b_Mod_readValue 133 = .ok (.invokevirtual 491, 3) := by decide +kernel
theorem d_Mod_readValue_136 : decode b_Mod_readValue 136 = .ok (.pop, 1) := by decide +kernel
theorem d_Mod_readValue_137 : decode b_Mod_readValue 137 = .ok (.goto 45, 3) := by decide +kernel
theorem d_Mod_readValue_120 : decode b_Mod_readValue 120 = .ok (.aload_n 0, 1) := by decide +kernel
theorem d_Mod_readValue_121 : decode b_Mod_readValue 121 = .ok (.iload_n 1, 1) := by decide +kernel
theorem d_Mod_readValue_122 : decode b_Mod_readValue 122 = .ok (.iload_n 2, 1) := by decide +kernel
theorem d_Mod_readValue_123 : decode b_Mod_readValue 123 = .ok (.iload 4, 2) := by decide +kernel
theorem d_Mod_readValue_125 : decode b_Mod_readValue 125 = .ok (.ifCond .eq 7, 3) := by decide +kernel
theorem d_Mod_readValue_132 : decode b_Mod_readValue 132 = .ok (.lconst 0, 1) := by decide +kernel
theorem d_Mod_readValue_128 : decode b_Mod_readValue 128 = .ok (.lconst 1, 1) := by decide +kernel
theorem d_Mod_readValue_129 : decode b_Mod_readValue 129 = .ok (.goto 4, 3) := by decide +kernel
theorem d_Mod_readValue_0 : decode b_Mod_readValue 0 = .ok (.aload_n 0, 1) := by decide +kernel
theorem d_Mod_readValue_1 : decode b_Mod_readValue 1 = .ok (.invokevirtual 394, 3) := by decide +kernel
theorem d_Mod_readValue_4 : decode b_Mod_readValue 4 = .ok (.aload_n 0, 1) := by decide +kernel
theorem d_Mod_readValue_5 : decode b_Mod_readValue 5 = .ok (.getfield 20, 3) := by decide +kernel
theorem d_Mod_readValue_8 : decode b_Mod_readValue 8 = .ok (.iconst 0, 1) := by decide +kernel
theorem d_Mod_readValue_9 : decode b_Mod_readValue 9 = .ok (.iload_n 2, 1) := by decide +kernel
theorem d_Mod_readValue_10 : decode b_Mod_readValue 10 = .ok (.invokestatic 412, 3) := by decide +kernel
theorem d_Mod_readValue_13 : decode b_Mod_readValue 13 = .ok (.iaload, 1) := by decide +kernel
theorem d_Mod_readValue_14 : decode b_Mod_readValue 14 = .ok (.istore_n 3, 1) := by decide +kernel
theorem d_Mod_readValue_15 : decode b_Mod_readValue 15 = .ok (.aload_n 0, 1) := by decide +kernel
theorem d_Mod_readValue_16 : decode b_Mod_readValue 16 = .ok (.getfield 376, 3) := by decide +kernel
theorem d_Mod_readValue_19 : decode b_Mod_readValue 19 = .ok (.iconst (-1), 1) := by decide +kernel
theorem d_Mod_readValue_20 : decode b_Mod_readValue 20 = .ok (.if_icmp .eq 4, 3) := by decide +kernel
theorem d_Mod_readValue_24 : decode b_Mod_readValue 24 = .ok (.iload_n 3, 1) := by decide +kernel
theorem d_Mod_readValue_25 : decode b_Mod_readValue 25 = .ok (.iconst 4, 1) := by decide +kernel
theorem d_Mod_readValue_26 : decode b_Mod_readValue 26 = .ok (.if_icmp .ne 18, 3) := by decide +kernel
theorem d_Mod_readValue_44 : decode b_Mod_readValue 44 = .ok (.iload_n 3, 1) := by decide +kernel
theorem d_Mod_readValue_45 : decode b_Mod_readValue 45 = .ok (.iconst 3, 1) := by decide +kernel
theorem d_Mod_readValue_46 : decode b_Mod_readValue 46 = .ok (.if_icmp .ne 38, 3) := by decide +kernel
theorem d_Mod_readValue_84 : decode b_Mod_readValue 84 = .ok (.iload_n 3, 1) := by decide +kernel
theorem d_Mod_readValue_85 : decode b_Mod_readValue 85 = .ok (.ifCond .ne 55, 3) := by decide +kernel
theorem d_Mod_readValue_140 : decode b_Mod_readValue 140 = .ok (.aload_n 0, 1) := by decide +kernel
theorem d_Mod_readValue_141 : decode b_Mod_readValue 141 = .ok (.getfield 373, 3) := by decide +kernel
theorem d_Mod_readValue_144 : decode b_Mod_readValue 144 = .ok (.istore 4, 2) := by decide +kernel
theorem d_Mod_readValue_146 : decode b_Mod_readValue 146 = .ok (.aload_n 0, 1) := by decide +kernel
theorem d_Mod_readValue_147 : decode b_Mod_readValue 147 = .ok (.invokevirtual 506, 3) := by decide +kernel
theorem d_Mod_readValue_150 : decode b_Mod_readValue 150 = .ok (.lstore 5, 2) := by decide +kernel
theorem d_Mod_readValue_152 : decode b_Mod_readValue 152 = .ok (.iload_n 3, 1) := by decide +kernel
theorem d_Mod_readValue_153 : decode b_Mod_readValue 153 = .ok (.iconst 1, 1) := by decide +kernel
theorem d_Mod_readValue_154 : decode b_Mod_readValue 154 = .ok (.if_icmp .ne 19, 3) := by decide +kernel
theorem d_Mod_readValue_157 : decode b_Mod_readValue 157 = .ok (.lload 5, 2) := by decide +kernel
theorem d_Mod_readValue_159 : decode b_Mod_readValue 159 = .ok (.lload 5, 2) := by decide +kernel
theorem d_Mod_readValue_161 : decode b_Mod_readValue 161 = .ok (.l2i, 1) := by decide +kernel
theorem d_Mod_readValue_162 : decode b_Mod_readValue 162 = .ok (.i2l, 1) := by decide +kernel
theorem d_Mod_readValue_163 : decode b_Mod_readValue 163 = .ok (.lcmp, 1) := by decide +kernel
theorem d_Mod_readValue_164 : decode b_Mod_readValue 164 = .ok (.ifCond .eq 9, 3) := by decide +kernel
theorem d_Mod_readValue_167 : decode b_Mod_readValue 167 = .ok (.aload_n 0, 1) := by decide +kernel
theorem d_Mod_readValue_168 : decode b_Mod_readValue 168 = .ok (.iload 4, 2) := by decide +kernel
theorem d_Mod_readValue_170 : decode b_Mod_readValue 170 = .ok (.invokevirtual 408, 3) := by decide +kernel
theorem d_Mod_readValue_88 : decode b_Mod_readValue 88 = .ok (.aload_n 0, 1) := by decide +kernel
theorem d_Mod_readValue_89 : decode b_Mod_readValue 89 = .ok (.ldc2_w 502, 3) := by decide +kernel
theorem d_Mod_readValue_92 : decode b_Mod_readValue 92 = .ok (.invokevirtual 425, 3) := by decide +kernel
theorem d_Mod_readValue_95 : decode b_Mod_readValue 95 = .ok (.istore 4, 2) := by decide +kernel
theorem d_Mod_readValue_97 : decode b_Mod_readValue 97 = .ok (.iload 4, 2) := by decide +kernel
theorem d_Mod_readValue_99 : decode b_Mod_readValue 99 = .ok (.ifCond .ne 21, 3) := by decide +kernel
theorem d_Mod_readValue_102 : decode b_Mod_readValue 102 = .ok (.aload_n 0, 1) := by decide +kernel
theorem d_Mod_readValue_103 : decode b_Mod_readValue 103 = .ok (.ldc2_w 504, 3) := by decide +kernel
theorem d_Mod_readValue_106 : decode b_Mod_readValue 106 = .ok (.invokevirtual 425, 3) := by decide +kernel
theorem d_Mod_readValue_109 : decode b_Mod_readValue 109 = .ok (.ifCond .ne 11, 3) := by decide +kernel
theorem d_Mod_readValue_112 : decode b_Mod_readValue 112 = .ok (.aload_n 0, 1) := by decide +kernel
theorem d_Mod_readValue_113 : decode b_Mod_readValue 113 = .ok (.aload_n 0, 1) := by decide +kernel
theorem d_Mod_readValue_114 : decode b_Mod_readValue 114 = .ok (.getfield 373, 3) := by decide +kernel
theorem d_Mod_readValue_117 : decode b_Mod_readValue 117 = .ok (.invokevirtual 408, 3) := by decide +kernel
theorem d_Mod_readValue_49 : decode b_Mod_readValue 49 = .ok (.aload_n 0, 1) := by decide +kernel
theorem d_Mod_readValue_50 : decode b_Mod_readValue 50 = .ok (.iload_n 1, 1) := by decide +kernel
theorem d_Mod_readValue_51 : decode b_Mod_readValue 51 = .ok (.iload_n 2, 1) := by decide +kernel
theorem d_Mod_readValue_52 : decode b_Mod_readValue 52 = .ok (.lconst 0, 1) := by decide +kernel
theorem d_Mod_readValue_53 : decode b_Mod_readValue 53 = .ok (.invokevirtual 491, 3) := by decide +kernel
theorem d_Mod_readValue_56 : decode b_Mod_readValue 56 = .ok (.istore 4, 2) := by decide +kernel
theorem d_Mod_readValue_58 : decode b_Mod_readValue 58 = .ok (.aload_n 0, 1) := by decide +kernel
theorem d_Mod_readValue_59 : decode b_Mod_readValue 59 = .ok (.invokevirtual 499, 3) := by decide +kernel
theorem d_Mod_readValue_62 : decode b_Mod_readValue 62 = .ok (.aload_n 0, 1) := by decide +kernel
theorem d_Mod_readValue_63 : decode b_Mod_readValue 63 = .ok (.getfield 53, 3) := by decide +kernel
theorem d_Mod_readValue_66 : decode b_Mod_readValue 66 = .ok (.iload 4, 2) := by decide +kernel
theorem d_Mod_readValue_68 : decode b_Mod_readValue 68 = .ok (.aload_n 0, 1) := by decide +kernel
theorem d_Mod_readValue_69 : decode b_Mod_readValue 69 = .ok (.getfield 476, 3) := by decide +kernel
theorem d_Mod_readValue_72 : decode b_Mod_readValue 72 = .ok (.aload_n 0, 1) := by decide +kernel
theorem d_Mod_readValue_73 : decode b_Mod_readValue 73 = .ok (.getfield 50, 3) := by decide +kernel
theorem d_Mod_readValue_76 : decode b_Mod_readValue 76 = .ok (.iload 4, 2) := by decide +kernel
theorem d_Mod_readValue_78 : decode b_Mod_readValue 78 = .ok (.iaload, 1) := by decide +kernel
theorem d_Mod_readValue_79 : decode b_Mod_readValue 79 = .ok (.isub, 1) := by decide +kernel
theorem d_Mod_readValue_80 : decode b_Mod_readValue 80 = .ok (.iastore, 1) := by decide +kernel
theorem d_Mod_readValue_81 : decode b_Mod_readValue 81 = .ok (.goto 101, 3) := by decide +kernel
theorem d_Mod_readValue_29 : decode b_Mod_readValue 29 = .ok (.aload_n 0, 1) := by decide +kernel
theorem d_Mod_readValue_30 : decode b_Mod_readValue 30 = .ok (.aload_n 0, 1) := by decide +kernel
theorem d_Mod_readValue_31 : decode b_Mod_readValue 31 = .ok (.iload_n 1, 1) := by decide +kernel
theorem d_Mod_readValue_32 : decode b_Mod_readValue 32 = .ok (.iload_n 2, 1) := by decide +kernel
theorem d_Mod_readValue_33 : decode b_Mod_readValue 33 = .ok (.lconst 0, 1) := by decide +kernel
theorem d_Mod_readValue_34 : decode b_Mod_readValue 34 = .ok (.invokevirtual 491, 3) := by decide +kernel
theorem d_Mod_readValue_37 : decode b_Mod_readValue 37 = .ok (.iload_n 2, 1) := by decide +kernel
theorem d_Mod_readValue_38 : decode b_Mod_readValue 38 = .ok (.invokevirtual 495, 3) := by decide +kernel
theorem d_Mod_readValue_41 : decode b_Mod_readValue 41 = .ok (.goto 141, 3) := by decide +kernel
theorem d_Mod_readValue_23 : decode b_Mod_readValue 23 = .ok (.return_, 1) := by decide +kernel
section
variable (l : Launch) (dC : Nat → ClassId) (dI : Nat → Nat → Nat) (cI cB cJ cZ : ClassId)
set_option maxRecDepth 100000 in
set_option maxHeartbeats 4000000 in
set_option maxRecDepth 100000 in
theorem t_Mod_say_e {p : Program} {l : Launch} {e : Env} {R : Room} {s : State} {m : MethodId} {args : Array Value} {below : List Frame} {meth : Method} {c : Code} {cells slots : Nat} {Q : State → Prop} {dC : Nat → ClassId} {dI : Nat → Nat → Nat} {cI cB cJ cZ : ClassId} {A : Nat → Prop} {ad : Nat → Nat} {post : St → Prop} (hx : p.tables.exec = Jvm.exec) (hb : c.code = b_Mod_say) (hml : c.maxLocals = 2) (hown : s.vm.findClass R_Mod = some m.cls) (hT : ∀ w ∈ TG, w.before args s = true) (hK : va_K (dC, dI) CL (TY cI cB cJ cZ) s) (hN : NW s) (hA : ∀ q : Nat, s.heap.size ≤ q → A q) (hRc : cells ≤ R.cells) (hRs : slots ≤ R.slots) (hRf : 0 ≤ R.frames) (hRl : 0 ≤ R.locals) (hret : ∀ (x : St) (H : Heap) (locs : List Loc) (pc : Nat) (ls : Array Slot), decode b_Mod_say pc = .ok (.return_, 1) → post x → Wd dC dI cI cB cJ cZ ad stM kcM 115 A x H → va_S A s.heap H locs → W p l e R s m args below meth c H locs cells slots Q (F0 m pc ls [])) : ∀ (l1 : Int32) (x : St) (H : Heap) (locs : List Loc) (ls : Array Slot), wp_Mod_say post l1 x → Wd dC dI cI cB cJ cZ ad stM kcM 115 A x H → va_S A s.heap H locs → lv_has ls 2 [(0, .ref (ad 0)), (1, .int l1)] → W p l e R s m args below meth c H locs cells slots Q (F0 m 0 ls []) := by
  intro l1 x H locs ls  hw hW hS hl
  unfold wp_Mod_say at hw
  refine lv_aload_n hx hb d_Mod_say_0 rfl (lv_at hl 0 rfl) ?_
  refine w_getf (q := 16) (k := 22) (t := 12) (C := R_Mod) (T := F_Mod) (N := 167) hx hb hT hown hK hW ko_0.1 ko_0.2 (by decide) in_Mod rfl rfl (by decide) rfl fr_Mod_22 w_8_198 d_Mod_say_1 rfl ?_
  refine lv_aload_n hx hb d_Mod_say_4 rfl (lv_at hl 0 rfl) ?_
  refine w_geti (k := 25) (t := 12) (C := R_Mod) (T := F_Mod) (N := 167) hx hb hT hown hK hW ko_0.1 ko_0.2 (by decide) in_Mod rfl rfl (by decide) rfl fr_Mod_25 w_8_201 d_Mod_say_5 ?_
  refine lv_iload_n hx hb d_Mod_say_8 rfl (lv_at hl 1 rfl) ?_
  obtain ⟨hi, hw⟩ := hw
  refine w_iast (o := 16) hx hb hK hW hS ko_16.1 ko_16.2 hi d_Mod_say_9 (fun H locs hW hS => ?_)
  obtain ⟨x231, ex231⟩ : ∃ y : St, y = setA x 16 (fI x 0 25) l1 := ⟨_, rfl⟩
  rw [← ex231] at hW
  have hw := hw x231 ex231
  refine lv_aload_n hx hb d_Mod_say_10 rfl (lv_at hl 0 rfl) ?_
  refine lv_dup hx hb d_Mod_say_11 rfl ?_
  refine w_geti (k := 25) (t := 12) (C := R_Mod) (T := F_Mod) (N := 167) hx hb hT hown hK hW ko_0.1 ko_0.2 (by decide) in_Mod rfl rfl (by decide) rfl fr_Mod_25 w_8_201 d_Mod_say_12 ?_
  refine lv_iconst (v := 1) hx hb d_Mod_say_15 (by decide) ?_
  refine lv_iadd hx hb d_Mod_say_16 ?_
  refine w_puti (ty := .int) (k := 25) (t := 12) (C := R_Mod) (T := F_Mod) (N := 167) hx hb hT hown hK hW hS ko_0.1 ko_0.2 (by decide) in_Mod t_Mod t_Mod_ok n_Mod rfl rfl (by decide) rfl fr_Mod_25 w_8_201 (by decide +kernel) rfl rfl d_Mod_say_17 (fun H locs hW hS => ?_)
  obtain ⟨x232, ex232⟩ : ∃ y : St, y = setI x231 0 25 ((fI x231 0 25) + 1) := ⟨_, rfl⟩
  rw [← ex232] at hW
  have hw := hw x232 ex232
  exact hret x232 H locs 20 ls d_Mod_say_20 hw hW hS
set_option maxHeartbeats 4000000 in
set_option maxRecDepth 100000 in
theorem k_Mod_say (l : Launch) (dC : Nat → ClassId) (dI : Nat → Nat → Nat) (cI cB cJ cZ : ClassId) (ad : Nat → Nat) (sz : Nat) (l1 : Int32) (x : St) {post : St → Prop} (hw : wp_Mod_say post l1 x) : Met l y_Mod_say (wsOf y_Mod_say b_Mod_say 2 (none)) ({ frames := 0, cells := 0, slots := 0, locals := 0 }) (va_Pc [.ref (ad 0), .int l1] (PW dC dI cI cB cJ cZ ad stM kcM 115 sz x)) (va_Qv (fun (y : St) => post y) (fun y t => Wd dC dI cI cB cJ cZ ad stM kcM 115 (va_A (pic ad stM kcM 115 cI cB cJ cZ x) sz) y t.heap) (va_A (pic ad stM kcM 115 cI cB cJ cZ x) sz)) 0 0 (va_A (pic ad stM kcM 115 cI cB cJ cZ x) sz) := by
  refine Met.ofW (cc := b_Mod_say) (maxL := 2) (ret := none) (by decide) rfl ?_
  intro p e s m args below meth c s₁ B hml hv
  obtain ⟨rfl, hsz, hW0, hK, hN⟩ := hv
  have hx := B.exec
  have hb := B.bytes
  have hr := B.returns
  have hts := atoms_spec B.pre
  have hT : ∀ w ∈ TG, w.before _ s = true := fun w h => hts w (List.mem_cons_of_mem _ h)
  have hown : s.vm.findClass R_Mod = some m.cls := findClass_of_methodNamed B.named
  have hlocks := B.notSynchronized
  subst hsz
  have hW : Wd dC dI cI cB cJ cZ ad stM kcM 115 (va_A (pic ad stM kcM 115 cI cB cJ cZ x) s.heap.size) x s.heap := ⟨hW0.1, hW0.2.1.self (sz := s.heap.size), hW0.2.2⟩
  generalize hAe : va_A (pic ad stM kcM 115 cI cB cJ cZ x) s.heap.size = A at hW ⊢
  have hA : ∀ q : Nat, s.heap.size ≤ q → A q := fun q h => by rw [← hAe]; exact Or.inr h
  have hS : va_S A s.heap s.heap [] := va_S.rf
  have hl := lv_entry ([.ref (ad 0), .int l1]) (n := 2) (Nat.le_of_ble_eq_true rfl)
  rw [lg_entry_eq]
  generalize (lg_sl ([.ref (ad 0), .int l1]) ++ List.replicate (2 - (lg_sl ([.ref (ad 0), .int l1])).length) Slot.unset).toArray = ls at hl ⊢
  have hl : lv_has ls 2 [(0, .ref (ad 0)), (1, .int l1)] := hl
  exact t_Mod_say_e hx hb hml hown hT hK hN hA (Nat.le_refl 0) (Nat.le_refl 0) (Nat.le_refl 0) (Nat.le_refl 0) (fun x H locs pc ls hd hp hW hS => W.vret hx hb hr (fun t ht hM => ⟨⟨x, rfl, hp, Wd.back hW ht.symm (fun _ z => z)⟩, hS.F ht⟩) hS.2.2 hd hlocks)  l1 x _ _ ls  hw hW hS hl
set_option maxRecDepth 100000 in
set_option maxHeartbeats 4000000 in
set_option maxRecDepth 100000 in
theorem t_Mod_readText_120 {p : Program} {l : Launch} {e : Env} {R : Room} {s : State} {m : MethodId} {args : Array Value} {below : List Frame} {meth : Method} {c : Code} {cells slots : Nat} {Q : State → Prop} {dC : Nat → ClassId} {dI : Nat → Nat → Nat} {cI cB cJ cZ : ClassId} {A : Nat → Prop} {ad : Nat → Nat} {post : St → Prop} (hx : p.tables.exec = Jvm.exec) (hb : c.code = b_Mod_readText) (hml : c.maxLocals = 4) (hown : s.vm.findClass R_Mod = some m.cls) (hT : ∀ w ∈ TG, w.before args s = true) (hK : va_K (dC, dI) CL (TY cI cB cJ cZ) s) (hN : NW s) (hA : ∀ q : Nat, s.heap.size ≤ q → A q) (hRc : cells ≤ R.cells) (hRs : slots ≤ R.slots) (hRf : 2 ≤ R.frames) (hRl : 47 ≤ R.locals) (hret : ∀ (x : St) (H : Heap) (locs : List Loc) (pc : Nat) (ls : Array Slot), decode b_Mod_readText pc = .ok (.return_, 1) → post x → Wd dC dI cI cB cJ cZ ad stM kcM 115 A x H → va_S A s.heap H locs → W p l e R s m args below meth c H locs cells slots Q (F0 m pc ls []))  : ∀ (l1 : Int32) (x : St) (H : Heap) (locs : List Loc) (ls : Array Slot), j_Mod_readText_120 post l1 x → Wd dC dI cI cB cJ cZ ad stM kcM 115 A x H → va_S A s.heap H locs → lv_has ls 4 [(0, .ref (ad 0)), (1, .int l1)] → W p l e R s m args below meth c H locs cells slots Q (F0 m 120 ls []) := by
  intro l1 x H locs ls  hw hW hS hl
  unfold j_Mod_readText_120 at hw
  refine lv_aload_n hx hb d_Mod_readText_120 rfl (lv_at hl 0 rfl) ?_
  refine lv_dup hx hb d_Mod_readText_121 rfl ?_
  refine w_geti (k := 16) (t := 12) (C := R_Mod) (T := F_Mod) (N := 167) hx hb hT hown hK hW ko_0.1 ko_0.2 (by decide) in_Mod rfl rfl (by decide) rfl fr_Mod_16 w_8_192 d_Mod_readText_122 ?_
  refine lv_iconst (v := 1) hx hb d_Mod_readText_125 (by decide) ?_
  refine lv_iadd hx hb d_Mod_readText_126 ?_
  refine w_puti (ty := .int) (k := 16) (t := 12) (C := R_Mod) (T := F_Mod) (N := 167) hx hb hT hown hK hW hS ko_0.1 ko_0.2 (by decide) in_Mod t_Mod t_Mod_ok n_Mod rfl rfl (by decide) rfl fr_Mod_16 w_8_192 (by decide +kernel) rfl rfl d_Mod_readText_127 (fun H locs hW hS => ?_)
  obtain ⟨x233, ex233⟩ : ∃ y : St, y = setI x 0 16 ((fI x 0 16) + 1) := ⟨_, rfl⟩
  rw [← ex233] at hW
  have hw := hw x233 ex233
  exact hret x233 H locs 130 ls d_Mod_readText_130 hw hW hS
set_option maxRecDepth 100000 in
set_option maxHeartbeats 4000000 in
set_option maxRecDepth 100000 in
theorem t_Mod_readText_111 {p : Program} {l : Launch} {e : Env} {R : Room} {s : State} {m : MethodId} {args : Array Value} {below : List Frame} {meth : Method} {c : Code} {cells slots : Nat} {Q : State → Prop} {dC : Nat → ClassId} {dI : Nat → Nat → Nat} {cI cB cJ cZ : ClassId} {A : Nat → Prop} {ad : Nat → Nat} {post : St → Prop} {rec30 : Int32 → St → Prop} (hx : p.tables.exec = Jvm.exec) (hb : c.code = b_Mod_readText) (hml : c.maxLocals = 4) (hown : s.vm.findClass R_Mod = some m.cls) (hT : ∀ w ∈ TG, w.before args s = true) (hK : va_K (dC, dI) CL (TY cI cB cJ cZ) s) (hN : NW s) (hA : ∀ q : Nat, s.heap.size ≤ q → A q) (hRc : cells ≤ R.cells) (hRs : slots ≤ R.slots) (hRf : 2 ≤ R.frames) (hRl : 47 ≤ R.locals) (hret : ∀ (x : St) (H : Heap) (locs : List Loc) (pc : Nat) (ls : Array Slot), decode b_Mod_readText pc = .ok (.return_, 1) → post x → Wd dC dI cI cB cJ cZ ad stM kcM 115 A x H → va_S A s.heap H locs → W p l e R s m args below meth c H locs cells slots Q (F0 m pc ls [])) (hrec30 : ∀ (l1 : Int32) (x : St) (H : Heap) (locs : List Loc) (ls : Array Slot), rec30 l1 x → Wd dC dI cI cB cJ cZ ad stM kcM 115 A x H → va_S A s.heap H locs → lv_has ls 4 [(0, .ref (ad 0)), (1, .int l1)] → W p l e R s m args below meth c H locs cells slots Q (F0 m 30 ls [])) : ∀ (l1 : Int32) (l2 : Int32) (l3 : Int32) (s0 : Int32) (x : St) (H : Heap) (locs : List Loc) (ls : Array Slot), j_Mod_readText_111 post rec30 l1 l2 l3 s0 x → Wd dC dI cI cB cJ cZ ad stM kcM 115 A x H → va_S A s.heap H locs → lv_has ls 4 [(0, .ref (ad 0)), (1, .int l1), (2, .int l2), (3, .int l3)] → W p l e R s m args below meth c H locs cells slots Q (F0 m 111 ls [.int s0, .ref (ad 0)]) := by
  intro l1 l2 l3 s0 x H locs ls  hw hW hS hl
  unfold j_Mod_readText_111 at hw
  have hF := hW.free hS hA
  refine va_callv (va_runV (C := R_Mod) (As := [.int s0]) (rest := []) ⟨hx, hb, hml, hown, hT⟩ (k_Mod_say l dC dI cI cB cJ cZ ad H.size s0 x  hw) ⟨callB_of 1 hT (gwt_in w_11_94) rfl rfl rfl (hT _ w_1_15) (hT _ w_11_91) (by decide +kernel) ⟨Nat.le_trans (Nat.le_of_ble_eq_true rfl) hRf, Nat.le_trans (Nat.le_of_ble_eq_true rfl) hRl⟩, hT _ w_11_93, hT _ ws_132⟩ ⟨PW.blind, va_recv hK hW.1 (ci := 12) (q0 := 0) rfl (pic_obj ko_0.1 ko_0.2 (by decide)), PW.at _ hW hK hN⟩ rfl rfl hl.1 rfl (lv_room (Nat.le_of_ble_eq_true rfl)) d_Mod_readText_111 ⟨hRc, hRs⟩) hS (fun q _ h => hF q h) hF (fun  x234 t H locs ht hvm hw hB hz1 hk1 hS => ?_)
  have hW := Wd.back hB ht hF
  clear hB ht hF hz1 hk1 hvm
  refine lv_iinc (v := (l1 + 1)) (lv' := [(1, .int (l1 + 1)), (0, .ref (ad 0)), (2, .int l2), (3, .int l3)]) hx hb d_Mod_readText_114 hl (k := 1) rfl rfl (by decide) rfl (fun ls hl => ?_)
  refine lv_goto (tgt := 30) hx hb d_Mod_readText_117 (by decide) ?_
  exact hrec30 (l1 + 1) x234 H locs ls  hw hW hS (lv_sub hl [1, 0] rfl)
set_option maxRecDepth 100000 in
set_option maxHeartbeats 4000000 in
set_option maxRecDepth 100000 in
theorem t_Mod_readText_71 {p : Program} {l : Launch} {e : Env} {R : Room} {s : State} {m : MethodId} {args : Array Value} {below : List Frame} {meth : Method} {c : Code} {cells slots : Nat} {Q : State → Prop} {dC : Nat → ClassId} {dI : Nat → Nat → Nat} {cI cB cJ cZ : ClassId} {A : Nat → Prop} {ad : Nat → Nat} {post : St → Prop} (hx : p.tables.exec = Jvm.exec) (hb : c.code = b_Mod_readText) (hml : c.maxLocals = 4) (hown : s.vm.findClass R_Mod = some m.cls) (hT : ∀ w ∈ TG, w.before args s = true) (hK : va_K (dC, dI) CL (TY cI cB cJ cZ) s) (hN : NW s) (hA : ∀ q : Nat, s.heap.size ≤ q → A q) (hRc : cells ≤ R.cells) (hRs : slots ≤ R.slots) (hRf : 2 ≤ R.frames) (hRl : 47 ≤ R.locals) (hret : ∀ (x : St) (H : Heap) (locs : List Loc) (pc : Nat) (ls : Array Slot), decode b_Mod_readText pc = .ok (.return_, 1) → post x → Wd dC dI cI cB cJ cZ ad stM kcM 115 A x H → va_S A s.heap H locs → W p l e R s m args below meth c H locs cells slots Q (F0 m pc ls []))  : ∀ (l1 : Int32) (l2 : Int32) (x : St) (H : Heap) (locs : List Loc) (ls : Array Slot), j_Mod_readText_71 post l1 l2 x → Wd dC dI cI cB cJ cZ ad stM kcM 115 A x H → va_S A s.heap H locs → lv_has ls 4 [(0, .ref (ad 0)), (1, .int l1), (2, .int l2)] → W p l e R s m args below meth c H locs cells slots Q (F0 m 71 ls []) := by
  intro l1 l2 x H locs ls  hw hW hS hl
  unfold j_Mod_readText_71 at hw
  refine lv_aload_n hx hb d_Mod_readText_71 rfl (lv_at hl 0 rfl) ?_
  refine lv_aload_n hx hb d_Mod_readText_72 rfl (lv_at hl 0 rfl) ?_
  refine w_geti (k := 16) (t := 12) (C := R_Mod) (T := F_Mod) (N := 167) hx hb hT hown hK hW ko_0.1 ko_0.2 (by decide) in_Mod rfl rfl (by decide) rfl fr_Mod_16 w_8_192 d_Mod_readText_73 ?_
  have hF := hW.free hS hA
  refine va_callv (va_runV (C := R_Mod) (As := [.int (fI x 0 16)]) (rest := []) ⟨hx, hb, hml, hown, hT⟩ (k_Mod_fail l dC dI cI cB cJ cZ ad H.size (fI x 0 16) x  hw) ⟨callB_of 1 hT (gwt_in w_11_14) rfl rfl rfl (hT _ w_1_15) (hT _ w_11_11) (by decide +kernel) ⟨Nat.le_trans (Nat.le_of_ble_eq_true rfl) hRf, Nat.le_trans (Nat.le_of_ble_eq_true rfl) hRl⟩, hT _ w_11_13, hT _ ws_115⟩ ⟨PW.blind, va_recv hK hW.1 (ci := 12) (q0 := 0) rfl (pic_obj ko_0.1 ko_0.2 (by decide)), PW.at _ hW hK hN⟩ rfl rfl hl.1 rfl (lv_room (Nat.le_of_ble_eq_true rfl)) d_Mod_readText_76 ⟨hRc, hRs⟩) hS (fun q _ h => hF q h) hF (fun  x235 t H locs ht hvm hw hB hz1 hk1 hS => ?_)
  have hW := Wd.back hB ht hF
  clear hB ht hF hz1 hk1 hvm
  exact hret x235 H locs 79 ls d_Mod_readText_79 hw hW hS
set_option maxRecDepth 100000 in
set_option maxHeartbeats 4000000 in
set_option maxRecDepth 100000 in
theorem t_Mod_readText_30 {p : Program} {l : Launch} {e : Env} {R : Room} {s : State} {m : MethodId} {args : Array Value} {below : List Frame} {meth : Method} {c : Code} {cells slots : Nat} {Q : State → Prop} {dC : Nat → ClassId} {dI : Nat → Nat → Nat} {cI cB cJ cZ : ClassId} {A : Nat → Prop} {ad : Nat → Nat} {post : St → Prop} {rec30 : Int32 → St → Prop} (hx : p.tables.exec = Jvm.exec) (hb : c.code = b_Mod_readText) (hml : c.maxLocals = 4) (hown : s.vm.findClass R_Mod = some m.cls) (hT : ∀ w ∈ TG, w.before args s = true) (hK : va_K (dC, dI) CL (TY cI cB cJ cZ) s) (hN : NW s) (hA : ∀ q : Nat, s.heap.size ≤ q → A q) (hRc : cells ≤ R.cells) (hRs : slots ≤ R.slots) (hRf : 2 ≤ R.frames) (hRl : 47 ≤ R.locals) (hret : ∀ (x : St) (H : Heap) (locs : List Loc) (pc : Nat) (ls : Array Slot), decode b_Mod_readText pc = .ok (.return_, 1) → post x → Wd dC dI cI cB cJ cZ ad stM kcM 115 A x H → va_S A s.heap H locs → W p l e R s m args below meth c H locs cells slots Q (F0 m pc ls [])) (hrec30 : ∀ (l1 : Int32) (x : St) (H : Heap) (locs : List Loc) (ls : Array Slot), rec30 l1 x → Wd dC dI cI cB cJ cZ ad stM kcM 115 A x H → va_S A s.heap H locs → lv_has ls 4 [(0, .ref (ad 0)), (1, .int l1)] → W p l e R s m args below meth c H locs cells slots Q (F0 m 30 ls [])) : ∀ (l1 : Int32) (x : St) (H : Heap) (locs : List Loc) (ls : Array Slot), j_Mod_readText_30 post rec30 l1 x → Wd dC dI cI cB cJ cZ ad stM kcM 115 A x H → va_S A s.heap H locs → lv_has ls 4 [(0, .ref (ad 0)), (1, .int l1)] → W p l e R s m args below meth c H locs cells slots Q (F0 m 30 ls []) := by
  intro l1 x H locs ls  hw hW hS hl
  unfold j_Mod_readText_30 at hw
  refine lv_aload_n hx hb d_Mod_readText_30 rfl (lv_at hl 0 rfl) ?_
  refine w_geti (k := 17) (t := 12) (C := R_Mod) (T := F_Mod) (N := 167) hx hb hT hown hK hW ko_0.1 ko_0.2 (by decide) in_Mod rfl rfl (by decide) rfl fr_Mod_17 w_8_193 d_Mod_readText_31 ?_
  refine lv_iconst (v := (-1)) hx hb d_Mod_readText_34 (by decide) ?_
  refine lv_icmp_ne (tgt := 120) hx hb d_Mod_readText_35 (by decide) (fun c236 => ?_) (fun c236 => ?_)
  · have hw := hw.1 c236
    exact t_Mod_readText_120 hx hb hml hown hT hK hN hA hRc hRs hRf hRl hret  l1 x H locs ls  hw hW hS (lv_sub hl [0, 1] rfl)
  · have hw := hw.2 c236
    refine lv_aload_n hx hb d_Mod_readText_38 rfl (lv_at hl 0 rfl) ?_
    have hF := hW.free hS hA
    refine va_calli (va_runV (C := R_Mod) (As := []) (rest := []) ⟨hx, hb, hml, hown, hT⟩ (k_Mod_look l dC dI cI cB cJ cZ ad H.size  x  hw) ⟨callB_of 0 hT (gwt_in w_10_234) rfl rfl rfl (hT _ w_1_15) (hT _ w_10_231) (by decide +kernel) ⟨Nat.le_trans (Nat.le_of_ble_eq_true rfl) hRf, Nat.le_trans (Nat.le_of_ble_eq_true rfl) hRl⟩, hT _ w_10_233, hT _ ws_112⟩ ⟨PW.blind, va_recv hK hW.1 (ci := 12) (q0 := 0) rfl (pic_obj ko_0.1 ko_0.2 (by decide)), PW.at _ hW hK hN⟩ rfl rfl hl.1 rfl (lv_room (Nat.le_of_ble_eq_true rfl)) d_Mod_readText_39 ⟨hRc, hRs⟩) hS (fun q _ h => hF q h) hF (fun r238 x237 t H locs ht hvm hw hB hz1 hk1 hS => ?_)
    have hW := Wd.back hB ht hF
    clear hB ht hF hz1 hk1 hvm
    refine lv_bipush (v := 39) hx hb d_Mod_readText_42 (by decide) ?_
    refine lv_icmp_eq (tgt := 120) hx hb d_Mod_readText_44 (by decide) (fun c239 => ?_) (fun c239 => ?_)
    · have hw := hw.1 c239
      exact t_Mod_readText_120 hx hb hml hown hT hK hN hA hRc hRs hRf hRl hret  l1 x237 H locs ls  hw hW hS (lv_sub hl [0, 1] rfl)
    · have hw := hw.2 c239
      refine lv_aload_n hx hb d_Mod_readText_47 rfl (lv_at hl 0 rfl) ?_
      have hF := hW.free hS hA
      refine va_calli (va_runV (C := R_Mod) (As := []) (rest := []) ⟨hx, hb, hml, hown, hT⟩ (k_Mod_look l dC dI cI cB cJ cZ ad H.size  x237  hw) ⟨callB_of 0 hT (gwt_in w_10_234) rfl rfl rfl (hT _ w_1_15) (hT _ w_10_231) (by decide +kernel) ⟨Nat.le_trans (Nat.le_of_ble_eq_true rfl) hRf, Nat.le_trans (Nat.le_of_ble_eq_true rfl) hRl⟩, hT _ w_10_233, hT _ ws_112⟩ ⟨PW.blind, va_recv hK hW.1 (ci := 12) (q0 := 0) rfl (pic_obj ko_0.1 ko_0.2 (by decide)), PW.at _ hW hK hN⟩ rfl rfl hl.1 rfl (lv_room (Nat.le_of_ble_eq_true rfl)) d_Mod_readText_48 ⟨hRc, hRs⟩) hS (fun q _ h => hF q h) hF (fun r241 x240 t H locs ht hvm hw hB hz1 hk1 hS => ?_)
      have hW := Wd.back hB ht hF
      clear hB ht hF hz1 hk1 hvm
      refine lv_istore_n (lv' := [(2, .int r241), (0, .ref (ad 0)), (1, .int l1)]) hx hb d_Mod_readText_51 rfl hl (by decide) rfl (fun ls hl => ?_)
      refine lv_iload_n hx hb d_Mod_readText_52 rfl (lv_at hl 0 rfl) ?_
      refine lv_bipush (v := 32) hx hb d_Mod_readText_53 (by decide) ?_
      refine lv_icmp_lt (tgt := 71) hx hb d_Mod_readText_55 (by decide) (fun c242 => ?_) (fun c242 => ?_)
      · have hw := hw.1 c242
        exact t_Mod_readText_71 hx hb hml hown hT hK hN hA hRc hRs hRf hRl hret  l1 r241 x240 H locs ls  hw hW hS (lv_sub hl [1, 2, 0] rfl)
      · have hw := hw.2 c242
        refine lv_iload_n hx hb d_Mod_readText_58 rfl (lv_at hl 0 rfl) ?_
        refine lv_bipush (v := 126) hx hb d_Mod_readText_59 (by decide) ?_
        refine lv_icmp_gt (tgt := 71) hx hb d_Mod_readText_61 (by decide) (fun c243 => ?_) (fun c243 => ?_)
        · have hw := hw.1 c243
          exact t_Mod_readText_71 hx hb hml hown hT hK hN hA hRc hRs hRf hRl hret  l1 r241 x240 H locs ls  hw hW hS (lv_sub hl [1, 2, 0] rfl)
        · have hw := hw.2 c243
          refine lv_iload_n hx hb d_Mod_readText_64 rfl (lv_at hl 2 rfl) ?_
          refine lv_sipush (v := 255) hx hb d_Mod_readText_65 (by decide) ?_
          refine lv_icmp_ne (tgt := 80) hx hb d_Mod_readText_68 (by decide) (fun c244 => ?_) (fun c244 => ?_)
          · have hw := hw.1 c244
            refine lv_aload_n hx hb d_Mod_readText_80 rfl (lv_at hl 1 rfl) ?_
            refine w_geti (k := 16) (t := 12) (C := R_Mod) (T := F_Mod) (N := 167) hx hb hT hown hK hW ko_0.1 ko_0.2 (by decide) in_Mod rfl rfl (by decide) rfl fr_Mod_16 w_8_192 d_Mod_readText_81 ?_
            refine lv_topi (fun v245 ev245 => ?_)
            have hw := hw v245 ev245
            refine lv_istore_n (lv' := [(3, .int v245), (2, .int r241), (0, .ref (ad 0)), (1, .int l1)]) hx hb d_Mod_readText_84 rfl hl (by decide) rfl (fun ls hl => ?_)
            refine lv_aload_n hx hb d_Mod_readText_85 rfl (lv_at hl 2 rfl) ?_
            refine lv_dup hx hb d_Mod_readText_86 rfl ?_
            refine w_geti (k := 16) (t := 12) (C := R_Mod) (T := F_Mod) (N := 167) hx hb hT hown hK hW ko_0.1 ko_0.2 (by decide) in_Mod rfl rfl (by decide) rfl fr_Mod_16 w_8_192 d_Mod_readText_87 ?_
            refine lv_iconst (v := 1) hx hb d_Mod_readText_90 (by decide) ?_
            refine lv_iadd hx hb d_Mod_readText_91 ?_
            refine w_puti (ty := .int) (k := 16) (t := 12) (C := R_Mod) (T := F_Mod) (N := 167) hx hb hT hown hK hW hS ko_0.1 ko_0.2 (by decide) in_Mod t_Mod t_Mod_ok n_Mod rfl rfl (by decide) rfl fr_Mod_16 w_8_192 (by decide +kernel) rfl rfl d_Mod_readText_92 (fun H locs hW hS => ?_)
            obtain ⟨x246, ex246⟩ : ∃ y : St, y = setI x240 0 16 ((fI x240 0 16) + 1) := ⟨_, rfl⟩
            rw [← ex246] at hW
            have hw := hw x246 ex246
            refine lv_aload_n hx hb d_Mod_readText_95 rfl (lv_at hl 2 rfl) ?_
            refine lv_iload_n hx hb d_Mod_readText_96 rfl (lv_at hl 1 rfl) ?_
            refine lv_bipush (v := 92) hx hb d_Mod_readText_97 (by decide) ?_
            refine lv_icmp_ne (tgt := 110) hx hb d_Mod_readText_99 (by decide) (fun c247 => ?_) (fun c247 => ?_)
            · have hw := hw.1 c247
              refine lv_iload_n hx hb d_Mod_readText_110 rfl (lv_at hl 1 rfl) ?_
              exact t_Mod_readText_111 hx hb hml hown hT hK hN hA hRc hRs hRf hRl hret hrec30 l1 r241 v245 r241 x246 H locs ls  hw hW hS (lv_sub hl [2, 3, 1, 0] rfl)
            · have hw := hw.2 c247
              refine lv_aload_n hx hb d_Mod_readText_102 rfl (lv_at hl 2 rfl) ?_
              refine lv_iload_n hx hb d_Mod_readText_103 rfl (lv_at hl 0 rfl) ?_
              have hF := hW.free hS hA
              refine va_calli (va_runV (C := R_Mod) (As := [.int v245]) (rest := [.ref (ad 0)]) ⟨hx, hb, hml, hown, hT⟩ (k_Mod_behind l dC dI cI cB cJ cZ ad H.size v245 x246  hw) ⟨callB_of 1 hT (gwt_in w_11_90) rfl rfl rfl (hT _ w_1_15) (hT _ w_11_87) (by decide +kernel) ⟨Nat.le_trans (Nat.le_of_ble_eq_true rfl) hRf, Nat.le_trans (Nat.le_of_ble_eq_true rfl) hRl⟩, hT _ w_11_89, hT _ ws_131⟩ ⟨PW.blind, va_recv hK hW.1 (ci := 12) (q0 := 0) rfl (pic_obj ko_0.1 ko_0.2 (by decide)), PW.at _ hW hK hN⟩ rfl rfl hl.1 rfl (lv_room (Nat.le_of_ble_eq_true rfl)) d_Mod_readText_104 ⟨hRc, hRs⟩) hS (fun q _ h => hF q h) hF (fun r249 x248 t H locs ht hvm hw hB hz1 hk1 hS => ?_)
              have hW := Wd.back hB ht hF
              clear hB ht hF hz1 hk1 hvm
              refine lv_goto (tgt := 111) hx hb d_Mod_readText_107 (by decide) ?_
              exact t_Mod_readText_111 hx hb hml hown hT hK hN hA hRc hRs hRf hRl hret hrec30 l1 r241 v245 r249 x248 H locs ls  hw hW hS (lv_sub hl [2, 3, 1, 0] rfl)
          · have hw := hw.2 c244
            exact t_Mod_readText_71 hx hb hml hown hT hK hN hA hRc hRs hRf hRl hret  l1 r241 x240 H locs ls  hw hW hS (lv_sub hl [1, 2, 0] rfl)
set_option maxHeartbeats 4000000 in
set_option maxRecDepth 100000 in
theorem tl_Mod_readText_30 {p : Program} {l : Launch} {e : Env} {R : Room} {s : State} {m : MethodId} {args : Array Value} {below : List Frame} {meth : Method} {c : Code} {cells slots : Nat} {Q : State → Prop} {dC : Nat → ClassId} {dI : Nat → Nat → Nat} {cI cB cJ cZ : ClassId} {A : Nat → Prop} {ad : Nat → Nat} {post : St → Prop} (hx : p.tables.exec = Jvm.exec) (hb : c.code = b_Mod_readText) (hml : c.maxLocals = 4) (hown : s.vm.findClass R_Mod = some m.cls) (hT : ∀ w ∈ TG, w.before args s = true) (hK : va_K (dC, dI) CL (TY cI cB cJ cZ) s) (hN : NW s) (hA : ∀ q : Nat, s.heap.size ≤ q → A q) (hRc : cells ≤ R.cells) (hRs : slots ≤ R.slots) (hRf : 2 ≤ R.frames) (hRl : 47 ≤ R.locals) (hret : ∀ (x : St) (H : Heap) (locs : List Loc) (pc : Nat) (ls : Array Slot), decode b_Mod_readText pc = .ok (.return_, 1) → post x → Wd dC dI cI cB cJ cZ ad stM kcM 115 A x H → va_S A s.heap H locs → W p l e R s m args below meth c H locs cells slots Q (F0 m pc ls []))  : ∀ n : Nat, ∀ (l1 : Int32) (x : St) (H : Heap) (locs : List Loc) (ls : Array Slot), wl_Mod_readText_30 post n l1 x → Wd dC dI cI cB cJ cZ ad stM kcM 115 A x H → va_S A s.heap H locs → lv_has ls 4 [(0, .ref (ad 0)), (1, .int l1)] → W p l e R s m args below meth c H locs cells slots Q (F0 m 30 ls []) := by
  intro n
  induction n with
  | zero => intro l1 x H locs ls  hw; exact hw.elim
  | succ n ih => intro l1 x H locs ls  hw hW hS hl; exact t_Mod_readText_30 hx hb hml hown hT hK hN hA hRc hRs hRf hRl hret  ih l1 x H locs ls  hw hW hS hl
set_option maxRecDepth 100000 in
set_option maxHeartbeats 4000000 in
set_option maxRecDepth 100000 in
theorem t_Mod_readText_e {p : Program} {l : Launch} {e : Env} {R : Room} {s : State} {m : MethodId} {args : Array Value} {below : List Frame} {meth : Method} {c : Code} {cells slots : Nat} {Q : State → Prop} {dC : Nat → ClassId} {dI : Nat → Nat → Nat} {cI cB cJ cZ : ClassId} {A : Nat → Prop} {ad : Nat → Nat} {post : St → Prop} (hx : p.tables.exec = Jvm.exec) (hb : c.code = b_Mod_readText) (hml : c.maxLocals = 4) (hown : s.vm.findClass R_Mod = some m.cls) (hT : ∀ w ∈ TG, w.before args s = true) (hK : va_K (dC, dI) CL (TY cI cB cJ cZ) s) (hN : NW s) (hA : ∀ q : Nat, s.heap.size ≤ q → A q) (hRc : cells ≤ R.cells) (hRs : slots ≤ R.slots) (hRf : 2 ≤ R.frames) (hRl : 47 ≤ R.locals) (hret : ∀ (x : St) (H : Heap) (locs : List Loc) (pc : Nat) (ls : Array Slot), decode b_Mod_readText pc = .ok (.return_, 1) → post x → Wd dC dI cI cB cJ cZ ad stM kcM 115 A x H → va_S A s.heap H locs → W p l e R s m args below meth c H locs cells slots Q (F0 m pc ls [])) : ∀  (x : St) (H : Heap) (locs : List Loc) (ls : Array Slot), wp_Mod_readText post  x → Wd dC dI cI cB cJ cZ ad stM kcM 115 A x H → va_S A s.heap H locs → lv_has ls 4 [(0, .ref (ad 0))] → W p l e R s m args below meth c H locs cells slots Q (F0 m 0 ls []) := by
  intro  x H locs ls  hw hW hS hl
  unfold wp_Mod_readText at hw
  refine lv_aload_n hx hb d_Mod_readText_0 rfl (lv_at hl 0 rfl) ?_
  have hF := hW.free hS hA
  refine va_calli (va_runV (C := R_Mod) (As := []) (rest := []) ⟨hx, hb, hml, hown, hT⟩ (k_Mod_look l dC dI cI cB cJ cZ ad H.size  x  hw) ⟨callB_of 0 hT (gwt_in w_10_234) rfl rfl rfl (hT _ w_1_15) (hT _ w_10_231) (by decide +kernel) ⟨Nat.le_trans (Nat.le_of_ble_eq_true rfl) hRf, Nat.le_trans (Nat.le_of_ble_eq_true rfl) hRl⟩, hT _ w_10_233, hT _ ws_112⟩ ⟨PW.blind, va_recv hK hW.1 (ci := 12) (q0 := 0) rfl (pic_obj ko_0.1 ko_0.2 (by decide)), PW.at _ hW hK hN⟩ rfl rfl hl.1 rfl (lv_room (Nat.le_of_ble_eq_true rfl)) d_Mod_readText_1 ⟨hRc, hRs⟩) hS (fun q _ h => hF q h) hF (fun r251 x250 t H locs ht hvm hw hB hz1 hk1 hS => ?_)
  have hW := Wd.back hB ht hF
  clear hB ht hF hz1 hk1 hvm
  refine lv_bipush (v := 39) hx hb d_Mod_readText_4 (by decide) ?_
  refine lv_icmp_eq (tgt := 18) hx hb d_Mod_readText_6 (by decide) (fun c252 => ?_) (fun c252 => ?_)
  · have hw := hw.1 c252
    refine lv_aload_n hx hb d_Mod_readText_18 rfl (lv_at hl 0 rfl) ?_
    refine lv_dup hx hb d_Mod_readText_19 rfl ?_
    refine w_geti (k := 16) (t := 12) (C := R_Mod) (T := F_Mod) (N := 167) hx hb hT hown hK hW ko_0.1 ko_0.2 (by decide) in_Mod rfl rfl (by decide) rfl fr_Mod_16 w_8_192 d_Mod_readText_20 ?_
    refine lv_iconst (v := 1) hx hb d_Mod_readText_23 (by decide) ?_
    refine lv_iadd hx hb d_Mod_readText_24 ?_
    refine w_puti (ty := .int) (k := 16) (t := 12) (C := R_Mod) (T := F_Mod) (N := 167) hx hb hT hown hK hW hS ko_0.1 ko_0.2 (by decide) in_Mod t_Mod t_Mod_ok n_Mod rfl rfl (by decide) rfl fr_Mod_16 w_8_192 (by decide +kernel) rfl rfl d_Mod_readText_25 (fun H locs hW hS => ?_)
    obtain ⟨x253, ex253⟩ : ∃ y : St, y = setI x250 0 16 ((fI x250 0 16) + 1) := ⟨_, rfl⟩
    rw [← ex253] at hW
    have hw := hw x253 ex253
    refine lv_iconst (v := 0) hx hb d_Mod_readText_28 (by decide) ?_
    refine lv_istore_n (lv' := [(1, .int 0), (0, .ref (ad 0))]) hx hb d_Mod_readText_29 rfl hl (by decide) rfl (fun ls hl => ?_)
    obtain ⟨n, hw⟩ := hw
    exact tl_Mod_readText_30 hx hb hml hown hT hK hN hA hRc hRs hRf hRl hret  n 0 x253 H locs ls  hw hW hS (lv_sub hl [1, 0] rfl)
  · have hw := hw.2 c252
    refine lv_aload_n hx hb d_Mod_readText_9 rfl (lv_at hl 0 rfl) ?_
    refine lv_aload_n hx hb d_Mod_readText_10 rfl (lv_at hl 0 rfl) ?_
    refine w_geti (k := 16) (t := 12) (C := R_Mod) (T := F_Mod) (N := 167) hx hb hT hown hK hW ko_0.1 ko_0.2 (by decide) in_Mod rfl rfl (by decide) rfl fr_Mod_16 w_8_192 d_Mod_readText_11 ?_
    have hF := hW.free hS hA
    refine va_callv (va_runV (C := R_Mod) (As := [.int (fI x250 0 16)]) (rest := []) ⟨hx, hb, hml, hown, hT⟩ (k_Mod_fail l dC dI cI cB cJ cZ ad H.size (fI x250 0 16) x250  hw) ⟨callB_of 1 hT (gwt_in w_11_14) rfl rfl rfl (hT _ w_1_15) (hT _ w_11_11) (by decide +kernel) ⟨Nat.le_trans (Nat.le_of_ble_eq_true rfl) hRf, Nat.le_trans (Nat.le_of_ble_eq_true rfl) hRl⟩, hT _ w_11_13, hT _ ws_115⟩ ⟨PW.blind, va_recv hK hW.1 (ci := 12) (q0 := 0) rfl (pic_obj ko_0.1 ko_0.2 (by decide)), PW.at _ hW hK hN⟩ rfl rfl hl.1 rfl (lv_room (Nat.le_of_ble_eq_true rfl)) d_Mod_readText_14 ⟨hRc, hRs⟩) hS (fun q _ h => hF q h) hF (fun  x254 t H locs ht hvm hw hB hz1 hk1 hS => ?_)
    have hW := Wd.back hB ht hF
    clear hB ht hF hz1 hk1 hvm
    exact hret x254 H locs 17 ls d_Mod_readText_17 hw hW hS
set_option maxHeartbeats 4000000 in
set_option maxRecDepth 100000 in
theorem k_Mod_readText (l : Launch) (dC : Nat → ClassId) (dI : Nat → Nat → Nat) (cI cB cJ cZ : ClassId) (ad : Nat → Nat) (sz : Nat)  (x : St) {post : St → Prop} (hw : wp_Mod_readText post  x) : Met l y_Mod_readText (wsOf y_Mod_readText b_Mod_readText 4 (none)) ({ frames := 2, cells := 0, slots := 0, locals := 47 }) (va_Pc [.ref (ad 0)] (PW dC dI cI cB cJ cZ ad stM kcM 115 sz x)) (va_Qv (fun (y : St) => post y) (fun y t => Wd dC dI cI cB cJ cZ ad stM kcM 115 (va_A (pic ad stM kcM 115 cI cB cJ cZ x) sz) y t.heap) (va_A (pic ad stM kcM 115 cI cB cJ cZ x) sz)) 0 0 (va_A (pic ad stM kcM 115 cI cB cJ cZ x) sz) := by
  refine Met.ofW (cc := b_Mod_readText) (maxL := 4) (ret := none) (by decide) rfl ?_
  intro p e s m args below meth c s₁ B hml hv
  obtain ⟨rfl, hsz, hW0, hK, hN⟩ := hv
  have hx := B.exec
  have hb := B.bytes
  have hr := B.returns
  have hts := atoms_spec B.pre
  have hT : ∀ w ∈ TG, w.before _ s = true := fun w h => hts w (List.mem_cons_of_mem _ h)
  have hown : s.vm.findClass R_Mod = some m.cls := findClass_of_methodNamed B.named
  have hlocks := B.notSynchronized
  subst hsz
  have hW : Wd dC dI cI cB cJ cZ ad stM kcM 115 (va_A (pic ad stM kcM 115 cI cB cJ cZ x) s.heap.size) x s.heap := ⟨hW0.1, hW0.2.1.self (sz := s.heap.size), hW0.2.2⟩
  generalize hAe : va_A (pic ad stM kcM 115 cI cB cJ cZ x) s.heap.size = A at hW ⊢
  have hA : ∀ q : Nat, s.heap.size ≤ q → A q := fun q h => by rw [← hAe]; exact Or.inr h
  have hS : va_S A s.heap s.heap [] := va_S.rf
  have hl := lv_entry ([.ref (ad 0)]) (n := 4) (Nat.le_of_ble_eq_true rfl)
  rw [lg_entry_eq]
  generalize (lg_sl ([.ref (ad 0)]) ++ List.replicate (4 - (lg_sl ([.ref (ad 0)])).length) Slot.unset).toArray = ls at hl ⊢
  have hl : lv_has ls 4 [(0, .ref (ad 0))] := hl
  exact t_Mod_readText_e hx hb hml hown hT hK hN hA (Nat.le_refl 0) (Nat.le_refl 0) (Nat.le_refl 2) (Nat.le_refl 47) (fun x H locs pc ls hd hp hW hS => W.vret hx hb hr (fun t ht hM => ⟨⟨x, rfl, hp, Wd.back hW ht.symm (fun _ z => z)⟩, hS.F ht⟩) hS.2.2 hd hlocks)   x _ _ ls  hw hW hS hl
set_option maxRecDepth 100000 in
set_option maxHeartbeats 4000000 in
set_option maxRecDepth 100000 in
theorem t_Mod_readNumber_211 {p : Program} {l : Launch} {e : Env} {R : Room} {s : State} {m : MethodId} {args : Array Value} {below : List Frame} {meth : Method} {c : Code} {cells slots : Nat} {Q : State → Prop} {dC : Nat → ClassId} {dI : Nat → Nat → Nat} {cI cB cJ cZ : ClassId} {A : Nat → Prop} {ad : Nat → Nat} {post : Int64 → St → Prop} (hx : p.tables.exec = Jvm.exec) (hb : c.code = b_Mod_readNumber) (hml : c.maxLocals = 9) (hown : s.vm.findClass R_Mod = some m.cls) (hT : ∀ w ∈ TG, w.before args s = true) (hK : va_K (dC, dI) CL (TY cI cB cJ cZ) s) (hN : NW s) (hA : ∀ q : Nat, s.heap.size ≤ q → A q) (hRc : cells ≤ R.cells) (hRs : slots ≤ R.slots) (hRf : 1 ≤ R.frames) (hRl : 21 ≤ R.locals) (hret : ∀ (r : Int64) (x : St) (H : Heap) (locs : List Loc) (pc : Nat) (ls : Array Slot), decode b_Mod_readNumber pc = .ok (.lreturn, 1) → post r x → Wd dC dI cI cB cJ cZ ad stM kcM 115 A x H → va_S A s.heap H locs → W p l e R s m args below meth c H locs cells slots Q (F0 m pc ls [.long r]))  : ∀ (l1 : Int32) (l2 : Int32) (l3 : Int32) (l4 : Int32) (l5 : Int64) (l7 : Int32) (x : St) (H : Heap) (locs : List Loc) (ls : Array Slot), j_Mod_readNumber_211 post l1 l2 l3 l4 l5 l7 x → Wd dC dI cI cB cJ cZ ad stM kcM 115 A x H → va_S A s.heap H locs → lv_has ls 9 [(0, .ref (ad 0)), (1, .int l1), (2, .int l2), (3, .int l3), (4, .int l4), (5, .long l5), (7, .int l7)] → W p l e R s m args below meth c H locs cells slots Q (F0 m 211 ls []) := by
  intro l1 l2 l3 l4 l5 l7 x H locs ls  hw hW hS hl
  unfold j_Mod_readNumber_211 at hw
  refine lv_iload_n hx hb d_Mod_readNumber_211 rfl (lv_at hl 2 rfl) ?_
  refine lv_if_eq (tgt := 220) hx hb d_Mod_readNumber_212 (by decide) (fun c255 => ?_) (fun c255 => ?_)
  · have hw := hw.1 c255
    refine lv_lload hx hb d_Mod_readNumber_220 (lv_at hl 5 rfl) ?_
    refine lv_lneg hx hb d_Mod_readNumber_222 ?_
    exact hret (-l5) x H locs 223 ls d_Mod_readNumber_223 hw hW hS
  · have hw := hw.2 c255
    refine lv_lload hx hb d_Mod_readNumber_215 (lv_at hl 5 rfl) ?_
    refine lv_goto (tgt := 223) hx hb d_Mod_readNumber_217 (by decide) ?_
    exact hret l5 x H locs 223 ls d_Mod_readNumber_223 hw hW hS
set_option maxRecDepth 100000 in
set_option maxHeartbeats 4000000 in
set_option maxRecDepth 100000 in
theorem t_Mod_readNumber_206 {p : Program} {l : Launch} {e : Env} {R : Room} {s : State} {m : MethodId} {args : Array Value} {below : List Frame} {meth : Method} {c : Code} {cells slots : Nat} {Q : State → Prop} {dC : Nat → ClassId} {dI : Nat → Nat → Nat} {cI cB cJ cZ : ClassId} {A : Nat → Prop} {ad : Nat → Nat} {post : Int64 → St → Prop} (hx : p.tables.exec = Jvm.exec) (hb : c.code = b_Mod_readNumber) (hml : c.maxLocals = 9) (hown : s.vm.findClass R_Mod = some m.cls) (hT : ∀ w ∈ TG, w.before args s = true) (hK : va_K (dC, dI) CL (TY cI cB cJ cZ) s) (hN : NW s) (hA : ∀ q : Nat, s.heap.size ≤ q → A q) (hRc : cells ≤ R.cells) (hRs : slots ≤ R.slots) (hRf : 1 ≤ R.frames) (hRl : 21 ≤ R.locals) (hret : ∀ (r : Int64) (x : St) (H : Heap) (locs : List Loc) (pc : Nat) (ls : Array Slot), decode b_Mod_readNumber pc = .ok (.lreturn, 1) → post r x → Wd dC dI cI cB cJ cZ ad stM kcM 115 A x H → va_S A s.heap H locs → W p l e R s m args below meth c H locs cells slots Q (F0 m pc ls [.long r]))  : ∀ (l1 : Int32) (l2 : Int32) (l3 : Int32) (l4 : Int32) (l5 : Int64) (l7 : Int32) (x : St) (H : Heap) (locs : List Loc) (ls : Array Slot), j_Mod_readNumber_206 post l1 l2 l3 l4 l5 l7 x → Wd dC dI cI cB cJ cZ ad stM kcM 115 A x H → va_S A s.heap H locs → lv_has ls 9 [(0, .ref (ad 0)), (1, .int l1), (2, .int l2), (3, .int l3), (4, .int l4), (5, .long l5), (7, .int l7)] → W p l e R s m args below meth c H locs cells slots Q (F0 m 206 ls []) := by
  intro l1 l2 l3 l4 l5 l7 x H locs ls  hw hW hS hl
  unfold j_Mod_readNumber_206 at hw
  refine lv_aload_n hx hb d_Mod_readNumber_206 rfl (lv_at hl 0 rfl) ?_
  refine lv_iload_n hx hb d_Mod_readNumber_207 rfl (lv_at hl 1 rfl) ?_
  have hF := hW.free hS hA
  refine va_callv (va_runV (C := R_Mod) (As := [.int l1]) (rest := []) ⟨hx, hb, hml, hown, hT⟩ (k_Mod_fail l dC dI cI cB cJ cZ ad H.size l1 x  hw) ⟨callB_of 1 hT (gwt_in w_11_14) rfl rfl rfl (hT _ w_1_15) (hT _ w_11_11) (by decide +kernel) ⟨Nat.le_trans (Nat.le_of_ble_eq_true rfl) hRf, Nat.le_trans (Nat.le_of_ble_eq_true rfl) hRl⟩, hT _ w_11_13, hT _ ws_115⟩ ⟨PW.blind, va_recv hK hW.1 (ci := 12) (q0 := 0) rfl (pic_obj ko_0.1 ko_0.2 (by decide)), PW.at _ hW hK hN⟩ rfl rfl hl.1 rfl (lv_room (Nat.le_of_ble_eq_true rfl)) d_Mod_readNumber_208 ⟨hRc, hRs⟩) hS (fun q _ h => hF q h) hF (fun  x256 t H locs ht hvm hw hB hz1 hk1 hS => ?_)
  have hW := Wd.back hB ht hF
  clear hB ht hF hz1 hk1 hvm
  exact t_Mod_readNumber_211 hx hb hml hown hT hK hN hA hRc hRs hRf hRl hret  l1 l2 l3 l4 l5 l7 x256 H locs ls  hw hW hS (lv_sub hl [0, 1, 2, 3, 4, 5, 6] rfl)
set_option maxRecDepth 100000 in
set_option maxHeartbeats 4000000 in
set_option maxRecDepth 100000 in
theorem t_Mod_readNumber_193 {p : Program} {l : Launch} {e : Env} {R : Room} {s : State} {m : MethodId} {args : Array Value} {below : List Frame} {meth : Method} {c : Code} {cells slots : Nat} {Q : State → Prop} {dC : Nat → ClassId} {dI : Nat → Nat → Nat} {cI cB cJ cZ : ClassId} {A : Nat → Prop} {ad : Nat → Nat} {post : Int64 → St → Prop} (hx : p.tables.exec = Jvm.exec) (hb : c.code = b_Mod_readNumber) (hml : c.maxLocals = 9) (hown : s.vm.findClass R_Mod = some m.cls) (hT : ∀ w ∈ TG, w.before args s = true) (hK : va_K (dC, dI) CL (TY cI cB cJ cZ) s) (hN : NW s) (hA : ∀ q : Nat, s.heap.size ≤ q → A q) (hRc : cells ≤ R.cells) (hRs : slots ≤ R.slots) (hRf : 1 ≤ R.frames) (hRl : 21 ≤ R.locals) (hret : ∀ (r : Int64) (x : St) (H : Heap) (locs : List Loc) (pc : Nat) (ls : Array Slot), decode b_Mod_readNumber pc = .ok (.lreturn, 1) → post r x → Wd dC dI cI cB cJ cZ ad stM kcM 115 A x H → va_S A s.heap H locs → W p l e R s m args below meth c H locs cells slots Q (F0 m pc ls [.long r]))  : ∀ (l1 : Int32) (l2 : Int32) (l3 : Int32) (l4 : Int32) (l5 : Int64) (l7 : Int32) (x : St) (H : Heap) (locs : List Loc) (ls : Array Slot), j_Mod_readNumber_193 post l1 l2 l3 l4 l5 l7 x → Wd dC dI cI cB cJ cZ ad stM kcM 115 A x H → va_S A s.heap H locs → lv_has ls 9 [(0, .ref (ad 0)), (1, .int l1), (2, .int l2), (3, .int l3), (4, .int l4), (5, .long l5), (7, .int l7)] → W p l e R s m args below meth c H locs cells slots Q (F0 m 193 ls []) := by
  intro l1 l2 l3 l4 l5 l7 x H locs ls  hw hW hS hl
  unfold j_Mod_readNumber_193 at hw
  refine lv_iload_n hx hb d_Mod_readNumber_193 rfl (lv_at hl 2 rfl) ?_
  refine lv_if_ne (tgt := 211) hx hb d_Mod_readNumber_194 (by decide) (fun c257 => ?_) (fun c257 => ?_)
  · have hw := hw.1 c257
    exact t_Mod_readNumber_211 hx hb hml hown hT hK hN hA hRc hRs hRf hRl hret  l1 l2 l3 l4 l5 l7 x H locs ls  hw hW hS (lv_sub hl [0, 1, 2, 3, 4, 5, 6] rfl)
  · have hw := hw.2 c257
    refine lv_lload hx hb d_Mod_readNumber_197 (lv_at hl 5 rfl) ?_
    refine lv_ldc2 hx hb hown (hT _ w_11_101) d_Mod_readNumber_199 ?_
    refine W.lcmp hx hb d_Mod_readNumber_202 ?_
    refine lv_if_ne (tgt := 211) hx hb d_Mod_readNumber_203 (by decide) (fun c258 => ?_) (fun c258 => ?_)
    · have hw := hw.1 c258
      exact t_Mod_readNumber_211 hx hb hml hown hT hK hN hA hRc hRs hRf hRl hret  l1 l2 l3 l4 l5 l7 x H locs ls  hw hW hS (lv_sub hl [0, 1, 2, 3, 4, 5, 6] rfl)
    · have hw := hw.2 c258
      exact t_Mod_readNumber_206 hx hb hml hown hT hK hN hA hRc hRs hRf hRl hret  l1 l2 l3 l4 l5 l7 x H locs ls  hw hW hS (lv_sub hl [0, 1, 2, 3, 4, 5, 6] rfl)
set_option maxRecDepth 100000 in
set_option maxHeartbeats 4000000 in
set_option maxRecDepth 100000 in
theorem t_Mod_readNumber_142 {p : Program} {l : Launch} {e : Env} {R : Room} {s : State} {m : MethodId} {args : Array Value} {below : List Frame} {meth : Method} {c : Code} {cells slots : Nat} {Q : State → Prop} {dC : Nat → ClassId} {dI : Nat → Nat → Nat} {cI cB cJ cZ : ClassId} {A : Nat → Prop} {ad : Nat → Nat} {post : Int64 → St → Prop} {rec96 : Int32 → Int32 → Int32 → Int32 → Int64 → Int32 → St → Prop} (hx : p.tables.exec = Jvm.exec) (hb : c.code = b_Mod_readNumber) (hml : c.maxLocals = 9) (hown : s.vm.findClass R_Mod = some m.cls) (hT : ∀ w ∈ TG, w.before args s = true) (hK : va_K (dC, dI) CL (TY cI cB cJ cZ) s) (hN : NW s) (hA : ∀ q : Nat, s.heap.size ≤ q → A q) (hRc : cells ≤ R.cells) (hRs : slots ≤ R.slots) (hRf : 1 ≤ R.frames) (hRl : 21 ≤ R.locals) (hret : ∀ (r : Int64) (x : St) (H : Heap) (locs : List Loc) (pc : Nat) (ls : Array Slot), decode b_Mod_readNumber pc = .ok (.lreturn, 1) → post r x → Wd dC dI cI cB cJ cZ ad stM kcM 115 A x H → va_S A s.heap H locs → W p l e R s m args below meth c H locs cells slots Q (F0 m pc ls [.long r])) (hrec96 : ∀ (l1 : Int32) (l2 : Int32) (l3 : Int32) (l4 : Int32) (l5 : Int64) (l7 : Int32) (x : St) (H : Heap) (locs : List Loc) (ls : Array Slot), rec96 l1 l2 l3 l4 l5 l7 x → Wd dC dI cI cB cJ cZ ad stM kcM 115 A x H → va_S A s.heap H locs → lv_has ls 9 [(0, .ref (ad 0)), (1, .int l1), (2, .int l2), (3, .int l3), (4, .int l4), (5, .long l5), (7, .int l7)] → W p l e R s m args below meth c H locs cells slots Q (F0 m 96 ls [])) : ∀ (l1 : Int32) (l2 : Int32) (l3 : Int32) (l4 : Int32) (l5 : Int64) (l7 : Int32) (l8 : Int32) (s0 : Int32) (x : St) (H : Heap) (locs : List Loc) (ls : Array Slot), j_Mod_readNumber_142 post rec96 l1 l2 l3 l4 l5 l7 l8 s0 x → Wd dC dI cI cB cJ cZ ad stM kcM 115 A x H → va_S A s.heap H locs → lv_has ls 9 [(0, .ref (ad 0)), (1, .int l1), (2, .int l2), (3, .int l3), (4, .int l4), (5, .long l5), (7, .int l7), (8, .int l8)] → W p l e R s m args below meth c H locs cells slots Q (F0 m 142 ls [.int s0]) := by
  intro l1 l2 l3 l4 l5 l7 l8 s0 x H locs ls  hw hW hS hl
  unfold j_Mod_readNumber_142 at hw
  refine lv_istore (lv' := [(7, .int s0), (0, .ref (ad 0)), (1, .int l1), (2, .int l2), (3, .int l3), (4, .int l4), (5, .long l5), (8, .int l8)]) hx hb d_Mod_readNumber_142 hl (by decide) rfl (fun ls hl => ?_)
  refine lv_ldc2 hx hb hown (hT _ w_11_102) d_Mod_readNumber_144 ?_
  refine lv_lload hx hb d_Mod_readNumber_147 (lv_at hl 6 rfl) ?_
  refine lv_lmul hx hb d_Mod_readNumber_149 ?_
  refine lv_iload hx hb d_Mod_readNumber_150 (lv_at hl 7 rfl) ?_
  refine lv_i2l hx hb d_Mod_readNumber_152 rfl ?_
  refine lv_lsub hx hb d_Mod_readNumber_153 ?_
  refine lv_topl (fun v259 ev259 => ?_)
  have hw := hw v259 ev259
  refine lv_lstore (lv' := [(5, .long v259), (7, .int s0), (0, .ref (ad 0)), (1, .int l1), (2, .int l2), (3, .int l3), (4, .int l4), (8, .int l8)]) hx hb d_Mod_readNumber_154 hl (by decide) rfl (fun ls hl => ?_)
  refine lv_aload_n hx hb d_Mod_readNumber_156 rfl (lv_at hl 2 rfl) ?_
  refine lv_dup hx hb d_Mod_readNumber_157 rfl ?_
  refine w_geti (k := 16) (t := 12) (C := R_Mod) (T := F_Mod) (N := 167) hx hb hT hown hK hW ko_0.1 ko_0.2 (by decide) in_Mod rfl rfl (by decide) rfl fr_Mod_16 w_8_192 d_Mod_readNumber_158 ?_
  refine lv_iconst (v := 1) hx hb d_Mod_readNumber_161 (by decide) ?_
  refine lv_iadd hx hb d_Mod_readNumber_162 ?_
  refine w_puti (ty := .int) (k := 16) (t := 12) (C := R_Mod) (T := F_Mod) (N := 167) hx hb hT hown hK hW hS ko_0.1 ko_0.2 (by decide) in_Mod t_Mod t_Mod_ok n_Mod rfl rfl (by decide) rfl fr_Mod_16 w_8_192 (by decide +kernel) rfl rfl d_Mod_readNumber_163 (fun H locs hW hS => ?_)
  obtain ⟨x260, ex260⟩ : ∃ y : St, y = setI x 0 16 ((fI x 0 16) + 1) := ⟨_, rfl⟩
  rw [← ex260] at hW
  have hw := hw x260 ex260
  refine lv_goto (tgt := 96) hx hb d_Mod_readNumber_166 (by decide) ?_
  exact hrec96 l1 l2 l3 l4 v259 s0 x260 H locs ls  hw hW hS (lv_sub hl [2, 3, 4, 5, 6, 0, 1] rfl)
set_option maxRecDepth 100000 in
set_option maxHeartbeats 4000000 in
set_option maxRecDepth 100000 in
theorem t_Mod_readNumber_137 {p : Program} {l : Launch} {e : Env} {R : Room} {s : State} {m : MethodId} {args : Array Value} {below : List Frame} {meth : Method} {c : Code} {cells slots : Nat} {Q : State → Prop} {dC : Nat → ClassId} {dI : Nat → Nat → Nat} {cI cB cJ cZ : ClassId} {A : Nat → Prop} {ad : Nat → Nat} {post : Int64 → St → Prop} {rec96 : Int32 → Int32 → Int32 → Int32 → Int64 → Int32 → St → Prop} (hx : p.tables.exec = Jvm.exec) (hb : c.code = b_Mod_readNumber) (hml : c.maxLocals = 9) (hown : s.vm.findClass R_Mod = some m.cls) (hT : ∀ w ∈ TG, w.before args s = true) (hK : va_K (dC, dI) CL (TY cI cB cJ cZ) s) (hN : NW s) (hA : ∀ q : Nat, s.heap.size ≤ q → A q) (hRc : cells ≤ R.cells) (hRs : slots ≤ R.slots) (hRf : 1 ≤ R.frames) (hRl : 21 ≤ R.locals) (hret : ∀ (r : Int64) (x : St) (H : Heap) (locs : List Loc) (pc : Nat) (ls : Array Slot), decode b_Mod_readNumber pc = .ok (.lreturn, 1) → post r x → Wd dC dI cI cB cJ cZ ad stM kcM 115 A x H → va_S A s.heap H locs → W p l e R s m args below meth c H locs cells slots Q (F0 m pc ls [.long r])) (hrec96 : ∀ (l1 : Int32) (l2 : Int32) (l3 : Int32) (l4 : Int32) (l5 : Int64) (l7 : Int32) (x : St) (H : Heap) (locs : List Loc) (ls : Array Slot), rec96 l1 l2 l3 l4 l5 l7 x → Wd dC dI cI cB cJ cZ ad stM kcM 115 A x H → va_S A s.heap H locs → lv_has ls 9 [(0, .ref (ad 0)), (1, .int l1), (2, .int l2), (3, .int l3), (4, .int l4), (5, .long l5), (7, .int l7)] → W p l e R s m args below meth c H locs cells slots Q (F0 m 96 ls [])) : ∀ (l1 : Int32) (l2 : Int32) (l3 : Int32) (l4 : Int32) (l5 : Int64) (l7 : Int32) (l8 : Int32) (x : St) (H : Heap) (locs : List Loc) (ls : Array Slot), j_Mod_readNumber_137 post rec96 l1 l2 l3 l4 l5 l7 l8 x → Wd dC dI cI cB cJ cZ ad stM kcM 115 A x H → va_S A s.heap H locs → lv_has ls 9 [(0, .ref (ad 0)), (1, .int l1), (2, .int l2), (3, .int l3), (4, .int l4), (5, .long l5), (7, .int l7), (8, .int l8)] → W p l e R s m args below meth c H locs cells slots Q (F0 m 137 ls []) := by
  intro l1 l2 l3 l4 l5 l7 l8 x H locs ls  hw hW hS hl
  unfold j_Mod_readNumber_137 at hw
  refine lv_iconst (v := 1) hx hb d_Mod_readNumber_137 (by decide) ?_
  refine lv_goto (tgt := 142) hx hb d_Mod_readNumber_138 (by decide) ?_
  exact t_Mod_readNumber_142 hx hb hml hown hT hK hN hA hRc hRs hRf hRl hret hrec96 l1 l2 l3 l4 l5 l7 l8 1 x H locs ls  hw hW hS (lv_sub hl [0, 1, 2, 3, 4, 5, 6, 7] rfl)
set_option maxRecDepth 100000 in
set_option maxHeartbeats 4000000 in
set_option maxRecDepth 100000 in
theorem t_Mod_readNumber_96 {p : Program} {l : Launch} {e : Env} {R : Room} {s : State} {m : MethodId} {args : Array Value} {below : List Frame} {meth : Method} {c : Code} {cells slots : Nat} {Q : State → Prop} {dC : Nat → ClassId} {dI : Nat → Nat → Nat} {cI cB cJ cZ : ClassId} {A : Nat → Prop} {ad : Nat → Nat} {post : Int64 → St → Prop} {rec96 : Int32 → Int32 → Int32 → Int32 → Int64 → Int32 → St → Prop} (hx : p.tables.exec = Jvm.exec) (hb : c.code = b_Mod_readNumber) (hml : c.maxLocals = 9) (hown : s.vm.findClass R_Mod = some m.cls) (hT : ∀ w ∈ TG, w.before args s = true) (hK : va_K (dC, dI) CL (TY cI cB cJ cZ) s) (hN : NW s) (hA : ∀ q : Nat, s.heap.size ≤ q → A q) (hRc : cells ≤ R.cells) (hRs : slots ≤ R.slots) (hRf : 1 ≤ R.frames) (hRl : 21 ≤ R.locals) (hret : ∀ (r : Int64) (x : St) (H : Heap) (locs : List Loc) (pc : Nat) (ls : Array Slot), decode b_Mod_readNumber pc = .ok (.lreturn, 1) → post r x → Wd dC dI cI cB cJ cZ ad stM kcM 115 A x H → va_S A s.heap H locs → W p l e R s m args below meth c H locs cells slots Q (F0 m pc ls [.long r])) (hrec96 : ∀ (l1 : Int32) (l2 : Int32) (l3 : Int32) (l4 : Int32) (l5 : Int64) (l7 : Int32) (x : St) (H : Heap) (locs : List Loc) (ls : Array Slot), rec96 l1 l2 l3 l4 l5 l7 x → Wd dC dI cI cB cJ cZ ad stM kcM 115 A x H → va_S A s.heap H locs → lv_has ls 9 [(0, .ref (ad 0)), (1, .int l1), (2, .int l2), (3, .int l3), (4, .int l4), (5, .long l5), (7, .int l7)] → W p l e R s m args below meth c H locs cells slots Q (F0 m 96 ls [])) : ∀ (l1 : Int32) (l2 : Int32) (l3 : Int32) (l4 : Int32) (l5 : Int64) (l7 : Int32) (x : St) (H : Heap) (locs : List Loc) (ls : Array Slot), j_Mod_readNumber_96 post rec96 l1 l2 l3 l4 l5 l7 x → Wd dC dI cI cB cJ cZ ad stM kcM 115 A x H → va_S A s.heap H locs → lv_has ls 9 [(0, .ref (ad 0)), (1, .int l1), (2, .int l2), (3, .int l3), (4, .int l4), (5, .long l5), (7, .int l7)] → W p l e R s m args below meth c H locs cells slots Q (F0 m 96 ls []) := by
  intro l1 l2 l3 l4 l5 l7 x H locs ls  hw hW hS hl
  unfold j_Mod_readNumber_96 at hw
  refine lv_aload_n hx hb d_Mod_readNumber_96 rfl (lv_at hl 0 rfl) ?_
  have hF := hW.free hS hA
  refine va_calli (va_runV (C := R_Mod) (As := []) (rest := []) ⟨hx, hb, hml, hown, hT⟩ (k_Mod_look l dC dI cI cB cJ cZ ad H.size  x  hw) ⟨callB_of 0 hT (gwt_in w_10_234) rfl rfl rfl (hT _ w_1_15) (hT _ w_10_231) (by decide +kernel) ⟨Nat.le_trans (Nat.le_of_ble_eq_true rfl) hRf, Nat.le_trans (Nat.le_of_ble_eq_true rfl) hRl⟩, hT _ w_10_233, hT _ ws_112⟩ ⟨PW.blind, va_recv hK hW.1 (ci := 12) (q0 := 0) rfl (pic_obj ko_0.1 ko_0.2 (by decide)), PW.at _ hW hK hN⟩ rfl rfl hl.1 rfl (lv_room (Nat.le_of_ble_eq_true rfl)) d_Mod_readNumber_97 ⟨hRc, hRs⟩) hS (fun q _ h => hF q h) hF (fun r262 x261 t H locs ht hvm hw hB hz1 hk1 hS => ?_)
  have hW := Wd.back hB ht hF
  clear hB ht hF hz1 hk1 hvm
  have hF := hW.free hS hA
  refine va_calli (va_runS (As := [.int r262]) (rest := []) ⟨hx, hb, hml, hown, hT⟩ (k_Mod_isDigit l dC dI cI cB cJ cZ ad H.size r262 x261  hw) ⟨callB_of 1 hT (gwt_in w_11_8) rfl rfl rfl (hT _ w_1_15) (hT _ w_11_6) (by decide +kernel) ⟨Nat.le_trans (Nat.le_of_ble_eq_true rfl) hRf, Nat.le_trans (Nat.le_of_ble_eq_true rfl) hRl⟩, hT _ w_11_7⟩ ⟨PW.blind, PW.at _ hW hK hN⟩ rfl rfl hl.1 rfl (lv_room (Nat.le_of_ble_eq_true rfl)) d_Mod_readNumber_100 ⟨hRc, hRs⟩) hS (fun q _ h => hF q h) hF (fun r264 x263 t H locs ht hvm hw hB hz1 hk1 hS => ?_)
  have hW := Wd.back hB ht hF
  clear hB ht hF hz1 hk1 hvm
  refine lv_if_eq (tgt := 169) hx hb d_Mod_readNumber_103 (by decide) (fun c265 => ?_) (fun c265 => ?_)
  · have hw := hw.1 c265
    refine lv_iload hx hb d_Mod_readNumber_169 (lv_at hl 6 rfl) ?_
    refine lv_if_ne (tgt := 206) hx hb d_Mod_readNumber_171 (by decide) (fun c266 => ?_) (fun c266 => ?_)
    · have hw := hw.1 c266
      exact t_Mod_readNumber_206 hx hb hml hown hT hK hN hA hRc hRs hRf hRl hret  l1 l2 l3 l4 l5 l7 x263 H locs ls  hw hW hS (lv_sub hl [0, 1, 2, 3, 4, 5, 6] rfl)
    · have hw := hw.2 c266
      refine lv_iload_n hx hb d_Mod_readNumber_174 rfl (lv_at hl 3 rfl) ?_
      refine lv_if_eq (tgt := 193) hx hb d_Mod_readNumber_175 (by decide) (fun c267 => ?_) (fun c267 => ?_)
      · have hw := hw.1 c267
        exact t_Mod_readNumber_193 hx hb hml hown hT hK hN hA hRc hRs hRf hRl hret  l1 l2 l3 l4 l5 l7 x263 H locs ls  hw hW hS (lv_sub hl [0, 1, 2, 3, 4, 5, 6] rfl)
      · have hw := hw.2 c267
        refine lv_iload_n hx hb d_Mod_readNumber_178 rfl (lv_at hl 2 rfl) ?_
        refine lv_if_ne (tgt := 206) hx hb d_Mod_readNumber_179 (by decide) (fun c268 => ?_) (fun c268 => ?_)
        · have hw := hw.1 c268
          exact t_Mod_readNumber_206 hx hb hml hown hT hK hN hA hRc hRs hRf hRl hret  l1 l2 l3 l4 l5 l7 x263 H locs ls  hw hW hS (lv_sub hl [0, 1, 2, 3, 4, 5, 6] rfl)
        · have hw := hw.2 c268
          refine lv_aload_n hx hb d_Mod_readNumber_182 rfl (lv_at hl 0 rfl) ?_
          refine w_geti (k := 16) (t := 12) (C := R_Mod) (T := F_Mod) (N := 167) hx hb hT hown hK hW ko_0.1 ko_0.2 (by decide) in_Mod rfl rfl (by decide) rfl fr_Mod_16 w_8_192 d_Mod_readNumber_183 ?_
          refine lv_iload hx hb d_Mod_readNumber_186 (lv_at hl 4 rfl) ?_
          refine lv_iconst (v := 1) hx hb d_Mod_readNumber_188 (by decide) ?_
          refine lv_iadd hx hb d_Mod_readNumber_189 ?_
          refine lv_icmp_gt (tgt := 206) hx hb d_Mod_readNumber_190 (by decide) (fun c269 => ?_) (fun c269 => ?_)
          · have hw := hw.1 c269
            exact t_Mod_readNumber_206 hx hb hml hown hT hK hN hA hRc hRs hRf hRl hret  l1 l2 l3 l4 l5 l7 x263 H locs ls  hw hW hS (lv_sub hl [0, 1, 2, 3, 4, 5, 6] rfl)
          · have hw := hw.2 c269
            exact t_Mod_readNumber_193 hx hb hml hown hT hK hN hA hRc hRs hRf hRl hret  l1 l2 l3 l4 l5 l7 x263 H locs ls  hw hW hS (lv_sub hl [0, 1, 2, 3, 4, 5, 6] rfl)
  · have hw := hw.2 c265
    refine lv_aload_n hx hb d_Mod_readNumber_106 rfl (lv_at hl 0 rfl) ?_
    have hF := hW.free hS hA
    refine va_calli (va_runV (C := R_Mod) (As := []) (rest := []) ⟨hx, hb, hml, hown, hT⟩ (k_Mod_look l dC dI cI cB cJ cZ ad H.size  x263  hw) ⟨callB_of 0 hT (gwt_in w_10_234) rfl rfl rfl (hT _ w_1_15) (hT _ w_10_231) (by decide +kernel) ⟨Nat.le_trans (Nat.le_of_ble_eq_true rfl) hRf, Nat.le_trans (Nat.le_of_ble_eq_true rfl) hRl⟩, hT _ w_10_233, hT _ ws_112⟩ ⟨PW.blind, va_recv hK hW.1 (ci := 12) (q0 := 0) rfl (pic_obj ko_0.1 ko_0.2 (by decide)), PW.at _ hW hK hN⟩ rfl rfl hl.1 rfl (lv_room (Nat.le_of_ble_eq_true rfl)) d_Mod_readNumber_107 ⟨hRc, hRs⟩) hS (fun q _ h => hF q h) hF (fun r271 x270 t H locs ht hvm hw hB hz1 hk1 hS => ?_)
    have hW := Wd.back hB ht hF
    clear hB ht hF hz1 hk1 hvm
    refine lv_bipush (v := 48) hx hb d_Mod_readNumber_110 (by decide) ?_
    refine lv_isub hx hb d_Mod_readNumber_112 ?_
    refine lv_topi (fun v272 ev272 => ?_)
    have hw := hw v272 ev272
    refine lv_istore (lv' := [(8, .int v272), (0, .ref (ad 0)), (1, .int l1), (2, .int l2), (3, .int l3), (4, .int l4), (5, .long l5), (7, .int l7)]) hx hb d_Mod_readNumber_113 hl (by decide) rfl (fun ls hl => ?_)
    refine lv_iload hx hb d_Mod_readNumber_115 (lv_at hl 7 rfl) ?_
    refine lv_if_ne (tgt := 137) hx hb d_Mod_readNumber_117 (by decide) (fun c273 => ?_) (fun c273 => ?_)
    · have hw := hw.1 c273
      exact t_Mod_readNumber_137 hx hb hml hown hT hK hN hA hRc hRs hRf hRl hret hrec96 l1 l2 l3 l4 l5 l7 v272 x270 H locs ls  hw hW hS (lv_sub hl [1, 2, 3, 4, 5, 6, 7, 0] rfl)
    · have hw := hw.2 c273
      refine lv_lload hx hb d_Mod_readNumber_120 (lv_at hl 6 rfl) ?_
      refine lv_ldc2 hx hb hown (hT _ w_11_101) d_Mod_readNumber_122 ?_
      refine lv_iload hx hb d_Mod_readNumber_125 (lv_at hl 0 rfl) ?_
      refine lv_i2l hx hb d_Mod_readNumber_127 rfl ?_
      refine lv_ladd hx hb d_Mod_readNumber_128 ?_
      refine lv_ldc2 hx hb hown (hT _ w_11_102) d_Mod_readNumber_129 ?_
      refine lv_ldiv hx hb d_Mod_readNumber_132 (by decide) ?_
      refine W.lcmp hx hb d_Mod_readNumber_133 ?_
      refine lv_if_ge (tgt := 141) hx hb d_Mod_readNumber_134 (by decide) (fun c274 => ?_) (fun c274 => ?_)
      · have hw := hw.1 c274
        refine lv_iconst (v := 0) hx hb d_Mod_readNumber_141 (by decide) ?_
        exact t_Mod_readNumber_142 hx hb hml hown hT hK hN hA hRc hRs hRf hRl hret hrec96 l1 l2 l3 l4 l5 l7 v272 0 x270 H locs ls  hw hW hS (lv_sub hl [1, 2, 3, 4, 5, 6, 7, 0] rfl)
      · have hw := hw.2 c274
        exact t_Mod_readNumber_137 hx hb hml hown hT hK hN hA hRc hRs hRf hRl hret hrec96 l1 l2 l3 l4 l5 l7 v272 x270 H locs ls  hw hW hS (lv_sub hl [1, 2, 3, 4, 5, 6, 7, 0] rfl)
set_option maxHeartbeats 4000000 in
set_option maxRecDepth 100000 in
theorem tl_Mod_readNumber_96 {p : Program} {l : Launch} {e : Env} {R : Room} {s : State} {m : MethodId} {args : Array Value} {below : List Frame} {meth : Method} {c : Code} {cells slots : Nat} {Q : State → Prop} {dC : Nat → ClassId} {dI : Nat → Nat → Nat} {cI cB cJ cZ : ClassId} {A : Nat → Prop} {ad : Nat → Nat} {post : Int64 → St → Prop} (hx : p.tables.exec = Jvm.exec) (hb : c.code = b_Mod_readNumber) (hml : c.maxLocals = 9) (hown : s.vm.findClass R_Mod = some m.cls) (hT : ∀ w ∈ TG, w.before args s = true) (hK : va_K (dC, dI) CL (TY cI cB cJ cZ) s) (hN : NW s) (hA : ∀ q : Nat, s.heap.size ≤ q → A q) (hRc : cells ≤ R.cells) (hRs : slots ≤ R.slots) (hRf : 1 ≤ R.frames) (hRl : 21 ≤ R.locals) (hret : ∀ (r : Int64) (x : St) (H : Heap) (locs : List Loc) (pc : Nat) (ls : Array Slot), decode b_Mod_readNumber pc = .ok (.lreturn, 1) → post r x → Wd dC dI cI cB cJ cZ ad stM kcM 115 A x H → va_S A s.heap H locs → W p l e R s m args below meth c H locs cells slots Q (F0 m pc ls [.long r]))  : ∀ n : Nat, ∀ (l1 : Int32) (l2 : Int32) (l3 : Int32) (l4 : Int32) (l5 : Int64) (l7 : Int32) (x : St) (H : Heap) (locs : List Loc) (ls : Array Slot), wl_Mod_readNumber_96 post n l1 l2 l3 l4 l5 l7 x → Wd dC dI cI cB cJ cZ ad stM kcM 115 A x H → va_S A s.heap H locs → lv_has ls 9 [(0, .ref (ad 0)), (1, .int l1), (2, .int l2), (3, .int l3), (4, .int l4), (5, .long l5), (7, .int l7)] → W p l e R s m args below meth c H locs cells slots Q (F0 m 96 ls []) := by
  intro n
  induction n with
  | zero => intro l1 l2 l3 l4 l5 l7 x H locs ls  hw; exact hw.elim
  | succ n ih => intro l1 l2 l3 l4 l5 l7 x H locs ls  hw hW hS hl; exact t_Mod_readNumber_96 hx hb hml hown hT hK hN hA hRc hRs hRf hRl hret  ih l1 l2 l3 l4 l5 l7 x H locs ls  hw hW hS hl
set_option maxRecDepth 100000 in
set_option maxHeartbeats 4000000 in
set_option maxRecDepth 100000 in
theorem t_Mod_readNumber_83 {p : Program} {l : Launch} {e : Env} {R : Room} {s : State} {m : MethodId} {args : Array Value} {below : List Frame} {meth : Method} {c : Code} {cells slots : Nat} {Q : State → Prop} {dC : Nat → ClassId} {dI : Nat → Nat → Nat} {cI cB cJ cZ : ClassId} {A : Nat → Prop} {ad : Nat → Nat} {post : Int64 → St → Prop} (hx : p.tables.exec = Jvm.exec) (hb : c.code = b_Mod_readNumber) (hml : c.maxLocals = 9) (hown : s.vm.findClass R_Mod = some m.cls) (hT : ∀ w ∈ TG, w.before args s = true) (hK : va_K (dC, dI) CL (TY cI cB cJ cZ) s) (hN : NW s) (hA : ∀ q : Nat, s.heap.size ≤ q → A q) (hRc : cells ≤ R.cells) (hRs : slots ≤ R.slots) (hRf : 1 ≤ R.frames) (hRl : 21 ≤ R.locals) (hret : ∀ (r : Int64) (x : St) (H : Heap) (locs : List Loc) (pc : Nat) (ls : Array Slot), decode b_Mod_readNumber pc = .ok (.lreturn, 1) → post r x → Wd dC dI cI cB cJ cZ ad stM kcM 115 A x H → va_S A s.heap H locs → W p l e R s m args below meth c H locs cells slots Q (F0 m pc ls [.long r]))  : ∀ (l1 : Int32) (l2 : Int32) (s0 : Int32) (x : St) (H : Heap) (locs : List Loc) (ls : Array Slot), j_Mod_readNumber_83 post l1 l2 s0 x → Wd dC dI cI cB cJ cZ ad stM kcM 115 A x H → va_S A s.heap H locs → lv_has ls 9 [(0, .ref (ad 0)), (1, .int l1), (2, .int l2)] → W p l e R s m args below meth c H locs cells slots Q (F0 m 83 ls [.int s0]) := by
  intro l1 l2 s0 x H locs ls  hw hW hS hl
  unfold j_Mod_readNumber_83 at hw
  refine lv_istore_n (lv' := [(3, .int s0), (0, .ref (ad 0)), (1, .int l1), (2, .int l2)]) hx hb d_Mod_readNumber_83 rfl hl (by decide) rfl (fun ls hl => ?_)
  refine lv_aload_n hx hb d_Mod_readNumber_84 rfl (lv_at hl 1 rfl) ?_
  refine w_geti (k := 16) (t := 12) (C := R_Mod) (T := F_Mod) (N := 167) hx hb hT hown hK hW ko_0.1 ko_0.2 (by decide) in_Mod rfl rfl (by decide) rfl fr_Mod_16 w_8_192 d_Mod_readNumber_85 ?_
  refine lv_topi (fun v275 ev275 => ?_)
  have hw := hw v275 ev275
  refine lv_istore (lv' := [(4, .int v275), (3, .int s0), (0, .ref (ad 0)), (1, .int l1), (2, .int l2)]) hx hb d_Mod_readNumber_88 hl (by decide) rfl (fun ls hl => ?_)
  refine lv_lconst (v := 0) hx hb d_Mod_readNumber_90 (by decide) ?_
  refine lv_lstore (lv' := [(5, .long 0), (4, .int v275), (3, .int s0), (0, .ref (ad 0)), (1, .int l1), (2, .int l2)]) hx hb d_Mod_readNumber_91 hl (by decide) rfl (fun ls hl => ?_)
  refine lv_iconst (v := 0) hx hb d_Mod_readNumber_93 (by decide) ?_
  refine lv_istore (lv' := [(7, .int 0), (5, .long 0), (4, .int v275), (3, .int s0), (0, .ref (ad 0)), (1, .int l1), (2, .int l2)]) hx hb d_Mod_readNumber_94 hl (by decide) rfl (fun ls hl => ?_)
  obtain ⟨n, hw⟩ := hw
  exact tl_Mod_readNumber_96 hx hb hml hown hT hK hN hA hRc hRs hRf hRl hret  n l1 l2 s0 v275 0 0 x H locs ls  hw hW hS (lv_sub hl [4, 5, 6, 3, 2, 1, 0] rfl)
set_option maxRecDepth 100000 in
set_option maxHeartbeats 4000000 in
set_option maxRecDepth 100000 in
theorem t_Mod_readNumber_64 {p : Program} {l : Launch} {e : Env} {R : Room} {s : State} {m : MethodId} {args : Array Value} {below : List Frame} {meth : Method} {c : Code} {cells slots : Nat} {Q : State → Prop} {dC : Nat → ClassId} {dI : Nat → Nat → Nat} {cI cB cJ cZ : ClassId} {A : Nat → Prop} {ad : Nat → Nat} {post : Int64 → St → Prop} (hx : p.tables.exec = Jvm.exec) (hb : c.code = b_Mod_readNumber) (hml : c.maxLocals = 9) (hown : s.vm.findClass R_Mod = some m.cls) (hT : ∀ w ∈ TG, w.before args s = true) (hK : va_K (dC, dI) CL (TY cI cB cJ cZ) s) (hN : NW s) (hA : ∀ q : Nat, s.heap.size ≤ q → A q) (hRc : cells ≤ R.cells) (hRs : slots ≤ R.slots) (hRf : 1 ≤ R.frames) (hRl : 21 ≤ R.locals) (hret : ∀ (r : Int64) (x : St) (H : Heap) (locs : List Loc) (pc : Nat) (ls : Array Slot), decode b_Mod_readNumber pc = .ok (.lreturn, 1) → post r x → Wd dC dI cI cB cJ cZ ad stM kcM 115 A x H → va_S A s.heap H locs → W p l e R s m args below meth c H locs cells slots Q (F0 m pc ls [.long r]))  : ∀ (l1 : Int32) (l2 : Int32) (s0 : Int32) (x : St) (H : Heap) (locs : List Loc) (ls : Array Slot), j_Mod_readNumber_64 post l1 l2 s0 x → Wd dC dI cI cB cJ cZ ad stM kcM 115 A x H → va_S A s.heap H locs → lv_has ls 9 [(0, .ref (ad 0)), (1, .int l1), (2, .int l2)] → W p l e R s m args below meth c H locs cells slots Q (F0 m 64 ls [.int s0, .ref (ad 0)]) := by
  intro l1 l2 s0 x H locs ls  hw hW hS hl
  unfold j_Mod_readNumber_64 at hw
  have hF := hW.free hS hA
  refine va_callv (va_runV (C := R_Mod) (As := [.int s0]) (rest := []) ⟨hx, hb, hml, hown, hT⟩ (k_Mod_fail l dC dI cI cB cJ cZ ad H.size s0 x  hw) ⟨callB_of 1 hT (gwt_in w_11_14) rfl rfl rfl (hT _ w_1_15) (hT _ w_11_11) (by decide +kernel) ⟨Nat.le_trans (Nat.le_of_ble_eq_true rfl) hRf, Nat.le_trans (Nat.le_of_ble_eq_true rfl) hRl⟩, hT _ w_11_13, hT _ ws_115⟩ ⟨PW.blind, va_recv hK hW.1 (ci := 12) (q0 := 0) rfl (pic_obj ko_0.1 ko_0.2 (by decide)), PW.at _ hW hK hN⟩ rfl rfl hl.1 rfl (lv_room (Nat.le_of_ble_eq_true rfl)) d_Mod_readNumber_64 ⟨hRc, hRs⟩) hS (fun q _ h => hF q h) hF (fun  x276 t H locs ht hvm hw hB hz1 hk1 hS => ?_)
  have hW := Wd.back hB ht hF
  clear hB ht hF hz1 hk1 hvm
  refine lv_lconst (v := 0) hx hb d_Mod_readNumber_67 (by decide) ?_
  exact hret 0 x276 H locs 68 ls d_Mod_readNumber_68 hw hW hS
set_option maxRecDepth 100000 in
set_option maxHeartbeats 4000000 in
set_option maxRecDepth 100000 in
theorem t_Mod_readNumber_34 {p : Program} {l : Launch} {e : Env} {R : Room} {s : State} {m : MethodId} {args : Array Value} {below : List Frame} {meth : Method} {c : Code} {cells slots : Nat} {Q : State → Prop} {dC : Nat → ClassId} {dI : Nat → Nat → Nat} {cI cB cJ cZ : ClassId} {A : Nat → Prop} {ad : Nat → Nat} {post : Int64 → St → Prop} (hx : p.tables.exec = Jvm.exec) (hb : c.code = b_Mod_readNumber) (hml : c.maxLocals = 9) (hown : s.vm.findClass R_Mod = some m.cls) (hT : ∀ w ∈ TG, w.before args s = true) (hK : va_K (dC, dI) CL (TY cI cB cJ cZ) s) (hN : NW s) (hA : ∀ q : Nat, s.heap.size ≤ q → A q) (hRc : cells ≤ R.cells) (hRs : slots ≤ R.slots) (hRf : 1 ≤ R.frames) (hRl : 21 ≤ R.locals) (hret : ∀ (r : Int64) (x : St) (H : Heap) (locs : List Loc) (pc : Nat) (ls : Array Slot), decode b_Mod_readNumber pc = .ok (.lreturn, 1) → post r x → Wd dC dI cI cB cJ cZ ad stM kcM 115 A x H → va_S A s.heap H locs → W p l e R s m args below meth c H locs cells slots Q (F0 m pc ls [.long r]))  : ∀ (l1 : Int32) (l2 : Int32) (x : St) (H : Heap) (locs : List Loc) (ls : Array Slot), j_Mod_readNumber_34 post l1 l2 x → Wd dC dI cI cB cJ cZ ad stM kcM 115 A x H → va_S A s.heap H locs → lv_has ls 9 [(0, .ref (ad 0)), (1, .int l1), (2, .int l2)] → W p l e R s m args below meth c H locs cells slots Q (F0 m 34 ls []) := by
  intro l1 l2 x H locs ls  hw hW hS hl
  unfold j_Mod_readNumber_34 at hw
  refine lv_aload_n hx hb d_Mod_readNumber_34 rfl (lv_at hl 0 rfl) ?_
  have hF := hW.free hS hA
  refine va_calli (va_runV (C := R_Mod) (As := []) (rest := []) ⟨hx, hb, hml, hown, hT⟩ (k_Mod_look l dC dI cI cB cJ cZ ad H.size  x  hw) ⟨callB_of 0 hT (gwt_in w_10_234) rfl rfl rfl (hT _ w_1_15) (hT _ w_10_231) (by decide +kernel) ⟨Nat.le_trans (Nat.le_of_ble_eq_true rfl) hRf, Nat.le_trans (Nat.le_of_ble_eq_true rfl) hRl⟩, hT _ w_10_233, hT _ ws_112⟩ ⟨PW.blind, va_recv hK hW.1 (ci := 12) (q0 := 0) rfl (pic_obj ko_0.1 ko_0.2 (by decide)), PW.at _ hW hK hN⟩ rfl rfl hl.1 rfl (lv_room (Nat.le_of_ble_eq_true rfl)) d_Mod_readNumber_35 ⟨hRc, hRs⟩) hS (fun q _ h => hF q h) hF (fun r278 x277 t H locs ht hvm hw hB hz1 hk1 hS => ?_)
  have hW := Wd.back hB ht hF
  clear hB ht hF hz1 hk1 hvm
  have hF := hW.free hS hA
  refine va_calli (va_runS (As := [.int r278]) (rest := []) ⟨hx, hb, hml, hown, hT⟩ (k_Mod_isDigit l dC dI cI cB cJ cZ ad H.size r278 x277  hw) ⟨callB_of 1 hT (gwt_in w_11_8) rfl rfl rfl (hT _ w_1_15) (hT _ w_11_6) (by decide +kernel) ⟨Nat.le_trans (Nat.le_of_ble_eq_true rfl) hRf, Nat.le_trans (Nat.le_of_ble_eq_true rfl) hRl⟩, hT _ w_11_7⟩ ⟨PW.blind, PW.at _ hW hK hN⟩ rfl rfl hl.1 rfl (lv_room (Nat.le_of_ble_eq_true rfl)) d_Mod_readNumber_38 ⟨hRc, hRs⟩) hS (fun q _ h => hF q h) hF (fun r280 x279 t H locs ht hvm hw hB hz1 hk1 hS => ?_)
  have hW := Wd.back hB ht hF
  clear hB ht hF hz1 hk1 hvm
  refine lv_if_ne (tgt := 69) hx hb d_Mod_readNumber_41 (by decide) (fun c281 => ?_) (fun c281 => ?_)
  · have hw := hw.1 c281
    refine lv_aload_n hx hb d_Mod_readNumber_69 rfl (lv_at hl 0 rfl) ?_
    have hF := hW.free hS hA
    refine va_calli (va_runV (C := R_Mod) (As := []) (rest := []) ⟨hx, hb, hml, hown, hT⟩ (k_Mod_look l dC dI cI cB cJ cZ ad H.size  x279  hw) ⟨callB_of 0 hT (gwt_in w_10_234) rfl rfl rfl (hT _ w_1_15) (hT _ w_10_231) (by decide +kernel) ⟨Nat.le_trans (Nat.le_of_ble_eq_true rfl) hRf, Nat.le_trans (Nat.le_of_ble_eq_true rfl) hRl⟩, hT _ w_10_233, hT _ ws_112⟩ ⟨PW.blind, va_recv hK hW.1 (ci := 12) (q0 := 0) rfl (pic_obj ko_0.1 ko_0.2 (by decide)), PW.at _ hW hK hN⟩ rfl rfl hl.1 rfl (lv_room (Nat.le_of_ble_eq_true rfl)) d_Mod_readNumber_70 ⟨hRc, hRs⟩) hS (fun q _ h => hF q h) hF (fun r283 x282 t H locs ht hvm hw hB hz1 hk1 hS => ?_)
    have hW := Wd.back hB ht hF
    clear hB ht hF hz1 hk1 hvm
    refine lv_bipush (v := 48) hx hb d_Mod_readNumber_73 (by decide) ?_
    refine lv_icmp_ne (tgt := 82) hx hb d_Mod_readNumber_75 (by decide) (fun c284 => ?_) (fun c284 => ?_)
    · have hw := hw.1 c284
      refine lv_iconst (v := 0) hx hb d_Mod_readNumber_82 (by decide) ?_
      exact t_Mod_readNumber_83 hx hb hml hown hT hK hN hA hRc hRs hRf hRl hret  l1 l2 0 x282 H locs ls  hw hW hS (lv_sub hl [0, 1, 2] rfl)
    · have hw := hw.2 c284
      refine lv_iconst (v := 1) hx hb d_Mod_readNumber_78 (by decide) ?_
      refine lv_goto (tgt := 83) hx hb d_Mod_readNumber_79 (by decide) ?_
      exact t_Mod_readNumber_83 hx hb hml hown hT hK hN hA hRc hRs hRf hRl hret  l1 l2 1 x282 H locs ls  hw hW hS (lv_sub hl [0, 1, 2] rfl)
  · have hw := hw.2 c281
    refine lv_aload_n hx hb d_Mod_readNumber_44 rfl (lv_at hl 0 rfl) ?_
    refine lv_aload_n hx hb d_Mod_readNumber_45 rfl (lv_at hl 0 rfl) ?_
    refine w_geti (k := 16) (t := 12) (C := R_Mod) (T := F_Mod) (N := 167) hx hb hT hown hK hW ko_0.1 ko_0.2 (by decide) in_Mod rfl rfl (by decide) rfl fr_Mod_16 w_8_192 d_Mod_readNumber_46 ?_
    refine lv_aload_n hx hb d_Mod_readNumber_49 rfl (lv_at hl 0 rfl) ?_
    refine w_geti (k := 15) (t := 12) (C := R_Mod) (T := F_Mod) (N := 167) hx hb hT hown hK hW ko_0.1 ko_0.2 (by decide) in_Mod rfl rfl (by decide) rfl fr_Mod_15 w_8_191 d_Mod_readNumber_50 ?_
    refine lv_icmp_ne (tgt := 63) hx hb d_Mod_readNumber_53 (by decide) (fun c285 => ?_) (fun c285 => ?_)
    · have hw := hw.1 c285
      refine lv_iload_n hx hb d_Mod_readNumber_63 rfl (lv_at hl 1 rfl) ?_
      exact t_Mod_readNumber_64 hx hb hml hown hT hK hN hA hRc hRs hRf hRl hret  l1 l2 l1 x279 H locs ls  hw hW hS (lv_sub hl [0, 1, 2] rfl)
    · have hw := hw.2 c285
      refine lv_aload_n hx hb d_Mod_readNumber_56 rfl (lv_at hl 0 rfl) ?_
      refine w_geti (k := 15) (t := 12) (C := R_Mod) (T := F_Mod) (N := 167) hx hb hT hown hK hW ko_0.1 ko_0.2 (by decide) in_Mod rfl rfl (by decide) rfl fr_Mod_15 w_8_191 d_Mod_readNumber_57 ?_
      refine lv_goto (tgt := 64) hx hb d_Mod_readNumber_60 (by decide) ?_
      exact t_Mod_readNumber_64 hx hb hml hown hT hK hN hA hRc hRs hRf hRl hret  l1 l2 (fI x279 0 15) x279 H locs ls  hw hW hS (lv_sub hl [0, 1, 2] rfl)
set_option maxRecDepth 100000 in
set_option maxHeartbeats 4000000 in
set_option maxRecDepth 100000 in
theorem t_Mod_readNumber_19 {p : Program} {l : Launch} {e : Env} {R : Room} {s : State} {m : MethodId} {args : Array Value} {below : List Frame} {meth : Method} {c : Code} {cells slots : Nat} {Q : State → Prop} {dC : Nat → ClassId} {dI : Nat → Nat → Nat} {cI cB cJ cZ : ClassId} {A : Nat → Prop} {ad : Nat → Nat} {post : Int64 → St → Prop} (hx : p.tables.exec = Jvm.exec) (hb : c.code = b_Mod_readNumber) (hml : c.maxLocals = 9) (hown : s.vm.findClass R_Mod = some m.cls) (hT : ∀ w ∈ TG, w.before args s = true) (hK : va_K (dC, dI) CL (TY cI cB cJ cZ) s) (hN : NW s) (hA : ∀ q : Nat, s.heap.size ≤ q → A q) (hRc : cells ≤ R.cells) (hRs : slots ≤ R.slots) (hRf : 1 ≤ R.frames) (hRl : 21 ≤ R.locals) (hret : ∀ (r : Int64) (x : St) (H : Heap) (locs : List Loc) (pc : Nat) (ls : Array Slot), decode b_Mod_readNumber pc = .ok (.lreturn, 1) → post r x → Wd dC dI cI cB cJ cZ ad stM kcM 115 A x H → va_S A s.heap H locs → W p l e R s m args below meth c H locs cells slots Q (F0 m pc ls [.long r]))  : ∀ (l1 : Int32) (s0 : Int32) (x : St) (H : Heap) (locs : List Loc) (ls : Array Slot), j_Mod_readNumber_19 post l1 s0 x → Wd dC dI cI cB cJ cZ ad stM kcM 115 A x H → va_S A s.heap H locs → lv_has ls 9 [(0, .ref (ad 0)), (1, .int l1)] → W p l e R s m args below meth c H locs cells slots Q (F0 m 19 ls [.int s0]) := by
  intro l1 s0 x H locs ls  hw hW hS hl
  unfold j_Mod_readNumber_19 at hw
  refine lv_istore_n (lv' := [(2, .int s0), (0, .ref (ad 0)), (1, .int l1)]) hx hb d_Mod_readNumber_19 rfl hl (by decide) rfl (fun ls hl => ?_)
  refine lv_iload_n hx hb d_Mod_readNumber_20 rfl (lv_at hl 0 rfl) ?_
  refine lv_if_eq (tgt := 34) hx hb d_Mod_readNumber_21 (by decide) (fun c286 => ?_) (fun c286 => ?_)
  · have hw := hw.1 c286
    exact t_Mod_readNumber_34 hx hb hml hown hT hK hN hA hRc hRs hRf hRl hret  l1 s0 x H locs ls  hw hW hS (lv_sub hl [1, 2, 0] rfl)
  · have hw := hw.2 c286
    refine lv_aload_n hx hb d_Mod_readNumber_24 rfl (lv_at hl 1 rfl) ?_
    refine lv_dup hx hb d_Mod_readNumber_25 rfl ?_
    refine w_geti (k := 16) (t := 12) (C := R_Mod) (T := F_Mod) (N := 167) hx hb hT hown hK hW ko_0.1 ko_0.2 (by decide) in_Mod rfl rfl (by decide) rfl fr_Mod_16 w_8_192 d_Mod_readNumber_26 ?_
    refine lv_iconst (v := 1) hx hb d_Mod_readNumber_29 (by decide) ?_
    refine lv_iadd hx hb d_Mod_readNumber_30 ?_
    refine w_puti (ty := .int) (k := 16) (t := 12) (C := R_Mod) (T := F_Mod) (N := 167) hx hb hT hown hK hW hS ko_0.1 ko_0.2 (by decide) in_Mod t_Mod t_Mod_ok n_Mod rfl rfl (by decide) rfl fr_Mod_16 w_8_192 (by decide +kernel) rfl rfl d_Mod_readNumber_31 (fun H locs hW hS => ?_)
    obtain ⟨x287, ex287⟩ : ∃ y : St, y = setI x 0 16 ((fI x 0 16) + 1) := ⟨_, rfl⟩
    rw [← ex287] at hW
    have hw := hw x287 ex287
    exact t_Mod_readNumber_34 hx hb hml hown hT hK hN hA hRc hRs hRf hRl hret  l1 s0 x287 H locs ls  hw hW hS (lv_sub hl [1, 2, 0] rfl)
set_option maxRecDepth 100000 in
set_option maxHeartbeats 4000000 in
set_option maxRecDepth 100000 in
theorem t_Mod_readNumber_e {p : Program} {l : Launch} {e : Env} {R : Room} {s : State} {m : MethodId} {args : Array Value} {below : List Frame} {meth : Method} {c : Code} {cells slots : Nat} {Q : State → Prop} {dC : Nat → ClassId} {dI : Nat → Nat → Nat} {cI cB cJ cZ : ClassId} {A : Nat → Prop} {ad : Nat → Nat} {post : Int64 → St → Prop} (hx : p.tables.exec = Jvm.exec) (hb : c.code = b_Mod_readNumber) (hml : c.maxLocals = 9) (hown : s.vm.findClass R_Mod = some m.cls) (hT : ∀ w ∈ TG, w.before args s = true) (hK : va_K (dC, dI) CL (TY cI cB cJ cZ) s) (hN : NW s) (hA : ∀ q : Nat, s.heap.size ≤ q → A q) (hRc : cells ≤ R.cells) (hRs : slots ≤ R.slots) (hRf : 1 ≤ R.frames) (hRl : 21 ≤ R.locals) (hret : ∀ (r : Int64) (x : St) (H : Heap) (locs : List Loc) (pc : Nat) (ls : Array Slot), decode b_Mod_readNumber pc = .ok (.lreturn, 1) → post r x → Wd dC dI cI cB cJ cZ ad stM kcM 115 A x H → va_S A s.heap H locs → W p l e R s m args below meth c H locs cells slots Q (F0 m pc ls [.long r])) : ∀  (x : St) (H : Heap) (locs : List Loc) (ls : Array Slot), wp_Mod_readNumber post  x → Wd dC dI cI cB cJ cZ ad stM kcM 115 A x H → va_S A s.heap H locs → lv_has ls 9 [(0, .ref (ad 0))] → W p l e R s m args below meth c H locs cells slots Q (F0 m 0 ls []) := by
  intro  x H locs ls  hw hW hS hl
  unfold wp_Mod_readNumber at hw
  refine lv_aload_n hx hb d_Mod_readNumber_0 rfl (lv_at hl 0 rfl) ?_
  refine w_geti (k := 16) (t := 12) (C := R_Mod) (T := F_Mod) (N := 167) hx hb hT hown hK hW ko_0.1 ko_0.2 (by decide) in_Mod rfl rfl (by decide) rfl fr_Mod_16 w_8_192 d_Mod_readNumber_1 ?_
  refine lv_topi (fun v288 ev288 => ?_)
  have hw := hw v288 ev288
  refine lv_istore_n (lv' := [(1, .int v288), (0, .ref (ad 0))]) hx hb d_Mod_readNumber_4 rfl hl (by decide) rfl (fun ls hl => ?_)
  refine lv_aload_n hx hb d_Mod_readNumber_5 rfl (lv_at hl 1 rfl) ?_
  have hF := hW.free hS hA
  refine va_calli (va_runV (C := R_Mod) (As := []) (rest := []) ⟨hx, hb, hml, hown, hT⟩ (k_Mod_look l dC dI cI cB cJ cZ ad H.size  x  hw) ⟨callB_of 0 hT (gwt_in w_10_234) rfl rfl rfl (hT _ w_1_15) (hT _ w_10_231) (by decide +kernel) ⟨Nat.le_trans (Nat.le_of_ble_eq_true rfl) hRf, Nat.le_trans (Nat.le_of_ble_eq_true rfl) hRl⟩, hT _ w_10_233, hT _ ws_112⟩ ⟨PW.blind, va_recv hK hW.1 (ci := 12) (q0 := 0) rfl (pic_obj ko_0.1 ko_0.2 (by decide)), PW.at _ hW hK hN⟩ rfl rfl hl.1 rfl (lv_room (Nat.le_of_ble_eq_true rfl)) d_Mod_readNumber_6 ⟨hRc, hRs⟩) hS (fun q _ h => hF q h) hF (fun r290 x289 t H locs ht hvm hw hB hz1 hk1 hS => ?_)
  have hW := Wd.back hB ht hF
  clear hB ht hF hz1 hk1 hvm
  refine lv_bipush (v := 45) hx hb d_Mod_readNumber_9 (by decide) ?_
  refine lv_icmp_ne (tgt := 18) hx hb d_Mod_readNumber_11 (by decide) (fun c291 => ?_) (fun c291 => ?_)
  · have hw := hw.1 c291
    refine lv_iconst (v := 0) hx hb d_Mod_readNumber_18 (by decide) ?_
    exact t_Mod_readNumber_19 hx hb hml hown hT hK hN hA hRc hRs hRf hRl hret  v288 0 x289 H locs ls  hw hW hS (lv_sub hl [1, 0] rfl)
  · have hw := hw.2 c291
    refine lv_iconst (v := 1) hx hb d_Mod_readNumber_14 (by decide) ?_
    refine lv_goto (tgt := 19) hx hb d_Mod_readNumber_15 (by decide) ?_
    exact t_Mod_readNumber_19 hx hb hml hown hT hK hN hA hRc hRs hRf hRl hret  v288 1 x289 H locs ls  hw hW hS (lv_sub hl [1, 0] rfl)
set_option maxHeartbeats 4000000 in
set_option maxRecDepth 100000 in
theorem k_Mod_readNumber (l : Launch) (dC : Nat → ClassId) (dI : Nat → Nat → Nat) (cI cB cJ cZ : ClassId) (ad : Nat → Nat) (sz : Nat)  (x : St) {post : Int64 → St → Prop} (hw : wp_Mod_readNumber post  x) : Met l y_Mod_readNumber (wsOf y_Mod_readNumber b_Mod_readNumber 9 (some (.long))) ({ frames := 1, cells := 0, slots := 0, locals := 21 }) (va_Pc [.ref (ad 0)] (PW dC dI cI cB cJ cZ ad stM kcM 115 sz x)) (va_Ql (fun (r : Int64) (y : St) => post r y) (fun y t => Wd dC dI cI cB cJ cZ ad stM kcM 115 (va_A (pic ad stM kcM 115 cI cB cJ cZ x) sz) y t.heap) (va_A (pic ad stM kcM 115 cI cB cJ cZ x) sz)) 0 0 (va_A (pic ad stM kcM 115 cI cB cJ cZ x) sz) := by
  refine Met.ofW (cc := b_Mod_readNumber) (maxL := 9) (ret := some (.long)) (by decide) rfl ?_
  intro p e s m args below meth c s₁ B hml hv
  obtain ⟨rfl, hsz, hW0, hK, hN⟩ := hv
  have hx := B.exec
  have hb := B.bytes
  have hr := B.returns
  have hts := atoms_spec B.pre
  have hT : ∀ w ∈ TG, w.before _ s = true := fun w h => hts w (List.mem_cons_of_mem _ h)
  have hown : s.vm.findClass R_Mod = some m.cls := findClass_of_methodNamed B.named
  have hlocks := B.notSynchronized
  subst hsz
  have hW : Wd dC dI cI cB cJ cZ ad stM kcM 115 (va_A (pic ad stM kcM 115 cI cB cJ cZ x) s.heap.size) x s.heap := ⟨hW0.1, hW0.2.1.self (sz := s.heap.size), hW0.2.2⟩
  generalize hAe : va_A (pic ad stM kcM 115 cI cB cJ cZ x) s.heap.size = A at hW ⊢
  have hA : ∀ q : Nat, s.heap.size ≤ q → A q := fun q h => by rw [← hAe]; exact Or.inr h
  have hS : va_S A s.heap s.heap [] := va_S.rf
  have hl := lv_entry ([.ref (ad 0)]) (n := 9) (Nat.le_of_ble_eq_true rfl)
  rw [lg_entry_eq]
  generalize (lg_sl ([.ref (ad 0)]) ++ List.replicate (9 - (lg_sl ([.ref (ad 0)])).length) Slot.unset).toArray = ls at hl ⊢
  have hl : lv_has ls 9 [(0, .ref (ad 0))] := hl
  exact t_Mod_readNumber_e hx hb hml hown hT hK hN hA (Nat.le_refl 0) (Nat.le_refl 0) (Nat.le_refl 1) (Nat.le_refl 21) (fun r x H locs pc ls hd hp hW hS => W.lret (v := r) hx hb hr (fun t ht hM => ⟨⟨r, x, rfl, hp, Wd.back hW ht.symm (fun _ z => z)⟩, hS.F ht⟩) hS.2.2 hd hlocks)   x _ _ ls  hw hW hS hl
set_option maxRecDepth 100000 in
set_option maxHeartbeats 4000000 in
set_option maxRecDepth 100000 in
theorem t_Mod_readGroup_201 {p : Program} {l : Launch} {e : Env} {R : Room} {s : State} {m : MethodId} {args : Array Value} {below : List Frame} {meth : Method} {c : Code} {cells slots : Nat} {Q : State → Prop} {dC : Nat → ClassId} {dI : Nat → Nat → Nat} {cI cB cJ cZ : ClassId} {A : Nat → Prop} {ad : Nat → Nat} {post : St → Prop} {self_Mod_readGroup : (St → Prop) → Int32 → Int32 → St → Prop} {self_Mod_readRow : (St → Prop) → Int32 → Int32 → St → Prop} {self_Mod_readValue : (St → Prop) → Int32 → Int32 → St → Prop} {fd ld : Nat} {rec11 : Int32 → Int32 → Int32 → Int32 → St → Prop} (hx : p.tables.exec = Jvm.exec) (hb : c.code = b_Mod_readGroup) (hml : c.maxLocals = 7) (hown : s.vm.findClass R_Mod = some m.cls) (hT : ∀ w ∈ TG, w.before args s = true) (hK : va_K (dC, dI) CL (TY cI cB cJ cZ) s) (hN : NW s) (hA : ∀ q : Nat, s.heap.size ≤ q → A q) (hRc : cells ≤ R.cells) (hRs : slots ≤ R.slots) (hRf : 5 ≤ R.frames) (hRl : 111 ≤ R.locals) (hret : ∀ (x : St) (H : Heap) (locs : List Loc) (pc : Nat) (ls : Array Slot), decode b_Mod_readGroup pc = .ok (.return_, 1) → post x → Wd dC dI cI cB cJ cZ ad stM kcM 115 A x H → va_S A s.heap H locs → W p l e R s m args below meth c H locs cells slots Q (F0 m pc ls [])) (hs_Mod_readGroup : ∀ (sz : Nat) (l1 : Int32) (l2 : Int32) (x : St), ∀ (post : St → Prop), self_Mod_readGroup post l1 l2 x → Met l y_Mod_readGroup (wsOf y_Mod_readGroup b_Mod_readGroup 7 (none)) ({ frames := fd, cells := 0, slots := 0, locals := ld }) (va_Pc [.ref (ad 0), .int l1, .int l2] (PW dC dI cI cB cJ cZ ad stM kcM 115 sz x)) (va_Qv (fun (y : St) => post y) (fun y t => Wd dC dI cI cB cJ cZ ad stM kcM 115 (va_A (pic ad stM kcM 115 cI cB cJ cZ x) sz) y t.heap) (va_A (pic ad stM kcM 115 cI cB cJ cZ x) sz)) 0 0 (va_A (pic ad stM kcM 115 cI cB cJ cZ x) sz)) (hs_Mod_readRow : ∀ (sz : Nat) (l1 : Int32) (l2 : Int32) (x : St), ∀ (post : St → Prop), self_Mod_readRow post l1 l2 x → Met l y_Mod_readRow (wsOf y_Mod_readRow b_Mod_readRow 3 (none)) ({ frames := fd, cells := 0, slots := 0, locals := ld }) (va_Pc [.ref (ad 0), .int l1, .int l2] (PW dC dI cI cB cJ cZ ad stM kcM 115 sz x)) (va_Qv (fun (y : St) => post y) (fun y t => Wd dC dI cI cB cJ cZ ad stM kcM 115 (va_A (pic ad stM kcM 115 cI cB cJ cZ x) sz) y t.heap) (va_A (pic ad stM kcM 115 cI cB cJ cZ x) sz)) 0 0 (va_A (pic ad stM kcM 115 cI cB cJ cZ x) sz)) (hs_Mod_readValue : ∀ (sz : Nat) (l1 : Int32) (l2 : Int32) (x : St), ∀ (post : St → Prop), self_Mod_readValue post l1 l2 x → Met l y_Mod_readValue (wsOf y_Mod_readValue b_Mod_readValue 7 (none)) ({ frames := fd, cells := 0, slots := 0, locals := ld }) (va_Pc [.ref (ad 0), .int l1, .int l2] (PW dC dI cI cB cJ cZ ad stM kcM 115 sz x)) (va_Qv (fun (y : St) => post y) (fun y t => Wd dC dI cI cB cJ cZ ad stM kcM 115 (va_A (pic ad stM kcM 115 cI cB cJ cZ x) sz) y t.heap) (va_A (pic ad stM kcM 115 cI cB cJ cZ x) sz)) 0 0 (va_A (pic ad stM kcM 115 cI cB cJ cZ x) sz)) (hDf : fd + 1 ≤ R.frames) (hDl : 26 + ld ≤ R.locals) (hrec11 : ∀ (l1 : Int32) (l2 : Int32) (l3 : Int32) (l4 : Int32) (x : St) (H : Heap) (locs : List Loc) (ls : Array Slot), rec11 l1 l2 l3 l4 x → Wd dC dI cI cB cJ cZ ad stM kcM 115 A x H → va_S A s.heap H locs → lv_has ls 7 [(0, .ref (ad 0)), (1, .int l1), (2, .int l2), (3, .int l3), (4, .int l4)] → W p l e R s m args below meth c H locs cells slots Q (F0 m 11 ls [])) : ∀ (l1 : Int32) (l2 : Int32) (l3 : Int32) (l4 : Int32) (l5 : Int32) (l6 : Int32) (x : St) (H : Heap) (locs : List Loc) (ls : Array Slot), j_Mod_readGroup_201 post self_Mod_readGroup self_Mod_readRow self_Mod_readValue rec11 l1 l2 l3 l4 l5 l6 x → Wd dC dI cI cB cJ cZ ad stM kcM 115 A x H → va_S A s.heap H locs → lv_has ls 7 [(0, .ref (ad 0)), (1, .int l1), (2, .int l2), (3, .int l3), (4, .int l4), (5, .int l5), (6, .int l6)] → W p l e R s m args below meth c H locs cells slots Q (F0 m 201 ls []) := by
  intro l1 l2 l3 l4 l5 l6 x H locs ls  hw hW hS hl
  unfold j_Mod_readGroup_201 at hw
  refine lv_aload_n hx hb d_Mod_readGroup_201 rfl (lv_at hl 0 rfl) ?_
  refine lv_bipush (v := 44) hx hb d_Mod_readGroup_202 (by decide) ?_
  have hF := hW.free hS hA
  refine va_callv (va_runV (C := R_Mod) (As := [.int 44]) (rest := []) ⟨hx, hb, hml, hown, hT⟩ (k_Mod_wantSign l dC dI cI cB cJ cZ ad H.size 44 x  hw) ⟨callB_of 1 hT (gwt_in w_11_42) rfl rfl rfl (hT _ w_1_15) (hT _ w_11_39) (by decide +kernel) ⟨Nat.le_trans (Nat.le_of_ble_eq_true rfl) hRf, Nat.le_trans (Nat.le_of_ble_eq_true rfl) hRl⟩, hT _ w_11_41, hT _ ws_120⟩ ⟨PW.blind, va_recv hK hW.1 (ci := 12) (q0 := 0) rfl (pic_obj ko_0.1 ko_0.2 (by decide)), PW.at _ hW hK hN⟩ rfl rfl hl.1 rfl (lv_room (Nat.le_of_ble_eq_true rfl)) d_Mod_readGroup_204 ⟨hRc, hRs⟩) hS (fun q _ h => hF q h) hF (fun  x292 t H locs ht hvm hw hB hz1 hk1 hS => ?_)
  have hW := Wd.back hB ht hF
  clear hB ht hF hz1 hk1 hvm
  refine lv_goto (tgt := 11) hx hb d_Mod_readGroup_207 (by decide) ?_
  exact hrec11 l1 l2 l3 l4 x292 H locs ls  hw hW hS (lv_sub hl [0, 1, 2, 3, 4] rfl)
set_option maxRecDepth 100000 in
set_option maxHeartbeats 4000000 in
set_option maxRecDepth 100000 in
theorem t_Mod_readGroup_173 {p : Program} {l : Launch} {e : Env} {R : Room} {s : State} {m : MethodId} {args : Array Value} {below : List Frame} {meth : Method} {c : Code} {cells slots : Nat} {Q : State → Prop} {dC : Nat → ClassId} {dI : Nat → Nat → Nat} {cI cB cJ cZ : ClassId} {A : Nat → Prop} {ad : Nat → Nat} {post : St → Prop} {self_Mod_readGroup : (St → Prop) → Int32 → Int32 → St → Prop} {self_Mod_readRow : (St → Prop) → Int32 → Int32 → St → Prop} {self_Mod_readValue : (St → Prop) → Int32 → Int32 → St → Prop} {fd ld : Nat} {rec11 : Int32 → Int32 → Int32 → Int32 → St → Prop} (hx : p.tables.exec = Jvm.exec) (hb : c.code = b_Mod_readGroup) (hml : c.maxLocals = 7) (hown : s.vm.findClass R_Mod = some m.cls) (hT : ∀ w ∈ TG, w.before args s = true) (hK : va_K (dC, dI) CL (TY cI cB cJ cZ) s) (hN : NW s) (hA : ∀ q : Nat, s.heap.size ≤ q → A q) (hRc : cells ≤ R.cells) (hRs : slots ≤ R.slots) (hRf : 5 ≤ R.frames) (hRl : 111 ≤ R.locals) (hret : ∀ (x : St) (H : Heap) (locs : List Loc) (pc : Nat) (ls : Array Slot), decode b_Mod_readGroup pc = .ok (.return_, 1) → post x → Wd dC dI cI cB cJ cZ ad stM kcM 115 A x H → va_S A s.heap H locs → W p l e R s m args below meth c H locs cells slots Q (F0 m pc ls [])) (hs_Mod_readGroup : ∀ (sz : Nat) (l1 : Int32) (l2 : Int32) (x : St), ∀ (post : St → Prop), self_Mod_readGroup post l1 l2 x → Met l y_Mod_readGroup (wsOf y_Mod_readGroup b_Mod_readGroup 7 (none)) ({ frames := fd, cells := 0, slots := 0, locals := ld }) (va_Pc [.ref (ad 0), .int l1, .int l2] (PW dC dI cI cB cJ cZ ad stM kcM 115 sz x)) (va_Qv (fun (y : St) => post y) (fun y t => Wd dC dI cI cB cJ cZ ad stM kcM 115 (va_A (pic ad stM kcM 115 cI cB cJ cZ x) sz) y t.heap) (va_A (pic ad stM kcM 115 cI cB cJ cZ x) sz)) 0 0 (va_A (pic ad stM kcM 115 cI cB cJ cZ x) sz)) (hs_Mod_readRow : ∀ (sz : Nat) (l1 : Int32) (l2 : Int32) (x : St), ∀ (post : St → Prop), self_Mod_readRow post l1 l2 x → Met l y_Mod_readRow (wsOf y_Mod_readRow b_Mod_readRow 3 (none)) ({ frames := fd, cells := 0, slots := 0, locals := ld }) (va_Pc [.ref (ad 0), .int l1, .int l2] (PW dC dI cI cB cJ cZ ad stM kcM 115 sz x)) (va_Qv (fun (y : St) => post y) (fun y t => Wd dC dI cI cB cJ cZ ad stM kcM 115 (va_A (pic ad stM kcM 115 cI cB cJ cZ x) sz) y t.heap) (va_A (pic ad stM kcM 115 cI cB cJ cZ x) sz)) 0 0 (va_A (pic ad stM kcM 115 cI cB cJ cZ x) sz)) (hs_Mod_readValue : ∀ (sz : Nat) (l1 : Int32) (l2 : Int32) (x : St), ∀ (post : St → Prop), self_Mod_readValue post l1 l2 x → Met l y_Mod_readValue (wsOf y_Mod_readValue b_Mod_readValue 7 (none)) ({ frames := fd, cells := 0, slots := 0, locals := ld }) (va_Pc [.ref (ad 0), .int l1, .int l2] (PW dC dI cI cB cJ cZ ad stM kcM 115 sz x)) (va_Qv (fun (y : St) => post y) (fun y t => Wd dC dI cI cB cJ cZ ad stM kcM 115 (va_A (pic ad stM kcM 115 cI cB cJ cZ x) sz) y t.heap) (va_A (pic ad stM kcM 115 cI cB cJ cZ x) sz)) 0 0 (va_A (pic ad stM kcM 115 cI cB cJ cZ x) sz)) (hDf : fd + 1 ≤ R.frames) (hDl : 26 + ld ≤ R.locals) (hrec11 : ∀ (l1 : Int32) (l2 : Int32) (l3 : Int32) (l4 : Int32) (x : St) (H : Heap) (locs : List Loc) (ls : Array Slot), rec11 l1 l2 l3 l4 x → Wd dC dI cI cB cJ cZ ad stM kcM 115 A x H → va_S A s.heap H locs → lv_has ls 7 [(0, .ref (ad 0)), (1, .int l1), (2, .int l2), (3, .int l3), (4, .int l4)] → W p l e R s m args below meth c H locs cells slots Q (F0 m 11 ls [])) : ∀ (l1 : Int32) (l2 : Int32) (l3 : Int32) (l4 : Int32) (l5 : Int32) (l6 : Int32) (x : St) (H : Heap) (locs : List Loc) (ls : Array Slot), j_Mod_readGroup_173 post self_Mod_readGroup self_Mod_readRow self_Mod_readValue rec11 l1 l2 l3 l4 l5 l6 x → Wd dC dI cI cB cJ cZ ad stM kcM 115 A x H → va_S A s.heap H locs → lv_has ls 7 [(0, .ref (ad 0)), (1, .int l1), (2, .int l2), (3, .int l3), (4, .int l4), (5, .int l5), (6, .int l6)] → W p l e R s m args below meth c H locs cells slots Q (F0 m 173 ls []) := by
  intro l1 l2 l3 l4 l5 l6 x H locs ls  hw hW hS hl
  unfold j_Mod_readGroup_173 at hw
  refine lv_aload_n hx hb d_Mod_readGroup_173 rfl (lv_at hl 0 rfl) ?_
  have hF := hW.free hS hA
  refine va_callv (va_runV (C := R_Mod) (As := []) (rest := []) ⟨hx, hb, hml, hown, hT⟩ (k_Mod_blanks l dC dI cI cB cJ cZ ad H.size  x  hw) ⟨callB_of 0 hT (gwt_in w_10_230) rfl rfl rfl (hT _ w_1_15) (hT _ w_10_227) (by decide +kernel) ⟨Nat.le_trans (Nat.le_of_ble_eq_true rfl) hRf, Nat.le_trans (Nat.le_of_ble_eq_true rfl) hRl⟩, hT _ w_10_229, hT _ ws_111⟩ ⟨PW.blind, va_recv hK hW.1 (ci := 12) (q0 := 0) rfl (pic_obj ko_0.1 ko_0.2 (by decide)), PW.at _ hW hK hN⟩ rfl rfl hl.1 rfl (lv_room (Nat.le_of_ble_eq_true rfl)) d_Mod_readGroup_174 ⟨hRc, hRs⟩) hS (fun q _ h => hF q h) hF (fun  x293 t H locs ht hvm hw hB hz1 hk1 hS => ?_)
  have hW := Wd.back hB ht hF
  clear hB ht hF hz1 hk1 hvm
  refine lv_aload_n hx hb d_Mod_readGroup_177 rfl (lv_at hl 0 rfl) ?_
  refine w_geti (k := 17) (t := 12) (C := R_Mod) (T := F_Mod) (N := 167) hx hb hT hown hK hW ko_0.1 ko_0.2 (by decide) in_Mod rfl rfl (by decide) rfl fr_Mod_17 w_8_193 d_Mod_readGroup_178 ?_
  refine lv_iconst (v := (-1)) hx hb d_Mod_readGroup_181 (by decide) ?_
  refine lv_icmp_ne (tgt := 201) hx hb d_Mod_readGroup_182 (by decide) (fun c294 => ?_) (fun c294 => ?_)
  · have hw := hw.1 c294
    exact t_Mod_readGroup_201 hx hb hml hown hT hK hN hA hRc hRs hRf hRl hret hs_Mod_readGroup hs_Mod_readRow hs_Mod_readValue hDf hDl hrec11 l1 l2 l3 l4 l5 l6 x293 H locs ls  hw hW hS (lv_sub hl [0, 1, 2, 3, 4, 5, 6] rfl)
  · have hw := hw.2 c294
    refine lv_aload_n hx hb d_Mod_readGroup_185 rfl (lv_at hl 0 rfl) ?_
    have hF := hW.free hS hA
    refine va_calli (va_runV (C := R_Mod) (As := []) (rest := []) ⟨hx, hb, hml, hown, hT⟩ (k_Mod_look l dC dI cI cB cJ cZ ad H.size  x293  hw) ⟨callB_of 0 hT (gwt_in w_10_234) rfl rfl rfl (hT _ w_1_15) (hT _ w_10_231) (by decide +kernel) ⟨Nat.le_trans (Nat.le_of_ble_eq_true rfl) hRf, Nat.le_trans (Nat.le_of_ble_eq_true rfl) hRl⟩, hT _ w_10_233, hT _ ws_112⟩ ⟨PW.blind, va_recv hK hW.1 (ci := 12) (q0 := 0) rfl (pic_obj ko_0.1 ko_0.2 (by decide)), PW.at _ hW hK hN⟩ rfl rfl hl.1 rfl (lv_room (Nat.le_of_ble_eq_true rfl)) d_Mod_readGroup_186 ⟨hRc, hRs⟩) hS (fun q _ h => hF q h) hF (fun r296 x295 t H locs ht hvm hw hB hz1 hk1 hS => ?_)
    have hW := Wd.back hB ht hF
    clear hB ht hF hz1 hk1 hvm
    refine lv_bipush (v := 125) hx hb d_Mod_readGroup_189 (by decide) ?_
    refine lv_icmp_ne (tgt := 201) hx hb d_Mod_readGroup_191 (by decide) (fun c297 => ?_) (fun c297 => ?_)
    · have hw := hw.1 c297
      exact t_Mod_readGroup_201 hx hb hml hown hT hK hN hA hRc hRs hRf hRl hret hs_Mod_readGroup hs_Mod_readRow hs_Mod_readValue hDf hDl hrec11 l1 l2 l3 l4 l5 l6 x295 H locs ls  hw hW hS (lv_sub hl [0, 1, 2, 3, 4, 5, 6] rfl)
    · have hw := hw.2 c297
      refine lv_aload_n hx hb d_Mod_readGroup_194 rfl (lv_at hl 0 rfl) ?_
      refine lv_iload_n hx hb d_Mod_readGroup_195 rfl (lv_at hl 2 rfl) ?_
      refine lv_iload_n hx hb d_Mod_readGroup_196 rfl (lv_at hl 3 rfl) ?_
      have hF := hW.free hS hA
      refine va_callv (va_runV (C := R_Mod) (As := [.int l2, .int l3]) (rest := []) ⟨hx, hb, hml, hown, hT⟩ (k_Mod_ends l dC dI cI cB cJ cZ ad H.size l2 l3 x295  hw) ⟨callB_of 2 hT (gwt_in w_11_66) rfl rfl rfl (hT _ w_1_15) (hT _ w_11_63) (by decide +kernel) ⟨Nat.le_trans (Nat.le_of_ble_eq_true rfl) hRf, Nat.le_trans (Nat.le_of_ble_eq_true rfl) hRl⟩, hT _ w_11_65, hT _ ws_125⟩ ⟨PW.blind, va_recv hK hW.1 (ci := 12) (q0 := 0) rfl (pic_obj ko_0.1 ko_0.2 (by decide)), PW.at _ hW hK hN⟩ rfl rfl hl.1 rfl (lv_room (Nat.le_of_ble_eq_true rfl)) d_Mod_readGroup_197 ⟨hRc, hRs⟩) hS (fun q _ h => hF q h) hF (fun  x298 t H locs ht hvm hw hB hz1 hk1 hS => ?_)
      have hW := Wd.back hB ht hF
      clear hB ht hF hz1 hk1 hvm
      exact hret x298 H locs 200 ls d_Mod_readGroup_200 hw hW hS
set_option maxRecDepth 100000 in
set_option maxHeartbeats 4000000 in
set_option maxRecDepth 100000 in
theorem t_Mod_readGroup_101 {p : Program} {l : Launch} {e : Env} {R : Room} {s : State} {m : MethodId} {args : Array Value} {below : List Frame} {meth : Method} {c : Code} {cells slots : Nat} {Q : State → Prop} {dC : Nat → ClassId} {dI : Nat → Nat → Nat} {cI cB cJ cZ : ClassId} {A : Nat → Prop} {ad : Nat → Nat} {post : St → Prop} {self_Mod_readGroup : (St → Prop) → Int32 → Int32 → St → Prop} {self_Mod_readRow : (St → Prop) → Int32 → Int32 → St → Prop} {self_Mod_readValue : (St → Prop) → Int32 → Int32 → St → Prop} {fd ld : Nat} (hx : p.tables.exec = Jvm.exec) (hb : c.code = b_Mod_readGroup) (hml : c.maxLocals = 7) (hown : s.vm.findClass R_Mod = some m.cls) (hT : ∀ w ∈ TG, w.before args s = true) (hK : va_K (dC, dI) CL (TY cI cB cJ cZ) s) (hN : NW s) (hA : ∀ q : Nat, s.heap.size ≤ q → A q) (hRc : cells ≤ R.cells) (hRs : slots ≤ R.slots) (hRf : 5 ≤ R.frames) (hRl : 111 ≤ R.locals) (hret : ∀ (x : St) (H : Heap) (locs : List Loc) (pc : Nat) (ls : Array Slot), decode b_Mod_readGroup pc = .ok (.return_, 1) → post x → Wd dC dI cI cB cJ cZ ad stM kcM 115 A x H → va_S A s.heap H locs → W p l e R s m args below meth c H locs cells slots Q (F0 m pc ls [])) (hs_Mod_readGroup : ∀ (sz : Nat) (l1 : Int32) (l2 : Int32) (x : St), ∀ (post : St → Prop), self_Mod_readGroup post l1 l2 x → Met l y_Mod_readGroup (wsOf y_Mod_readGroup b_Mod_readGroup 7 (none)) ({ frames := fd, cells := 0, slots := 0, locals := ld }) (va_Pc [.ref (ad 0), .int l1, .int l2] (PW dC dI cI cB cJ cZ ad stM kcM 115 sz x)) (va_Qv (fun (y : St) => post y) (fun y t => Wd dC dI cI cB cJ cZ ad stM kcM 115 (va_A (pic ad stM kcM 115 cI cB cJ cZ x) sz) y t.heap) (va_A (pic ad stM kcM 115 cI cB cJ cZ x) sz)) 0 0 (va_A (pic ad stM kcM 115 cI cB cJ cZ x) sz)) (hs_Mod_readRow : ∀ (sz : Nat) (l1 : Int32) (l2 : Int32) (x : St), ∀ (post : St → Prop), self_Mod_readRow post l1 l2 x → Met l y_Mod_readRow (wsOf y_Mod_readRow b_Mod_readRow 3 (none)) ({ frames := fd, cells := 0, slots := 0, locals := ld }) (va_Pc [.ref (ad 0), .int l1, .int l2] (PW dC dI cI cB cJ cZ ad stM kcM 115 sz x)) (va_Qv (fun (y : St) => post y) (fun y t => Wd dC dI cI cB cJ cZ ad stM kcM 115 (va_A (pic ad stM kcM 115 cI cB cJ cZ x) sz) y t.heap) (va_A (pic ad stM kcM 115 cI cB cJ cZ x) sz)) 0 0 (va_A (pic ad stM kcM 115 cI cB cJ cZ x) sz)) (hs_Mod_readValue : ∀ (sz : Nat) (l1 : Int32) (l2 : Int32) (x : St), ∀ (post : St → Prop), self_Mod_readValue post l1 l2 x → Met l y_Mod_readValue (wsOf y_Mod_readValue b_Mod_readValue 7 (none)) ({ frames := fd, cells := 0, slots := 0, locals := ld }) (va_Pc [.ref (ad 0), .int l1, .int l2] (PW dC dI cI cB cJ cZ ad stM kcM 115 sz x)) (va_Qv (fun (y : St) => post y) (fun y t => Wd dC dI cI cB cJ cZ ad stM kcM 115 (va_A (pic ad stM kcM 115 cI cB cJ cZ x) sz) y t.heap) (va_A (pic ad stM kcM 115 cI cB cJ cZ x) sz)) 0 0 (va_A (pic ad stM kcM 115 cI cB cJ cZ x) sz)) (hDf : fd + 1 ≤ R.frames) (hDl : 26 + ld ≤ R.locals)  : ∀ (l1 : Int32) (l2 : Int32) (l3 : Int32) (l4 : Int32) (l5 : Int32) (l6 : Int32) (x : St) (H : Heap) (locs : List Loc) (ls : Array Slot), j_Mod_readGroup_101 post self_Mod_readGroup self_Mod_readRow self_Mod_readValue l1 l2 l3 l4 l5 l6 x → Wd dC dI cI cB cJ cZ ad stM kcM 115 A x H → va_S A s.heap H locs → lv_has ls 7 [(0, .ref (ad 0)), (1, .int l1), (2, .int l2), (3, .int l3), (4, .int l4), (5, .int l5), (6, .int l6)] → W p l e R s m args below meth c H locs cells slots Q (F0 m 101 ls []) := by
  intro l1 l2 l3 l4 l5 l6 x H locs ls  hw hW hS hl
  unfold j_Mod_readGroup_101 at hw
  refine lv_aload_n hx hb d_Mod_readGroup_101 rfl (lv_at hl 0 rfl) ?_
  refine lv_aload_n hx hb d_Mod_readGroup_102 rfl (lv_at hl 0 rfl) ?_
  refine w_geti (k := 16) (t := 12) (C := R_Mod) (T := F_Mod) (N := 167) hx hb hT hown hK hW ko_0.1 ko_0.2 (by decide) in_Mod rfl rfl (by decide) rfl fr_Mod_16 w_8_192 d_Mod_readGroup_103 ?_
  have hF := hW.free hS hA
  refine va_callv (va_runV (C := R_Mod) (As := [.int (fI x 0 16)]) (rest := []) ⟨hx, hb, hml, hown, hT⟩ (k_Mod_fail l dC dI cI cB cJ cZ ad H.size (fI x 0 16) x  hw) ⟨callB_of 1 hT (gwt_in w_11_14) rfl rfl rfl (hT _ w_1_15) (hT _ w_11_11) (by decide +kernel) ⟨Nat.le_trans (Nat.le_of_ble_eq_true rfl) hRf, Nat.le_trans (Nat.le_of_ble_eq_true rfl) hRl⟩, hT _ w_11_13, hT _ ws_115⟩ ⟨PW.blind, va_recv hK hW.1 (ci := 12) (q0 := 0) rfl (pic_obj ko_0.1 ko_0.2 (by decide)), PW.at _ hW hK hN⟩ rfl rfl hl.1 rfl (lv_room (Nat.le_of_ble_eq_true rfl)) d_Mod_readGroup_106 ⟨hRc, hRs⟩) hS (fun q _ h => hF q h) hF (fun  x299 t H locs ht hvm hw hB hz1 hk1 hS => ?_)
  have hW := Wd.back hB ht hF
  clear hB ht hF hz1 hk1 hvm
  exact hret x299 H locs 109 ls d_Mod_readGroup_109 hw hW hS
set_option maxRecDepth 100000 in
set_option maxHeartbeats 4000000 in
set_option maxRecDepth 100000 in
theorem t_Mod_readGroup_82 {p : Program} {l : Launch} {e : Env} {R : Room} {s : State} {m : MethodId} {args : Array Value} {below : List Frame} {meth : Method} {c : Code} {cells slots : Nat} {Q : State → Prop} {dC : Nat → ClassId} {dI : Nat → Nat → Nat} {cI cB cJ cZ : ClassId} {A : Nat → Prop} {ad : Nat → Nat} {post : St → Prop} {self_Mod_readGroup : (St → Prop) → Int32 → Int32 → St → Prop} {self_Mod_readRow : (St → Prop) → Int32 → Int32 → St → Prop} {self_Mod_readValue : (St → Prop) → Int32 → Int32 → St → Prop} {fd ld : Nat} {rec11 : Int32 → Int32 → Int32 → Int32 → St → Prop} (hx : p.tables.exec = Jvm.exec) (hb : c.code = b_Mod_readGroup) (hml : c.maxLocals = 7) (hown : s.vm.findClass R_Mod = some m.cls) (hT : ∀ w ∈ TG, w.before args s = true) (hK : va_K (dC, dI) CL (TY cI cB cJ cZ) s) (hN : NW s) (hA : ∀ q : Nat, s.heap.size ≤ q → A q) (hRc : cells ≤ R.cells) (hRs : slots ≤ R.slots) (hRf : 5 ≤ R.frames) (hRl : 111 ≤ R.locals) (hret : ∀ (x : St) (H : Heap) (locs : List Loc) (pc : Nat) (ls : Array Slot), decode b_Mod_readGroup pc = .ok (.return_, 1) → post x → Wd dC dI cI cB cJ cZ ad stM kcM 115 A x H → va_S A s.heap H locs → W p l e R s m args below meth c H locs cells slots Q (F0 m pc ls [])) (hs_Mod_readGroup : ∀ (sz : Nat) (l1 : Int32) (l2 : Int32) (x : St), ∀ (post : St → Prop), self_Mod_readGroup post l1 l2 x → Met l y_Mod_readGroup (wsOf y_Mod_readGroup b_Mod_readGroup 7 (none)) ({ frames := fd, cells := 0, slots := 0, locals := ld }) (va_Pc [.ref (ad 0), .int l1, .int l2] (PW dC dI cI cB cJ cZ ad stM kcM 115 sz x)) (va_Qv (fun (y : St) => post y) (fun y t => Wd dC dI cI cB cJ cZ ad stM kcM 115 (va_A (pic ad stM kcM 115 cI cB cJ cZ x) sz) y t.heap) (va_A (pic ad stM kcM 115 cI cB cJ cZ x) sz)) 0 0 (va_A (pic ad stM kcM 115 cI cB cJ cZ x) sz)) (hs_Mod_readRow : ∀ (sz : Nat) (l1 : Int32) (l2 : Int32) (x : St), ∀ (post : St → Prop), self_Mod_readRow post l1 l2 x → Met l y_Mod_readRow (wsOf y_Mod_readRow b_Mod_readRow 3 (none)) ({ frames := fd, cells := 0, slots := 0, locals := ld }) (va_Pc [.ref (ad 0), .int l1, .int l2] (PW dC dI cI cB cJ cZ ad stM kcM 115 sz x)) (va_Qv (fun (y : St) => post y) (fun y t => Wd dC dI cI cB cJ cZ ad stM kcM 115 (va_A (pic ad stM kcM 115 cI cB cJ cZ x) sz) y t.heap) (va_A (pic ad stM kcM 115 cI cB cJ cZ x) sz)) 0 0 (va_A (pic ad stM kcM 115 cI cB cJ cZ x) sz)) (hs_Mod_readValue : ∀ (sz : Nat) (l1 : Int32) (l2 : Int32) (x : St), ∀ (post : St → Prop), self_Mod_readValue post l1 l2 x → Met l y_Mod_readValue (wsOf y_Mod_readValue b_Mod_readValue 7 (none)) ({ frames := fd, cells := 0, slots := 0, locals := ld }) (va_Pc [.ref (ad 0), .int l1, .int l2] (PW dC dI cI cB cJ cZ ad stM kcM 115 sz x)) (va_Qv (fun (y : St) => post y) (fun y t => Wd dC dI cI cB cJ cZ ad stM kcM 115 (va_A (pic ad stM kcM 115 cI cB cJ cZ x) sz) y t.heap) (va_A (pic ad stM kcM 115 cI cB cJ cZ x) sz)) 0 0 (va_A (pic ad stM kcM 115 cI cB cJ cZ x) sz)) (hDf : fd + 1 ≤ R.frames) (hDl : 26 + ld ≤ R.locals) (hrec11 : ∀ (l1 : Int32) (l2 : Int32) (l3 : Int32) (l4 : Int32) (x : St) (H : Heap) (locs : List Loc) (ls : Array Slot), rec11 l1 l2 l3 l4 x → Wd dC dI cI cB cJ cZ ad stM kcM 115 A x H → va_S A s.heap H locs → lv_has ls 7 [(0, .ref (ad 0)), (1, .int l1), (2, .int l2), (3, .int l3), (4, .int l4)] → W p l e R s m args below meth c H locs cells slots Q (F0 m 11 ls [])) : ∀ (l1 : Int32) (l2 : Int32) (l3 : Int32) (l4 : Int32) (l5 : Int32) (s0 : Int32) (x : St) (H : Heap) (locs : List Loc) (ls : Array Slot), j_Mod_readGroup_82 post self_Mod_readGroup self_Mod_readRow self_Mod_readValue rec11 l1 l2 l3 l4 l5 s0 x → Wd dC dI cI cB cJ cZ ad stM kcM 115 A x H → va_S A s.heap H locs → lv_has ls 7 [(0, .ref (ad 0)), (1, .int l1), (2, .int l2), (3, .int l3), (4, .int l4), (5, .int l5)] → W p l e R s m args below meth c H locs cells slots Q (F0 m 82 ls [.int s0]) := by
  intro l1 l2 l3 l4 l5 s0 x H locs ls  hw hW hS hl
  unfold j_Mod_readGroup_82 at hw
  refine lv_istore (lv' := [(6, .int s0), (0, .ref (ad 0)), (1, .int l1), (2, .int l2), (3, .int l3), (4, .int l4), (5, .int l5)]) hx hb d_Mod_readGroup_82 hl (by decide) rfl (fun ls hl => ?_)
  refine lv_iload hx hb d_Mod_readGroup_84 (lv_at hl 0 rfl) ?_
  refine lv_iload_n hx hb d_Mod_readGroup_86 rfl (lv_at hl 4 rfl) ?_
  refine lv_icmp_lt (tgt := 101) hx hb d_Mod_readGroup_87 (by decide) (fun c300 => ?_) (fun c300 => ?_)
  · have hw := hw.1 c300
    exact t_Mod_readGroup_101 hx hb hml hown hT hK hN hA hRc hRs hRf hRl hret hs_Mod_readGroup hs_Mod_readRow hs_Mod_readValue hDf hDl  l1 l2 l3 l4 l5 s0 x H locs ls  hw hW hS (lv_sub hl [1, 2, 3, 4, 5, 6, 0] rfl)
  · have hw := hw.2 c300
    refine lv_aload_n hx hb d_Mod_readGroup_90 rfl (lv_at hl 1 rfl) ?_
    refine lv_iload_n hx hb d_Mod_readGroup_91 rfl (lv_at hl 3 rfl) ?_
    refine lv_iload_n hx hb d_Mod_readGroup_92 rfl (lv_at hl 4 rfl) ?_
    refine lv_iload hx hb d_Mod_readGroup_93 (lv_at hl 0 rfl) ?_
    have hF := hW.free hS hA
    refine va_calli (va_runV (C := R_Mod) (As := [.int l2, .int l3, .int s0]) (rest := []) ⟨hx, hb, hml, hown, hT⟩ (k_Mod_misses l dC dI cI cB cJ cZ ad H.size l2 l3 s0 x  hw) ⟨callB_of 3 hT (gwt_in w_11_70) rfl rfl rfl (hT _ w_1_15) (hT _ w_11_67) (by decide +kernel) ⟨Nat.le_trans (Nat.le_of_ble_eq_true rfl) hRf, Nat.le_trans (Nat.le_of_ble_eq_true rfl) hRl⟩, hT _ w_11_69, hT _ ws_126⟩ ⟨PW.blind, va_recv hK hW.1 (ci := 12) (q0 := 0) rfl (pic_obj ko_0.1 ko_0.2 (by decide)), PW.at _ hW hK hN⟩ rfl rfl hl.1 rfl (lv_room (Nat.le_of_ble_eq_true rfl)) d_Mod_readGroup_95 ⟨hRc, hRs⟩) hS (fun q _ h => hF q h) hF (fun r302 x301 t H locs ht hvm hw hB hz1 hk1 hS => ?_)
    have hW := Wd.back hB ht hF
    clear hB ht hF hz1 hk1 hvm
    refine lv_if_eq (tgt := 110) hx hb d_Mod_readGroup_98 (by decide) (fun c303 => ?_) (fun c303 => ?_)
    · have hw := hw.1 c303
      refine lv_aload_n hx hb d_Mod_readGroup_110 rfl (lv_at hl 1 rfl) ?_
      refine lv_dup hx hb d_Mod_readGroup_111 rfl ?_
      refine w_geti (k := 16) (t := 12) (C := R_Mod) (T := F_Mod) (N := 167) hx hb hT hown hK hW ko_0.1 ko_0.2 (by decide) in_Mod rfl rfl (by decide) rfl fr_Mod_16 w_8_192 d_Mod_readGroup_112 ?_
      refine lv_iload hx hb d_Mod_readGroup_115 (lv_at hl 6 rfl) ?_
      refine lv_iadd hx hb d_Mod_readGroup_117 ?_
      refine w_puti (ty := .int) (k := 16) (t := 12) (C := R_Mod) (T := F_Mod) (N := 167) hx hb hT hown hK hW hS ko_0.1 ko_0.2 (by decide) in_Mod t_Mod t_Mod_ok n_Mod rfl rfl (by decide) rfl fr_Mod_16 w_8_192 (by decide +kernel) rfl rfl d_Mod_readGroup_118 (fun H locs hW hS => ?_)
      obtain ⟨x304, ex304⟩ : ∃ y : St, y = setI x301 0 16 ((fI x301 0 16) + l5) := ⟨_, rfl⟩
      rw [← ex304] at hW
      have hw := hw x304 ex304
      refine lv_iload hx hb d_Mod_readGroup_121 (lv_at hl 0 rfl) ?_
      refine lv_iconst (v := 1) hx hb d_Mod_readGroup_123 (by decide) ?_
      refine lv_iadd hx hb d_Mod_readGroup_124 ?_
      refine lv_topi (fun v305 ev305 => ?_)
      have hw := hw v305 ev305
      refine lv_istore_n (lv' := [(3, .int v305), (6, .int s0), (0, .ref (ad 0)), (1, .int l1), (2, .int l2), (4, .int l4), (5, .int l5)]) hx hb d_Mod_readGroup_125 rfl hl (by decide) rfl (fun ls hl => ?_)
      refine lv_aload_n hx hb d_Mod_readGroup_126 rfl (lv_at hl 2 rfl) ?_
      refine lv_bipush (v := 58) hx hb d_Mod_readGroup_127 (by decide) ?_
      have hF := hW.free hS hA
      refine va_callv (va_runV (C := R_Mod) (As := [.int 58]) (rest := []) ⟨hx, hb, hml, hown, hT⟩ (k_Mod_wantSign l dC dI cI cB cJ cZ ad H.size 58 x304  hw) ⟨callB_of 1 hT (gwt_in w_11_42) rfl rfl rfl (hT _ w_1_15) (hT _ w_11_39) (by decide +kernel) ⟨Nat.le_trans (Nat.le_of_ble_eq_true rfl) hRf, Nat.le_trans (Nat.le_of_ble_eq_true rfl) hRl⟩, hT _ w_11_41, hT _ ws_120⟩ ⟨PW.blind, va_recv hK hW.1 (ci := 12) (q0 := 0) rfl (pic_obj ko_0.1 ko_0.2 (by decide)), PW.at _ hW hK hN⟩ rfl rfl hl.1 rfl (lv_room (Nat.le_of_ble_eq_true rfl)) d_Mod_readGroup_129 ⟨hRc, hRs⟩) hS (fun q _ h => hF q h) hF (fun  x306 t H locs ht hvm hw hB hz1 hk1 hS => ?_)
      have hW := Wd.back hB ht hF
      clear hB ht hF hz1 hk1 hvm
      refine lv_aload_n hx hb d_Mod_readGroup_132 rfl (lv_at hl 2 rfl) ?_
      refine w_geti (k := 17) (t := 12) (C := R_Mod) (T := F_Mod) (N := 167) hx hb hT hown hK hW ko_0.1 ko_0.2 (by decide) in_Mod rfl rfl (by decide) rfl fr_Mod_17 w_8_193 d_Mod_readGroup_133 ?_
      refine lv_iconst (v := (-1)) hx hb d_Mod_readGroup_136 (by decide) ?_
      refine lv_icmp_eq (tgt := 141) hx hb d_Mod_readGroup_137 (by decide) (fun c307 => ?_) (fun c307 => ?_)
      · have hw := hw.1 c307
        refine lv_aload_n hx hb d_Mod_readGroup_141 rfl (lv_at hl 2 rfl) ?_
        refine w_getf (q := 3) (k := 5) (t := 12) (C := R_Mod) (T := F_Mod) (N := 167) hx hb hT hown hK hW ko_0.1 ko_0.2 (by decide) in_Mod rfl rfl (by decide) rfl fr_Mod_5 w_8_181 d_Mod_readGroup_142 rfl ?_
        refine lv_iconst (v := 0) hx hb d_Mod_readGroup_145 (by decide) ?_
        refine lv_iload hx hb d_Mod_readGroup_146 (lv_at hl 1 rfl) ?_
        have hF := hW.free hS hA
        refine va_calli (va_runS (As := [.int 0, .int s0]) (rest := [.ref (ad 3)]) ⟨hx, hb, hml, hown, hT⟩ (k_Mod_place l dC dI cI cB cJ cZ ad H.size 0 s0 x306  hw) ⟨callB_of 2 hT (gwt_in w_11_30) rfl rfl rfl (hT _ w_1_15) (hT _ w_11_28) (by decide +kernel) ⟨Nat.le_trans (Nat.le_of_ble_eq_true rfl) hRf, Nat.le_trans (Nat.le_of_ble_eq_true rfl) hRl⟩, hT _ w_11_29⟩ ⟨PW.blind, PW.at _ hW hK hN⟩ rfl rfl hl.1 rfl (lv_room (Nat.le_of_ble_eq_true rfl)) d_Mod_readGroup_148 ⟨hRc, hRs⟩) hS (fun q _ h => hF q h) hF (fun r309 x308 t H locs ht hvm hw hB hz1 hk1 hS => ?_)
        have hW := Wd.back hB ht hF
        clear hB ht hF hz1 hk1 hvm
        obtain ⟨hi, hw⟩ := hw
        refine w_iald (o := 3) hx hb hK hW ko_3.1 ko_3.2 hi d_Mod_readGroup_151 ?_
        refine lv_iconst (v := 2) hx hb d_Mod_readGroup_152 (by decide) ?_
        refine lv_icmp_ne (tgt := 166) hx hb d_Mod_readGroup_153 (by decide) (fun c310 => ?_) (fun c310 => ?_)
        · have hw := hw.1 c310
          refine lv_aload_n hx hb d_Mod_readGroup_166 rfl (lv_at hl 2 rfl) ?_
          refine lv_iload_n hx hb d_Mod_readGroup_167 rfl (lv_at hl 3 rfl) ?_
          refine lv_iload hx hb d_Mod_readGroup_168 (lv_at hl 1 rfl) ?_
          have hF := hW.free hS hA
          refine va_callv (va_runV (C := R_Mod) (As := [.int l1, .int s0]) (rest := []) ⟨hx, hb, hml, hown, hT⟩ (hs_Mod_readValue H.size l1 s0 x308  _ hw) ⟨callB_of 2 hT (gwt_in w_11_78) rfl rfl rfl (hT _ w_1_15) (hT _ w_11_75) (by decide +kernel) ⟨hDf, Nat.le_trans (Nat.add_le_add_right (by decide) _) hDl⟩, hT _ w_11_77, hT _ ws_128⟩ ⟨PW.blind, va_recv hK hW.1 (ci := 12) (q0 := 0) rfl (pic_obj ko_0.1 ko_0.2 (by decide)), PW.at _ hW hK hN⟩ rfl rfl hl.1 rfl (lv_room (Nat.le_of_ble_eq_true rfl)) d_Mod_readGroup_170 ⟨hRc, hRs⟩) hS (fun q _ h => hF q h) hF (fun  x311 t H locs ht hvm hw hB hz1 hk1 hS => ?_)
          have hW := Wd.back hB ht hF
          clear hB ht hF hz1 hk1 hvm
          exact t_Mod_readGroup_173 hx hb hml hown hT hK hN hA hRc hRs hRf hRl hret hs_Mod_readGroup hs_Mod_readRow hs_Mod_readValue hDf hDl hrec11 l1 l2 v305 l4 l5 s0 x311 H locs ls  hw hW hS (lv_sub hl [2, 3, 4, 0, 5, 6, 1] rfl)
        · have hw := hw.2 c310
          refine lv_aload_n hx hb d_Mod_readGroup_156 rfl (lv_at hl 2 rfl) ?_
          refine lv_iload_n hx hb d_Mod_readGroup_157 rfl (lv_at hl 3 rfl) ?_
          refine lv_iload hx hb d_Mod_readGroup_158 (lv_at hl 1 rfl) ?_
          have hF := hW.free hS hA
          refine va_callv (va_runV (C := R_Mod) (As := [.int l1, .int s0]) (rest := []) ⟨hx, hb, hml, hown, hT⟩ (hs_Mod_readRow H.size l1 s0 x308  _ hw) ⟨callB_of 2 hT (gwt_in w_11_74) rfl rfl rfl (hT _ w_1_15) (hT _ w_11_71) (by decide +kernel) ⟨hDf, Nat.le_trans (Nat.add_le_add_right (by decide) _) hDl⟩, hT _ w_11_73, hT _ ws_127⟩ ⟨PW.blind, va_recv hK hW.1 (ci := 12) (q0 := 0) rfl (pic_obj ko_0.1 ko_0.2 (by decide)), PW.at _ hW hK hN⟩ rfl rfl hl.1 rfl (lv_room (Nat.le_of_ble_eq_true rfl)) d_Mod_readGroup_160 ⟨hRc, hRs⟩) hS (fun q _ h => hF q h) hF (fun  x312 t H locs ht hvm hw hB hz1 hk1 hS => ?_)
          have hW := Wd.back hB ht hF
          clear hB ht hF hz1 hk1 hvm
          refine lv_goto (tgt := 173) hx hb d_Mod_readGroup_163 (by decide) ?_
          exact t_Mod_readGroup_173 hx hb hml hown hT hK hN hA hRc hRs hRf hRl hret hs_Mod_readGroup hs_Mod_readRow hs_Mod_readValue hDf hDl hrec11 l1 l2 v305 l4 l5 s0 x312 H locs ls  hw hW hS (lv_sub hl [2, 3, 4, 0, 5, 6, 1] rfl)
      · have hw := hw.2 c307
        exact hret x306 H locs 140 ls d_Mod_readGroup_140 hw hW hS
    · have hw := hw.2 c303
      exact t_Mod_readGroup_101 hx hb hml hown hT hK hN hA hRc hRs hRf hRl hret hs_Mod_readGroup hs_Mod_readRow hs_Mod_readValue hDf hDl  l1 l2 l3 l4 l5 s0 x301 H locs ls  hw hW hS (lv_sub hl [1, 2, 3, 4, 5, 6, 0] rfl)
set_option maxRecDepth 100000 in
set_option maxHeartbeats 4000000 in
set_option maxRecDepth 100000 in
theorem t_Mod_readGroup_44 {p : Program} {l : Launch} {e : Env} {R : Room} {s : State} {m : MethodId} {args : Array Value} {below : List Frame} {meth : Method} {c : Code} {cells slots : Nat} {Q : State → Prop} {dC : Nat → ClassId} {dI : Nat → Nat → Nat} {cI cB cJ cZ : ClassId} {A : Nat → Prop} {ad : Nat → Nat} {post : St → Prop} {self_Mod_readGroup : (St → Prop) → Int32 → Int32 → St → Prop} {self_Mod_readRow : (St → Prop) → Int32 → Int32 → St → Prop} {self_Mod_readValue : (St → Prop) → Int32 → Int32 → St → Prop} {fd ld : Nat} {rec11 : Int32 → Int32 → Int32 → Int32 → St → Prop} (hx : p.tables.exec = Jvm.exec) (hb : c.code = b_Mod_readGroup) (hml : c.maxLocals = 7) (hown : s.vm.findClass R_Mod = some m.cls) (hT : ∀ w ∈ TG, w.before args s = true) (hK : va_K (dC, dI) CL (TY cI cB cJ cZ) s) (hN : NW s) (hA : ∀ q : Nat, s.heap.size ≤ q → A q) (hRc : cells ≤ R.cells) (hRs : slots ≤ R.slots) (hRf : 5 ≤ R.frames) (hRl : 111 ≤ R.locals) (hret : ∀ (x : St) (H : Heap) (locs : List Loc) (pc : Nat) (ls : Array Slot), decode b_Mod_readGroup pc = .ok (.return_, 1) → post x → Wd dC dI cI cB cJ cZ ad stM kcM 115 A x H → va_S A s.heap H locs → W p l e R s m args below meth c H locs cells slots Q (F0 m pc ls [])) (hs_Mod_readGroup : ∀ (sz : Nat) (l1 : Int32) (l2 : Int32) (x : St), ∀ (post : St → Prop), self_Mod_readGroup post l1 l2 x → Met l y_Mod_readGroup (wsOf y_Mod_readGroup b_Mod_readGroup 7 (none)) ({ frames := fd, cells := 0, slots := 0, locals := ld }) (va_Pc [.ref (ad 0), .int l1, .int l2] (PW dC dI cI cB cJ cZ ad stM kcM 115 sz x)) (va_Qv (fun (y : St) => post y) (fun y t => Wd dC dI cI cB cJ cZ ad stM kcM 115 (va_A (pic ad stM kcM 115 cI cB cJ cZ x) sz) y t.heap) (va_A (pic ad stM kcM 115 cI cB cJ cZ x) sz)) 0 0 (va_A (pic ad stM kcM 115 cI cB cJ cZ x) sz)) (hs_Mod_readRow : ∀ (sz : Nat) (l1 : Int32) (l2 : Int32) (x : St), ∀ (post : St → Prop), self_Mod_readRow post l1 l2 x → Met l y_Mod_readRow (wsOf y_Mod_readRow b_Mod_readRow 3 (none)) ({ frames := fd, cells := 0, slots := 0, locals := ld }) (va_Pc [.ref (ad 0), .int l1, .int l2] (PW dC dI cI cB cJ cZ ad stM kcM 115 sz x)) (va_Qv (fun (y : St) => post y) (fun y t => Wd dC dI cI cB cJ cZ ad stM kcM 115 (va_A (pic ad stM kcM 115 cI cB cJ cZ x) sz) y t.heap) (va_A (pic ad stM kcM 115 cI cB cJ cZ x) sz)) 0 0 (va_A (pic ad stM kcM 115 cI cB cJ cZ x) sz)) (hs_Mod_readValue : ∀ (sz : Nat) (l1 : Int32) (l2 : Int32) (x : St), ∀ (post : St → Prop), self_Mod_readValue post l1 l2 x → Met l y_Mod_readValue (wsOf y_Mod_readValue b_Mod_readValue 7 (none)) ({ frames := fd, cells := 0, slots := 0, locals := ld }) (va_Pc [.ref (ad 0), .int l1, .int l2] (PW dC dI cI cB cJ cZ ad stM kcM 115 sz x)) (va_Qv (fun (y : St) => post y) (fun y t => Wd dC dI cI cB cJ cZ ad stM kcM 115 (va_A (pic ad stM kcM 115 cI cB cJ cZ x) sz) y t.heap) (va_A (pic ad stM kcM 115 cI cB cJ cZ x) sz)) 0 0 (va_A (pic ad stM kcM 115 cI cB cJ cZ x) sz)) (hDf : fd + 1 ≤ R.frames) (hDl : 26 + ld ≤ R.locals) (hrec11 : ∀ (l1 : Int32) (l2 : Int32) (l3 : Int32) (l4 : Int32) (x : St) (H : Heap) (locs : List Loc) (ls : Array Slot), rec11 l1 l2 l3 l4 x → Wd dC dI cI cB cJ cZ ad stM kcM 115 A x H → va_S A s.heap H locs → lv_has ls 7 [(0, .ref (ad 0)), (1, .int l1), (2, .int l2), (3, .int l3), (4, .int l4)] → W p l e R s m args below meth c H locs cells slots Q (F0 m 11 ls [])) : ∀ (l1 : Int32) (l2 : Int32) (l3 : Int32) (l4 : Int32) (x : St) (H : Heap) (locs : List Loc) (ls : Array Slot), j_Mod_readGroup_44 post self_Mod_readGroup self_Mod_readRow self_Mod_readValue rec11 l1 l2 l3 l4 x → Wd dC dI cI cB cJ cZ ad stM kcM 115 A x H → va_S A s.heap H locs → lv_has ls 7 [(0, .ref (ad 0)), (1, .int l1), (2, .int l2), (3, .int l3), (4, .int l4)] → W p l e R s m args below meth c H locs cells slots Q (F0 m 44 ls []) := by
  intro l1 l2 l3 l4 x H locs ls  hw hW hS hl
  unfold j_Mod_readGroup_44 at hw
  refine lv_iconst (v := 0) hx hb d_Mod_readGroup_44 (by decide) ?_
  refine lv_istore (lv' := [(4, .int 0), (0, .ref (ad 0)), (1, .int l1), (2, .int l2), (3, .int l3)]) hx hb d_Mod_readGroup_45 hl (by decide) rfl (fun ls hl => ?_)
  refine lv_aload_n hx hb d_Mod_readGroup_47 rfl (lv_at hl 1 rfl) ?_
  refine lv_aload_n hx hb d_Mod_readGroup_48 rfl (lv_at hl 1 rfl) ?_
  refine w_geti (k := 16) (t := 12) (C := R_Mod) (T := F_Mod) (N := 167) hx hb hT hown hK hW ko_0.1 ko_0.2 (by decide) in_Mod rfl rfl (by decide) rfl fr_Mod_16 w_8_192 d_Mod_readGroup_49 ?_
  have hF := hW.free hS hA
  refine va_calli (va_runV (C := R_Mod) (As := [.int (fI x 0 16)]) (rest := []) ⟨hx, hb, hml, hown, hT⟩ (k_Mod_wordAt l dC dI cI cB cJ cZ ad H.size (fI x 0 16) x  hw) ⟨callB_of 1 hT (gwt_in w_11_2) rfl rfl rfl (hT _ w_1_15) (hT _ w_10_239) (by decide +kernel) ⟨Nat.le_trans (Nat.le_of_ble_eq_true rfl) hRf, Nat.le_trans (Nat.le_of_ble_eq_true rfl) hRl⟩, hT _ w_11_1, hT _ ws_114⟩ ⟨PW.blind, va_recv hK hW.1 (ci := 12) (q0 := 0) rfl (pic_obj ko_0.1 ko_0.2 (by decide)), PW.at _ hW hK hN⟩ rfl rfl hl.1 rfl (lv_room (Nat.le_of_ble_eq_true rfl)) d_Mod_readGroup_52 ⟨hRc, hRs⟩) hS (fun q _ h => hF q h) hF (fun r314 x313 t H locs ht hvm hw hB hz1 hk1 hS => ?_)
  have hW := Wd.back hB ht hF
  clear hB ht hF hz1 hk1 hvm
  refine lv_istore (lv' := [(5, .int r314), (4, .int 0), (0, .ref (ad 0)), (1, .int l1), (2, .int l2), (3, .int l3)]) hx hb d_Mod_readGroup_55 hl (by decide) rfl (fun ls hl => ?_)
  refine lv_iload hx hb d_Mod_readGroup_57 (lv_at hl 0 rfl) ?_
  refine lv_if_ne (tgt := 66) hx hb d_Mod_readGroup_59 (by decide) (fun c315 => ?_) (fun c315 => ?_)
  · have hw := hw.1 c315
    refine lv_aload_n hx hb d_Mod_readGroup_66 rfl (lv_at hl 2 rfl) ?_
    refine lv_iconst (v := 0) hx hb d_Mod_readGroup_67 (by decide) ?_
    refine lv_iload_n hx hb d_Mod_readGroup_68 rfl (lv_at hl 4 rfl) ?_
    refine lv_aload_n hx hb d_Mod_readGroup_69 rfl (lv_at hl 2 rfl) ?_
    refine w_getf (q := 2) (k := 2) (t := 12) (C := R_Mod) (T := F_Mod) (N := 167) hx hb hT hown hK hW ko_0.1 ko_0.2 (by decide) in_Mod rfl rfl (by decide) rfl fr_Mod_2 w_8_178 d_Mod_readGroup_70 rfl ?_
    refine lv_aload_n hx hb d_Mod_readGroup_73 rfl (lv_at hl 2 rfl) ?_
    refine w_geti (k := 16) (t := 12) (C := R_Mod) (T := F_Mod) (N := 167) hx hb hT hown hK hW ko_0.1 ko_0.2 (by decide) in_Mod rfl rfl (by decide) rfl fr_Mod_16 w_8_192 d_Mod_readGroup_74 ?_
    refine lv_iload hx hb d_Mod_readGroup_77 (lv_at hl 0 rfl) ?_
    have hF := hW.free hS hA
    refine va_calli (va_runV (C := R_Mod) (As := [.int 0, .int l2, .ref (ad 2), .int (fI x313 0 16), .int r314]) (rest := []) ⟨hx, hb, hml, hown, hT⟩ (k_Mod_find l dC dI cI cB cJ cZ ad H.size 0 l2 2 (fI x313 0 16) r314 x313 ko_2 hw) ⟨callB_of 5 hT (gwt_in w_11_34) rfl rfl rfl (hT _ w_1_15) (hT _ w_11_31) (by decide +kernel) ⟨Nat.le_trans (Nat.le_of_ble_eq_true rfl) hRf, Nat.le_trans (Nat.le_of_ble_eq_true rfl) hRl⟩, hT _ w_11_33, hT _ ws_118⟩ ⟨PW.blind, va_recv hK hW.1 (ci := 12) (q0 := 0) rfl (pic_obj ko_0.1 ko_0.2 (by decide)), PW.at _ hW hK hN⟩ rfl rfl hl.1 rfl (lv_room (Nat.le_of_ble_eq_true rfl)) d_Mod_readGroup_79 ⟨hRc, hRs⟩) hS (fun q _ h => hF q h) hF (fun r317 x316 t H locs ht hvm hw hB hz1 hk1 hS => ?_)
    have hW := Wd.back hB ht hF
    clear hB ht hF hz1 hk1 hvm
    exact t_Mod_readGroup_82 hx hb hml hown hT hK hN hA hRc hRs hRf hRl hret hs_Mod_readGroup hs_Mod_readRow hs_Mod_readValue hDf hDl hrec11 l1 l2 l3 0 r314 r317 x316 H locs ls  hw hW hS (lv_sub hl [2, 3, 4, 5, 1, 0] rfl)
  · have hw := hw.2 c315
    refine lv_iconst (v := (-1)) hx hb d_Mod_readGroup_62 (by decide) ?_
    refine lv_goto (tgt := 82) hx hb d_Mod_readGroup_63 (by decide) ?_
    exact t_Mod_readGroup_82 hx hb hml hown hT hK hN hA hRc hRs hRf hRl hret hs_Mod_readGroup hs_Mod_readRow hs_Mod_readValue hDf hDl hrec11 l1 l2 l3 0 r314 (-1) x313 H locs ls  hw hW hS (lv_sub hl [2, 3, 4, 5, 1, 0] rfl)
set_option maxRecDepth 100000 in
set_option maxHeartbeats 4000000 in
set_option maxRecDepth 100000 in
theorem t_Mod_readGroup_11 {p : Program} {l : Launch} {e : Env} {R : Room} {s : State} {m : MethodId} {args : Array Value} {below : List Frame} {meth : Method} {c : Code} {cells slots : Nat} {Q : State → Prop} {dC : Nat → ClassId} {dI : Nat → Nat → Nat} {cI cB cJ cZ : ClassId} {A : Nat → Prop} {ad : Nat → Nat} {post : St → Prop} {self_Mod_readGroup : (St → Prop) → Int32 → Int32 → St → Prop} {self_Mod_readRow : (St → Prop) → Int32 → Int32 → St → Prop} {self_Mod_readValue : (St → Prop) → Int32 → Int32 → St → Prop} {fd ld : Nat} {rec11 : Int32 → Int32 → Int32 → Int32 → St → Prop} (hx : p.tables.exec = Jvm.exec) (hb : c.code = b_Mod_readGroup) (hml : c.maxLocals = 7) (hown : s.vm.findClass R_Mod = some m.cls) (hT : ∀ w ∈ TG, w.before args s = true) (hK : va_K (dC, dI) CL (TY cI cB cJ cZ) s) (hN : NW s) (hA : ∀ q : Nat, s.heap.size ≤ q → A q) (hRc : cells ≤ R.cells) (hRs : slots ≤ R.slots) (hRf : 5 ≤ R.frames) (hRl : 111 ≤ R.locals) (hret : ∀ (x : St) (H : Heap) (locs : List Loc) (pc : Nat) (ls : Array Slot), decode b_Mod_readGroup pc = .ok (.return_, 1) → post x → Wd dC dI cI cB cJ cZ ad stM kcM 115 A x H → va_S A s.heap H locs → W p l e R s m args below meth c H locs cells slots Q (F0 m pc ls [])) (hs_Mod_readGroup : ∀ (sz : Nat) (l1 : Int32) (l2 : Int32) (x : St), ∀ (post : St → Prop), self_Mod_readGroup post l1 l2 x → Met l y_Mod_readGroup (wsOf y_Mod_readGroup b_Mod_readGroup 7 (none)) ({ frames := fd, cells := 0, slots := 0, locals := ld }) (va_Pc [.ref (ad 0), .int l1, .int l2] (PW dC dI cI cB cJ cZ ad stM kcM 115 sz x)) (va_Qv (fun (y : St) => post y) (fun y t => Wd dC dI cI cB cJ cZ ad stM kcM 115 (va_A (pic ad stM kcM 115 cI cB cJ cZ x) sz) y t.heap) (va_A (pic ad stM kcM 115 cI cB cJ cZ x) sz)) 0 0 (va_A (pic ad stM kcM 115 cI cB cJ cZ x) sz)) (hs_Mod_readRow : ∀ (sz : Nat) (l1 : Int32) (l2 : Int32) (x : St), ∀ (post : St → Prop), self_Mod_readRow post l1 l2 x → Met l y_Mod_readRow (wsOf y_Mod_readRow b_Mod_readRow 3 (none)) ({ frames := fd, cells := 0, slots := 0, locals := ld }) (va_Pc [.ref (ad 0), .int l1, .int l2] (PW dC dI cI cB cJ cZ ad stM kcM 115 sz x)) (va_Qv (fun (y : St) => post y) (fun y t => Wd dC dI cI cB cJ cZ ad stM kcM 115 (va_A (pic ad stM kcM 115 cI cB cJ cZ x) sz) y t.heap) (va_A (pic ad stM kcM 115 cI cB cJ cZ x) sz)) 0 0 (va_A (pic ad stM kcM 115 cI cB cJ cZ x) sz)) (hs_Mod_readValue : ∀ (sz : Nat) (l1 : Int32) (l2 : Int32) (x : St), ∀ (post : St → Prop), self_Mod_readValue post l1 l2 x → Met l y_Mod_readValue (wsOf y_Mod_readValue b_Mod_readValue 7 (none)) ({ frames := fd, cells := 0, slots := 0, locals := ld }) (va_Pc [.ref (ad 0), .int l1, .int l2] (PW dC dI cI cB cJ cZ ad stM kcM 115 sz x)) (va_Qv (fun (y : St) => post y) (fun y t => Wd dC dI cI cB cJ cZ ad stM kcM 115 (va_A (pic ad stM kcM 115 cI cB cJ cZ x) sz) y t.heap) (va_A (pic ad stM kcM 115 cI cB cJ cZ x) sz)) 0 0 (va_A (pic ad stM kcM 115 cI cB cJ cZ x) sz)) (hDf : fd + 1 ≤ R.frames) (hDl : 26 + ld ≤ R.locals) (hrec11 : ∀ (l1 : Int32) (l2 : Int32) (l3 : Int32) (l4 : Int32) (x : St) (H : Heap) (locs : List Loc) (ls : Array Slot), rec11 l1 l2 l3 l4 x → Wd dC dI cI cB cJ cZ ad stM kcM 115 A x H → va_S A s.heap H locs → lv_has ls 7 [(0, .ref (ad 0)), (1, .int l1), (2, .int l2), (3, .int l3), (4, .int l4)] → W p l e R s m args below meth c H locs cells slots Q (F0 m 11 ls [])) : ∀ (l1 : Int32) (l2 : Int32) (l3 : Int32) (l4 : Int32) (x : St) (H : Heap) (locs : List Loc) (ls : Array Slot), j_Mod_readGroup_11 post self_Mod_readGroup self_Mod_readRow self_Mod_readValue rec11 l1 l2 l3 l4 x → Wd dC dI cI cB cJ cZ ad stM kcM 115 A x H → va_S A s.heap H locs → lv_has ls 7 [(0, .ref (ad 0)), (1, .int l1), (2, .int l2), (3, .int l3), (4, .int l4)] → W p l e R s m args below meth c H locs cells slots Q (F0 m 11 ls []) := by
  intro l1 l2 l3 l4 x H locs ls  hw hW hS hl
  unfold j_Mod_readGroup_11 at hw
  refine lv_aload_n hx hb d_Mod_readGroup_11 rfl (lv_at hl 0 rfl) ?_
  refine w_geti (k := 17) (t := 12) (C := R_Mod) (T := F_Mod) (N := 167) hx hb hT hown hK hW ko_0.1 ko_0.2 (by decide) in_Mod rfl rfl (by decide) rfl fr_Mod_17 w_8_193 d_Mod_readGroup_12 ?_
  refine lv_iconst (v := (-1)) hx hb d_Mod_readGroup_15 (by decide) ?_
  refine lv_icmp_ne (tgt := 210) hx hb d_Mod_readGroup_16 (by decide) (fun c318 => ?_) (fun c318 => ?_)
  · have hw := hw.1 c318
    exact hret x H locs 210 ls d_Mod_readGroup_210 hw hW hS
  · have hw := hw.2 c318
    refine lv_aload_n hx hb d_Mod_readGroup_19 rfl (lv_at hl 0 rfl) ?_
    have hF := hW.free hS hA
    refine va_callv (va_runV (C := R_Mod) (As := []) (rest := []) ⟨hx, hb, hml, hown, hT⟩ (k_Mod_blanks l dC dI cI cB cJ cZ ad H.size  x  hw) ⟨callB_of 0 hT (gwt_in w_10_230) rfl rfl rfl (hT _ w_1_15) (hT _ w_10_227) (by decide +kernel) ⟨Nat.le_trans (Nat.le_of_ble_eq_true rfl) hRf, Nat.le_trans (Nat.le_of_ble_eq_true rfl) hRl⟩, hT _ w_10_229, hT _ ws_111⟩ ⟨PW.blind, va_recv hK hW.1 (ci := 12) (q0 := 0) rfl (pic_obj ko_0.1 ko_0.2 (by decide)), PW.at _ hW hK hN⟩ rfl rfl hl.1 rfl (lv_room (Nat.le_of_ble_eq_true rfl)) d_Mod_readGroup_20 ⟨hRc, hRs⟩) hS (fun q _ h => hF q h) hF (fun  x319 t H locs ht hvm hw hB hz1 hk1 hS => ?_)
    have hW := Wd.back hB ht hF
    clear hB ht hF hz1 hk1 hvm
    refine lv_iload hx hb d_Mod_readGroup_23 (lv_at hl 4 rfl) ?_
    refine lv_if_eq (tgt := 44) hx hb d_Mod_readGroup_25 (by decide) (fun c320 => ?_) (fun c320 => ?_)
    · have hw := hw.1 c320
      exact t_Mod_readGroup_44 hx hb hml hown hT hK hN hA hRc hRs hRf hRl hret hs_Mod_readGroup hs_Mod_readRow hs_Mod_readValue hDf hDl hrec11 l1 l2 l3 l4 x319 H locs ls  hw hW hS (lv_sub hl [0, 1, 2, 3, 4] rfl)
    · have hw := hw.2 c320
      refine lv_aload_n hx hb d_Mod_readGroup_28 rfl (lv_at hl 0 rfl) ?_
      have hF := hW.free hS hA
      refine va_calli (va_runV (C := R_Mod) (As := []) (rest := []) ⟨hx, hb, hml, hown, hT⟩ (k_Mod_look l dC dI cI cB cJ cZ ad H.size  x319  hw) ⟨callB_of 0 hT (gwt_in w_10_234) rfl rfl rfl (hT _ w_1_15) (hT _ w_10_231) (by decide +kernel) ⟨Nat.le_trans (Nat.le_of_ble_eq_true rfl) hRf, Nat.le_trans (Nat.le_of_ble_eq_true rfl) hRl⟩, hT _ w_10_233, hT _ ws_112⟩ ⟨PW.blind, va_recv hK hW.1 (ci := 12) (q0 := 0) rfl (pic_obj ko_0.1 ko_0.2 (by decide)), PW.at _ hW hK hN⟩ rfl rfl hl.1 rfl (lv_room (Nat.le_of_ble_eq_true rfl)) d_Mod_readGroup_29 ⟨hRc, hRs⟩) hS (fun q _ h => hF q h) hF (fun r322 x321 t H locs ht hvm hw hB hz1 hk1 hS => ?_)
      have hW := Wd.back hB ht hF
      clear hB ht hF hz1 hk1 hvm
      refine lv_bipush (v := 125) hx hb d_Mod_readGroup_32 (by decide) ?_
      refine lv_icmp_ne (tgt := 44) hx hb d_Mod_readGroup_34 (by decide) (fun c323 => ?_) (fun c323 => ?_)
      · have hw := hw.1 c323
        exact t_Mod_readGroup_44 hx hb hml hown hT hK hN hA hRc hRs hRf hRl hret hs_Mod_readGroup hs_Mod_readRow hs_Mod_readValue hDf hDl hrec11 l1 l2 l3 l4 x321 H locs ls  hw hW hS (lv_sub hl [0, 1, 2, 3, 4] rfl)
      · have hw := hw.2 c323
        refine lv_aload_n hx hb d_Mod_readGroup_37 rfl (lv_at hl 0 rfl) ?_
        refine lv_iload_n hx hb d_Mod_readGroup_38 rfl (lv_at hl 2 rfl) ?_
        refine lv_iload_n hx hb d_Mod_readGroup_39 rfl (lv_at hl 3 rfl) ?_
        have hF := hW.free hS hA
        refine va_callv (va_runV (C := R_Mod) (As := [.int l2, .int l3]) (rest := []) ⟨hx, hb, hml, hown, hT⟩ (k_Mod_ends l dC dI cI cB cJ cZ ad H.size l2 l3 x321  hw) ⟨callB_of 2 hT (gwt_in w_11_66) rfl rfl rfl (hT _ w_1_15) (hT _ w_11_63) (by decide +kernel) ⟨Nat.le_trans (Nat.le_of_ble_eq_true rfl) hRf, Nat.le_trans (Nat.le_of_ble_eq_true rfl) hRl⟩, hT _ w_11_65, hT _ ws_125⟩ ⟨PW.blind, va_recv hK hW.1 (ci := 12) (q0 := 0) rfl (pic_obj ko_0.1 ko_0.2 (by decide)), PW.at _ hW hK hN⟩ rfl rfl hl.1 rfl (lv_room (Nat.le_of_ble_eq_true rfl)) d_Mod_readGroup_40 ⟨hRc, hRs⟩) hS (fun q _ h => hF q h) hF (fun  x324 t H locs ht hvm hw hB hz1 hk1 hS => ?_)
        have hW := Wd.back hB ht hF
        clear hB ht hF hz1 hk1 hvm
        exact hret x324 H locs 43 ls d_Mod_readGroup_43 hw hW hS
set_option maxHeartbeats 4000000 in
set_option maxRecDepth 100000 in
theorem tl_Mod_readGroup_11 {p : Program} {l : Launch} {e : Env} {R : Room} {s : State} {m : MethodId} {args : Array Value} {below : List Frame} {meth : Method} {c : Code} {cells slots : Nat} {Q : State → Prop} {dC : Nat → ClassId} {dI : Nat → Nat → Nat} {cI cB cJ cZ : ClassId} {A : Nat → Prop} {ad : Nat → Nat} {post : St → Prop} {self_Mod_readGroup : (St → Prop) → Int32 → Int32 → St → Prop} {self_Mod_readRow : (St → Prop) → Int32 → Int32 → St → Prop} {self_Mod_readValue : (St → Prop) → Int32 → Int32 → St → Prop} {fd ld : Nat} (hx : p.tables.exec = Jvm.exec) (hb : c.code = b_Mod_readGroup) (hml : c.maxLocals = 7) (hown : s.vm.findClass R_Mod = some m.cls) (hT : ∀ w ∈ TG, w.before args s = true) (hK : va_K (dC, dI) CL (TY cI cB cJ cZ) s) (hN : NW s) (hA : ∀ q : Nat, s.heap.size ≤ q → A q) (hRc : cells ≤ R.cells) (hRs : slots ≤ R.slots) (hRf : 5 ≤ R.frames) (hRl : 111 ≤ R.locals) (hret : ∀ (x : St) (H : Heap) (locs : List Loc) (pc : Nat) (ls : Array Slot), decode b_Mod_readGroup pc = .ok (.return_, 1) → post x → Wd dC dI cI cB cJ cZ ad stM kcM 115 A x H → va_S A s.heap H locs → W p l e R s m args below meth c H locs cells slots Q (F0 m pc ls [])) (hs_Mod_readGroup : ∀ (sz : Nat) (l1 : Int32) (l2 : Int32) (x : St), ∀ (post : St → Prop), self_Mod_readGroup post l1 l2 x → Met l y_Mod_readGroup (wsOf y_Mod_readGroup b_Mod_readGroup 7 (none)) ({ frames := fd, cells := 0, slots := 0, locals := ld }) (va_Pc [.ref (ad 0), .int l1, .int l2] (PW dC dI cI cB cJ cZ ad stM kcM 115 sz x)) (va_Qv (fun (y : St) => post y) (fun y t => Wd dC dI cI cB cJ cZ ad stM kcM 115 (va_A (pic ad stM kcM 115 cI cB cJ cZ x) sz) y t.heap) (va_A (pic ad stM kcM 115 cI cB cJ cZ x) sz)) 0 0 (va_A (pic ad stM kcM 115 cI cB cJ cZ x) sz)) (hs_Mod_readRow : ∀ (sz : Nat) (l1 : Int32) (l2 : Int32) (x : St), ∀ (post : St → Prop), self_Mod_readRow post l1 l2 x → Met l y_Mod_readRow (wsOf y_Mod_readRow b_Mod_readRow 3 (none)) ({ frames := fd, cells := 0, slots := 0, locals := ld }) (va_Pc [.ref (ad 0), .int l1, .int l2] (PW dC dI cI cB cJ cZ ad stM kcM 115 sz x)) (va_Qv (fun (y : St) => post y) (fun y t => Wd dC dI cI cB cJ cZ ad stM kcM 115 (va_A (pic ad stM kcM 115 cI cB cJ cZ x) sz) y t.heap) (va_A (pic ad stM kcM 115 cI cB cJ cZ x) sz)) 0 0 (va_A (pic ad stM kcM 115 cI cB cJ cZ x) sz)) (hs_Mod_readValue : ∀ (sz : Nat) (l1 : Int32) (l2 : Int32) (x : St), ∀ (post : St → Prop), self_Mod_readValue post l1 l2 x → Met l y_Mod_readValue (wsOf y_Mod_readValue b_Mod_readValue 7 (none)) ({ frames := fd, cells := 0, slots := 0, locals := ld }) (va_Pc [.ref (ad 0), .int l1, .int l2] (PW dC dI cI cB cJ cZ ad stM kcM 115 sz x)) (va_Qv (fun (y : St) => post y) (fun y t => Wd dC dI cI cB cJ cZ ad stM kcM 115 (va_A (pic ad stM kcM 115 cI cB cJ cZ x) sz) y t.heap) (va_A (pic ad stM kcM 115 cI cB cJ cZ x) sz)) 0 0 (va_A (pic ad stM kcM 115 cI cB cJ cZ x) sz)) (hDf : fd + 1 ≤ R.frames) (hDl : 26 + ld ≤ R.locals)  : ∀ n : Nat, ∀ (l1 : Int32) (l2 : Int32) (l3 : Int32) (l4 : Int32) (x : St) (H : Heap) (locs : List Loc) (ls : Array Slot), wl_Mod_readGroup_11 post self_Mod_readGroup self_Mod_readRow self_Mod_readValue n l1 l2 l3 l4 x → Wd dC dI cI cB cJ cZ ad stM kcM 115 A x H → va_S A s.heap H locs → lv_has ls 7 [(0, .ref (ad 0)), (1, .int l1), (2, .int l2), (3, .int l3), (4, .int l4)] → W p l e R s m args below meth c H locs cells slots Q (F0 m 11 ls []) := by
  intro n
  induction n with
  | zero => intro l1 l2 l3 l4 x H locs ls  hw; exact hw.elim
  | succ n ih => intro l1 l2 l3 l4 x H locs ls  hw hW hS hl; exact t_Mod_readGroup_11 hx hb hml hown hT hK hN hA hRc hRs hRf hRl hret hs_Mod_readGroup hs_Mod_readRow hs_Mod_readValue hDf hDl  ih l1 l2 l3 l4 x H locs ls  hw hW hS hl
set_option maxRecDepth 100000 in
set_option maxHeartbeats 4000000 in
set_option maxRecDepth 100000 in
theorem t_Mod_readGroup_e {p : Program} {l : Launch} {e : Env} {R : Room} {s : State} {m : MethodId} {args : Array Value} {below : List Frame} {meth : Method} {c : Code} {cells slots : Nat} {Q : State → Prop} {dC : Nat → ClassId} {dI : Nat → Nat → Nat} {cI cB cJ cZ : ClassId} {A : Nat → Prop} {ad : Nat → Nat} {post : St → Prop} {self_Mod_readGroup : (St → Prop) → Int32 → Int32 → St → Prop} {self_Mod_readRow : (St → Prop) → Int32 → Int32 → St → Prop} {self_Mod_readValue : (St → Prop) → Int32 → Int32 → St → Prop} {fd ld : Nat} (hx : p.tables.exec = Jvm.exec) (hb : c.code = b_Mod_readGroup) (hml : c.maxLocals = 7) (hown : s.vm.findClass R_Mod = some m.cls) (hT : ∀ w ∈ TG, w.before args s = true) (hK : va_K (dC, dI) CL (TY cI cB cJ cZ) s) (hN : NW s) (hA : ∀ q : Nat, s.heap.size ≤ q → A q) (hRc : cells ≤ R.cells) (hRs : slots ≤ R.slots) (hRf : 5 ≤ R.frames) (hRl : 111 ≤ R.locals) (hret : ∀ (x : St) (H : Heap) (locs : List Loc) (pc : Nat) (ls : Array Slot), decode b_Mod_readGroup pc = .ok (.return_, 1) → post x → Wd dC dI cI cB cJ cZ ad stM kcM 115 A x H → va_S A s.heap H locs → W p l e R s m args below meth c H locs cells slots Q (F0 m pc ls [])) (hs_Mod_readGroup : ∀ (sz : Nat) (l1 : Int32) (l2 : Int32) (x : St), ∀ (post : St → Prop), self_Mod_readGroup post l1 l2 x → Met l y_Mod_readGroup (wsOf y_Mod_readGroup b_Mod_readGroup 7 (none)) ({ frames := fd, cells := 0, slots := 0, locals := ld }) (va_Pc [.ref (ad 0), .int l1, .int l2] (PW dC dI cI cB cJ cZ ad stM kcM 115 sz x)) (va_Qv (fun (y : St) => post y) (fun y t => Wd dC dI cI cB cJ cZ ad stM kcM 115 (va_A (pic ad stM kcM 115 cI cB cJ cZ x) sz) y t.heap) (va_A (pic ad stM kcM 115 cI cB cJ cZ x) sz)) 0 0 (va_A (pic ad stM kcM 115 cI cB cJ cZ x) sz)) (hs_Mod_readRow : ∀ (sz : Nat) (l1 : Int32) (l2 : Int32) (x : St), ∀ (post : St → Prop), self_Mod_readRow post l1 l2 x → Met l y_Mod_readRow (wsOf y_Mod_readRow b_Mod_readRow 3 (none)) ({ frames := fd, cells := 0, slots := 0, locals := ld }) (va_Pc [.ref (ad 0), .int l1, .int l2] (PW dC dI cI cB cJ cZ ad stM kcM 115 sz x)) (va_Qv (fun (y : St) => post y) (fun y t => Wd dC dI cI cB cJ cZ ad stM kcM 115 (va_A (pic ad stM kcM 115 cI cB cJ cZ x) sz) y t.heap) (va_A (pic ad stM kcM 115 cI cB cJ cZ x) sz)) 0 0 (va_A (pic ad stM kcM 115 cI cB cJ cZ x) sz)) (hs_Mod_readValue : ∀ (sz : Nat) (l1 : Int32) (l2 : Int32) (x : St), ∀ (post : St → Prop), self_Mod_readValue post l1 l2 x → Met l y_Mod_readValue (wsOf y_Mod_readValue b_Mod_readValue 7 (none)) ({ frames := fd, cells := 0, slots := 0, locals := ld }) (va_Pc [.ref (ad 0), .int l1, .int l2] (PW dC dI cI cB cJ cZ ad stM kcM 115 sz x)) (va_Qv (fun (y : St) => post y) (fun y t => Wd dC dI cI cB cJ cZ ad stM kcM 115 (va_A (pic ad stM kcM 115 cI cB cJ cZ x) sz) y t.heap) (va_A (pic ad stM kcM 115 cI cB cJ cZ x) sz)) 0 0 (va_A (pic ad stM kcM 115 cI cB cJ cZ x) sz)) (hDf : fd + 1 ≤ R.frames) (hDl : 26 + ld ≤ R.locals) : ∀ (l1 : Int32) (l2 : Int32) (x : St) (H : Heap) (locs : List Loc) (ls : Array Slot), wb_Mod_readGroup post self_Mod_readGroup self_Mod_readRow self_Mod_readValue l1 l2 x → Wd dC dI cI cB cJ cZ ad stM kcM 115 A x H → va_S A s.heap H locs → lv_has ls 7 [(0, .ref (ad 0)), (1, .int l1), (2, .int l2)] → W p l e R s m args below meth c H locs cells slots Q (F0 m 0 ls []) := by
  intro l1 l2 x H locs ls  hw hW hS hl
  unfold wb_Mod_readGroup at hw
  refine lv_aload_n hx hb d_Mod_readGroup_0 rfl (lv_at hl 0 rfl) ?_
  refine lv_bipush (v := 123) hx hb d_Mod_readGroup_1 (by decide) ?_
  have hF := hW.free hS hA
  refine va_callv (va_runV (C := R_Mod) (As := [.int 123]) (rest := []) ⟨hx, hb, hml, hown, hT⟩ (k_Mod_wantSign l dC dI cI cB cJ cZ ad H.size 123 x  hw) ⟨callB_of 1 hT (gwt_in w_11_42) rfl rfl rfl (hT _ w_1_15) (hT _ w_11_39) (by decide +kernel) ⟨Nat.le_trans (Nat.le_of_ble_eq_true rfl) hRf, Nat.le_trans (Nat.le_of_ble_eq_true rfl) hRl⟩, hT _ w_11_41, hT _ ws_120⟩ ⟨PW.blind, va_recv hK hW.1 (ci := 12) (q0 := 0) rfl (pic_obj ko_0.1 ko_0.2 (by decide)), PW.at _ hW hK hN⟩ rfl rfl hl.1 rfl (lv_room (Nat.le_of_ble_eq_true rfl)) d_Mod_readGroup_3 ⟨hRc, hRs⟩) hS (fun q _ h => hF q h) hF (fun  x325 t H locs ht hvm hw hB hz1 hk1 hS => ?_)
  have hW := Wd.back hB ht hF
  clear hB ht hF hz1 hk1 hvm
  refine lv_iconst (v := 0) hx hb d_Mod_readGroup_6 (by decide) ?_
  refine lv_istore_n (lv' := [(3, .int 0), (0, .ref (ad 0)), (1, .int l1), (2, .int l2)]) hx hb d_Mod_readGroup_7 rfl hl (by decide) rfl (fun ls hl => ?_)
  refine lv_iconst (v := 1) hx hb d_Mod_readGroup_8 (by decide) ?_
  refine lv_istore (lv' := [(4, .int 1), (3, .int 0), (0, .ref (ad 0)), (1, .int l1), (2, .int l2)]) hx hb d_Mod_readGroup_9 hl (by decide) rfl (fun ls hl => ?_)
  obtain ⟨n, hw⟩ := hw
  exact tl_Mod_readGroup_11 hx hb hml hown hT hK hN hA hRc hRs hRf hRl hret hs_Mod_readGroup hs_Mod_readRow hs_Mod_readValue hDf hDl  n l1 l2 0 1 x325 H locs ls  hw hW hS (lv_sub hl [2, 3, 4, 1, 0] rfl)
set_option maxRecDepth 100000 in
set_option maxHeartbeats 4000000 in
set_option maxRecDepth 100000 in
theorem t_Mod_readRow_16 {p : Program} {l : Launch} {e : Env} {R : Room} {s : State} {m : MethodId} {args : Array Value} {below : List Frame} {meth : Method} {c : Code} {cells slots : Nat} {Q : State → Prop} {dC : Nat → ClassId} {dI : Nat → Nat → Nat} {cI cB cJ cZ : ClassId} {A : Nat → Prop} {ad : Nat → Nat} {post : St → Prop} {self_Mod_readGroup : (St → Prop) → Int32 → Int32 → St → Prop} {self_Mod_readRow : (St → Prop) → Int32 → Int32 → St → Prop} {self_Mod_readValue : (St → Prop) → Int32 → Int32 → St → Prop} {fd ld : Nat} {rec16 : Int32 → Int32 → St → Prop} (hx : p.tables.exec = Jvm.exec) (hb : c.code = b_Mod_readRow) (hml : c.maxLocals = 3) (hown : s.vm.findClass R_Mod = some m.cls) (hT : ∀ w ∈ TG, w.before args s = true) (hK : va_K (dC, dI) CL (TY cI cB cJ cZ) s) (hN : NW s) (hA : ∀ q : Nat, s.heap.size ≤ q → A q) (hRc : cells ≤ R.cells) (hRs : slots ≤ R.slots) (hRf : 5 ≤ R.frames) (hRl : 111 ≤ R.locals) (hret : ∀ (x : St) (H : Heap) (locs : List Loc) (pc : Nat) (ls : Array Slot), decode b_Mod_readRow pc = .ok (.return_, 1) → post x → Wd dC dI cI cB cJ cZ ad stM kcM 115 A x H → va_S A s.heap H locs → W p l e R s m args below meth c H locs cells slots Q (F0 m pc ls [])) (hs_Mod_readGroup : ∀ (sz : Nat) (l1 : Int32) (l2 : Int32) (x : St), ∀ (post : St → Prop), self_Mod_readGroup post l1 l2 x → Met l y_Mod_readGroup (wsOf y_Mod_readGroup b_Mod_readGroup 7 (none)) ({ frames := fd, cells := 0, slots := 0, locals := ld }) (va_Pc [.ref (ad 0), .int l1, .int l2] (PW dC dI cI cB cJ cZ ad stM kcM 115 sz x)) (va_Qv (fun (y : St) => post y) (fun y t => Wd dC dI cI cB cJ cZ ad stM kcM 115 (va_A (pic ad stM kcM 115 cI cB cJ cZ x) sz) y t.heap) (va_A (pic ad stM kcM 115 cI cB cJ cZ x) sz)) 0 0 (va_A (pic ad stM kcM 115 cI cB cJ cZ x) sz)) (hs_Mod_readRow : ∀ (sz : Nat) (l1 : Int32) (l2 : Int32) (x : St), ∀ (post : St → Prop), self_Mod_readRow post l1 l2 x → Met l y_Mod_readRow (wsOf y_Mod_readRow b_Mod_readRow 3 (none)) ({ frames := fd, cells := 0, slots := 0, locals := ld }) (va_Pc [.ref (ad 0), .int l1, .int l2] (PW dC dI cI cB cJ cZ ad stM kcM 115 sz x)) (va_Qv (fun (y : St) => post y) (fun y t => Wd dC dI cI cB cJ cZ ad stM kcM 115 (va_A (pic ad stM kcM 115 cI cB cJ cZ x) sz) y t.heap) (va_A (pic ad stM kcM 115 cI cB cJ cZ x) sz)) 0 0 (va_A (pic ad stM kcM 115 cI cB cJ cZ x) sz)) (hs_Mod_readValue : ∀ (sz : Nat) (l1 : Int32) (l2 : Int32) (x : St), ∀ (post : St → Prop), self_Mod_readValue post l1 l2 x → Met l y_Mod_readValue (wsOf y_Mod_readValue b_Mod_readValue 7 (none)) ({ frames := fd, cells := 0, slots := 0, locals := ld }) (va_Pc [.ref (ad 0), .int l1, .int l2] (PW dC dI cI cB cJ cZ ad stM kcM 115 sz x)) (va_Qv (fun (y : St) => post y) (fun y t => Wd dC dI cI cB cJ cZ ad stM kcM 115 (va_A (pic ad stM kcM 115 cI cB cJ cZ x) sz) y t.heap) (va_A (pic ad stM kcM 115 cI cB cJ cZ x) sz)) 0 0 (va_A (pic ad stM kcM 115 cI cB cJ cZ x) sz)) (hDf : fd + 1 ≤ R.frames) (hDl : 26 + ld ≤ R.locals) (hrec16 : ∀ (l1 : Int32) (l2 : Int32) (x : St) (H : Heap) (locs : List Loc) (ls : Array Slot), rec16 l1 l2 x → Wd dC dI cI cB cJ cZ ad stM kcM 115 A x H → va_S A s.heap H locs → lv_has ls 3 [(0, .ref (ad 0)), (1, .int l1), (2, .int l2)] → W p l e R s m args below meth c H locs cells slots Q (F0 m 16 ls [])) : ∀ (l1 : Int32) (l2 : Int32) (x : St) (H : Heap) (locs : List Loc) (ls : Array Slot), j_Mod_readRow_16 post self_Mod_readGroup self_Mod_readRow self_Mod_readValue rec16 l1 l2 x → Wd dC dI cI cB cJ cZ ad stM kcM 115 A x H → va_S A s.heap H locs → lv_has ls 3 [(0, .ref (ad 0)), (1, .int l1), (2, .int l2)] → W p l e R s m args below meth c H locs cells slots Q (F0 m 16 ls []) := by
  intro l1 l2 x H locs ls  hw hW hS hl
  unfold j_Mod_readRow_16 at hw
  refine lv_aload_n hx hb d_Mod_readRow_16 rfl (lv_at hl 0 rfl) ?_
  refine w_geti (k := 17) (t := 12) (C := R_Mod) (T := F_Mod) (N := 167) hx hb hT hown hK hW ko_0.1 ko_0.2 (by decide) in_Mod rfl rfl (by decide) rfl fr_Mod_17 w_8_193 d_Mod_readRow_17 ?_
  refine lv_iconst (v := (-1)) hx hb d_Mod_readRow_20 (by decide) ?_
  refine lv_icmp_ne (tgt := 49) hx hb d_Mod_readRow_21 (by decide) (fun c326 => ?_) (fun c326 => ?_)
  · have hw := hw.1 c326
    exact hret x H locs 49 ls d_Mod_readRow_49 hw hW hS
  · have hw := hw.2 c326
    refine lv_aload_n hx hb d_Mod_readRow_24 rfl (lv_at hl 0 rfl) ?_
    refine lv_iload_n hx hb d_Mod_readRow_25 rfl (lv_at hl 1 rfl) ?_
    refine lv_iload_n hx hb d_Mod_readRow_26 rfl (lv_at hl 2 rfl) ?_
    have hF := hW.free hS hA
    refine va_callv (va_runV (C := R_Mod) (As := [.int l1, .int l2]) (rest := []) ⟨hx, hb, hml, hown, hT⟩ (hs_Mod_readValue H.size l1 l2 x  _ hw) ⟨callB_of 2 hT (gwt_in w_11_78) rfl rfl rfl (hT _ w_1_15) (hT _ w_11_75) (by decide +kernel) ⟨hDf, Nat.le_trans (Nat.add_le_add_right (by decide) _) hDl⟩, hT _ w_11_77, hT _ ws_128⟩ ⟨PW.blind, va_recv hK hW.1 (ci := 12) (q0 := 0) rfl (pic_obj ko_0.1 ko_0.2 (by decide)), PW.at _ hW hK hN⟩ rfl rfl hl.1 rfl (lv_room (Nat.le_of_ble_eq_true rfl)) d_Mod_readRow_27 ⟨hRc, hRs⟩) hS (fun q _ h => hF q h) hF (fun  x327 t H locs ht hvm hw hB hz1 hk1 hS => ?_)
    have hW := Wd.back hB ht hF
    clear hB ht hF hz1 hk1 hvm
    refine lv_aload_n hx hb d_Mod_readRow_30 rfl (lv_at hl 0 rfl) ?_
    refine lv_bipush (v := 93) hx hb d_Mod_readRow_31 (by decide) ?_
    have hF := hW.free hS hA
    refine va_calli (va_runV (C := R_Mod) (As := [.int 93]) (rest := []) ⟨hx, hb, hml, hown, hT⟩ (k_Mod_takesSign l dC dI cI cB cJ cZ ad H.size 93 x327  hw) ⟨callB_of 1 hT (gwt_in w_11_46) rfl rfl rfl (hT _ w_1_15) (hT _ w_11_43) (by decide +kernel) ⟨Nat.le_trans (Nat.le_of_ble_eq_true rfl) hRf, Nat.le_trans (Nat.le_of_ble_eq_true rfl) hRl⟩, hT _ w_11_45, hT _ ws_121⟩ ⟨PW.blind, va_recv hK hW.1 (ci := 12) (q0 := 0) rfl (pic_obj ko_0.1 ko_0.2 (by decide)), PW.at _ hW hK hN⟩ rfl rfl hl.1 rfl (lv_room (Nat.le_of_ble_eq_true rfl)) d_Mod_readRow_33 ⟨hRc, hRs⟩) hS (fun q _ h => hF q h) hF (fun r329 x328 t H locs ht hvm hw hB hz1 hk1 hS => ?_)
    have hW := Wd.back hB ht hF
    clear hB ht hF hz1 hk1 hvm
    refine lv_if_eq (tgt := 40) hx hb d_Mod_readRow_36 (by decide) (fun c330 => ?_) (fun c330 => ?_)
    · have hw := hw.1 c330
      refine lv_aload_n hx hb d_Mod_readRow_40 rfl (lv_at hl 0 rfl) ?_
      refine lv_bipush (v := 44) hx hb d_Mod_readRow_41 (by decide) ?_
      have hF := hW.free hS hA
      refine va_callv (va_runV (C := R_Mod) (As := [.int 44]) (rest := []) ⟨hx, hb, hml, hown, hT⟩ (k_Mod_wantSign l dC dI cI cB cJ cZ ad H.size 44 x328  hw) ⟨callB_of 1 hT (gwt_in w_11_42) rfl rfl rfl (hT _ w_1_15) (hT _ w_11_39) (by decide +kernel) ⟨Nat.le_trans (Nat.le_of_ble_eq_true rfl) hRf, Nat.le_trans (Nat.le_of_ble_eq_true rfl) hRl⟩, hT _ w_11_41, hT _ ws_120⟩ ⟨PW.blind, va_recv hK hW.1 (ci := 12) (q0 := 0) rfl (pic_obj ko_0.1 ko_0.2 (by decide)), PW.at _ hW hK hN⟩ rfl rfl hl.1 rfl (lv_room (Nat.le_of_ble_eq_true rfl)) d_Mod_readRow_43 ⟨hRc, hRs⟩) hS (fun q _ h => hF q h) hF (fun  x331 t H locs ht hvm hw hB hz1 hk1 hS => ?_)
      have hW := Wd.back hB ht hF
      clear hB ht hF hz1 hk1 hvm
      refine lv_goto (tgt := 16) hx hb d_Mod_readRow_46 (by decide) ?_
      exact hrec16 l1 l2 x331 H locs ls  hw hW hS (lv_sub hl [0, 1, 2] rfl)
    · have hw := hw.2 c330
      exact hret x328 H locs 39 ls d_Mod_readRow_39 hw hW hS
set_option maxHeartbeats 4000000 in
set_option maxRecDepth 100000 in
theorem tl_Mod_readRow_16 {p : Program} {l : Launch} {e : Env} {R : Room} {s : State} {m : MethodId} {args : Array Value} {below : List Frame} {meth : Method} {c : Code} {cells slots : Nat} {Q : State → Prop} {dC : Nat → ClassId} {dI : Nat → Nat → Nat} {cI cB cJ cZ : ClassId} {A : Nat → Prop} {ad : Nat → Nat} {post : St → Prop} {self_Mod_readGroup : (St → Prop) → Int32 → Int32 → St → Prop} {self_Mod_readRow : (St → Prop) → Int32 → Int32 → St → Prop} {self_Mod_readValue : (St → Prop) → Int32 → Int32 → St → Prop} {fd ld : Nat} (hx : p.tables.exec = Jvm.exec) (hb : c.code = b_Mod_readRow) (hml : c.maxLocals = 3) (hown : s.vm.findClass R_Mod = some m.cls) (hT : ∀ w ∈ TG, w.before args s = true) (hK : va_K (dC, dI) CL (TY cI cB cJ cZ) s) (hN : NW s) (hA : ∀ q : Nat, s.heap.size ≤ q → A q) (hRc : cells ≤ R.cells) (hRs : slots ≤ R.slots) (hRf : 5 ≤ R.frames) (hRl : 111 ≤ R.locals) (hret : ∀ (x : St) (H : Heap) (locs : List Loc) (pc : Nat) (ls : Array Slot), decode b_Mod_readRow pc = .ok (.return_, 1) → post x → Wd dC dI cI cB cJ cZ ad stM kcM 115 A x H → va_S A s.heap H locs → W p l e R s m args below meth c H locs cells slots Q (F0 m pc ls [])) (hs_Mod_readGroup : ∀ (sz : Nat) (l1 : Int32) (l2 : Int32) (x : St), ∀ (post : St → Prop), self_Mod_readGroup post l1 l2 x → Met l y_Mod_readGroup (wsOf y_Mod_readGroup b_Mod_readGroup 7 (none)) ({ frames := fd, cells := 0, slots := 0, locals := ld }) (va_Pc [.ref (ad 0), .int l1, .int l2] (PW dC dI cI cB cJ cZ ad stM kcM 115 sz x)) (va_Qv (fun (y : St) => post y) (fun y t => Wd dC dI cI cB cJ cZ ad stM kcM 115 (va_A (pic ad stM kcM 115 cI cB cJ cZ x) sz) y t.heap) (va_A (pic ad stM kcM 115 cI cB cJ cZ x) sz)) 0 0 (va_A (pic ad stM kcM 115 cI cB cJ cZ x) sz)) (hs_Mod_readRow : ∀ (sz : Nat) (l1 : Int32) (l2 : Int32) (x : St), ∀ (post : St → Prop), self_Mod_readRow post l1 l2 x → Met l y_Mod_readRow (wsOf y_Mod_readRow b_Mod_readRow 3 (none)) ({ frames := fd, cells := 0, slots := 0, locals := ld }) (va_Pc [.ref (ad 0), .int l1, .int l2] (PW dC dI cI cB cJ cZ ad stM kcM 115 sz x)) (va_Qv (fun (y : St) => post y) (fun y t => Wd dC dI cI cB cJ cZ ad stM kcM 115 (va_A (pic ad stM kcM 115 cI cB cJ cZ x) sz) y t.heap) (va_A (pic ad stM kcM 115 cI cB cJ cZ x) sz)) 0 0 (va_A (pic ad stM kcM 115 cI cB cJ cZ x) sz)) (hs_Mod_readValue : ∀ (sz : Nat) (l1 : Int32) (l2 : Int32) (x : St), ∀ (post : St → Prop), self_Mod_readValue post l1 l2 x → Met l y_Mod_readValue (wsOf y_Mod_readValue b_Mod_readValue 7 (none)) ({ frames := fd, cells := 0, slots := 0, locals := ld }) (va_Pc [.ref (ad 0), .int l1, .int l2] (PW dC dI cI cB cJ cZ ad stM kcM 115 sz x)) (va_Qv (fun (y : St) => post y) (fun y t => Wd dC dI cI cB cJ cZ ad stM kcM 115 (va_A (pic ad stM kcM 115 cI cB cJ cZ x) sz) y t.heap) (va_A (pic ad stM kcM 115 cI cB cJ cZ x) sz)) 0 0 (va_A (pic ad stM kcM 115 cI cB cJ cZ x) sz)) (hDf : fd + 1 ≤ R.frames) (hDl : 26 + ld ≤ R.locals)  : ∀ n : Nat, ∀ (l1 : Int32) (l2 : Int32) (x : St) (H : Heap) (locs : List Loc) (ls : Array Slot), wl_Mod_readRow_16 post self_Mod_readGroup self_Mod_readRow self_Mod_readValue n l1 l2 x → Wd dC dI cI cB cJ cZ ad stM kcM 115 A x H → va_S A s.heap H locs → lv_has ls 3 [(0, .ref (ad 0)), (1, .int l1), (2, .int l2)] → W p l e R s m args below meth c H locs cells slots Q (F0 m 16 ls []) := by
  intro n
  induction n with
  | zero => intro l1 l2 x H locs ls  hw; exact hw.elim
  | succ n ih => intro l1 l2 x H locs ls  hw hW hS hl; exact t_Mod_readRow_16 hx hb hml hown hT hK hN hA hRc hRs hRf hRl hret hs_Mod_readGroup hs_Mod_readRow hs_Mod_readValue hDf hDl  ih l1 l2 x H locs ls  hw hW hS hl
set_option maxRecDepth 100000 in
set_option maxHeartbeats 4000000 in
set_option maxRecDepth 100000 in
theorem t_Mod_readRow_e {p : Program} {l : Launch} {e : Env} {R : Room} {s : State} {m : MethodId} {args : Array Value} {below : List Frame} {meth : Method} {c : Code} {cells slots : Nat} {Q : State → Prop} {dC : Nat → ClassId} {dI : Nat → Nat → Nat} {cI cB cJ cZ : ClassId} {A : Nat → Prop} {ad : Nat → Nat} {post : St → Prop} {self_Mod_readGroup : (St → Prop) → Int32 → Int32 → St → Prop} {self_Mod_readRow : (St → Prop) → Int32 → Int32 → St → Prop} {self_Mod_readValue : (St → Prop) → Int32 → Int32 → St → Prop} {fd ld : Nat} (hx : p.tables.exec = Jvm.exec) (hb : c.code = b_Mod_readRow) (hml : c.maxLocals = 3) (hown : s.vm.findClass R_Mod = some m.cls) (hT : ∀ w ∈ TG, w.before args s = true) (hK : va_K (dC, dI) CL (TY cI cB cJ cZ) s) (hN : NW s) (hA : ∀ q : Nat, s.heap.size ≤ q → A q) (hRc : cells ≤ R.cells) (hRs : slots ≤ R.slots) (hRf : 5 ≤ R.frames) (hRl : 111 ≤ R.locals) (hret : ∀ (x : St) (H : Heap) (locs : List Loc) (pc : Nat) (ls : Array Slot), decode b_Mod_readRow pc = .ok (.return_, 1) → post x → Wd dC dI cI cB cJ cZ ad stM kcM 115 A x H → va_S A s.heap H locs → W p l e R s m args below meth c H locs cells slots Q (F0 m pc ls [])) (hs_Mod_readGroup : ∀ (sz : Nat) (l1 : Int32) (l2 : Int32) (x : St), ∀ (post : St → Prop), self_Mod_readGroup post l1 l2 x → Met l y_Mod_readGroup (wsOf y_Mod_readGroup b_Mod_readGroup 7 (none)) ({ frames := fd, cells := 0, slots := 0, locals := ld }) (va_Pc [.ref (ad 0), .int l1, .int l2] (PW dC dI cI cB cJ cZ ad stM kcM 115 sz x)) (va_Qv (fun (y : St) => post y) (fun y t => Wd dC dI cI cB cJ cZ ad stM kcM 115 (va_A (pic ad stM kcM 115 cI cB cJ cZ x) sz) y t.heap) (va_A (pic ad stM kcM 115 cI cB cJ cZ x) sz)) 0 0 (va_A (pic ad stM kcM 115 cI cB cJ cZ x) sz)) (hs_Mod_readRow : ∀ (sz : Nat) (l1 : Int32) (l2 : Int32) (x : St), ∀ (post : St → Prop), self_Mod_readRow post l1 l2 x → Met l y_Mod_readRow (wsOf y_Mod_readRow b_Mod_readRow 3 (none)) ({ frames := fd, cells := 0, slots := 0, locals := ld }) (va_Pc [.ref (ad 0), .int l1, .int l2] (PW dC dI cI cB cJ cZ ad stM kcM 115 sz x)) (va_Qv (fun (y : St) => post y) (fun y t => Wd dC dI cI cB cJ cZ ad stM kcM 115 (va_A (pic ad stM kcM 115 cI cB cJ cZ x) sz) y t.heap) (va_A (pic ad stM kcM 115 cI cB cJ cZ x) sz)) 0 0 (va_A (pic ad stM kcM 115 cI cB cJ cZ x) sz)) (hs_Mod_readValue : ∀ (sz : Nat) (l1 : Int32) (l2 : Int32) (x : St), ∀ (post : St → Prop), self_Mod_readValue post l1 l2 x → Met l y_Mod_readValue (wsOf y_Mod_readValue b_Mod_readValue 7 (none)) ({ frames := fd, cells := 0, slots := 0, locals := ld }) (va_Pc [.ref (ad 0), .int l1, .int l2] (PW dC dI cI cB cJ cZ ad stM kcM 115 sz x)) (va_Qv (fun (y : St) => post y) (fun y t => Wd dC dI cI cB cJ cZ ad stM kcM 115 (va_A (pic ad stM kcM 115 cI cB cJ cZ x) sz) y t.heap) (va_A (pic ad stM kcM 115 cI cB cJ cZ x) sz)) 0 0 (va_A (pic ad stM kcM 115 cI cB cJ cZ x) sz)) (hDf : fd + 1 ≤ R.frames) (hDl : 26 + ld ≤ R.locals) : ∀ (l1 : Int32) (l2 : Int32) (x : St) (H : Heap) (locs : List Loc) (ls : Array Slot), wb_Mod_readRow post self_Mod_readGroup self_Mod_readRow self_Mod_readValue l1 l2 x → Wd dC dI cI cB cJ cZ ad stM kcM 115 A x H → va_S A s.heap H locs → lv_has ls 3 [(0, .ref (ad 0)), (1, .int l1), (2, .int l2)] → W p l e R s m args below meth c H locs cells slots Q (F0 m 0 ls []) := by
  intro l1 l2 x H locs ls  hw hW hS hl
  unfold wb_Mod_readRow at hw
  refine lv_aload_n hx hb d_Mod_readRow_0 rfl (lv_at hl 0 rfl) ?_
  refine lv_bipush (v := 91) hx hb d_Mod_readRow_1 (by decide) ?_
  have hF := hW.free hS hA
  refine va_callv (va_runV (C := R_Mod) (As := [.int 91]) (rest := []) ⟨hx, hb, hml, hown, hT⟩ (k_Mod_wantSign l dC dI cI cB cJ cZ ad H.size 91 x  hw) ⟨callB_of 1 hT (gwt_in w_11_42) rfl rfl rfl (hT _ w_1_15) (hT _ w_11_39) (by decide +kernel) ⟨Nat.le_trans (Nat.le_of_ble_eq_true rfl) hRf, Nat.le_trans (Nat.le_of_ble_eq_true rfl) hRl⟩, hT _ w_11_41, hT _ ws_120⟩ ⟨PW.blind, va_recv hK hW.1 (ci := 12) (q0 := 0) rfl (pic_obj ko_0.1 ko_0.2 (by decide)), PW.at _ hW hK hN⟩ rfl rfl hl.1 rfl (lv_room (Nat.le_of_ble_eq_true rfl)) d_Mod_readRow_3 ⟨hRc, hRs⟩) hS (fun q _ h => hF q h) hF (fun  x332 t H locs ht hvm hw hB hz1 hk1 hS => ?_)
  have hW := Wd.back hB ht hF
  clear hB ht hF hz1 hk1 hvm
  refine lv_aload_n hx hb d_Mod_readRow_6 rfl (lv_at hl 0 rfl) ?_
  refine lv_bipush (v := 93) hx hb d_Mod_readRow_7 (by decide) ?_
  have hF := hW.free hS hA
  refine va_calli (va_runV (C := R_Mod) (As := [.int 93]) (rest := []) ⟨hx, hb, hml, hown, hT⟩ (k_Mod_takesSign l dC dI cI cB cJ cZ ad H.size 93 x332  hw) ⟨callB_of 1 hT (gwt_in w_11_46) rfl rfl rfl (hT _ w_1_15) (hT _ w_11_43) (by decide +kernel) ⟨Nat.le_trans (Nat.le_of_ble_eq_true rfl) hRf, Nat.le_trans (Nat.le_of_ble_eq_true rfl) hRl⟩, hT _ w_11_45, hT _ ws_121⟩ ⟨PW.blind, va_recv hK hW.1 (ci := 12) (q0 := 0) rfl (pic_obj ko_0.1 ko_0.2 (by decide)), PW.at _ hW hK hN⟩ rfl rfl hl.1 rfl (lv_room (Nat.le_of_ble_eq_true rfl)) d_Mod_readRow_9 ⟨hRc, hRs⟩) hS (fun q _ h => hF q h) hF (fun r334 x333 t H locs ht hvm hw hB hz1 hk1 hS => ?_)
  have hW := Wd.back hB ht hF
  clear hB ht hF hz1 hk1 hvm
  refine lv_if_eq (tgt := 16) hx hb d_Mod_readRow_12 (by decide) (fun c335 => ?_) (fun c335 => ?_)
  · have hw := hw.1 c335
    obtain ⟨n, hw⟩ := hw
    exact tl_Mod_readRow_16 hx hb hml hown hT hK hN hA hRc hRs hRf hRl hret hs_Mod_readGroup hs_Mod_readRow hs_Mod_readValue hDf hDl  n l1 l2 x333 H locs ls  hw hW hS (lv_sub hl [0, 1, 2] rfl)
  · have hw := hw.2 c335
    exact hret x333 H locs 15 ls d_Mod_readRow_15 hw hW hS
set_option maxRecDepth 100000 in
set_option maxHeartbeats 4000000 in
set_option maxRecDepth 100000 in
theorem t_Mod_readValue_173 {p : Program} {l : Launch} {e : Env} {R : Room} {s : State} {m : MethodId} {args : Array Value} {below : List Frame} {meth : Method} {c : Code} {cells slots : Nat} {Q : State → Prop} {dC : Nat → ClassId} {dI : Nat → Nat → Nat} {cI cB cJ cZ : ClassId} {A : Nat → Prop} {ad : Nat → Nat} {post : St → Prop} {self_Mod_readGroup : (St → Prop) → Int32 → Int32 → St → Prop} {self_Mod_readRow : (St → Prop) → Int32 → Int32 → St → Prop} {self_Mod_readValue : (St → Prop) → Int32 → Int32 → St → Prop} {fd ld : Nat} (hx : p.tables.exec = Jvm.exec) (hb : c.code = b_Mod_readValue) (hml : c.maxLocals = 7) (hown : s.vm.findClass R_Mod = some m.cls) (hT : ∀ w ∈ TG, w.before args s = true) (hK : va_K (dC, dI) CL (TY cI cB cJ cZ) s) (hN : NW s) (hA : ∀ q : Nat, s.heap.size ≤ q → A q) (hRc : cells ≤ R.cells) (hRs : slots ≤ R.slots) (hRf : 5 ≤ R.frames) (hRl : 111 ≤ R.locals) (hret : ∀ (x : St) (H : Heap) (locs : List Loc) (pc : Nat) (ls : Array Slot), decode b_Mod_readValue pc = .ok (.return_, 1) → post x → Wd dC dI cI cB cJ cZ ad stM kcM 115 A x H → va_S A s.heap H locs → W p l e R s m args below meth c H locs cells slots Q (F0 m pc ls [])) (hs_Mod_readGroup : ∀ (sz : Nat) (l1 : Int32) (l2 : Int32) (x : St), ∀ (post : St → Prop), self_Mod_readGroup post l1 l2 x → Met l y_Mod_readGroup (wsOf y_Mod_readGroup b_Mod_readGroup 7 (none)) ({ frames := fd, cells := 0, slots := 0, locals := ld }) (va_Pc [.ref (ad 0), .int l1, .int l2] (PW dC dI cI cB cJ cZ ad stM kcM 115 sz x)) (va_Qv (fun (y : St) => post y) (fun y t => Wd dC dI cI cB cJ cZ ad stM kcM 115 (va_A (pic ad stM kcM 115 cI cB cJ cZ x) sz) y t.heap) (va_A (pic ad stM kcM 115 cI cB cJ cZ x) sz)) 0 0 (va_A (pic ad stM kcM 115 cI cB cJ cZ x) sz)) (hs_Mod_readRow : ∀ (sz : Nat) (l1 : Int32) (l2 : Int32) (x : St), ∀ (post : St → Prop), self_Mod_readRow post l1 l2 x → Met l y_Mod_readRow (wsOf y_Mod_readRow b_Mod_readRow 3 (none)) ({ frames := fd, cells := 0, slots := 0, locals := ld }) (va_Pc [.ref (ad 0), .int l1, .int l2] (PW dC dI cI cB cJ cZ ad stM kcM 115 sz x)) (va_Qv (fun (y : St) => post y) (fun y t => Wd dC dI cI cB cJ cZ ad stM kcM 115 (va_A (pic ad stM kcM 115 cI cB cJ cZ x) sz) y t.heap) (va_A (pic ad stM kcM 115 cI cB cJ cZ x) sz)) 0 0 (va_A (pic ad stM kcM 115 cI cB cJ cZ x) sz)) (hs_Mod_readValue : ∀ (sz : Nat) (l1 : Int32) (l2 : Int32) (x : St), ∀ (post : St → Prop), self_Mod_readValue post l1 l2 x → Met l y_Mod_readValue (wsOf y_Mod_readValue b_Mod_readValue 7 (none)) ({ frames := fd, cells := 0, slots := 0, locals := ld }) (va_Pc [.ref (ad 0), .int l1, .int l2] (PW dC dI cI cB cJ cZ ad stM kcM 115 sz x)) (va_Qv (fun (y : St) => post y) (fun y t => Wd dC dI cI cB cJ cZ ad stM kcM 115 (va_A (pic ad stM kcM 115 cI cB cJ cZ x) sz) y t.heap) (va_A (pic ad stM kcM 115 cI cB cJ cZ x) sz)) 0 0 (va_A (pic ad stM kcM 115 cI cB cJ cZ x) sz)) (hDf : fd + 1 ≤ R.frames) (hDl : 26 + ld ≤ R.locals)  : ∀ (l1 : Int32) (l2 : Int32) (l3 : Int32) (l4 : Int32) (l5 : Int64) (x : St) (H : Heap) (locs : List Loc) (ls : Array Slot), j_Mod_readValue_173 post self_Mod_readGroup self_Mod_readRow self_Mod_readValue l1 l2 l3 l4 l5 x → Wd dC dI cI cB cJ cZ ad stM kcM 115 A x H → va_S A s.heap H locs → lv_has ls 7 [(0, .ref (ad 0)), (1, .int l1), (2, .int l2), (3, .int l3), (4, .int l4), (5, .long l5)] → W p l e R s m args below meth c H locs cells slots Q (F0 m 173 ls []) := by
  intro l1 l2 l3 l4 l5 x H locs ls  hw hW hS hl
  unfold j_Mod_readValue_173 at hw
  refine lv_aload_n hx hb d_Mod_readValue_173 rfl (lv_at hl 0 rfl) ?_
  refine lv_iload_n hx hb d_Mod_readValue_174 rfl (lv_at hl 1 rfl) ?_
  refine lv_iload_n hx hb d_Mod_readValue_175 rfl (lv_at hl 2 rfl) ?_
  refine lv_lload hx hb d_Mod_readValue_176 (lv_at hl 5 rfl) ?_
  have hF := hW.free hS hA
  refine va_calli (va_runV (C := R_Mod) (As := [.int l1, .int l2, .long l5]) (rest := []) ⟨hx, hb, hml, hown, hT⟩ (k_Mod_node l dC dI cI cB cJ cZ ad H.size l1 l2 l5 x  hw) ⟨callB_of 3 hT (gwt_in w_11_82) rfl rfl rfl (hT _ w_1_15) (hT _ w_11_79) (by decide +kernel) ⟨Nat.le_trans (Nat.le_of_ble_eq_true rfl) hRf, Nat.le_trans (Nat.le_of_ble_eq_true rfl) hRl⟩, hT _ w_11_81, hT _ ws_129⟩ ⟨PW.blind, va_recv hK hW.1 (ci := 12) (q0 := 0) rfl (pic_obj ko_0.1 ko_0.2 (by decide)), PW.at _ hW hK hN⟩ rfl rfl hl.1 rfl (lv_room (Nat.le_of_ble_eq_true rfl)) d_Mod_readValue_178 ⟨hRc, hRs⟩) hS (fun q _ h => hF q h) hF (fun r337 x336 t H locs ht hvm hw hB hz1 hk1 hS => ?_)
  have hW := Wd.back hB ht hF
  clear hB ht hF hz1 hk1 hvm
  refine lv_pop hx hb d_Mod_readValue_181 rfl ?_
  exact hret x336 H locs 182 ls d_Mod_readValue_182 hw hW hS
set_option maxRecDepth 100000 in
set_option maxHeartbeats 4000000 in
set_option maxRecDepth 100000 in
theorem t_Mod_readValue_133 {p : Program} {l : Launch} {e : Env} {R : Room} {s : State} {m : MethodId} {args : Array Value} {below : List Frame} {meth : Method} {c : Code} {cells slots : Nat} {Q : State → Prop} {dC : Nat → ClassId} {dI : Nat → Nat → Nat} {cI cB cJ cZ : ClassId} {A : Nat → Prop} {ad : Nat → Nat} {post : St → Prop} {self_Mod_readGroup : (St → Prop) → Int32 → Int32 → St → Prop} {self_Mod_readRow : (St → Prop) → Int32 → Int32 → St → Prop} {self_Mod_readValue : (St → Prop) → Int32 → Int32 → St → Prop} {fd ld : Nat} (hx : p.tables.exec = Jvm.exec) (hb : c.code = b_Mod_readValue) (hml : c.maxLocals = 7) (hown : s.vm.findClass R_Mod = some m.cls) (hT : ∀ w ∈ TG, w.before args s = true) (hK : va_K (dC, dI) CL (TY cI cB cJ cZ) s) (hN : NW s) (hA : ∀ q : Nat, s.heap.size ≤ q → A q) (hRc : cells ≤ R.cells) (hRs : slots ≤ R.slots) (hRf : 5 ≤ R.frames) (hRl : 111 ≤ R.locals) (hret : ∀ (x : St) (H : Heap) (locs : List Loc) (pc : Nat) (ls : Array Slot), decode b_Mod_readValue pc = .ok (.return_, 1) → post x → Wd dC dI cI cB cJ cZ ad stM kcM 115 A x H → va_S A s.heap H locs → W p l e R s m args below meth c H locs cells slots Q (F0 m pc ls [])) (hs_Mod_readGroup : ∀ (sz : Nat) (l1 : Int32) (l2 : Int32) (x : St), ∀ (post : St → Prop), self_Mod_readGroup post l1 l2 x → Met l y_Mod_readGroup (wsOf y_Mod_readGroup b_Mod_readGroup 7 (none)) ({ frames := fd, cells := 0, slots := 0, locals := ld }) (va_Pc [.ref (ad 0), .int l1, .int l2] (PW dC dI cI cB cJ cZ ad stM kcM 115 sz x)) (va_Qv (fun (y : St) => post y) (fun y t => Wd dC dI cI cB cJ cZ ad stM kcM 115 (va_A (pic ad stM kcM 115 cI cB cJ cZ x) sz) y t.heap) (va_A (pic ad stM kcM 115 cI cB cJ cZ x) sz)) 0 0 (va_A (pic ad stM kcM 115 cI cB cJ cZ x) sz)) (hs_Mod_readRow : ∀ (sz : Nat) (l1 : Int32) (l2 : Int32) (x : St), ∀ (post : St → Prop), self_Mod_readRow post l1 l2 x → Met l y_Mod_readRow (wsOf y_Mod_readRow b_Mod_readRow 3 (none)) ({ frames := fd, cells := 0, slots := 0, locals := ld }) (va_Pc [.ref (ad 0), .int l1, .int l2] (PW dC dI cI cB cJ cZ ad stM kcM 115 sz x)) (va_Qv (fun (y : St) => post y) (fun y t => Wd dC dI cI cB cJ cZ ad stM kcM 115 (va_A (pic ad stM kcM 115 cI cB cJ cZ x) sz) y t.heap) (va_A (pic ad stM kcM 115 cI cB cJ cZ x) sz)) 0 0 (va_A (pic ad stM kcM 115 cI cB cJ cZ x) sz)) (hs_Mod_readValue : ∀ (sz : Nat) (l1 : Int32) (l2 : Int32) (x : St), ∀ (post : St → Prop), self_Mod_readValue post l1 l2 x → Met l y_Mod_readValue (wsOf y_Mod_readValue b_Mod_readValue 7 (none)) ({ frames := fd, cells := 0, slots := 0, locals := ld }) (va_Pc [.ref (ad 0), .int l1, .int l2] (PW dC dI cI cB cJ cZ ad stM kcM 115 sz x)) (va_Qv (fun (y : St) => post y) (fun y t => Wd dC dI cI cB cJ cZ ad stM kcM 115 (va_A (pic ad stM kcM 115 cI cB cJ cZ x) sz) y t.heap) (va_A (pic ad stM kcM 115 cI cB cJ cZ x) sz)) 0 0 (va_A (pic ad stM kcM 115 cI cB cJ cZ x) sz)) (hDf : fd + 1 ≤ R.frames) (hDl : 26 + ld ≤ R.locals)  : ∀ (l1 : Int32) (l2 : Int32) (l3 : Int32) (l4 : Int32) (s0 : Int64) (s1 : Int32) (s2 : Int32) (x : St) (H : Heap) (locs : List Loc) (ls : Array Slot), j_Mod_readValue_133 post self_Mod_readGroup self_Mod_readRow self_Mod_readValue l1 l2 l3 l4 s0 s1 s2 x → Wd dC dI cI cB cJ cZ ad stM kcM 115 A x H → va_S A s.heap H locs → lv_has ls 7 [(0, .ref (ad 0)), (1, .int l1), (2, .int l2), (3, .int l3), (4, .int l4)] → W p l e R s m args below meth c H locs cells slots Q (F0 m 133 ls [.long s0, .int s1, .int s2, .ref (ad 0)]) := by
  intro l1 l2 l3 l4 s0 s1 s2 x H locs ls  hw hW hS hl
  unfold j_Mod_readValue_133 at hw
  have hF := hW.free hS hA
  refine va_calli (va_runV (C := R_Mod) (As := [.int s2, .int s1, .long s0]) (rest := []) ⟨hx, hb, hml, hown, hT⟩ (k_Mod_node l dC dI cI cB cJ cZ ad H.size s2 s1 s0 x  hw) ⟨callB_of 3 hT (gwt_in w_11_82) rfl rfl rfl (hT _ w_1_15) (hT _ w_11_79) (by decide +kernel) ⟨Nat.le_trans (Nat.le_of_ble_eq_true rfl) hRf, Nat.le_trans (Nat.le_of_ble_eq_true rfl) hRl⟩, hT _ w_11_81, hT _ ws_129⟩ ⟨PW.blind, va_recv hK hW.1 (ci := 12) (q0 := 0) rfl (pic_obj ko_0.1 ko_0.2 (by decide)), PW.at _ hW hK hN⟩ rfl rfl hl.1 rfl (lv_room (Nat.le_of_ble_eq_true rfl)) d_Mod_readValue_133 ⟨hRc, hRs⟩) hS (fun q _ h => hF q h) hF (fun r339 x338 t H locs ht hvm hw hB hz1 hk1 hS => ?_)
  have hW := Wd.back hB ht hF
  clear hB ht hF hz1 hk1 hvm
  refine lv_pop hx hb d_Mod_readValue_136 rfl ?_
  refine lv_goto (tgt := 182) hx hb d_Mod_readValue_137 (by decide) ?_
  exact hret x338 H locs 182 ls d_Mod_readValue_182 hw hW hS
set_option maxRecDepth 100000 in
set_option maxHeartbeats 4000000 in
set_option maxRecDepth 100000 in
theorem t_Mod_readValue_120 {p : Program} {l : Launch} {e : Env} {R : Room} {s : State} {m : MethodId} {args : Array Value} {below : List Frame} {meth : Method} {c : Code} {cells slots : Nat} {Q : State → Prop} {dC : Nat → ClassId} {dI : Nat → Nat → Nat} {cI cB cJ cZ : ClassId} {A : Nat → Prop} {ad : Nat → Nat} {post : St → Prop} {self_Mod_readGroup : (St → Prop) → Int32 → Int32 → St → Prop} {self_Mod_readRow : (St → Prop) → Int32 → Int32 → St → Prop} {self_Mod_readValue : (St → Prop) → Int32 → Int32 → St → Prop} {fd ld : Nat} (hx : p.tables.exec = Jvm.exec) (hb : c.code = b_Mod_readValue) (hml : c.maxLocals = 7) (hown : s.vm.findClass R_Mod = some m.cls) (hT : ∀ w ∈ TG, w.before args s = true) (hK : va_K (dC, dI) CL (TY cI cB cJ cZ) s) (hN : NW s) (hA : ∀ q : Nat, s.heap.size ≤ q → A q) (hRc : cells ≤ R.cells) (hRs : slots ≤ R.slots) (hRf : 5 ≤ R.frames) (hRl : 111 ≤ R.locals) (hret : ∀ (x : St) (H : Heap) (locs : List Loc) (pc : Nat) (ls : Array Slot), decode b_Mod_readValue pc = .ok (.return_, 1) → post x → Wd dC dI cI cB cJ cZ ad stM kcM 115 A x H → va_S A s.heap H locs → W p l e R s m args below meth c H locs cells slots Q (F0 m pc ls [])) (hs_Mod_readGroup : ∀ (sz : Nat) (l1 : Int32) (l2 : Int32) (x : St), ∀ (post : St → Prop), self_Mod_readGroup post l1 l2 x → Met l y_Mod_readGroup (wsOf y_Mod_readGroup b_Mod_readGroup 7 (none)) ({ frames := fd, cells := 0, slots := 0, locals := ld }) (va_Pc [.ref (ad 0), .int l1, .int l2] (PW dC dI cI cB cJ cZ ad stM kcM 115 sz x)) (va_Qv (fun (y : St) => post y) (fun y t => Wd dC dI cI cB cJ cZ ad stM kcM 115 (va_A (pic ad stM kcM 115 cI cB cJ cZ x) sz) y t.heap) (va_A (pic ad stM kcM 115 cI cB cJ cZ x) sz)) 0 0 (va_A (pic ad stM kcM 115 cI cB cJ cZ x) sz)) (hs_Mod_readRow : ∀ (sz : Nat) (l1 : Int32) (l2 : Int32) (x : St), ∀ (post : St → Prop), self_Mod_readRow post l1 l2 x → Met l y_Mod_readRow (wsOf y_Mod_readRow b_Mod_readRow 3 (none)) ({ frames := fd, cells := 0, slots := 0, locals := ld }) (va_Pc [.ref (ad 0), .int l1, .int l2] (PW dC dI cI cB cJ cZ ad stM kcM 115 sz x)) (va_Qv (fun (y : St) => post y) (fun y t => Wd dC dI cI cB cJ cZ ad stM kcM 115 (va_A (pic ad stM kcM 115 cI cB cJ cZ x) sz) y t.heap) (va_A (pic ad stM kcM 115 cI cB cJ cZ x) sz)) 0 0 (va_A (pic ad stM kcM 115 cI cB cJ cZ x) sz)) (hs_Mod_readValue : ∀ (sz : Nat) (l1 : Int32) (l2 : Int32) (x : St), ∀ (post : St → Prop), self_Mod_readValue post l1 l2 x → Met l y_Mod_readValue (wsOf y_Mod_readValue b_Mod_readValue 7 (none)) ({ frames := fd, cells := 0, slots := 0, locals := ld }) (va_Pc [.ref (ad 0), .int l1, .int l2] (PW dC dI cI cB cJ cZ ad stM kcM 115 sz x)) (va_Qv (fun (y : St) => post y) (fun y t => Wd dC dI cI cB cJ cZ ad stM kcM 115 (va_A (pic ad stM kcM 115 cI cB cJ cZ x) sz) y t.heap) (va_A (pic ad stM kcM 115 cI cB cJ cZ x) sz)) 0 0 (va_A (pic ad stM kcM 115 cI cB cJ cZ x) sz)) (hDf : fd + 1 ≤ R.frames) (hDl : 26 + ld ≤ R.locals)  : ∀ (l1 : Int32) (l2 : Int32) (l3 : Int32) (l4 : Int32) (x : St) (H : Heap) (locs : List Loc) (ls : Array Slot), j_Mod_readValue_120 post self_Mod_readGroup self_Mod_readRow self_Mod_readValue l1 l2 l3 l4 x → Wd dC dI cI cB cJ cZ ad stM kcM 115 A x H → va_S A s.heap H locs → lv_has ls 7 [(0, .ref (ad 0)), (1, .int l1), (2, .int l2), (3, .int l3), (4, .int l4)] → W p l e R s m args below meth c H locs cells slots Q (F0 m 120 ls []) := by
  intro l1 l2 l3 l4 x H locs ls  hw hW hS hl
  unfold j_Mod_readValue_120 at hw
  refine lv_aload_n hx hb d_Mod_readValue_120 rfl (lv_at hl 0 rfl) ?_
  refine lv_iload_n hx hb d_Mod_readValue_121 rfl (lv_at hl 1 rfl) ?_
  refine lv_iload_n hx hb d_Mod_readValue_122 rfl (lv_at hl 2 rfl) ?_
  refine lv_iload hx hb d_Mod_readValue_123 (lv_at hl 4 rfl) ?_
  refine lv_if_eq (tgt := 132) hx hb d_Mod_readValue_125 (by decide) (fun c340 => ?_) (fun c340 => ?_)
  · have hw := hw.1 c340
    refine lv_lconst (v := 0) hx hb d_Mod_readValue_132 (by decide) ?_
    exact t_Mod_readValue_133 hx hb hml hown hT hK hN hA hRc hRs hRf hRl hret hs_Mod_readGroup hs_Mod_readRow hs_Mod_readValue hDf hDl  l1 l2 l3 l4 0 l2 l1 x H locs ls  hw hW hS (lv_sub hl [0, 1, 2, 3, 4] rfl)
  · have hw := hw.2 c340
    refine lv_lconst (v := 1) hx hb d_Mod_readValue_128 (by decide) ?_
    refine lv_goto (tgt := 133) hx hb d_Mod_readValue_129 (by decide) ?_
    exact t_Mod_readValue_133 hx hb hml hown hT hK hN hA hRc hRs hRf hRl hret hs_Mod_readGroup hs_Mod_readRow hs_Mod_readValue hDf hDl  l1 l2 l3 l4 1 l2 l1 x H locs ls  hw hW hS (lv_sub hl [0, 1, 2, 3, 4] rfl)
set_option maxRecDepth 100000 in
set_option maxHeartbeats 4000000 in
set_option maxRecDepth 100000 in
theorem t_Mod_readValue_e {p : Program} {l : Launch} {e : Env} {R : Room} {s : State} {m : MethodId} {args : Array Value} {below : List Frame} {meth : Method} {c : Code} {cells slots : Nat} {Q : State → Prop} {dC : Nat → ClassId} {dI : Nat → Nat → Nat} {cI cB cJ cZ : ClassId} {A : Nat → Prop} {ad : Nat → Nat} {post : St → Prop} {self_Mod_readGroup : (St → Prop) → Int32 → Int32 → St → Prop} {self_Mod_readRow : (St → Prop) → Int32 → Int32 → St → Prop} {self_Mod_readValue : (St → Prop) → Int32 → Int32 → St → Prop} {fd ld : Nat} (hx : p.tables.exec = Jvm.exec) (hb : c.code = b_Mod_readValue) (hml : c.maxLocals = 7) (hown : s.vm.findClass R_Mod = some m.cls) (hT : ∀ w ∈ TG, w.before args s = true) (hK : va_K (dC, dI) CL (TY cI cB cJ cZ) s) (hN : NW s) (hA : ∀ q : Nat, s.heap.size ≤ q → A q) (hRc : cells ≤ R.cells) (hRs : slots ≤ R.slots) (hRf : 5 ≤ R.frames) (hRl : 111 ≤ R.locals) (hret : ∀ (x : St) (H : Heap) (locs : List Loc) (pc : Nat) (ls : Array Slot), decode b_Mod_readValue pc = .ok (.return_, 1) → post x → Wd dC dI cI cB cJ cZ ad stM kcM 115 A x H → va_S A s.heap H locs → W p l e R s m args below meth c H locs cells slots Q (F0 m pc ls [])) (hs_Mod_readGroup : ∀ (sz : Nat) (l1 : Int32) (l2 : Int32) (x : St), ∀ (post : St → Prop), self_Mod_readGroup post l1 l2 x → Met l y_Mod_readGroup (wsOf y_Mod_readGroup b_Mod_readGroup 7 (none)) ({ frames := fd, cells := 0, slots := 0, locals := ld }) (va_Pc [.ref (ad 0), .int l1, .int l2] (PW dC dI cI cB cJ cZ ad stM kcM 115 sz x)) (va_Qv (fun (y : St) => post y) (fun y t => Wd dC dI cI cB cJ cZ ad stM kcM 115 (va_A (pic ad stM kcM 115 cI cB cJ cZ x) sz) y t.heap) (va_A (pic ad stM kcM 115 cI cB cJ cZ x) sz)) 0 0 (va_A (pic ad stM kcM 115 cI cB cJ cZ x) sz)) (hs_Mod_readRow : ∀ (sz : Nat) (l1 : Int32) (l2 : Int32) (x : St), ∀ (post : St → Prop), self_Mod_readRow post l1 l2 x → Met l y_Mod_readRow (wsOf y_Mod_readRow b_Mod_readRow 3 (none)) ({ frames := fd, cells := 0, slots := 0, locals := ld }) (va_Pc [.ref (ad 0), .int l1, .int l2] (PW dC dI cI cB cJ cZ ad stM kcM 115 sz x)) (va_Qv (fun (y : St) => post y) (fun y t => Wd dC dI cI cB cJ cZ ad stM kcM 115 (va_A (pic ad stM kcM 115 cI cB cJ cZ x) sz) y t.heap) (va_A (pic ad stM kcM 115 cI cB cJ cZ x) sz)) 0 0 (va_A (pic ad stM kcM 115 cI cB cJ cZ x) sz)) (hs_Mod_readValue : ∀ (sz : Nat) (l1 : Int32) (l2 : Int32) (x : St), ∀ (post : St → Prop), self_Mod_readValue post l1 l2 x → Met l y_Mod_readValue (wsOf y_Mod_readValue b_Mod_readValue 7 (none)) ({ frames := fd, cells := 0, slots := 0, locals := ld }) (va_Pc [.ref (ad 0), .int l1, .int l2] (PW dC dI cI cB cJ cZ ad stM kcM 115 sz x)) (va_Qv (fun (y : St) => post y) (fun y t => Wd dC dI cI cB cJ cZ ad stM kcM 115 (va_A (pic ad stM kcM 115 cI cB cJ cZ x) sz) y t.heap) (va_A (pic ad stM kcM 115 cI cB cJ cZ x) sz)) 0 0 (va_A (pic ad stM kcM 115 cI cB cJ cZ x) sz)) (hDf : fd + 1 ≤ R.frames) (hDl : 26 + ld ≤ R.locals) : ∀ (l1 : Int32) (l2 : Int32) (x : St) (H : Heap) (locs : List Loc) (ls : Array Slot), wb_Mod_readValue post self_Mod_readGroup self_Mod_readRow self_Mod_readValue l1 l2 x → Wd dC dI cI cB cJ cZ ad stM kcM 115 A x H → va_S A s.heap H locs → lv_has ls 7 [(0, .ref (ad 0)), (1, .int l1), (2, .int l2)] → W p l e R s m args below meth c H locs cells slots Q (F0 m 0 ls []) := by
  intro l1 l2 x H locs ls  hw hW hS hl
  unfold wb_Mod_readValue at hw
  refine lv_aload_n hx hb d_Mod_readValue_0 rfl (lv_at hl 0 rfl) ?_
  have hF := hW.free hS hA
  refine va_callv (va_runV (C := R_Mod) (As := []) (rest := []) ⟨hx, hb, hml, hown, hT⟩ (k_Mod_blanks l dC dI cI cB cJ cZ ad H.size  x  hw) ⟨callB_of 0 hT (gwt_in w_10_230) rfl rfl rfl (hT _ w_1_15) (hT _ w_10_227) (by decide +kernel) ⟨Nat.le_trans (Nat.le_of_ble_eq_true rfl) hRf, Nat.le_trans (Nat.le_of_ble_eq_true rfl) hRl⟩, hT _ w_10_229, hT _ ws_111⟩ ⟨PW.blind, va_recv hK hW.1 (ci := 12) (q0 := 0) rfl (pic_obj ko_0.1 ko_0.2 (by decide)), PW.at _ hW hK hN⟩ rfl rfl hl.1 rfl (lv_room (Nat.le_of_ble_eq_true rfl)) d_Mod_readValue_1 ⟨hRc, hRs⟩) hS (fun q _ h => hF q h) hF (fun  x341 t H locs ht hvm hw hB hz1 hk1 hS => ?_)
  have hW := Wd.back hB ht hF
  clear hB ht hF hz1 hk1 hvm
  refine lv_aload_n hx hb d_Mod_readValue_4 rfl (lv_at hl 0 rfl) ?_
  refine w_getf (q := 4) (k := 6) (t := 12) (C := R_Mod) (T := F_Mod) (N := 167) hx hb hT hown hK hW ko_0.1 ko_0.2 (by decide) in_Mod rfl rfl (by decide) rfl fr_Mod_6 w_8_182 d_Mod_readValue_5 rfl ?_
  refine lv_iconst (v := 0) hx hb d_Mod_readValue_8 (by decide) ?_
  refine lv_iload_n hx hb d_Mod_readValue_9 rfl (lv_at hl 2 rfl) ?_
  have hF := hW.free hS hA
  refine va_calli (va_runS (As := [.int 0, .int l2]) (rest := [.ref (ad 4)]) ⟨hx, hb, hml, hown, hT⟩ (k_Mod_place l dC dI cI cB cJ cZ ad H.size 0 l2 x341  hw) ⟨callB_of 2 hT (gwt_in w_11_30) rfl rfl rfl (hT _ w_1_15) (hT _ w_11_28) (by decide +kernel) ⟨Nat.le_trans (Nat.le_of_ble_eq_true rfl) hRf, Nat.le_trans (Nat.le_of_ble_eq_true rfl) hRl⟩, hT _ w_11_29⟩ ⟨PW.blind, PW.at _ hW hK hN⟩ rfl rfl hl.1 rfl (lv_room (Nat.le_of_ble_eq_true rfl)) d_Mod_readValue_10 ⟨hRc, hRs⟩) hS (fun q _ h => hF q h) hF (fun r343 x342 t H locs ht hvm hw hB hz1 hk1 hS => ?_)
  have hW := Wd.back hB ht hF
  clear hB ht hF hz1 hk1 hvm
  obtain ⟨hi, hw⟩ := hw
  refine w_iald (o := 4) hx hb hK hW ko_4.1 ko_4.2 hi d_Mod_readValue_13 ?_
  refine lv_topi (fun v344 ev344 => ?_)
  have hw := hw v344 ev344
  refine lv_istore_n (lv' := [(3, .int v344), (0, .ref (ad 0)), (1, .int l1), (2, .int l2)]) hx hb d_Mod_readValue_14 rfl hl (by decide) rfl (fun ls hl => ?_)
  refine lv_aload_n hx hb d_Mod_readValue_15 rfl (lv_at hl 1 rfl) ?_
  refine w_geti (k := 17) (t := 12) (C := R_Mod) (T := F_Mod) (N := 167) hx hb hT hown hK hW ko_0.1 ko_0.2 (by decide) in_Mod rfl rfl (by decide) rfl fr_Mod_17 w_8_193 d_Mod_readValue_16 ?_
  refine lv_iconst (v := (-1)) hx hb d_Mod_readValue_19 (by decide) ?_
  refine lv_icmp_eq (tgt := 24) hx hb d_Mod_readValue_20 (by decide) (fun c345 => ?_) (fun c345 => ?_)
  · have hw := hw.1 c345
    refine lv_iload_n hx hb d_Mod_readValue_24 rfl (lv_at hl 0 rfl) ?_
    refine lv_iconst (v := 4) hx hb d_Mod_readValue_25 (by decide) ?_
    refine lv_icmp_ne (tgt := 44) hx hb d_Mod_readValue_26 (by decide) (fun c346 => ?_) (fun c346 => ?_)
    · have hw := hw.1 c346
      refine lv_iload_n hx hb d_Mod_readValue_44 rfl (lv_at hl 0 rfl) ?_
      refine lv_iconst (v := 3) hx hb d_Mod_readValue_45 (by decide) ?_
      refine lv_icmp_ne (tgt := 84) hx hb d_Mod_readValue_46 (by decide) (fun c347 => ?_) (fun c347 => ?_)
      · have hw := hw.1 c347
        refine lv_iload_n hx hb d_Mod_readValue_84 rfl (lv_at hl 0 rfl) ?_
        refine lv_if_ne (tgt := 140) hx hb d_Mod_readValue_85 (by decide) (fun c348 => ?_) (fun c348 => ?_)
        · have hw := hw.1 c348
          refine lv_aload_n hx hb d_Mod_readValue_140 rfl (lv_at hl 1 rfl) ?_
          refine w_geti (k := 16) (t := 12) (C := R_Mod) (T := F_Mod) (N := 167) hx hb hT hown hK hW ko_0.1 ko_0.2 (by decide) in_Mod rfl rfl (by decide) rfl fr_Mod_16 w_8_192 d_Mod_readValue_141 ?_
          refine lv_topi (fun v349 ev349 => ?_)
          have hw := hw v349 ev349
          refine lv_istore (lv' := [(4, .int v349), (3, .int v344), (0, .ref (ad 0)), (1, .int l1), (2, .int l2)]) hx hb d_Mod_readValue_144 hl (by decide) rfl (fun ls hl => ?_)
          refine lv_aload_n hx hb d_Mod_readValue_146 rfl (lv_at hl 2 rfl) ?_
          have hF := hW.free hS hA
          refine va_calll (va_runV (C := R_Mod) (As := []) (rest := []) ⟨hx, hb, hml, hown, hT⟩ (k_Mod_readNumber l dC dI cI cB cJ cZ ad H.size  x342  hw) ⟨callB_of 0 hT (gwt_in w_11_100) rfl rfl rfl (hT _ w_1_15) (hT _ w_11_97) (by decide +kernel) ⟨Nat.le_trans (Nat.le_of_ble_eq_true rfl) hRf, Nat.le_trans (Nat.le_of_ble_eq_true rfl) hRl⟩, hT _ w_11_99, hT _ ws_133⟩ ⟨PW.blind, va_recv hK hW.1 (ci := 12) (q0 := 0) rfl (pic_obj ko_0.1 ko_0.2 (by decide)), PW.at _ hW hK hN⟩ rfl rfl hl.1 rfl (lv_room (Nat.le_of_ble_eq_true rfl)) d_Mod_readValue_147 ⟨hRc, hRs⟩) hS (fun q _ h => hF q h) hF (fun r351 x350 t H locs ht hvm hw hB hz1 hk1 hS => ?_)
          have hW := Wd.back hB ht hF
          clear hB ht hF hz1 hk1 hvm
          refine lv_lstore (lv' := [(5, .long r351), (4, .int v349), (3, .int v344), (0, .ref (ad 0)), (1, .int l1), (2, .int l2)]) hx hb d_Mod_readValue_150 hl (by decide) rfl (fun ls hl => ?_)
          refine lv_iload_n hx hb d_Mod_readValue_152 rfl (lv_at hl 2 rfl) ?_
          refine lv_iconst (v := 1) hx hb d_Mod_readValue_153 (by decide) ?_
          refine lv_icmp_ne (tgt := 173) hx hb d_Mod_readValue_154 (by decide) (fun c352 => ?_) (fun c352 => ?_)
          · have hw := hw.1 c352
            exact t_Mod_readValue_173 hx hb hml hown hT hK hN hA hRc hRs hRf hRl hret hs_Mod_readGroup hs_Mod_readRow hs_Mod_readValue hDf hDl  l1 l2 v344 v349 r351 x350 H locs ls  hw hW hS (lv_sub hl [3, 4, 5, 2, 1, 0] rfl)
          · have hw := hw.2 c352
            refine lv_lload hx hb d_Mod_readValue_157 (lv_at hl 0 rfl) ?_
            refine lv_lload hx hb d_Mod_readValue_159 (lv_at hl 0 rfl) ?_
            refine lv_l2i hx hb d_Mod_readValue_161 rfl ?_
            refine lv_i2l hx hb d_Mod_readValue_162 rfl ?_
            refine W.lcmp hx hb d_Mod_readValue_163 ?_
            refine lv_if_eq (tgt := 173) hx hb d_Mod_readValue_164 (by decide) (fun c353 => ?_) (fun c353 => ?_)
            · have hw := hw.1 c353
              exact t_Mod_readValue_173 hx hb hml hown hT hK hN hA hRc hRs hRf hRl hret hs_Mod_readGroup hs_Mod_readRow hs_Mod_readValue hDf hDl  l1 l2 v344 v349 r351 x350 H locs ls  hw hW hS (lv_sub hl [3, 4, 5, 2, 1, 0] rfl)
            · have hw := hw.2 c353
              refine lv_aload_n hx hb d_Mod_readValue_167 rfl (lv_at hl 3 rfl) ?_
              refine lv_iload hx hb d_Mod_readValue_168 (lv_at hl 1 rfl) ?_
              have hF := hW.free hS hA
              refine va_callv (va_runV (C := R_Mod) (As := [.int v349]) (rest := []) ⟨hx, hb, hml, hown, hT⟩ (k_Mod_fail l dC dI cI cB cJ cZ ad H.size v349 x350  hw) ⟨callB_of 1 hT (gwt_in w_11_14) rfl rfl rfl (hT _ w_1_15) (hT _ w_11_11) (by decide +kernel) ⟨Nat.le_trans (Nat.le_of_ble_eq_true rfl) hRf, Nat.le_trans (Nat.le_of_ble_eq_true rfl) hRl⟩, hT _ w_11_13, hT _ ws_115⟩ ⟨PW.blind, va_recv hK hW.1 (ci := 12) (q0 := 0) rfl (pic_obj ko_0.1 ko_0.2 (by decide)), PW.at _ hW hK hN⟩ rfl rfl hl.1 rfl (lv_room (Nat.le_of_ble_eq_true rfl)) d_Mod_readValue_170 ⟨hRc, hRs⟩) hS (fun q _ h => hF q h) hF (fun  x354 t H locs ht hvm hw hB hz1 hk1 hS => ?_)
              have hW := Wd.back hB ht hF
              clear hB ht hF hz1 hk1 hvm
              exact t_Mod_readValue_173 hx hb hml hown hT hK hN hA hRc hRs hRf hRl hret hs_Mod_readGroup hs_Mod_readRow hs_Mod_readValue hDf hDl  l1 l2 v344 v349 r351 x354 H locs ls  hw hW hS (lv_sub hl [3, 4, 5, 2, 1, 0] rfl)
        · have hw := hw.2 c348
          refine lv_aload_n hx hb d_Mod_readValue_88 rfl (lv_at hl 1 rfl) ?_
          refine lv_ldc2 hx hb hown (hT _ w_11_95) d_Mod_readValue_89 ?_
          have hF := hW.free hS hA
          refine va_calli (va_runV (C := R_Mod) (As := [.long 1953658213]) (rest := []) ⟨hx, hb, hml, hown, hT⟩ (k_Mod_takesWord l dC dI cI cB cJ cZ ad H.size 1953658213 x342  hw) ⟨callB_of 1 hT (gwt_in w_10_222) rfl rfl rfl (hT _ w_1_15) (hT _ w_10_219) (by decide +kernel) ⟨Nat.le_trans (Nat.le_of_ble_eq_true rfl) hRf, Nat.le_trans (Nat.le_of_ble_eq_true rfl) hRl⟩, hT _ w_10_221, hT _ ws_109⟩ ⟨PW.blind, va_recv hK hW.1 (ci := 12) (q0 := 0) rfl (pic_obj ko_0.1 ko_0.2 (by decide)), PW.at _ hW hK hN⟩ rfl rfl hl.1 rfl (lv_room (Nat.le_of_ble_eq_true rfl)) d_Mod_readValue_92 ⟨hRc, hRs⟩) hS (fun q _ h => hF q h) hF (fun r356 x355 t H locs ht hvm hw hB hz1 hk1 hS => ?_)
          have hW := Wd.back hB ht hF
          clear hB ht hF hz1 hk1 hvm
          refine lv_istore (lv' := [(4, .int r356), (3, .int v344), (0, .ref (ad 0)), (1, .int l1), (2, .int l2)]) hx hb d_Mod_readValue_95 hl (by decide) rfl (fun ls hl => ?_)
          refine lv_iload hx hb d_Mod_readValue_97 (lv_at hl 0 rfl) ?_
          refine lv_if_ne (tgt := 120) hx hb d_Mod_readValue_99 (by decide) (fun c357 => ?_) (fun c357 => ?_)
          · have hw := hw.1 c357
            exact t_Mod_readValue_120 hx hb hml hown hT hK hN hA hRc hRs hRf hRl hret hs_Mod_readGroup hs_Mod_readRow hs_Mod_readValue hDf hDl  l1 l2 v344 r356 x355 H locs ls  hw hW hS (lv_sub hl [2, 3, 4, 1, 0] rfl)
          · have hw := hw.2 c357
            refine lv_aload_n hx hb d_Mod_readValue_102 rfl (lv_at hl 2 rfl) ?_
            refine lv_ldc2 hx hb hown (hT _ w_11_96) d_Mod_readValue_103 ?_
            have hF := hW.free hS hA
            refine va_calli (va_runV (C := R_Mod) (As := [.long 439721161573]) (rest := []) ⟨hx, hb, hml, hown, hT⟩ (k_Mod_takesWord l dC dI cI cB cJ cZ ad H.size 439721161573 x355  hw) ⟨callB_of 1 hT (gwt_in w_10_222) rfl rfl rfl (hT _ w_1_15) (hT _ w_10_219) (by decide +kernel) ⟨Nat.le_trans (Nat.le_of_ble_eq_true rfl) hRf, Nat.le_trans (Nat.le_of_ble_eq_true rfl) hRl⟩, hT _ w_10_221, hT _ ws_109⟩ ⟨PW.blind, va_recv hK hW.1 (ci := 12) (q0 := 0) rfl (pic_obj ko_0.1 ko_0.2 (by decide)), PW.at _ hW hK hN⟩ rfl rfl hl.1 rfl (lv_room (Nat.le_of_ble_eq_true rfl)) d_Mod_readValue_106 ⟨hRc, hRs⟩) hS (fun q _ h => hF q h) hF (fun r359 x358 t H locs ht hvm hw hB hz1 hk1 hS => ?_)
            have hW := Wd.back hB ht hF
            clear hB ht hF hz1 hk1 hvm
            refine lv_if_ne (tgt := 120) hx hb d_Mod_readValue_109 (by decide) (fun c360 => ?_) (fun c360 => ?_)
            · have hw := hw.1 c360
              exact t_Mod_readValue_120 hx hb hml hown hT hK hN hA hRc hRs hRf hRl hret hs_Mod_readGroup hs_Mod_readRow hs_Mod_readValue hDf hDl  l1 l2 v344 r356 x358 H locs ls  hw hW hS (lv_sub hl [2, 3, 4, 1, 0] rfl)
            · have hw := hw.2 c360
              refine lv_aload_n hx hb d_Mod_readValue_112 rfl (lv_at hl 2 rfl) ?_
              refine lv_aload_n hx hb d_Mod_readValue_113 rfl (lv_at hl 2 rfl) ?_
              refine w_geti (k := 16) (t := 12) (C := R_Mod) (T := F_Mod) (N := 167) hx hb hT hown hK hW ko_0.1 ko_0.2 (by decide) in_Mod rfl rfl (by decide) rfl fr_Mod_16 w_8_192 d_Mod_readValue_114 ?_
              have hF := hW.free hS hA
              refine va_callv (va_runV (C := R_Mod) (As := [.int (fI x358 0 16)]) (rest := []) ⟨hx, hb, hml, hown, hT⟩ (k_Mod_fail l dC dI cI cB cJ cZ ad H.size (fI x358 0 16) x358  hw) ⟨callB_of 1 hT (gwt_in w_11_14) rfl rfl rfl (hT _ w_1_15) (hT _ w_11_11) (by decide +kernel) ⟨Nat.le_trans (Nat.le_of_ble_eq_true rfl) hRf, Nat.le_trans (Nat.le_of_ble_eq_true rfl) hRl⟩, hT _ w_11_13, hT _ ws_115⟩ ⟨PW.blind, va_recv hK hW.1 (ci := 12) (q0 := 0) rfl (pic_obj ko_0.1 ko_0.2 (by decide)), PW.at _ hW hK hN⟩ rfl rfl hl.1 rfl (lv_room (Nat.le_of_ble_eq_true rfl)) d_Mod_readValue_117 ⟨hRc, hRs⟩) hS (fun q _ h => hF q h) hF (fun  x361 t H locs ht hvm hw hB hz1 hk1 hS => ?_)
              have hW := Wd.back hB ht hF
              clear hB ht hF hz1 hk1 hvm
              exact t_Mod_readValue_120 hx hb hml hown hT hK hN hA hRc hRs hRf hRl hret hs_Mod_readGroup hs_Mod_readRow hs_Mod_readValue hDf hDl  l1 l2 v344 r356 x361 H locs ls  hw hW hS (lv_sub hl [2, 3, 4, 1, 0] rfl)
      · have hw := hw.2 c347
        refine lv_aload_n hx hb d_Mod_readValue_49 rfl (lv_at hl 1 rfl) ?_
        refine lv_iload_n hx hb d_Mod_readValue_50 rfl (lv_at hl 2 rfl) ?_
        refine lv_iload_n hx hb d_Mod_readValue_51 rfl (lv_at hl 3 rfl) ?_
        refine lv_lconst (v := 0) hx hb d_Mod_readValue_52 (by decide) ?_
        have hF := hW.free hS hA
        refine va_calli (va_runV (C := R_Mod) (As := [.int l1, .int l2, .long 0]) (rest := []) ⟨hx, hb, hml, hown, hT⟩ (k_Mod_node l dC dI cI cB cJ cZ ad H.size l1 l2 0 x342  hw) ⟨callB_of 3 hT (gwt_in w_11_82) rfl rfl rfl (hT _ w_1_15) (hT _ w_11_79) (by decide +kernel) ⟨Nat.le_trans (Nat.le_of_ble_eq_true rfl) hRf, Nat.le_trans (Nat.le_of_ble_eq_true rfl) hRl⟩, hT _ w_11_81, hT _ ws_129⟩ ⟨PW.blind, va_recv hK hW.1 (ci := 12) (q0 := 0) rfl (pic_obj ko_0.1 ko_0.2 (by decide)), PW.at _ hW hK hN⟩ rfl rfl hl.1 rfl (lv_room (Nat.le_of_ble_eq_true rfl)) d_Mod_readValue_53 ⟨hRc, hRs⟩) hS (fun q _ h => hF q h) hF (fun r363 x362 t H locs ht hvm hw hB hz1 hk1 hS => ?_)
        have hW := Wd.back hB ht hF
        clear hB ht hF hz1 hk1 hvm
        refine lv_istore (lv' := [(4, .int r363), (3, .int v344), (0, .ref (ad 0)), (1, .int l1), (2, .int l2)]) hx hb d_Mod_readValue_56 hl (by decide) rfl (fun ls hl => ?_)
        refine lv_aload_n hx hb d_Mod_readValue_58 rfl (lv_at hl 2 rfl) ?_
        have hF := hW.free hS hA
        refine va_callv (va_runV (C := R_Mod) (As := []) (rest := []) ⟨hx, hb, hml, hown, hT⟩ (k_Mod_readText l dC dI cI cB cJ cZ ad H.size  x362  hw) ⟨callB_of 0 hT (gwt_in w_11_86) rfl rfl rfl (hT _ w_1_15) (hT _ w_11_83) (by decide +kernel) ⟨Nat.le_trans (Nat.le_of_ble_eq_true rfl) hRf, Nat.le_trans (Nat.le_of_ble_eq_true rfl) hRl⟩, hT _ w_11_85, hT _ ws_130⟩ ⟨PW.blind, va_recv hK hW.1 (ci := 12) (q0 := 0) rfl (pic_obj ko_0.1 ko_0.2 (by decide)), PW.at _ hW hK hN⟩ rfl rfl hl.1 rfl (lv_room (Nat.le_of_ble_eq_true rfl)) d_Mod_readValue_59 ⟨hRc, hRs⟩) hS (fun q _ h => hF q h) hF (fun  x364 t H locs ht hvm hw hB hz1 hk1 hS => ?_)
        have hW := Wd.back hB ht hF
        clear hB ht hF hz1 hk1 hvm
        refine lv_aload_n hx hb d_Mod_readValue_62 rfl (lv_at hl 2 rfl) ?_
        refine w_getf (q := 15) (k := 21) (t := 12) (C := R_Mod) (T := F_Mod) (N := 167) hx hb hT hown hK hW ko_0.1 ko_0.2 (by decide) in_Mod rfl rfl (by decide) rfl fr_Mod_21 w_8_197 d_Mod_readValue_63 rfl ?_
        refine lv_iload hx hb d_Mod_readValue_66 (lv_at hl 0 rfl) ?_
        refine lv_aload_n hx hb d_Mod_readValue_68 rfl (lv_at hl 2 rfl) ?_
        refine w_geti (k := 25) (t := 12) (C := R_Mod) (T := F_Mod) (N := 167) hx hb hT hown hK hW ko_0.1 ko_0.2 (by decide) in_Mod rfl rfl (by decide) rfl fr_Mod_25 w_8_201 d_Mod_readValue_69 ?_
        refine lv_aload_n hx hb d_Mod_readValue_72 rfl (lv_at hl 2 rfl) ?_
        refine w_getf (q := 14) (k := 20) (t := 12) (C := R_Mod) (T := F_Mod) (N := 167) hx hb hT hown hK hW ko_0.1 ko_0.2 (by decide) in_Mod rfl rfl (by decide) rfl fr_Mod_20 w_8_196 d_Mod_readValue_73 rfl ?_
        refine lv_iload hx hb d_Mod_readValue_76 (lv_at hl 0 rfl) ?_
        obtain ⟨hi, hw⟩ := hw
        refine w_iald (o := 14) hx hb hK hW ko_14.1 ko_14.2 hi d_Mod_readValue_78 ?_
        refine lv_isub hx hb d_Mod_readValue_79 ?_
        obtain ⟨hi, hw⟩ := hw
        refine w_iast (o := 15) hx hb hK hW hS ko_15.1 ko_15.2 hi d_Mod_readValue_80 (fun H locs hW hS => ?_)
        obtain ⟨x365, ex365⟩ : ∃ y : St, y = setA x364 15 r363 ((fI x364 0 25) - (rA x364 14 r363)) := ⟨_, rfl⟩
        rw [← ex365] at hW
        have hw := hw x365 ex365
        refine lv_goto (tgt := 182) hx hb d_Mod_readValue_81 (by decide) ?_
        exact hret x365 H locs 182 ls d_Mod_readValue_182 hw hW hS
    · have hw := hw.2 c346
      refine lv_aload_n hx hb d_Mod_readValue_29 rfl (lv_at hl 1 rfl) ?_
      refine lv_aload_n hx hb d_Mod_readValue_30 rfl (lv_at hl 1 rfl) ?_
      refine lv_iload_n hx hb d_Mod_readValue_31 rfl (lv_at hl 2 rfl) ?_
      refine lv_iload_n hx hb d_Mod_readValue_32 rfl (lv_at hl 3 rfl) ?_
      refine lv_lconst (v := 0) hx hb d_Mod_readValue_33 (by decide) ?_
      have hF := hW.free hS hA
      refine va_calli (va_runV (C := R_Mod) (As := [.int l1, .int l2, .long 0]) (rest := [.ref (ad 0)]) ⟨hx, hb, hml, hown, hT⟩ (k_Mod_node l dC dI cI cB cJ cZ ad H.size l1 l2 0 x342  hw) ⟨callB_of 3 hT (gwt_in w_11_82) rfl rfl rfl (hT _ w_1_15) (hT _ w_11_79) (by decide +kernel) ⟨Nat.le_trans (Nat.le_of_ble_eq_true rfl) hRf, Nat.le_trans (Nat.le_of_ble_eq_true rfl) hRl⟩, hT _ w_11_81, hT _ ws_129⟩ ⟨PW.blind, va_recv hK hW.1 (ci := 12) (q0 := 0) rfl (pic_obj ko_0.1 ko_0.2 (by decide)), PW.at _ hW hK hN⟩ rfl rfl hl.1 rfl (lv_room (Nat.le_of_ble_eq_true rfl)) d_Mod_readValue_34 ⟨hRc, hRs⟩) hS (fun q _ h => hF q h) hF (fun r367 x366 t H locs ht hvm hw hB hz1 hk1 hS => ?_)
      have hW := Wd.back hB ht hF
      clear hB ht hF hz1 hk1 hvm
      refine lv_iload_n hx hb d_Mod_readValue_37 rfl (lv_at hl 3 rfl) ?_
      have hF := hW.free hS hA
      refine va_callv (va_runV (C := R_Mod) (As := [.int r367, .int l2]) (rest := []) ⟨hx, hb, hml, hown, hT⟩ (hs_Mod_readGroup H.size r367 l2 x366  _ hw) ⟨callB_of 2 hT (gwt_in w_11_62) rfl rfl rfl (hT _ w_1_15) (hT _ w_11_59) (by decide +kernel) ⟨hDf, Nat.le_trans (Nat.add_le_add_right (by decide) _) hDl⟩, hT _ w_11_61, hT _ ws_124⟩ ⟨PW.blind, va_recv hK hW.1 (ci := 12) (q0 := 0) rfl (pic_obj ko_0.1 ko_0.2 (by decide)), PW.at _ hW hK hN⟩ rfl rfl hl.1 rfl (lv_room (Nat.le_of_ble_eq_true rfl)) d_Mod_readValue_38 ⟨hRc, hRs⟩) hS (fun q _ h => hF q h) hF (fun  x368 t H locs ht hvm hw hB hz1 hk1 hS => ?_)
      have hW := Wd.back hB ht hF
      clear hB ht hF hz1 hk1 hvm
      refine lv_goto (tgt := 182) hx hb d_Mod_readValue_41 (by decide) ?_
      exact hret x368 H locs 182 ls d_Mod_readValue_182 hw hW hS
  · have hw := hw.2 c345
    exact hret x342 H locs 23 ls d_Mod_readValue_23 hw hW hS
set_option maxHeartbeats 4000000 in
set_option maxRecDepth 100000 in
theorem kr_Mod_readGroup (l : Launch) (dC : Nat → ClassId) (dI : Nat → Nat → Nat) (cI cB cJ cZ : ClassId) (ad : Nat → Nat) : ∀ d : Nat, (∀ (sz : Nat) (l1 : Int32) (l2 : Int32) (x : St), ∀ (post : St → Prop), ((wr_Mod_readGroup d)).1 post l1 l2 x → Met l y_Mod_readGroup (wsOf y_Mod_readGroup b_Mod_readGroup 7 (none)) ({ frames := 5 + d, cells := 0, slots := 0, locals := 111 + d * 26 }) (va_Pc [.ref (ad 0), .int l1, .int l2] (PW dC dI cI cB cJ cZ ad stM kcM 115 sz x)) (va_Qv (fun (y : St) => post y) (fun y t => Wd dC dI cI cB cJ cZ ad stM kcM 115 (va_A (pic ad stM kcM 115 cI cB cJ cZ x) sz) y t.heap) (va_A (pic ad stM kcM 115 cI cB cJ cZ x) sz)) 0 0 (va_A (pic ad stM kcM 115 cI cB cJ cZ x) sz)) ∧ (∀ (sz : Nat) (l1 : Int32) (l2 : Int32) (x : St), ∀ (post : St → Prop), ((wr_Mod_readGroup d)).2.1 post l1 l2 x → Met l y_Mod_readRow (wsOf y_Mod_readRow b_Mod_readRow 3 (none)) ({ frames := 5 + d, cells := 0, slots := 0, locals := 111 + d * 26 }) (va_Pc [.ref (ad 0), .int l1, .int l2] (PW dC dI cI cB cJ cZ ad stM kcM 115 sz x)) (va_Qv (fun (y : St) => post y) (fun y t => Wd dC dI cI cB cJ cZ ad stM kcM 115 (va_A (pic ad stM kcM 115 cI cB cJ cZ x) sz) y t.heap) (va_A (pic ad stM kcM 115 cI cB cJ cZ x) sz)) 0 0 (va_A (pic ad stM kcM 115 cI cB cJ cZ x) sz)) ∧ (∀ (sz : Nat) (l1 : Int32) (l2 : Int32) (x : St), ∀ (post : St → Prop), ((wr_Mod_readGroup d)).2.2 post l1 l2 x → Met l y_Mod_readValue (wsOf y_Mod_readValue b_Mod_readValue 7 (none)) ({ frames := 5 + d, cells := 0, slots := 0, locals := 111 + d * 26 }) (va_Pc [.ref (ad 0), .int l1, .int l2] (PW dC dI cI cB cJ cZ ad stM kcM 115 sz x)) (va_Qv (fun (y : St) => post y) (fun y t => Wd dC dI cI cB cJ cZ ad stM kcM 115 (va_A (pic ad stM kcM 115 cI cB cJ cZ x) sz) y t.heap) (va_A (pic ad stM kcM 115 cI cB cJ cZ x) sz)) 0 0 (va_A (pic ad stM kcM 115 cI cB cJ cZ x) sz)) := by
  intro d
  induction d with
  | zero =>
    exact ⟨fun sz l1 l2 x  post hw => hw.elim, fun sz l1 l2 x  post hw => hw.elim, fun sz l1 l2 x  post hw => hw.elim⟩
  | succ d ih =>
    refine ⟨?_, ?_, ?_⟩
    · intro sz l1 l2 x  post hw
      have hw : wb_Mod_readGroup post ((wr_Mod_readGroup d)).1 ((wr_Mod_readGroup d)).2.1 ((wr_Mod_readGroup d)).2.2 l1 l2 x := hw
      refine Met.ofW (cc := b_Mod_readGroup) (maxL := 7) (ret := none) (by decide) rfl ?_
      intro p e s m args below meth c s₁ B hml hv
      obtain ⟨rfl, hsz, hW0, hK, hN⟩ := hv
      have hx := B.exec
      have hb := B.bytes
      have hr := B.returns
      have hts := atoms_spec B.pre
      have hT : ∀ w ∈ TG, w.before _ s = true := fun w h => hts w (List.mem_cons_of_mem _ h)
      have hown : s.vm.findClass R_Mod = some m.cls := findClass_of_methodNamed B.named
      have hlocks := B.notSynchronized
      subst hsz
      have hW : Wd dC dI cI cB cJ cZ ad stM kcM 115 (va_A (pic ad stM kcM 115 cI cB cJ cZ x) s.heap.size) x s.heap := ⟨hW0.1, hW0.2.1.self (sz := s.heap.size), hW0.2.2⟩
      generalize hAe : va_A (pic ad stM kcM 115 cI cB cJ cZ x) s.heap.size = A at hW ⊢
      have hA : ∀ q : Nat, s.heap.size ≤ q → A q := fun q h => by rw [← hAe]; exact Or.inr h
      have hS : va_S A s.heap s.heap [] := va_S.rf
      have hl := lv_entry ([.ref (ad 0), .int l1, .int l2]) (n := 7) (Nat.le_of_ble_eq_true rfl)
      rw [lg_entry_eq]
      generalize (lg_sl ([.ref (ad 0), .int l1, .int l2]) ++ List.replicate (7 - (lg_sl ([.ref (ad 0), .int l1, .int l2])).length) Slot.unset).toArray = ls at hl ⊢
      have hl : lv_has ls 7 [(0, .ref (ad 0)), (1, .int l1), (2, .int l2)] := hl
      exact t_Mod_readGroup_e hx hb hml hown hT hK hN hA (Nat.le_refl 0) (Nat.le_refl 0) (Nat.le_add_right 5 (d + 1)) (Nat.le_add_right 111 ((d + 1) * 26)) (fun x H locs pc ls hd hp hW hS => W.vret hx hb hr (fun t ht hM => ⟨⟨x, rfl, hp, Wd.back hW ht.symm (fun _ z => z)⟩, hS.F ht⟩) hS.2.2 hd hlocks) (ih).1 (ih).2.1 (ih).2.2 (Nat.le_of_eq (Nat.add_assoc 5 d 1)) (by show 26 + (111 + d * 26) ≤ 111 + (d + 1) * 26; omega) l1 l2 x _ _ ls  hw hW hS hl
    · intro sz l1 l2 x  post hw
      have hw : wb_Mod_readRow post ((wr_Mod_readGroup d)).1 ((wr_Mod_readGroup d)).2.1 ((wr_Mod_readGroup d)).2.2 l1 l2 x := hw
      refine Met.ofW (cc := b_Mod_readRow) (maxL := 3) (ret := none) (by decide) rfl ?_
      intro p e s m args below meth c s₁ B hml hv
      obtain ⟨rfl, hsz, hW0, hK, hN⟩ := hv
      have hx := B.exec
      have hb := B.bytes
      have hr := B.returns
      have hts := atoms_spec B.pre
      have hT : ∀ w ∈ TG, w.before _ s = true := fun w h => hts w (List.mem_cons_of_mem _ h)
      have hown : s.vm.findClass R_Mod = some m.cls := findClass_of_methodNamed B.named
      have hlocks := B.notSynchronized
      subst hsz
      have hW : Wd dC dI cI cB cJ cZ ad stM kcM 115 (va_A (pic ad stM kcM 115 cI cB cJ cZ x) s.heap.size) x s.heap := ⟨hW0.1, hW0.2.1.self (sz := s.heap.size), hW0.2.2⟩
      generalize hAe : va_A (pic ad stM kcM 115 cI cB cJ cZ x) s.heap.size = A at hW ⊢
      have hA : ∀ q : Nat, s.heap.size ≤ q → A q := fun q h => by rw [← hAe]; exact Or.inr h
      have hS : va_S A s.heap s.heap [] := va_S.rf
      have hl := lv_entry ([.ref (ad 0), .int l1, .int l2]) (n := 3) (Nat.le_of_ble_eq_true rfl)
      rw [lg_entry_eq]
      generalize (lg_sl ([.ref (ad 0), .int l1, .int l2]) ++ List.replicate (3 - (lg_sl ([.ref (ad 0), .int l1, .int l2])).length) Slot.unset).toArray = ls at hl ⊢
      have hl : lv_has ls 3 [(0, .ref (ad 0)), (1, .int l1), (2, .int l2)] := hl
      exact t_Mod_readRow_e hx hb hml hown hT hK hN hA (Nat.le_refl 0) (Nat.le_refl 0) (Nat.le_add_right 5 (d + 1)) (Nat.le_add_right 111 ((d + 1) * 26)) (fun x H locs pc ls hd hp hW hS => W.vret hx hb hr (fun t ht hM => ⟨⟨x, rfl, hp, Wd.back hW ht.symm (fun _ z => z)⟩, hS.F ht⟩) hS.2.2 hd hlocks) (ih).1 (ih).2.1 (ih).2.2 (Nat.le_of_eq (Nat.add_assoc 5 d 1)) (by show 26 + (111 + d * 26) ≤ 111 + (d + 1) * 26; omega) l1 l2 x _ _ ls  hw hW hS hl
    · intro sz l1 l2 x  post hw
      have hw : wb_Mod_readValue post ((wr_Mod_readGroup d)).1 ((wr_Mod_readGroup d)).2.1 ((wr_Mod_readGroup d)).2.2 l1 l2 x := hw
      refine Met.ofW (cc := b_Mod_readValue) (maxL := 7) (ret := none) (by decide) rfl ?_
      intro p e s m args below meth c s₁ B hml hv
      obtain ⟨rfl, hsz, hW0, hK, hN⟩ := hv
      have hx := B.exec
      have hb := B.bytes
      have hr := B.returns
      have hts := atoms_spec B.pre
      have hT : ∀ w ∈ TG, w.before _ s = true := fun w h => hts w (List.mem_cons_of_mem _ h)
      have hown : s.vm.findClass R_Mod = some m.cls := findClass_of_methodNamed B.named
      have hlocks := B.notSynchronized
      subst hsz
      have hW : Wd dC dI cI cB cJ cZ ad stM kcM 115 (va_A (pic ad stM kcM 115 cI cB cJ cZ x) s.heap.size) x s.heap := ⟨hW0.1, hW0.2.1.self (sz := s.heap.size), hW0.2.2⟩
      generalize hAe : va_A (pic ad stM kcM 115 cI cB cJ cZ x) s.heap.size = A at hW ⊢
      have hA : ∀ q : Nat, s.heap.size ≤ q → A q := fun q h => by rw [← hAe]; exact Or.inr h
      have hS : va_S A s.heap s.heap [] := va_S.rf
      have hl := lv_entry ([.ref (ad 0), .int l1, .int l2]) (n := 7) (Nat.le_of_ble_eq_true rfl)
      rw [lg_entry_eq]
      generalize (lg_sl ([.ref (ad 0), .int l1, .int l2]) ++ List.replicate (7 - (lg_sl ([.ref (ad 0), .int l1, .int l2])).length) Slot.unset).toArray = ls at hl ⊢
      have hl : lv_has ls 7 [(0, .ref (ad 0)), (1, .int l1), (2, .int l2)] := hl
      exact t_Mod_readValue_e hx hb hml hown hT hK hN hA (Nat.le_refl 0) (Nat.le_refl 0) (Nat.le_add_right 5 (d + 1)) (Nat.le_add_right 111 ((d + 1) * 26)) (fun x H locs pc ls hd hp hW hS => W.vret hx hb hr (fun t ht hM => ⟨⟨x, rfl, hp, Wd.back hW ht.symm (fun _ z => z)⟩, hS.F ht⟩) hS.2.2 hd hlocks) (ih).1 (ih).2.1 (ih).2.2 (Nat.le_of_eq (Nat.add_assoc 5 d 1)) (by show 26 + (111 + d * 26) ≤ 111 + (d + 1) * 26; omega) l1 l2 x _ _ ls  hw hW hS hl

theorem k_Mod_readGroup (l : Launch) (dC : Nat → ClassId) (dI : Nat → Nat → Nat) (cI cB cJ cZ : ClassId) (ad : Nat → Nat) (sz : Nat) (l1 : Int32) (l2 : Int32) (x : St) {post : St → Prop} (hw : wp_Mod_readGroup post l1 l2 x) : Met l y_Mod_readGroup (wsOf y_Mod_readGroup b_Mod_readGroup 7 (none)) ({ frames := 205, cells := 0, slots := 0, locals := 5311 }) (va_Pc [.ref (ad 0), .int l1, .int l2] (PW dC dI cI cB cJ cZ ad stM kcM 115 sz x)) (va_Qv (fun (y : St) => post y) (fun y t => Wd dC dI cI cB cJ cZ ad stM kcM 115 (va_A (pic ad stM kcM 115 cI cB cJ cZ x) sz) y t.heap) (va_A (pic ad stM kcM 115 cI cB cJ cZ x) sz)) 0 0 (va_A (pic ad stM kcM 115 cI cB cJ cZ x) sz) := ((kr_Mod_readGroup l dC dI cI cB cJ cZ ad 200)).1 sz l1 l2 x  post hw
theorem k_Mod_readRow (l : Launch) (dC : Nat → ClassId) (dI : Nat → Nat → Nat) (cI cB cJ cZ : ClassId) (ad : Nat → Nat) (sz : Nat) (l1 : Int32) (l2 : Int32) (x : St) {post : St → Prop} (hw : wp_Mod_readRow post l1 l2 x) : Met l y_Mod_readRow (wsOf y_Mod_readRow b_Mod_readRow 3 (none)) ({ frames := 205, cells := 0, slots := 0, locals := 5311 }) (va_Pc [.ref (ad 0), .int l1, .int l2] (PW dC dI cI cB cJ cZ ad stM kcM 115 sz x)) (va_Qv (fun (y : St) => post y) (fun y t => Wd dC dI cI cB cJ cZ ad stM kcM 115 (va_A (pic ad stM kcM 115 cI cB cJ cZ x) sz) y t.heap) (va_A (pic ad stM kcM 115 cI cB cJ cZ x) sz)) 0 0 (va_A (pic ad stM kcM 115 cI cB cJ cZ x) sz) := ((kr_Mod_readGroup l dC dI cI cB cJ cZ ad 200)).2.1 sz l1 l2 x  post hw
theorem k_Mod_readValue (l : Launch) (dC : Nat → ClassId) (dI : Nat → Nat → Nat) (cI cB cJ cZ : ClassId) (ad : Nat → Nat) (sz : Nat) (l1 : Int32) (l2 : Int32) (x : St) {post : St → Prop} (hw : wp_Mod_readValue post l1 l2 x) : Met l y_Mod_readValue (wsOf y_Mod_readValue b_Mod_readValue 7 (none)) ({ frames := 205, cells := 0, slots := 0, locals := 5311 }) (va_Pc [.ref (ad 0), .int l1, .int l2] (PW dC dI cI cB cJ cZ ad stM kcM 115 sz x)) (va_Qv (fun (y : St) => post y) (fun y t => Wd dC dI cI cB cJ cZ ad stM kcM 115 (va_A (pic ad stM kcM 115 cI cB cJ cZ x) sz) y t.heap) (va_A (pic ad stM kcM 115 cI cB cJ cZ x) sz)) 0 0 (va_A (pic ad stM kcM 115 cI cB cJ cZ x) sz) := ((kr_Mod_readGroup l dC dI cI cB cJ cZ ad 200)).2.2 sz l1 l2 x  post hw
end
