theorem fr_Mod_117 : F_Mod 117 = (R_Mod, "kept", "I", false) := rfl
theorem fr_Mod_119 : F_Mod 119 = (R_Mod, "last", "I", false) := rfl
theorem w_13_118 : (Jvm.Cond.methodLink "StripedVaultModel" (1068 : Nat) ({ cls := "StripedVaultModel", name := "readItem", desc := "()V" } : Jvm.MethodName)) ∈ TG := tw_13 118 (by decide +kernel) (by decide +kernel)
theorem w_13_120 : (Jvm.Cond.instanceMethod ({ cls := "StripedVaultModel", name := "readItem", desc := "()V" } : Jvm.MethodName)) ∈ TG := tw_13 120 (by decide +kernel) (by decide +kernel)
theorem w_13_121 : (Jvm.Cond.code ({ cls := "StripedVaultModel", name := "readItem", desc := "()V" } : Jvm.MethodName) prog_14_method_162_code (6 : Nat) (Option.none : Option Jvm.ClassFile.FieldType)) ∈ TG := tw_13 121 (by decide +kernel) (by decide +kernel)
theorem w_13_152 : (Jvm.Cond.methodLink "StripedVaultModel" (1071 : Nat) ({ cls := "StripedVaultModel", name := "readCondition", desc := "()V" } : Jvm.MethodName)) ∈ TG := tw_13 152 (by decide +kernel) (by decide +kernel)
theorem w_13_154 : (Jvm.Cond.instanceMethod ({ cls := "StripedVaultModel", name := "readCondition", desc := "()V" } : Jvm.MethodName)) ∈ TG := tw_13 154 (by decide +kernel) (by decide +kernel)
theorem w_13_155 : (Jvm.Cond.code ({ cls := "StripedVaultModel", name := "readCondition", desc := "()V" } : Jvm.MethodName) prog_14_method_169_code (1 : Nat) (Option.none : Option Jvm.ClassFile.FieldType)) ∈ TG := tw_13 155 (by decide +kernel) (by decide +kernel)
theorem w_13_156 : (Jvm.Cond.methodLink "StripedVaultModel" (1050 : Nat) ({ cls := "StripedVaultModel", name := "readTest", desc := "()V" } : Jvm.MethodName)) ∈ TG := tw_13 156 (by decide +kernel) (by decide +kernel)
theorem w_13_158 : (Jvm.Cond.instanceMethod ({ cls := "StripedVaultModel", name := "readTest", desc := "()V" } : Jvm.MethodName)) ∈ TG := tw_13 158 (by decide +kernel) (by decide +kernel)
theorem w_13_159 : (Jvm.Cond.code ({ cls := "StripedVaultModel", name := "readTest", desc := "()V" } : Jvm.MethodName) prog_14_method_168_code (3 : Nat) (Option.none : Option Jvm.ClassFile.FieldType)) ∈ TG := tw_13 159 (by decide +kernel) (by decide +kernel)
theorem w_13_180 : (Jvm.Cond.methodLink "StripedVaultModel" (1053 : Nat) ({ cls := "StripedVaultModel", name := "joins", desc := "(I)V" } : Jvm.MethodName)) ∈ TG := tw_13 180 (by decide +kernel) (by decide +kernel)
theorem w_13_182 : (Jvm.Cond.instanceMethod ({ cls := "StripedVaultModel", name := "joins", desc := "(I)V" } : Jvm.MethodName)) ∈ TG := tw_13 182 (by decide +kernel) (by decide +kernel)
theorem w_13_183 : (Jvm.Cond.code ({ cls := "StripedVaultModel", name := "joins", desc := "(I)V" } : Jvm.MethodName) prog_14_method_167_code (2 : Nat) (Option.none : Option Jvm.ClassFile.FieldType)) ∈ TG := tw_13 183 (by decide +kernel) (by decide +kernel)
theorem w_13_184 : (Jvm.Cond.methodLink "StripedVaultModel" (1074 : Nat) ({ cls := "StripedVaultModel", name := "readBy", desc := "()V" } : Jvm.MethodName)) ∈ TG := tw_13 184 (by decide +kernel) (by decide +kernel)
theorem w_13_186 : (Jvm.Cond.instanceMethod ({ cls := "StripedVaultModel", name := "readBy", desc := "()V" } : Jvm.MethodName)) ∈ TG := tw_13 186 (by decide +kernel) (by decide +kernel)
theorem w_13_187 : (Jvm.Cond.code ({ cls := "StripedVaultModel", name := "readBy", desc := "()V" } : Jvm.MethodName) prog_14_method_164_code (3 : Nat) (Option.none : Option Jvm.ClassFile.FieldType)) ∈ TG := tw_13 187 (by decide +kernel) (by decide +kernel)
theorem w_13_188 : (Jvm.Cond.methodLink "StripedVaultModel" (1031 : Nat) ({ cls := "StripedVaultModel", name := "isBy", desc := "(I)Z" } : Jvm.MethodName)) ∈ TG := tw_13 188 (by decide +kernel) (by decide +kernel)
theorem w_13_190 : (Jvm.Cond.instanceMethod ({ cls := "StripedVaultModel", name := "isBy", desc := "(I)Z" } : Jvm.MethodName)) ∈ TG := tw_13 190 (by decide +kernel) (by decide +kernel)
theorem w_13_191 : (Jvm.Cond.code ({ cls := "StripedVaultModel", name := "isBy", desc := "(I)Z" } : Jvm.MethodName) prog_14_method_163_code (4 : Nat) (Option.some Jvm.ClassFile.FieldType.boolean)) ∈ TG := tw_13 191 (by decide +kernel) (by decide +kernel)
theorem w_13_192 : (Jvm.Cond.methodLink "StripedVaultModel" (1077 : Nat) ({ cls := "StripedVaultModel", name := "collects", desc := "(I)Z" } : Jvm.MethodName)) ∈ TG := tw_13 192 (by decide +kernel) (by decide +kernel)
theorem w_13_194 : (Jvm.Cond.instanceMethod ({ cls := "StripedVaultModel", name := "collects", desc := "(I)Z" } : Jvm.MethodName)) ∈ TG := tw_13 194 (by decide +kernel) (by decide +kernel)
theorem w_13_195 : (Jvm.Cond.code ({ cls := "StripedVaultModel", name := "collects", desc := "(I)Z" } : Jvm.MethodName) prog_14_method_173_code (4 : Nat) (Option.some Jvm.ClassFile.FieldType.boolean)) ∈ TG := tw_13 195 (by decide +kernel) (by decide +kernel)
theorem w_9_53 : (Jvm.Cond.fieldLink "StripedVaultModel" (1062 : Nat) "StripedVaultModel" "kept" "I") ∈ TG := tw_9 53 (by decide +kernel) (by decide +kernel)
theorem w_9_55 : (Jvm.Cond.fieldLink "StripedVaultModel" (1065 : Nat) "StripedVaultModel" "last" "I") ∈ TG := tw_9 55 (by decide +kernel) (by decide +kernel)
theorem ws_237 : Cond.selects R_Mod y_Mod_readItem y_Mod_readItem ∈ TG := tw_s 237 (by decide +kernel) (by decide +kernel)
theorem ws_241 : Cond.selects R_Mod y_Mod_readCondition y_Mod_readCondition ∈ TG := tw_s 241 (by decide +kernel) (by decide +kernel)
theorem ws_242 : Cond.selects R_Mod y_Mod_readTest y_Mod_readTest ∈ TG := tw_s 242 (by decide +kernel) (by decide +kernel)
theorem ws_248 : Cond.selects R_Mod y_Mod_joins y_Mod_joins ∈ TG := tw_s 248 (by decide +kernel) (by decide +kernel)
theorem ws_249 : Cond.selects R_Mod y_Mod_readBy y_Mod_readBy ∈ TG := tw_s 249 (by decide +kernel) (by decide +kernel)
theorem ws_250 : Cond.selects R_Mod y_Mod_isBy y_Mod_isBy ∈ TG := tw_s 250 (by decide +kernel) (by decide +kernel)
theorem ws_251 : Cond.selects R_Mod y_Mod_collects y_Mod_collects ∈ TG := tw_s 251 (by decide +kernel) (by decide +kernel)
theorem d_Mod_joins_55 : decode b_Mod_joins 55 = .ok (.isub, 1) := by decide +kernel
theorem d_Mod_joins_56 : decode b_Mod_joins 56 = .ok (.putfield 1037, 3) := by decide +kernel
theorem d_Mod_joins_59 : decode b_Mod_joins 59 = .ok (.aload_n 0, 1) := by decide +kernel
theorem d_Mod_joins_60 : decode b_Mod_joins 60 = .ok (.aload_n 0, 1) := by decide +kernel
theorem d_Mod_joins_61 : decode b_Mod_joins 61 = .ok (.getfield 300, 3) := by decide +kernel
theorem d_Mod_joins_64 : decode b_Mod_joins 64 = .ok (.aload_n 0, 1) := by decide +kernel
theorem d_Mod_joins_65 : decode b_Mod_joins 65 = .ok (.getfield 1034, 3) := by decide +kernel
theorem d_Mod_joins_68 : decode b_Mod_joins 68 = .ok (.iaload, 1) := by decide +kernel
theorem d_Mod_joins_69 : decode b_Mod_joins 69 = .ok (.iload_n 1, 1) := by decide +kernel
theorem d_Mod_joins_70 : decode b_Mod_joins 70 = .ok (.iconst 4, 1) := by decide +kernel
theorem d_Mod_joins_71 : decode b_Mod_joins 71 = .ok (.iadd, 1) := by decide +kernel
theorem d_Mod_joins_72 : decode b_Mod_joins 72 = .ok (.iconst (-1), 1) := by decide +kernel
theorem d_Mod_joins_73 : decode b_Mod_joins 73 = .ok (.iconst (-1), 1) := by decide +kernel
theorem d_Mod_joins_74 : decode b_Mod_joins 74 = .ok (.iconst (-1), 1) := by decide +kernel
theorem d_Mod_joins_75 : decode b_Mod_joins 75 = .ok (.iconst 0, 1) := by decide +kernel
theorem d_Mod_joins_76 : decode b_Mod_joins 76 = .ok (.invokevirtual 1040, 3) := by decide +kernel
theorem d_Mod_joins_79 : decode b_Mod_joins 79 = .ok (.goto (-79), 3) := by decide +kernel
theorem d_Mod_joins_0 : decode b_Mod_joins 0 = .ok (.aload_n 0, 1) := by decide +kernel
theorem d_Mod_joins_1 : decode b_Mod_joins 1 = .ok (.getfield 1034, 3) := by decide +kernel
theorem d_Mod_joins_4 : decode b_Mod_joins 4 = .ok (.ifCond .le 78, 3) := by decide +kernel
theorem d_Mod_joins_82 : decode b_Mod_joins 82 = .ok (.return_, 1) := by decide +kernel
theorem d_Mod_joins_7 : decode b_Mod_joins 7 = .ok (.aload_n 0, 1) := by decide +kernel
theorem d_Mod_joins_8 : decode b_Mod_joins 8 = .ok (.getfield 297, 3) := by decide +kernel
theorem d_Mod_joins_11 : decode b_Mod_joins 11 = .ok (.aload_n 0, 1) := by decide +kernel
theorem d_Mod_joins_12 : decode b_Mod_joins 12 = .ok (.getfield 1034, 3) := by decide +kernel
theorem d_Mod_joins_15 : decode b_Mod_joins 15 = .ok (.iconst 1, 1) := by decide +kernel
theorem d_Mod_joins_16 : decode b_Mod_joins 16 = .ok (.isub, 1) := by decide +kernel
theorem d_Mod_joins_17 : decode b_Mod_joins 17 = .ok (.iaload, 1) := by decide +kernel
theorem d_Mod_joins_18 : decode b_Mod_joins 18 = .ok (.iload_n 1, 1) := by decide +kernel
theorem d_Mod_joins_19 : decode b_Mod_joins 19 = .ok (.if_icmp .ne 63, 3) := by decide +kernel
theorem d_Mod_joins_22 : decode b_Mod_joins 22 = .ok (.aload_n 0, 1) := by decide +kernel
theorem d_Mod_joins_23 : decode b_Mod_joins 23 = .ok (.getfield 376, 3) := by decide +kernel
theorem d_Mod_joins_26 : decode b_Mod_joins 26 = .ok (.iconst (-1), 1) := by decide +kernel
theorem d_Mod_joins_27 : decode b_Mod_joins 27 = .ok (.if_icmp .ne 55, 3) := by decide +kernel
theorem d_Mod_joins_30 : decode b_Mod_joins 30 = .ok (.aload_n 0, 1) := by decide +kernel
theorem d_Mod_joins_31 : decode b_Mod_joins 31 = .ok (.dup, 1) := by decide +kernel
theorem d_Mod_joins_32 : decode b_Mod_joins 32 = .ok (.getfield 1034, 3) := by decide +kernel
theorem d_Mod_joins_35 : decode b_Mod_joins 35 = .ok (.iconst 1, 1) := by decide +kernel
theorem d_Mod_joins_36 : decode b_Mod_joins 36 = .ok (.isub, 1) := by decide +kernel
theorem d_Mod_joins_37 : decode b_Mod_joins 37 = .ok (.putfield 1034, 3) := by decide +kernel
theorem d_Mod_joins_40 : decode b_Mod_joins 40 = .ok (.aload_n 0, 1) := by decide +kernel
theorem d_Mod_joins_41 : decode b_Mod_joins 41 = .ok (.dup, 1) := by decide +kernel
theorem d_Mod_joins_42 : decode b_Mod_joins 42 = .ok (.getfield 1037, 3) := by decide +kernel
theorem d_Mod_joins_45 : decode b_Mod_joins 45 = .ok (.iload_n 1, 1) := by decide +kernel
theorem d_Mod_joins_46 : decode b_Mod_joins 46 = .ok (.iconst 1, 1) := by decide +kernel
theorem d_Mod_joins_47 : decode b_Mod_joins 47 = .ok (.if_icmp .ne 7, 3) := by decide +kernel
theorem d_Mod_joins_54 : decode b_Mod_joins 54 = .ok (.iconst 0, 1) := by decide +kernel
theorem d_Mod_joins_50 : decode b_Mod_joins 50 = .ok (.iconst 1, 1) := by decide +kernel
theorem d_Mod_joins_51 : decode b_Mod_joins 51 = .ok (.goto 4, 3) := by decide +kernel
theorem d_Mod_readCondition_14 : decode b_Mod_readCondition 14 = .ok (.aload_n 0, 1) := by decide +kernel
theorem d_Mod_readCondition_15 : decode b_Mod_readCondition 15 = .ok (.getfield 376, 3) := by decide +kernel
theorem d_Mod_readCondition_18 : decode b_Mod_readCondition 18 = .ok (.iconst (-1), 1) := by decide +kernel
theorem d_Mod_readCondition_19 : decode b_Mod_readCondition 19 = .ok (.if_icmp .ne 145, 3) := by decide +kernel
theorem d_Mod_readCondition_164 : decode b_Mod_readCondition 164 = .ok (.return_, 1) := by decide +kernel
theorem d_Mod_readCondition_22 : decode b_Mod_readCondition 22 = .ok (.aload_n 0, 1) := by decide +kernel
theorem d_Mod_readCondition_23 : decode b_Mod_readCondition 23 = .ok (.iconst 1, 1) := by decide +kernel
theorem d_Mod_readCondition_24 : decode b_Mod_readCondition 24 = .ok (.invokevirtual 1053, 3) := by decide +kernel
theorem d_Mod_readCondition_27 : decode b_Mod_readCondition 27 = .ok (.aload_n 0, 1) := by decide +kernel
theorem d_Mod_readCondition_28 : decode b_Mod_readCondition 28 = .ok (.iconst 2, 1) := by decide +kernel
theorem d_Mod_readCondition_29 : decode b_Mod_readCondition 29 = .ok (.invokevirtual 1053, 3) := by decide +kernel
theorem d_Mod_readCondition_32 : decode b_Mod_readCondition 32 = .ok (.aload_n 0, 1) := by decide +kernel
theorem d_Mod_readCondition_33 : decode b_Mod_readCondition 33 = .ok (.getfield 376, 3) := by decide +kernel
theorem d_Mod_readCondition_36 : decode b_Mod_readCondition 36 = .ok (.iconst (-1), 1) := by decide +kernel
theorem d_Mod_readCondition_37 : decode b_Mod_readCondition 37 = .ok (.if_icmp .eq 4, 3) := by decide +kernel
theorem d_Mod_readCondition_41 : decode b_Mod_readCondition 41 = .ok (.aload_n 0, 1) := by decide +kernel
theorem d_Mod_readCondition_42 : decode b_Mod_readCondition 42 = .ok (.ldc2_w 993, 3) := by decide +kernel
theorem d_Mod_readCondition_45 : decode b_Mod_readCondition 45 = .ok (.invokevirtual 401, 3) := by decide +kernel
theorem d_Mod_readCondition_48 : decode b_Mod_readCondition 48 = .ok (.ifCond .eq 29, 3) := by decide +kernel
theorem d_Mod_readCondition_77 : decode b_Mod_readCondition 77 = .ok (.aload_n 0, 1) := by decide +kernel
theorem d_Mod_readCondition_78 : decode b_Mod_readCondition 78 = .ok (.iconst 3, 1) := by decide +kernel
theorem d_Mod_readCondition_79 : decode b_Mod_readCondition 79 = .ok (.invokevirtual 1053, 3) := by decide +kernel
theorem d_Mod_readCondition_82 : decode b_Mod_readCondition 82 = .ok (.aload_n 0, 1) := by decide +kernel
theorem d_Mod_readCondition_83 : decode b_Mod_readCondition 83 = .ok (.getfield 376, 3) := by decide +kernel
theorem d_Mod_readCondition_86 : decode b_Mod_readCondition 86 = .ok (.iconst (-1), 1) := by decide +kernel
theorem d_Mod_readCondition_87 : decode b_Mod_readCondition 87 = .ok (.if_icmp .eq 4, 3) := by decide +kernel
theorem d_Mod_readCondition_91 : decode b_Mod_readCondition 91 = .ok (.aload_n 0, 1) := by decide +kernel
theorem d_Mod_readCondition_92 : decode b_Mod_readCondition 92 = .ok (.ldc2_w 995, 3) := by decide +kernel
theorem d_Mod_readCondition_95 : decode b_Mod_readCondition 95 = .ok (.invokevirtual 401, 3) := by decide +kernel
theorem d_Mod_readCondition_98 : decode b_Mod_readCondition 98 = .ok (.ifCond .eq 29, 3) := by decide +kernel
theorem d_Mod_readCondition_127 : decode b_Mod_readCondition 127 = .ok (.aload_n 0, 1) := by decide +kernel
theorem d_Mod_readCondition_128 : decode b_Mod_readCondition 128 = .ok (.getfield 1034, 3) := by decide +kernel
theorem d_Mod_readCondition_131 : decode b_Mod_readCondition 131 = .ok (.ifCond .ne 4, 3) := by decide +kernel
theorem d_Mod_readCondition_135 : decode b_Mod_readCondition 135 = .ok (.aload_n 0, 1) := by decide +kernel
theorem d_Mod_readCondition_136 : decode b_Mod_readCondition 136 = .ok (.bipush 41, 2) := by decide +kernel
theorem d_Mod_readCondition_138 : decode b_Mod_readCondition 138 = .ok (.invokevirtual 454, 3) := by decide +kernel
theorem d_Mod_readCondition_141 : decode b_Mod_readCondition 141 = .ok (.aload_n 0, 1) := by decide +kernel
theorem d_Mod_readCondition_142 : decode b_Mod_readCondition 142 = .ok (.dup, 1) := by decide +kernel
theorem d_Mod_readCondition_143 : decode b_Mod_readCondition 143 = .ok (.getfield 1034, 3) := by decide +kernel
theorem d_Mod_readCondition_146 : decode b_Mod_readCondition 146 = .ok (.iconst 1, 1) := by decide +kernel
theorem d_Mod_readCondition_147 : decode b_Mod_readCondition 147 = .ok (.isub, 1) := by decide +kernel
theorem d_Mod_readCondition_148 : decode b_Mod_readCondition 148 = .ok (.putfield 1034, 3) := by decide +kernel
theorem d_Mod_readCondition_151 : decode b_Mod_readCondition 151 = .ok (.aload_n 0, 1) := by decide +kernel
theorem d_Mod_readCondition_152 : decode b_Mod_readCondition 152 = .ok (.dup, 1) := by decide +kernel
theorem d_Mod_readCondition_153 : decode b_Mod_readCondition 153 = .ok (.getfield 1037, 3) := by decide +kernel
theorem d_Mod_readCondition_156 : decode b_Mod_readCondition 156 = .ok (.iconst 1, 1) := by decide +kernel
theorem d_Mod_readCondition_157 : decode b_Mod_readCondition 157 = .ok (.isub, 1) := by decide +kernel
theorem d_Mod_readCondition_158 : decode b_Mod_readCondition 158 = .ok (.putfield 1037, 3) := by decide +kernel
theorem d_Mod_readCondition_161 : decode b_Mod_readCondition 161 = .ok (.goto (-147), 3) := by decide +kernel
theorem d_Mod_readCondition_134 : decode b_Mod_readCondition 134 = .ok (.return_, 1) := by decide +kernel
theorem d_Mod_readCondition_101 : decode b_Mod_readCondition 101 = .ok (.aload_n 0, 1) := by decide +kernel
theorem d_Mod_readCondition_102 : decode b_Mod_readCondition 102 = .ok (.iconst 3, 1) := by decide +kernel
theorem d_Mod_readCondition_103 : decode b_Mod_readCondition 103 = .ok (.aload_n 0, 1) := by decide +kernel
theorem d_Mod_readCondition_104 : decode b_Mod_readCondition 104 = .ok (.getfield 373, 3) := by decide +kernel
theorem d_Mod_readCondition_107 : decode b_Mod_readCondition 107 = .ok (.invokevirtual 1047, 3) := by decide +kernel
theorem d_Mod_readCondition_110 : decode b_Mod_readCondition 110 = .ok (.aload_n 0, 1) := by decide +kernel
theorem d_Mod_readCondition_111 : decode b_Mod_readCondition 111 = .ok (.dup, 1) := by decide +kernel
theorem d_Mod_readCondition_112 : decode b_Mod_readCondition 112 = .ok (.getfield 373, 3) := by decide +kernel
theorem d_Mod_readCondition_115 : decode b_Mod_readCondition 115 = .ok (.iconst 2, 1) := by decide +kernel
theorem d_Mod_readCondition_116 : decode b_Mod_readCondition 116 = .ok (.iadd, 1) := by decide +kernel
theorem d_Mod_readCondition_117 : decode b_Mod_readCondition 117 = .ok (.putfield 373, 3) := by decide +kernel
theorem d_Mod_readCondition_120 : decode b_Mod_readCondition 120 = .ok (.aload_n 0, 1) := by decide +kernel
theorem d_Mod_readCondition_121 : decode b_Mod_readCondition 121 = .ok (.invokevirtual 1050, 3) := by decide +kernel
theorem d_Mod_readCondition_124 : decode b_Mod_readCondition 124 = .ok (.goto (-110), 3) := by decide +kernel
theorem d_Mod_readCondition_90 : decode b_Mod_readCondition 90 = .ok (.return_, 1) := by decide +kernel
theorem d_Mod_readCondition_51 : decode b_Mod_readCondition 51 = .ok (.aload_n 0, 1) := by decide +kernel
theorem d_Mod_readCondition_52 : decode b_Mod_readCondition 52 = .ok (.iconst 2, 1) := by decide +kernel
theorem d_Mod_readCondition_53 : decode b_Mod_readCondition 53 = .ok (.aload_n 0, 1) := by decide +kernel
theorem d_Mod_readCondition_54 : decode b_Mod_readCondition 54 = .ok (.getfield 373, 3) := by decide +kernel
theorem d_Mod_readCondition_57 : decode b_Mod_readCondition 57 = .ok (.invokevirtual 1047, 3) := by decide +kernel
theorem d_Mod_readCondition_60 : decode b_Mod_readCondition 60 = .ok (.aload_n 0, 1) := by decide +kernel
theorem d_Mod_readCondition_61 : decode b_Mod_readCondition 61 = .ok (.dup, 1) := by decide +kernel
theorem d_Mod_readCondition_62 : decode b_Mod_readCondition 62 = .ok (.getfield 373, 3) := by decide +kernel
theorem d_Mod_readCondition_65 : decode b_Mod_readCondition 65 = .ok (.iconst 3, 1) := by decide +kernel
theorem d_Mod_readCondition_66 : decode b_Mod_readCondition 66 = .ok (.iadd, 1) := by decide +kernel
theorem d_Mod_readCondition_67 : decode b_Mod_readCondition 67 = .ok (.putfield 373, 3) := by decide +kernel
theorem d_Mod_readCondition_70 : decode b_Mod_readCondition 70 = .ok (.aload_n 0, 1) := by decide +kernel
theorem d_Mod_readCondition_71 : decode b_Mod_readCondition 71 = .ok (.invokevirtual 1050, 3) := by decide +kernel
theorem d_Mod_readCondition_74 : decode b_Mod_readCondition 74 = .ok (.goto (-60), 3) := by decide +kernel
theorem d_Mod_readCondition_40 : decode b_Mod_readCondition 40 = .ok (.return_, 1) := by decide +kernel
theorem d_Mod_readCondition_0 : decode b_Mod_readCondition 0 = .ok (.aload_n 0, 1) := by decide +kernel
theorem d_Mod_readCondition_1 : decode b_Mod_readCondition 1 = .ok (.iconst 0, 1) := by decide +kernel
theorem d_Mod_readCondition_2 : decode b_Mod_readCondition 2 = .ok (.putfield 1034, 3) := by decide +kernel
theorem d_Mod_readCondition_5 : decode b_Mod_readCondition 5 = .ok (.aload_n 0, 1) := by decide +kernel
theorem d_Mod_readCondition_6 : decode b_Mod_readCondition 6 = .ok (.iconst 0, 1) := by decide +kernel
theorem d_Mod_readCondition_7 : decode b_Mod_readCondition 7 = .ok (.putfield 1037, 3) := by decide +kernel
theorem d_Mod_readCondition_10 : decode b_Mod_readCondition 10 = .ok (.aload_n 0, 1) := by decide +kernel
theorem d_Mod_readCondition_11 : decode b_Mod_readCondition 11 = .ok (.invokevirtual 1050, 3) := by decide +kernel
theorem d_Mod_isBy_48 : decode b_Mod_isBy 48 = .ok (.istore_n 2, 1) := by decide +kernel
theorem d_Mod_isBy_49 : decode b_Mod_isBy 49 = .ok (.iinc 3 1, 3) := by decide +kernel
theorem d_Mod_isBy_52 : decode b_Mod_isBy 52 = .ok (.goto (-48), 3) := by decide +kernel
theorem d_Mod_isBy_43 : decode b_Mod_isBy 43 = .ok (.iconst 1, 1) := by decide +kernel
theorem d_Mod_isBy_44 : decode b_Mod_isBy 44 = .ok (.goto 4, 3) := by decide +kernel
theorem d_Mod_isBy_4 : decode b_Mod_isBy 4 = .ok (.iload_n 3, 1) := by decide +kernel
theorem d_Mod_isBy_5 : decode b_Mod_isBy 5 = .ok (.aload_n 0, 1) := by decide +kernel
theorem d_Mod_isBy_6 : decode b_Mod_isBy 6 = .ok (.getfield 252, 3) := by decide +kernel
theorem d_Mod_isBy_9 : decode b_Mod_isBy 9 = .ok (.iconst 4, 1) := by decide +kernel
theorem d_Mod_isBy_10 : decode b_Mod_isBy 10 = .ok (.aload_n 0, 1) := by decide +kernel
theorem d_Mod_isBy_11 : decode b_Mod_isBy 11 = .ok (.getfield 1022, 3) := by decide +kernel
theorem d_Mod_isBy_14 : decode b_Mod_isBy 14 = .ok (.imul, 1) := by decide +kernel
theorem d_Mod_isBy_15 : decode b_Mod_isBy 15 = .ok (.iconst 1, 1) := by decide +kernel
theorem d_Mod_isBy_16 : decode b_Mod_isBy 16 = .ok (.iadd, 1) := by decide +kernel
theorem d_Mod_isBy_17 : decode b_Mod_isBy 17 = .ok (.iaload, 1) := by decide +kernel
theorem d_Mod_isBy_18 : decode b_Mod_isBy 18 = .ok (.if_icmp .ge 37, 3) := by decide +kernel
theorem d_Mod_isBy_55 : decode b_Mod_isBy 55 = .ok (.iload_n 2, 1) := by decide +kernel
theorem d_Mod_isBy_56 : decode b_Mod_isBy 56 = .ok (.ireturn, 1) := by decide +kernel
theorem d_Mod_isBy_21 : decode b_Mod_isBy 21 = .ok (.iload_n 2, 1) := by decide +kernel
theorem d_Mod_isBy_22 : decode b_Mod_isBy 22 = .ok (.ifCond .ne 21, 3) := by decide +kernel
theorem d_Mod_isBy_25 : decode b_Mod_isBy 25 = .ok (.aload_n 0, 1) := by decide +kernel
theorem d_Mod_isBy_26 : decode b_Mod_isBy 26 = .ok (.getfield 264, 3) := by decide +kernel
theorem d_Mod_isBy_29 : decode b_Mod_isBy 29 = .ok (.bipush 8, 2) := by decide +kernel
theorem d_Mod_isBy_31 : decode b_Mod_isBy 31 = .ok (.aload_n 0, 1) := by decide +kernel
theorem d_Mod_isBy_32 : decode b_Mod_isBy 32 = .ok (.getfield 1022, 3) := by decide +kernel
theorem d_Mod_isBy_35 : decode b_Mod_isBy 35 = .ok (.imul, 1) := by decide +kernel
theorem d_Mod_isBy_36 : decode b_Mod_isBy 36 = .ok (.iload_n 3, 1) := by decide +kernel
theorem d_Mod_isBy_37 : decode b_Mod_isBy 37 = .ok (.iadd, 1) := by decide +kernel
theorem d_Mod_isBy_38 : decode b_Mod_isBy 38 = .ok (.iaload, 1) := by decide +kernel
theorem d_Mod_isBy_39 : decode b_Mod_isBy 39 = .ok (.iload_n 1, 1) := by decide +kernel
theorem d_Mod_isBy_40 : decode b_Mod_isBy 40 = .ok (.if_icmp .ne 7, 3) := by decide +kernel
theorem d_Mod_isBy_47 : decode b_Mod_isBy 47 = .ok (.iconst 0, 1) := by decide +kernel
theorem d_Mod_isBy_0 : decode b_Mod_isBy 0 = .ok (.iconst 0, 1) := by decide +kernel
theorem d_Mod_isBy_1 : decode b_Mod_isBy 1 = .ok (.istore_n 2, 1) := by decide +kernel
theorem d_Mod_isBy_2 : decode b_Mod_isBy 2 = .ok (.iconst 0, 1) := by decide +kernel
theorem d_Mod_isBy_3 : decode b_Mod_isBy 3 = .ok (.istore_n 3, 1) := by decide +kernel
theorem d_Mod_readBy_58 : decode b_Mod_readBy 58 = .ok (.aload_n 0, 1) := by decide +kernel
theorem d_Mod_readBy_59 : decode b_Mod_readBy 59 = .ok (.getfield 376, 3) := by decide +kernel
theorem d_Mod_readBy_62 : decode b_Mod_readBy 62 = .ok (.iconst (-1), 1) := by decide +kernel
theorem d_Mod_readBy_63 : decode b_Mod_readBy 63 = .ok (.if_icmp .eq 4, 3) := by decide +kernel
theorem d_Mod_readBy_67 : decode b_Mod_readBy 67 = .ok (.aload_n 0, 1) := by decide +kernel
theorem d_Mod_readBy_68 : decode b_Mod_readBy 68 = .ok (.getfield 264, 3) := by decide +kernel
theorem d_Mod_readBy_71 : decode b_Mod_readBy 71 = .ok (.bipush 8, 2) := by decide +kernel
theorem d_Mod_readBy_73 : decode b_Mod_readBy 73 = .ok (.aload_n 0, 1) := by decide +kernel
theorem d_Mod_readBy_74 : decode b_Mod_readBy 74 = .ok (.getfield 1022, 3) := by decide +kernel
theorem d_Mod_readBy_77 : decode b_Mod_readBy 77 = .ok (.imul, 1) := by decide +kernel
theorem d_Mod_readBy_78 : decode b_Mod_readBy 78 = .ok (.aload_n 0, 1) := by decide +kernel
theorem d_Mod_readBy_79 : decode b_Mod_readBy 79 = .ok (.getfield 252, 3) := by decide +kernel
theorem d_Mod_readBy_82 : decode b_Mod_readBy 82 = .ok (.iconst 4, 1) := by decide +kernel
theorem d_Mod_readBy_83 : decode b_Mod_readBy 83 = .ok (.aload_n 0, 1) := by decide +kernel
theorem d_Mod_readBy_84 : decode b_Mod_readBy 84 = .ok (.getfield 1022, 3) := by decide +kernel
theorem d_Mod_readBy_87 : decode b_Mod_readBy 87 = .ok (.imul, 1) := by decide +kernel
theorem d_Mod_readBy_88 : decode b_Mod_readBy 88 = .ok (.iconst 1, 1) := by decide +kernel
theorem d_Mod_readBy_89 : decode b_Mod_readBy 89 = .ok (.iadd, 1) := by decide +kernel
theorem d_Mod_readBy_90 : decode b_Mod_readBy 90 = .ok (.iaload, 1) := by decide +kernel
theorem d_Mod_readBy_91 : decode b_Mod_readBy 91 = .ok (.iadd, 1) := by decide +kernel
theorem d_Mod_readBy_92 : decode b_Mod_readBy 92 = .ok (.iload_n 2, 1) := by decide +kernel
theorem d_Mod_readBy_93 : decode b_Mod_readBy 93 = .ok (.iastore, 1) := by decide +kernel
theorem d_Mod_readBy_94 : decode b_Mod_readBy 94 = .ok (.aload_n 0, 1) := by decide +kernel
theorem d_Mod_readBy_95 : decode b_Mod_readBy 95 = .ok (.getfield 252, 3) := by decide +kernel
theorem d_Mod_readBy_98 : decode b_Mod_readBy 98 = .ok (.iconst 4, 1) := by decide +kernel
theorem d_Mod_readBy_99 : decode b_Mod_readBy 99 = .ok (.aload_n 0, 1) := by decide +kernel
theorem d_Mod_readBy_100 : decode b_Mod_readBy 100 = .ok (.getfield 1022, 3) := by decide +kernel
theorem d_Mod_readBy_103 : decode b_Mod_readBy 103 = .ok (.imul, 1) := by decide +kernel
theorem d_Mod_readBy_104 : decode b_Mod_readBy 104 = .ok (.iconst 1, 1) := by decide +kernel
theorem d_Mod_readBy_105 : decode b_Mod_readBy 105 = .ok (.iadd, 1) := by decide +kernel
theorem d_Mod_readBy_106 : decode b_Mod_readBy 106 = .ok (.dup2, 1) := by decide +kernel
theorem d_Mod_readBy_107 : decode b_Mod_readBy 107 = .ok (.iaload, 1) := by decide +kernel
theorem d_Mod_readBy_108 : decode b_Mod_readBy 108 = .ok (.iconst 1, 1) := by decide +kernel
theorem d_Mod_readBy_109 : decode b_Mod_readBy 109 = .ok (.iadd, 1) := by decide +kernel
theorem d_Mod_readBy_110 : decode b_Mod_readBy 110 = .ok (.iastore, 1) := by decide +kernel
theorem d_Mod_readBy_111 : decode b_Mod_readBy 111 = .ok (.return_, 1) := by decide +kernel
theorem d_Mod_readBy_66 : decode b_Mod_readBy 66 = .ok (.return_, 1) := by decide +kernel
theorem d_Mod_readBy_32 : decode b_Mod_readBy 32 = .ok (.aload_n 0, 1) := by decide +kernel
theorem d_Mod_readBy_33 : decode b_Mod_readBy 33 = .ok (.invokevirtual 1025, 3) := by decide +kernel
theorem d_Mod_readBy_36 : decode b_Mod_readBy 36 = .ok (.istore_n 2, 1) := by decide +kernel
theorem d_Mod_readBy_37 : decode b_Mod_readBy 37 = .ok (.aload_n 0, 1) := by decide +kernel
theorem d_Mod_readBy_38 : decode b_Mod_readBy 38 = .ok (.getfield 376, 3) := by decide +kernel
theorem d_Mod_readBy_41 : decode b_Mod_readBy 41 = .ok (.iconst (-1), 1) := by decide +kernel
theorem d_Mod_readBy_42 : decode b_Mod_readBy 42 = .ok (.if_icmp .ne 16, 3) := by decide +kernel
theorem d_Mod_readBy_45 : decode b_Mod_readBy 45 = .ok (.aload_n 0, 1) := by decide +kernel
theorem d_Mod_readBy_46 : decode b_Mod_readBy 46 = .ok (.iload_n 2, 1) := by decide +kernel
theorem d_Mod_readBy_47 : decode b_Mod_readBy 47 = .ok (.invokevirtual 1031, 3) := by decide +kernel
theorem d_Mod_readBy_50 : decode b_Mod_readBy 50 = .ok (.ifCond .eq 8, 3) := by decide +kernel
theorem d_Mod_readBy_53 : decode b_Mod_readBy 53 = .ok (.aload_n 0, 1) := by decide +kernel
theorem d_Mod_readBy_54 : decode b_Mod_readBy 54 = .ok (.iload_n 1, 1) := by decide +kernel
theorem d_Mod_readBy_55 : decode b_Mod_readBy 55 = .ok (.invokevirtual 408, 3) := by decide +kernel
theorem d_Mod_readBy_0 : decode b_Mod_readBy 0 = .ok (.aload_n 0, 1) := by decide +kernel
theorem d_Mod_readBy_1 : decode b_Mod_readBy 1 = .ok (.invokevirtual 394, 3) := by decide +kernel
theorem d_Mod_readBy_4 : decode b_Mod_readBy 4 = .ok (.aload_n 0, 1) := by decide +kernel
theorem d_Mod_readBy_5 : decode b_Mod_readBy 5 = .ok (.getfield 373, 3) := by decide +kernel
theorem d_Mod_readBy_8 : decode b_Mod_readBy 8 = .ok (.istore_n 1, 1) := by decide +kernel
theorem d_Mod_readBy_9 : decode b_Mod_readBy 9 = .ok (.aload_n 0, 1) := by decide +kernel
theorem d_Mod_readBy_10 : decode b_Mod_readBy 10 = .ok (.getfield 252, 3) := by decide +kernel
theorem d_Mod_readBy_13 : decode b_Mod_readBy 13 = .ok (.iconst 4, 1) := by decide +kernel
theorem d_Mod_readBy_14 : decode b_Mod_readBy 14 = .ok (.aload_n 0, 1) := by decide +kernel
theorem d_Mod_readBy_15 : decode b_Mod_readBy 15 = .ok (.getfield 1022, 3) := by decide +kernel
theorem d_Mod_readBy_18 : decode b_Mod_readBy 18 = .ok (.imul, 1) := by decide +kernel
theorem d_Mod_readBy_19 : decode b_Mod_readBy 19 = .ok (.iconst 1, 1) := by decide +kernel
theorem d_Mod_readBy_20 : decode b_Mod_readBy 20 = .ok (.iadd, 1) := by decide +kernel
theorem d_Mod_readBy_21 : decode b_Mod_readBy 21 = .ok (.iaload, 1) := by decide +kernel
theorem d_Mod_readBy_22 : decode b_Mod_readBy 22 = .ok (.bipush 8, 2) := by decide +kernel
theorem d_Mod_readBy_24 : decode b_Mod_readBy 24 = .ok (.if_icmp .ne 8, 3) := by decide +kernel
theorem d_Mod_readBy_27 : decode b_Mod_readBy 27 = .ok (.aload_n 0, 1) := by decide +kernel
theorem d_Mod_readBy_28 : decode b_Mod_readBy 28 = .ok (.iload_n 1, 1) := by decide +kernel
theorem d_Mod_readBy_29 : decode b_Mod_readBy 29 = .ok (.invokevirtual 408, 3) := by decide +kernel
theorem d_Mod_collects_56 : decode b_Mod_collects 56 = .ok (.istore_n 2, 1) := by decide +kernel
theorem d_Mod_collects_57 : decode b_Mod_collects 57 = .ok (.iinc 3 1, 3) := by decide +kernel
theorem d_Mod_collects_60 : decode b_Mod_collects 60 = .ok (.goto (-39), 3) := by decide +kernel
theorem d_Mod_collects_51 : decode b_Mod_collects 51 = .ok (.iconst 1, 1) := by decide +kernel
theorem d_Mod_collects_52 : decode b_Mod_collects 52 = .ok (.goto 4, 3) := by decide +kernel
theorem d_Mod_collects_21 : decode b_Mod_collects 21 = .ok (.iload_n 3, 1) := by decide +kernel
theorem d_Mod_collects_22 : decode b_Mod_collects 22 = .ok (.aload_n 0, 1) := by decide +kernel
theorem d_Mod_collects_23 : decode b_Mod_collects 23 = .ok (.getfield 252, 3) := by decide +kernel
theorem d_Mod_collects_26 : decode b_Mod_collects 26 = .ok (.iconst 4, 1) := by decide +kernel
theorem d_Mod_collects_27 : decode b_Mod_collects 27 = .ok (.iload_n 1, 1) := by decide +kernel
theorem d_Mod_collects_28 : decode b_Mod_collects 28 = .ok (.imul, 1) := by decide +kernel
theorem d_Mod_collects_29 : decode b_Mod_collects 29 = .ok (.iaload, 1) := by decide +kernel
theorem d_Mod_collects_30 : decode b_Mod_collects 30 = .ok (.if_icmp .ge 33, 3) := by decide +kernel
theorem d_Mod_collects_63 : decode b_Mod_collects 63 = .ok (.iload_n 2, 1) := by decide +kernel
theorem d_Mod_collects_64 : decode b_Mod_collects 64 = .ok (.ireturn, 1) := by decide +kernel
theorem d_Mod_collects_33 : decode b_Mod_collects 33 = .ok (.iload_n 2, 1) := by decide +kernel
theorem d_Mod_collects_34 : decode b_Mod_collects 34 = .ok (.ifCond .ne 17, 3) := by decide +kernel
theorem d_Mod_collects_37 : decode b_Mod_collects 37 = .ok (.aload_n 0, 1) := by decide +kernel
theorem d_Mod_collects_38 : decode b_Mod_collects 38 = .ok (.getfield 255, 3) := by decide +kernel
theorem d_Mod_collects_41 : decode b_Mod_collects 41 = .ok (.bipush 16, 2) := by decide +kernel
theorem d_Mod_collects_43 : decode b_Mod_collects 43 = .ok (.iload_n 1, 1) := by decide +kernel
theorem d_Mod_collects_44 : decode b_Mod_collects 44 = .ok (.imul, 1) := by decide +kernel
theorem d_Mod_collects_45 : decode b_Mod_collects 45 = .ok (.iload_n 3, 1) := by decide +kernel
theorem d_Mod_collects_46 : decode b_Mod_collects 46 = .ok (.iadd, 1) := by decide +kernel
theorem d_Mod_collects_47 : decode b_Mod_collects 47 = .ok (.iaload, 1) := by decide +kernel
theorem d_Mod_collects_48 : decode b_Mod_collects 48 = .ok (.ifCond .le 7, 3) := by decide +kernel
theorem d_Mod_collects_55 : decode b_Mod_collects 55 = .ok (.iconst 0, 1) := by decide +kernel
theorem d_Mod_collects_18 : decode b_Mod_collects 18 = .ok (.istore_n 2, 1) := by decide +kernel
theorem d_Mod_collects_19 : decode b_Mod_collects 19 = .ok (.iconst 0, 1) := by decide +kernel
theorem d_Mod_collects_20 : decode b_Mod_collects 20 = .ok (.istore_n 3, 1) := by decide +kernel
theorem d_Mod_collects_0 : decode b_Mod_collects 0 = .ok (.aload_n 0, 1) := by decide +kernel
theorem d_Mod_collects_1 : decode b_Mod_collects 1 = .ok (.getfield 252, 3) := by decide +kernel
theorem d_Mod_collects_4 : decode b_Mod_collects 4 = .ok (.iconst 4, 1) := by decide +kernel
theorem d_Mod_collects_5 : decode b_Mod_collects 5 = .ok (.iload_n 1, 1) := by decide +kernel
theorem d_Mod_collects_6 : decode b_Mod_collects 6 = .ok (.imul, 1) := by decide +kernel
theorem d_Mod_collects_7 : decode b_Mod_collects 7 = .ok (.iconst 1, 1) := by decide +kernel
theorem d_Mod_collects_8 : decode b_Mod_collects 8 = .ok (.iadd, 1) := by decide +kernel
theorem d_Mod_collects_9 : decode b_Mod_collects 9 = .ok (.iaload, 1) := by decide +kernel
theorem d_Mod_collects_10 : decode b_Mod_collects 10 = .ok (.ifCond .le 7, 3) := by decide +kernel
theorem d_Mod_collects_17 : decode b_Mod_collects 17 = .ok (.iconst 0, 1) := by decide +kernel
theorem d_Mod_collects_13 : decode b_Mod_collects 13 = .ok (.iconst 1, 1) := by decide +kernel
theorem d_Mod_collects_14 : decode b_Mod_collects 14 = .ok (.goto 4, 3) := by decide +kernel
theorem d_Mod_query_389 : decode b_Mod_query 389 = .ok (.iload_n 2, 1) := by decide +kernel
theorem d_Mod_query_390 : decode b_Mod_query 390 = .ok (.aload_n 0, 1) := by decide +kernel
theorem d_Mod_query_391 : decode b_Mod_query 391 = .ok (.getfield 476, 3) := by decide +kernel
theorem d_Mod_query_394 : decode b_Mod_query 394 = .ok (.if_icmp .ge 30, 3) := by decide +kernel
theorem d_Mod_query_424 : decode b_Mod_query 424 = .ok (.aload_n 0, 1) := by decide +kernel
theorem d_Mod_query_425 : decode b_Mod_query 425 = .ok (.aload_n 0, 1) := by decide +kernel
theorem d_Mod_query_426 : decode b_Mod_query 426 = .ok (.getfield 1022, 3) := by decide +kernel
theorem d_Mod_query_429 : decode b_Mod_query 429 = .ok (.putfield 1062, 3) := by decide +kernel
theorem d_Mod_query_432 : decode b_Mod_query 432 = .ok (.aload_n 0, 1) := by decide +kernel
theorem d_Mod_query_433 : decode b_Mod_query 433 = .ok (.iconst 1, 1) := by decide +kernel
theorem d_Mod_query_434 : decode b_Mod_query 434 = .ok (.putfield 920, 3) := by decide +kernel
theorem d_Mod_query_437 : decode b_Mod_query 437 = .ok (.iconst (-1), 1) := by decide +kernel
theorem d_Mod_query_438 : decode b_Mod_query 438 = .ok (.ireturn, 1) := by decide +kernel
theorem d_Mod_query_397 : decode b_Mod_query 397 = .ok (.aload_n 0, 1) := by decide +kernel
theorem d_Mod_query_398 : decode b_Mod_query 398 = .ok (.getfield 291, 3) := by decide +kernel
theorem d_Mod_query_401 : decode b_Mod_query 401 = .ok (.sipush 2000, 3) := by decide +kernel
theorem d_Mod_query_404 : decode b_Mod_query 404 = .ok (.aload_n 0, 1) := by decide +kernel
theorem d_Mod_query_405 : decode b_Mod_query 405 = .ok (.getfield 1022, 3) := by decide +kernel
theorem d_Mod_query_408 : decode b_Mod_query 408 = .ok (.imul, 1) := by decide +kernel
theorem d_Mod_query_409 : decode b_Mod_query 409 = .ok (.iload_n 2, 1) := by decide +kernel
theorem d_Mod_query_410 : decode b_Mod_query 410 = .ok (.iadd, 1) := by decide +kernel
theorem d_Mod_query_411 : decode b_Mod_query 411 = .ok (.aload_n 0, 1) := by decide +kernel
theorem d_Mod_query_412 : decode b_Mod_query 412 = .ok (.getfield 56, 3) := by decide +kernel
theorem d_Mod_query_415 : decode b_Mod_query 415 = .ok (.iload_n 2, 1) := by decide +kernel
theorem d_Mod_query_416 : decode b_Mod_query 416 = .ok (.iaload, 1) := by decide +kernel
theorem d_Mod_query_417 : decode b_Mod_query 417 = .ok (.iastore, 1) := by decide +kernel
theorem d_Mod_query_418 : decode b_Mod_query 418 = .ok (.iinc 2 1, 3) := by decide +kernel
theorem d_Mod_query_421 : decode b_Mod_query 421 = .ok (.goto (-32), 3) := by decide +kernel
theorem d_Mod_query_374 : decode b_Mod_query 374 = .ok (.aload_n 0, 1) := by decide +kernel
theorem d_Mod_query_375 : decode b_Mod_query 375 = .ok (.getfield 376, 3) := by decide +kernel
theorem d_Mod_query_378 : decode b_Mod_query 378 = .ok (.iconst (-1), 1) := by decide +kernel
theorem d_Mod_query_379 : decode b_Mod_query 379 = .ok (.if_icmp .eq 8, 3) := by decide +kernel
theorem d_Mod_query_387 : decode b_Mod_query 387 = .ok (.iconst 0, 1) := by decide +kernel
theorem d_Mod_query_388 : decode b_Mod_query 388 = .ok (.istore_n 2, 1) := by decide +kernel
theorem d_Mod_query_382 : decode b_Mod_query 382 = .ok (.aload_n 0, 1) := by decide +kernel
theorem d_Mod_query_383 : decode b_Mod_query 383 = .ok (.getfield 376, 3) := by decide +kernel
theorem d_Mod_query_386 : decode b_Mod_query 386 = .ok (.ireturn, 1) := by decide +kernel
theorem d_Mod_query_368 : decode b_Mod_query 368 = .ok (.iinc 2 1, 3) := by decide +kernel
theorem d_Mod_query_371 : decode b_Mod_query 371 = .ok (.goto (-78), 3) := by decide +kernel
theorem d_Mod_query_293 : decode b_Mod_query 293 = .ok (.iload_n 2, 1) := by decide +kernel
theorem d_Mod_query_294 : decode b_Mod_query 294 = .ok (.aload_n 0, 1) := by decide +kernel
theorem d_Mod_query_295 : decode b_Mod_query 295 = .ok (.getfield 252, 3) := by decide +kernel
theorem d_Mod_query_298 : decode b_Mod_query 298 = .ok (.iconst 4, 1) := by decide +kernel
theorem d_Mod_query_299 : decode b_Mod_query 299 = .ok (.aload_n 0, 1) := by decide +kernel
theorem d_Mod_query_300 : decode b_Mod_query 300 = .ok (.getfield 1022, 3) := by decide +kernel
theorem d_Mod_query_303 : decode b_Mod_query 303 = .ok (.imul, 1) := by decide +kernel
theorem d_Mod_query_304 : decode b_Mod_query 304 = .ok (.iaload, 1) := by decide +kernel
theorem d_Mod_query_305 : decode b_Mod_query 305 = .ok (.if_icmp .ge 69, 3) := by decide +kernel
theorem d_Mod_query_308 : decode b_Mod_query 308 = .ok (.iload_n 1, 1) := by decide +kernel
theorem d_Mod_query_309 : decode b_Mod_query 309 = .ok (.ifCond .eq 65, 3) := by decide +kernel
theorem d_Mod_query_312 : decode b_Mod_query 312 = .ok (.aload_n 0, 1) := by decide +kernel
theorem d_Mod_query_313 : decode b_Mod_query 313 = .ok (.getfield 255, 3) := by decide +kernel
theorem d_Mod_query_316 : decode b_Mod_query 316 = .ok (.bipush 16, 2) := by decide +kernel
theorem d_Mod_query_318 : decode b_Mod_query 318 = .ok (.aload_n 0, 1) := by decide +kernel
theorem d_Mod_query_319 : decode b_Mod_query 319 = .ok (.getfield 1022, 3) := by decide +kernel
theorem d_Mod_query_322 : decode b_Mod_query 322 = .ok (.imul, 1) := by decide +kernel
theorem d_Mod_query_323 : decode b_Mod_query 323 = .ok (.iload_n 2, 1) := by decide +kernel
theorem d_Mod_query_324 : decode b_Mod_query 324 = .ok (.iadd, 1) := by decide +kernel
theorem d_Mod_query_325 : decode b_Mod_query 325 = .ok (.iaload, 1) := by decide +kernel
theorem d_Mod_query_326 : decode b_Mod_query 326 = .ok (.ifCond .ne 42, 3) := by decide +kernel
theorem d_Mod_query_329 : decode b_Mod_query 329 = .ok (.aload_n 0, 1) := by decide +kernel
theorem d_Mod_query_330 : decode b_Mod_query 330 = .ok (.aload_n 0, 1) := by decide +kernel
theorem d_Mod_query_331 : decode b_Mod_query 331 = .ok (.getfield 258, 3) := by decide +kernel
theorem d_Mod_query_334 : decode b_Mod_query 334 = .ok (.bipush 16, 2) := by decide +kernel
theorem d_Mod_query_336 : decode b_Mod_query 336 = .ok (.aload_n 0, 1) := by decide +kernel
theorem d_Mod_query_337 : decode b_Mod_query 337 = .ok (.getfield 1022, 3) := by decide +kernel
theorem d_Mod_query_340 : decode b_Mod_query 340 = .ok (.imul, 1) := by decide +kernel
theorem d_Mod_query_341 : decode b_Mod_query 341 = .ok (.iload_n 2, 1) := by decide +kernel
theorem d_Mod_query_342 : decode b_Mod_query 342 = .ok (.iadd, 1) := by decide +kernel
theorem d_Mod_query_343 : decode b_Mod_query 343 = .ok (.iaload, 1) := by decide +kernel
theorem d_Mod_query_344 : decode b_Mod_query 344 = .ok (.invokevirtual 1031, 3) := by decide +kernel
theorem d_Mod_query_347 : decode b_Mod_query 347 = .ok (.ifCond .ne 21, 3) := by decide +kernel
theorem d_Mod_query_350 : decode b_Mod_query 350 = .ok (.aload_n 0, 1) := by decide +kernel
theorem d_Mod_query_351 : decode b_Mod_query 351 = .ok (.aload_n 0, 1) := by decide +kernel
theorem d_Mod_query_352 : decode b_Mod_query 352 = .ok (.getfield 261, 3) := by decide +kernel
theorem d_Mod_query_355 : decode b_Mod_query 355 = .ok (.bipush 16, 2) := by decide +kernel
theorem d_Mod_query_357 : decode b_Mod_query 357 = .ok (.aload_n 0, 1) := by decide +kernel
theorem d_Mod_query_358 : decode b_Mod_query 358 = .ok (.getfield 1022, 3) := by decide +kernel
theorem d_Mod_query_361 : decode b_Mod_query 361 = .ok (.imul, 1) := by decide +kernel
theorem d_Mod_query_362 : decode b_Mod_query 362 = .ok (.iload_n 2, 1) := by decide +kernel
theorem d_Mod_query_363 : decode b_Mod_query 363 = .ok (.iadd, 1) := by decide +kernel
theorem d_Mod_query_364 : decode b_Mod_query 364 = .ok (.iaload, 1) := by decide +kernel
theorem d_Mod_query_365 : decode b_Mod_query 365 = .ok (.invokevirtual 408, 3) := by decide +kernel
theorem d_Mod_query_290 : decode b_Mod_query 290 = .ok (.istore_n 1, 1) := by decide +kernel
theorem d_Mod_query_291 : decode b_Mod_query 291 = .ok (.iconst 0, 1) := by decide +kernel
theorem d_Mod_query_292 : decode b_Mod_query 292 = .ok (.istore_n 2, 1) := by decide +kernel
theorem d_Mod_query_289 : decode b_Mod_query 289 = .ok (.iconst 0, 1) := by decide +kernel
theorem d_Mod_query_266 : decode b_Mod_query 266 = .ok (.aload_n 0, 1) := by decide +kernel
theorem d_Mod_query_267 : decode b_Mod_query 267 = .ok (.getfield 376, 3) := by decide +kernel
theorem d_Mod_query_270 : decode b_Mod_query 270 = .ok (.iconst (-1), 1) := by decide +kernel
theorem d_Mod_query_271 : decode b_Mod_query 271 = .ok (.if_icmp .ne 18, 3) := by decide +kernel
theorem d_Mod_query_274 : decode b_Mod_query 274 = .ok (.aload_n 0, 1) := by decide +kernel
theorem d_Mod_query_275 : decode b_Mod_query 275 = .ok (.aload_n 0, 1) := by decide +kernel
theorem d_Mod_query_276 : decode b_Mod_query 276 = .ok (.getfield 1022, 3) := by decide +kernel
theorem d_Mod_query_279 : decode b_Mod_query 279 = .ok (.invokevirtual 1077, 3) := by decide +kernel
theorem d_Mod_query_282 : decode b_Mod_query 282 = .ok (.ifCond .eq 7, 3) := by decide +kernel
theorem d_Mod_query_285 : decode b_Mod_query 285 = .ok (.iconst 1, 1) := by decide +kernel
theorem d_Mod_query_286 : decode b_Mod_query 286 = .ok (.goto 4, 3) := by decide +kernel
theorem d_Mod_query_235 : decode b_Mod_query 235 = .ok (.aload_n 0, 1) := by decide +kernel
theorem d_Mod_query_236 : decode b_Mod_query 236 = .ok (.invokevirtual 394, 3) := by decide +kernel
theorem d_Mod_query_239 : decode b_Mod_query 239 = .ok (.aload_n 0, 1) := by decide +kernel
theorem d_Mod_query_240 : decode b_Mod_query 240 = .ok (.getfield 376, 3) := by decide +kernel
theorem d_Mod_query_243 : decode b_Mod_query 243 = .ok (.iconst (-1), 1) := by decide +kernel
theorem d_Mod_query_244 : decode b_Mod_query 244 = .ok (.if_icmp .ne 22, 3) := by decide +kernel
theorem d_Mod_query_247 : decode b_Mod_query 247 = .ok (.aload_n 0, 1) := by decide +kernel
theorem d_Mod_query_248 : decode b_Mod_query 248 = .ok (.getfield 373, 3) := by decide +kernel
theorem d_Mod_query_251 : decode b_Mod_query 251 = .ok (.aload_n 0, 1) := by decide +kernel
theorem d_Mod_query_252 : decode b_Mod_query 252 = .ok (.getfield 370, 3) := by decide +kernel
theorem d_Mod_query_255 : decode b_Mod_query 255 = .ok (.if_icmp .ge 11, 3) := by decide +kernel
theorem d_Mod_query_258 : decode b_Mod_query 258 = .ok (.aload_n 0, 1) := by decide +kernel
theorem d_Mod_query_259 : decode b_Mod_query 259 = .ok (.aload_n 0, 1) := by decide +kernel
theorem d_Mod_query_260 : decode b_Mod_query 260 = .ok (.getfield 373, 3) := by decide +kernel
theorem d_Mod_query_263 : decode b_Mod_query 263 = .ok (.invokevirtual 408, 3) := by decide +kernel
theorem d_Mod_query_219 : decode b_Mod_query 219 = .ok (.aload_n 0, 1) := by decide +kernel
theorem d_Mod_query_220 : decode b_Mod_query 220 = .ok (.bipush 44, 2) := by decide +kernel
theorem d_Mod_query_222 : decode b_Mod_query 222 = .ok (.invokevirtual 405, 3) := by decide +kernel
theorem d_Mod_query_225 : decode b_Mod_query 225 = .ok (.ifCond .eq 10, 3) := by decide +kernel
theorem d_Mod_query_228 : decode b_Mod_query 228 = .ok (.aload_n 0, 1) := by decide +kernel
theorem d_Mod_query_229 : decode b_Mod_query 229 = .ok (.invokevirtual 1074, 3) := by decide +kernel
theorem d_Mod_query_232 : decode b_Mod_query 232 = .ok (.goto (-13), 3) := by decide +kernel
theorem d_Mod_query_207 : decode b_Mod_query 207 = .ok (.aload_n 0, 1) := by decide +kernel
theorem d_Mod_query_208 : decode b_Mod_query 208 = .ok (.getfield 376, 3) := by decide +kernel
theorem d_Mod_query_211 : decode b_Mod_query 211 = .ok (.iconst (-1), 1) := by decide +kernel
theorem d_Mod_query_212 : decode b_Mod_query 212 = .ok (.if_icmp .ne 7, 3) := by decide +kernel
theorem d_Mod_query_215 : decode b_Mod_query 215 = .ok (.aload_n 0, 1) := by decide +kernel
theorem d_Mod_query_216 : decode b_Mod_query 216 = .ok (.invokevirtual 1074, 3) := by decide +kernel
theorem d_Mod_query_179 : decode b_Mod_query 179 = .ok (.aload_n 0, 1) := by decide +kernel
theorem d_Mod_query_180 : decode b_Mod_query 180 = .ok (.ldc2_w 440, 3) := by decide +kernel
theorem d_Mod_query_183 : decode b_Mod_query 183 = .ok (.invokevirtual 425, 3) := by decide +kernel
theorem d_Mod_query_186 : decode b_Mod_query 186 = .ok (.ifCond .eq 49, 3) := by decide +kernel
theorem d_Mod_query_189 : decode b_Mod_query 189 = .ok (.aload_n 0, 1) := by decide +kernel
theorem d_Mod_query_190 : decode b_Mod_query 190 = .ok (.ldc2_w 991, 3) := by decide +kernel
theorem d_Mod_query_193 : decode b_Mod_query 193 = .ok (.invokevirtual 425, 3) := by decide +kernel
theorem d_Mod_query_196 : decode b_Mod_query 196 = .ok (.ifCond .ne 11, 3) := by decide +kernel
theorem d_Mod_query_199 : decode b_Mod_query 199 = .ok (.aload_n 0, 1) := by decide +kernel
theorem d_Mod_query_200 : decode b_Mod_query 200 = .ok (.aload_n 0, 1) := by decide +kernel
theorem d_Mod_query_201 : decode b_Mod_query 201 = .ok (.getfield 373, 3) := by decide +kernel
theorem d_Mod_query_204 : decode b_Mod_query 204 = .ok (.invokevirtual 408, 3) := by decide +kernel
theorem d_Mod_query_149 : decode b_Mod_query 149 = .ok (.aload_n 0, 1) := by decide +kernel
theorem d_Mod_query_150 : decode b_Mod_query 150 = .ok (.bipush 44, 2) := by decide +kernel
theorem d_Mod_query_152 : decode b_Mod_query 152 = .ok (.invokevirtual 405, 3) := by decide +kernel
theorem d_Mod_query_155 : decode b_Mod_query 155 = .ok (.ifCond .eq 10, 3) := by decide +kernel
theorem d_Mod_query_165 : decode b_Mod_query 165 = .ok (.aload_n 0, 1) := by decide +kernel
theorem d_Mod_query_166 : decode b_Mod_query 166 = .ok (.ldc2_w 989, 3) := by decide +kernel
theorem d_Mod_query_169 : decode b_Mod_query 169 = .ok (.invokevirtual 425, 3) := by decide +kernel
theorem d_Mod_query_172 : decode b_Mod_query 172 = .ok (.ifCond .eq 7, 3) := by decide +kernel
theorem d_Mod_query_175 : decode b_Mod_query 175 = .ok (.aload_n 0, 1) := by decide +kernel
theorem d_Mod_query_176 : decode b_Mod_query 176 = .ok (.invokevirtual 1071, 3) := by decide +kernel
theorem d_Mod_query_158 : decode b_Mod_query 158 = .ok (.aload_n 0, 1) := by decide +kernel
theorem d_Mod_query_159 : decode b_Mod_query 159 = .ok (.invokevirtual 1068, 3) := by decide +kernel
theorem d_Mod_query_162 : decode b_Mod_query 162 = .ok (.goto (-13), 3) := by decide +kernel
theorem d_Mod_query_137 : decode b_Mod_query 137 = .ok (.aload_n 0, 1) := by decide +kernel
theorem d_Mod_query_138 : decode b_Mod_query 138 = .ok (.getfield 376, 3) := by decide +kernel
theorem d_Mod_query_141 : decode b_Mod_query 141 = .ok (.iconst (-1), 1) := by decide +kernel
theorem d_Mod_query_142 : decode b_Mod_query 142 = .ok (.if_icmp .ne 7, 3) := by decide +kernel
theorem d_Mod_query_145 : decode b_Mod_query 145 = .ok (.aload_n 0, 1) := by decide +kernel
theorem d_Mod_query_146 : decode b_Mod_query 146 = .ok (.invokevirtual 1068, 3) := by decide +kernel
theorem d_Mod_query_89 : decode b_Mod_query 89 = .ok (.iload_n 1, 1) := by decide +kernel
theorem d_Mod_query_90 : decode b_Mod_query 90 = .ok (.iconst 4, 1) := by decide +kernel
theorem d_Mod_query_91 : decode b_Mod_query 91 = .ok (.if_icmp .ge 23, 3) := by decide +kernel
theorem d_Mod_query_114 : decode b_Mod_query 114 = .ok (.aload_n 0, 1) := by decide +kernel
theorem d_Mod_query_115 : decode b_Mod_query 115 = .ok (.iconst 0, 1) := by decide +kernel
theorem d_Mod_query_116 : decode b_Mod_query 116 = .ok (.putfield 476, 3) := by decide +kernel
theorem d_Mod_query_119 : decode b_Mod_query 119 = .ok (.aload_n 0, 1) := by decide +kernel
theorem d_Mod_query_120 : decode b_Mod_query 120 = .ok (.ldc2_w 987, 3) := by decide +kernel
theorem d_Mod_query_123 : decode b_Mod_query 123 = .ok (.invokevirtual 425, 3) := by decide +kernel
theorem d_Mod_query_126 : decode b_Mod_query 126 = .ok (.ifCond .ne 11, 3) := by decide +kernel
theorem d_Mod_query_129 : decode b_Mod_query 129 = .ok (.aload_n 0, 1) := by decide +kernel
theorem d_Mod_query_130 : decode b_Mod_query 130 = .ok (.aload_n 0, 1) := by decide +kernel
theorem d_Mod_query_131 : decode b_Mod_query 131 = .ok (.getfield 373, 3) := by decide +kernel
theorem d_Mod_query_134 : decode b_Mod_query 134 = .ok (.invokevirtual 408, 3) := by decide +kernel
theorem d_Mod_query_94 : decode b_Mod_query 94 = .ok (.aload_n 0, 1) := by decide +kernel
theorem d_Mod_query_95 : decode b_Mod_query 95 = .ok (.getfield 252, 3) := by decide +kernel
theorem d_Mod_query_98 : decode b_Mod_query 98 = .ok (.iconst 4, 1) := by decide +kernel
theorem d_Mod_query_99 : decode b_Mod_query 99 = .ok (.aload_n 0, 1) := by decide +kernel
theorem d_Mod_query_100 : decode b_Mod_query 100 = .ok (.getfield 1022, 3) := by decide +kernel
theorem d_Mod_query_103 : decode b_Mod_query 103 = .ok (.imul, 1) := by decide +kernel
theorem d_Mod_query_104 : decode b_Mod_query 104 = .ok (.iload_n 1, 1) := by decide +kernel
theorem d_Mod_query_105 : decode b_Mod_query 105 = .ok (.iadd, 1) := by decide +kernel
theorem d_Mod_query_106 : decode b_Mod_query 106 = .ok (.iconst 0, 1) := by decide +kernel
theorem d_Mod_query_107 : decode b_Mod_query 107 = .ok (.iastore, 1) := by decide +kernel
theorem d_Mod_query_108 : decode b_Mod_query 108 = .ok (.iinc 1 1, 3) := by decide +kernel
theorem d_Mod_query_111 : decode b_Mod_query 111 = .ok (.goto (-22), 3) := by decide +kernel
theorem d_Mod_query_87 : decode b_Mod_query 87 = .ok (.iconst 0, 1) := by decide +kernel
theorem d_Mod_query_88 : decode b_Mod_query 88 = .ok (.istore_n 1, 1) := by decide +kernel
theorem d_Mod_query_74 : decode b_Mod_query 74 = .ok (.aload_n 0, 1) := by decide +kernel
theorem d_Mod_query_75 : decode b_Mod_query 75 = .ok (.dup, 1) := by decide +kernel
theorem d_Mod_query_76 : decode b_Mod_query 76 = .ok (.getfield 1022, 3) := by decide +kernel
theorem d_Mod_query_79 : decode b_Mod_query 79 = .ok (.iconst 1, 1) := by decide +kernel
theorem d_Mod_query_80 : decode b_Mod_query 80 = .ok (.iadd, 1) := by decide +kernel
theorem d_Mod_query_81 : decode b_Mod_query 81 = .ok (.putfield 1022, 3) := by decide +kernel
theorem d_Mod_query_84 : decode b_Mod_query 84 = .ok (.goto (-46), 3) := by decide +kernel
theorem d_Mod_query_56 : decode b_Mod_query 56 = .ok (.aload_n 0, 1) := by decide +kernel
theorem d_Mod_query_57 : decode b_Mod_query 57 = .ok (.getfield 923, 3) := by decide +kernel
theorem d_Mod_query_60 : decode b_Mod_query 60 = .ok (.ifCond .eq 27, 3) := by decide +kernel
theorem d_Mod_query_63 : decode b_Mod_query 63 = .ok (.aload_n 0, 1) := by decide +kernel
theorem d_Mod_query_64 : decode b_Mod_query 64 = .ok (.getfield 1022, 3) := by decide +kernel
theorem d_Mod_query_67 : decode b_Mod_query 67 = .ok (.aload_n 0, 1) := by decide +kernel
theorem d_Mod_query_68 : decode b_Mod_query 68 = .ok (.getfield 1065, 3) := by decide +kernel
theorem d_Mod_query_71 : decode b_Mod_query 71 = .ok (.if_icmp .ne 16, 3) := by decide +kernel
theorem d_Mod_query_38 : decode b_Mod_query 38 = .ok (.aload_n 0, 1) := by decide +kernel
theorem d_Mod_query_39 : decode b_Mod_query 39 = .ok (.getfield 920, 3) := by decide +kernel
theorem d_Mod_query_42 : decode b_Mod_query 42 = .ok (.ifCond .eq 14, 3) := by decide +kernel
theorem d_Mod_query_45 : decode b_Mod_query 45 = .ok (.aload_n 0, 1) := by decide +kernel
theorem d_Mod_query_46 : decode b_Mod_query 46 = .ok (.getfield 1022, 3) := by decide +kernel
theorem d_Mod_query_49 : decode b_Mod_query 49 = .ok (.aload_n 0, 1) := by decide +kernel
theorem d_Mod_query_50 : decode b_Mod_query 50 = .ok (.getfield 1062, 3) := by decide +kernel
theorem d_Mod_query_53 : decode b_Mod_query 53 = .ok (.if_icmp .eq 21, 3) := by decide +kernel
theorem d_Mod_query_0 : decode b_Mod_query 0 = .ok (.aload_n 0, 1) := by decide +kernel
theorem d_Mod_query_1 : decode b_Mod_query 1 = .ok (.iconst 0, 1) := by decide +kernel
theorem d_Mod_query_2 : decode b_Mod_query 2 = .ok (.putfield 360, 3) := by decide +kernel
theorem d_Mod_query_5 : decode b_Mod_query 5 = .ok (.aload_n 0, 1) := by decide +kernel
theorem d_Mod_query_6 : decode b_Mod_query 6 = .ok (.invokevirtual 460, 3) := by decide +kernel
theorem d_Mod_query_9 : decode b_Mod_query 9 = .ok (.aload_n 0, 1) := by decide +kernel
theorem d_Mod_query_10 : decode b_Mod_query 10 = .ok (.getfield 917, 3) := by decide +kernel
theorem d_Mod_query_13 : decode b_Mod_query 13 = .ok (.ifCond .ne 6, 3) := by decide +kernel
theorem d_Mod_query_19 : decode b_Mod_query 19 = .ok (.aload_n 0, 1) := by decide +kernel
theorem d_Mod_query_20 : decode b_Mod_query 20 = .ok (.getfield 370, 3) := by decide +kernel
theorem d_Mod_query_23 : decode b_Mod_query 23 = .ok (.sipush 2000, 3) := by decide +kernel
theorem d_Mod_query_26 : decode b_Mod_query 26 = .ok (.if_icmp .le 7, 3) := by decide +kernel
theorem d_Mod_query_33 : decode b_Mod_query 33 = .ok (.aload_n 0, 1) := by decide +kernel
theorem d_Mod_query_34 : decode b_Mod_query 34 = .ok (.iconst 0, 1) := by decide +kernel
theorem d_Mod_query_35 : decode b_Mod_query 35 = .ok (.putfield 1022, 3) := by decide +kernel
theorem d_Mod_query_29 : decode b_Mod_query 29 = .ok (.sipush 2000, 3) := by decide +kernel
theorem d_Mod_query_32 : decode b_Mod_query 32 = .ok (.ireturn, 1) := by decide +kernel
theorem d_Mod_query_16 : decode b_Mod_query 16 = .ok (.bipush (-2), 2) := by decide +kernel
theorem d_Mod_query_18 : decode b_Mod_query 18 = .ok (.ireturn, 1) := by decide +kernel
section
variable (l : Launch) (dC : Nat → ClassId) (dI : Nat → Nat → Nat) (cI cB cJ cZ : ClassId)
set_option maxRecDepth 100000 in
set_option maxHeartbeats 4000000 in
set_option maxRecDepth 100000 in
theorem t_Mod_joins_55 {p : Program} {l : Launch} {e : Env} {R : Room} {s : State} {m : MethodId} {args : Array Value} {below : List Frame} {meth : Method} {c : Code} {cells slots : Nat} {Q : State → Prop} {dC : Nat → ClassId} {dI : Nat → Nat → Nat} {cI cB cJ cZ : ClassId} {A : Nat → Prop} {ad : Nat → Nat} {post : St → Prop} {rec0 : Int32 → St → Prop} (hx : p.tables.exec = Jvm.exec) (hb : c.code = b_Mod_joins) (hml : c.maxLocals = 2) (hown : s.vm.findClass R_Mod = some m.cls) (hT : ∀ w ∈ TG, w.before args s = true) (hK : va_K (dC, dI) CL (TY cI cB cJ cZ) s) (hN : NW s) (hA : ∀ q : Nat, s.heap.size ≤ q → A q) (hRc : cells ≤ R.cells) (hRs : slots ≤ R.slots) (hRf : 2 ≤ R.frames) (hRl : 48 ≤ R.locals) (hret : ∀ (x : St) (H : Heap) (locs : List Loc) (pc : Nat) (ls : Array Slot), decode b_Mod_joins pc = .ok (.return_, 1) → post x → Wd dC dI cI cB cJ cZ ad stM kcM 115 A x H → va_S A s.heap H locs → W p l e R s m args below meth c H locs cells slots Q (F0 m pc ls [])) (hrec0 : ∀ (l1 : Int32) (x : St) (H : Heap) (locs : List Loc) (ls : Array Slot), rec0 l1 x → Wd dC dI cI cB cJ cZ ad stM kcM 115 A x H → va_S A s.heap H locs → lv_has ls 2 [(0, .ref (ad 0)), (1, .int l1)] → W p l e R s m args below meth c H locs cells slots Q (F0 m 0 ls [])) : ∀ (l1 : Int32) (s0 : Int32) (s1 : Int32) (x : St) (H : Heap) (locs : List Loc) (ls : Array Slot), j_Mod_joins_55 post rec0 l1 s0 s1 x → Wd dC dI cI cB cJ cZ ad stM kcM 115 A x H → va_S A s.heap H locs → lv_has ls 2 [(0, .ref (ad 0)), (1, .int l1)] → W p l e R s m args below meth c H locs cells slots Q (F0 m 55 ls [.int s0, .int s1, .ref (ad 0)]) := by
  intro l1 s0 s1 x H locs ls  hw hW hS hl
  unfold j_Mod_joins_55 at hw
  refine lv_isub hx hb d_Mod_joins_55 ?_
  refine w_puti (ty := .int) (k := 140) (t := 12) (C := R_Mod) (T := F_Mod) (N := 167) hx hb hT hown hK hW hS ko_0.1 ko_0.2 (by decide) in_Mod t_Mod t_Mod_ok n_Mod rfl rfl (by decide) rfl fr_Mod_140 w_9_76 (by decide +kernel) rfl rfl d_Mod_joins_56 (fun H locs hW hS => ?_)
  obtain ⟨x2152, ex2152⟩ : ∃ y : St, y = setI x 0 140 (s1 - s0) := ⟨_, rfl⟩
  rw [← ex2152] at hW
  have hw := hw x2152 ex2152
  refine lv_aload_n hx hb d_Mod_joins_59 rfl (lv_at hl 0 rfl) ?_
  refine lv_aload_n hx hb d_Mod_joins_60 rfl (lv_at hl 0 rfl) ?_
  refine w_getf (q := 95) (k := 138) (t := 12) (C := R_Mod) (T := F_Mod) (N := 167) hx hb hT hown hK hW ko_0.1 ko_0.2 (by decide) in_Mod rfl rfl (by decide) rfl fr_Mod_138 w_9_74 d_Mod_joins_61 rfl ?_
  refine lv_aload_n hx hb d_Mod_joins_64 rfl (lv_at hl 0 rfl) ?_
  refine w_geti (k := 139) (t := 12) (C := R_Mod) (T := F_Mod) (N := 167) hx hb hT hown hK hW ko_0.1 ko_0.2 (by decide) in_Mod rfl rfl (by decide) rfl fr_Mod_139 w_9_75 d_Mod_joins_65 ?_
  obtain ⟨hi, hw⟩ := hw
  refine w_iald (o := 95) hx hb hK hW ko_95.1 ko_95.2 hi d_Mod_joins_68 ?_
  refine lv_iload_n hx hb d_Mod_joins_69 rfl (lv_at hl 1 rfl) ?_
  refine lv_iconst (v := 4) hx hb d_Mod_joins_70 (by decide) ?_
  refine lv_iadd hx hb d_Mod_joins_71 ?_
  refine lv_iconst (v := (-1)) hx hb d_Mod_joins_72 (by decide) ?_
  refine lv_iconst (v := (-1)) hx hb d_Mod_joins_73 (by decide) ?_
  refine lv_iconst (v := (-1)) hx hb d_Mod_joins_74 (by decide) ?_
  refine lv_iconst (v := 0) hx hb d_Mod_joins_75 (by decide) ?_
  have hF := hW.free hS hA
  refine va_callv (va_runV (C := R_Mod) (As := [.int (rA x2152 95 (fI x2152 0 139)), .int (l1 + 4), .int (-1), .int (-1), .int (-1), .int 0]) (rest := []) ⟨hx, hb, hml, hown, hT⟩ (k_Mod_addStep l dC dI cI cB cJ cZ ad H.size (rA x2152 95 (fI x2152 0 139)) (l1 + 4) (-1) (-1) (-1) 0 x2152  hw) ⟨callB_of 6 hT (gwt_in w_13_167) rfl rfl rfl (hT _ w_1_15) (hT _ w_13_164) (by decide +kernel) ⟨Nat.le_trans (Nat.le_of_ble_eq_true rfl) hRf, Nat.le_trans (Nat.le_of_ble_eq_true rfl) hRl⟩, hT _ w_13_166, hT _ ws_244⟩ ⟨PW.blind, va_recv hK hW.1 (ci := 12) (q0 := 0) rfl (pic_obj ko_0.1 ko_0.2 (by decide)), PW.at _ hW hK hN⟩ rfl rfl hl.1 rfl (lv_room (Nat.le_of_ble_eq_true rfl)) d_Mod_joins_76 ⟨hRc, hRs⟩) hS (fun q _ h => hF q h) hF (fun  x2153 t H locs ht hvm hw hB hz1 hk1 hS => ?_)
  have hW := Wd.back hB ht hF
  clear hB ht hF hz1 hk1 hvm
  refine lv_goto (tgt := 0) hx hb d_Mod_joins_79 (by decide) ?_
  exact hrec0 l1 x2153 H locs ls  hw hW hS (lv_sub hl [0, 1] rfl)
set_option maxRecDepth 100000 in
set_option maxHeartbeats 4000000 in
set_option maxRecDepth 100000 in
theorem t_Mod_joins_0 {p : Program} {l : Launch} {e : Env} {R : Room} {s : State} {m : MethodId} {args : Array Value} {below : List Frame} {meth : Method} {c : Code} {cells slots : Nat} {Q : State → Prop} {dC : Nat → ClassId} {dI : Nat → Nat → Nat} {cI cB cJ cZ : ClassId} {A : Nat → Prop} {ad : Nat → Nat} {post : St → Prop} {rec0 : Int32 → St → Prop} (hx : p.tables.exec = Jvm.exec) (hb : c.code = b_Mod_joins) (hml : c.maxLocals = 2) (hown : s.vm.findClass R_Mod = some m.cls) (hT : ∀ w ∈ TG, w.before args s = true) (hK : va_K (dC, dI) CL (TY cI cB cJ cZ) s) (hN : NW s) (hA : ∀ q : Nat, s.heap.size ≤ q → A q) (hRc : cells ≤ R.cells) (hRs : slots ≤ R.slots) (hRf : 2 ≤ R.frames) (hRl : 48 ≤ R.locals) (hret : ∀ (x : St) (H : Heap) (locs : List Loc) (pc : Nat) (ls : Array Slot), decode b_Mod_joins pc = .ok (.return_, 1) → post x → Wd dC dI cI cB cJ cZ ad stM kcM 115 A x H → va_S A s.heap H locs → W p l e R s m args below meth c H locs cells slots Q (F0 m pc ls [])) (hrec0 : ∀ (l1 : Int32) (x : St) (H : Heap) (locs : List Loc) (ls : Array Slot), rec0 l1 x → Wd dC dI cI cB cJ cZ ad stM kcM 115 A x H → va_S A s.heap H locs → lv_has ls 2 [(0, .ref (ad 0)), (1, .int l1)] → W p l e R s m args below meth c H locs cells slots Q (F0 m 0 ls [])) : ∀ (l1 : Int32) (x : St) (H : Heap) (locs : List Loc) (ls : Array Slot), j_Mod_joins_0 post rec0 l1 x → Wd dC dI cI cB cJ cZ ad stM kcM 115 A x H → va_S A s.heap H locs → lv_has ls 2 [(0, .ref (ad 0)), (1, .int l1)] → W p l e R s m args below meth c H locs cells slots Q (F0 m 0 ls []) := by
  intro l1 x H locs ls  hw hW hS hl
  unfold j_Mod_joins_0 at hw
  refine lv_aload_n hx hb d_Mod_joins_0 rfl (lv_at hl 0 rfl) ?_
  refine w_geti (k := 139) (t := 12) (C := R_Mod) (T := F_Mod) (N := 167) hx hb hT hown hK hW ko_0.1 ko_0.2 (by decide) in_Mod rfl rfl (by decide) rfl fr_Mod_139 w_9_75 d_Mod_joins_1 ?_
  refine lv_if_le (tgt := 82) hx hb d_Mod_joins_4 (by decide) (fun c2154 => ?_) (fun c2154 => ?_)
  · have hw := hw.1 c2154
    exact hret x H locs 82 ls d_Mod_joins_82 hw hW hS
  · have hw := hw.2 c2154
    refine lv_aload_n hx hb d_Mod_joins_7 rfl (lv_at hl 0 rfl) ?_
    refine w_getf (q := 94) (k := 137) (t := 12) (C := R_Mod) (T := F_Mod) (N := 167) hx hb hT hown hK hW ko_0.1 ko_0.2 (by decide) in_Mod rfl rfl (by decide) rfl fr_Mod_137 w_9_73 d_Mod_joins_8 rfl ?_
    refine lv_aload_n hx hb d_Mod_joins_11 rfl (lv_at hl 0 rfl) ?_
    refine w_geti (k := 139) (t := 12) (C := R_Mod) (T := F_Mod) (N := 167) hx hb hT hown hK hW ko_0.1 ko_0.2 (by decide) in_Mod rfl rfl (by decide) rfl fr_Mod_139 w_9_75 d_Mod_joins_12 ?_
    refine lv_iconst (v := 1) hx hb d_Mod_joins_15 (by decide) ?_
    refine lv_isub hx hb d_Mod_joins_16 ?_
    obtain ⟨hi, hw⟩ := hw
    refine w_iald (o := 94) hx hb hK hW ko_94.1 ko_94.2 hi d_Mod_joins_17 ?_
    refine lv_iload_n hx hb d_Mod_joins_18 rfl (lv_at hl 1 rfl) ?_
    refine lv_icmp_ne (tgt := 82) hx hb d_Mod_joins_19 (by decide) (fun c2155 => ?_) (fun c2155 => ?_)
    · have hw := hw.1 c2155
      exact hret x H locs 82 ls d_Mod_joins_82 hw hW hS
    · have hw := hw.2 c2155
      refine lv_aload_n hx hb d_Mod_joins_22 rfl (lv_at hl 0 rfl) ?_
      refine w_geti (k := 17) (t := 12) (C := R_Mod) (T := F_Mod) (N := 167) hx hb hT hown hK hW ko_0.1 ko_0.2 (by decide) in_Mod rfl rfl (by decide) rfl fr_Mod_17 w_8_193 d_Mod_joins_23 ?_
      refine lv_iconst (v := (-1)) hx hb d_Mod_joins_26 (by decide) ?_
      refine lv_icmp_ne (tgt := 82) hx hb d_Mod_joins_27 (by decide) (fun c2156 => ?_) (fun c2156 => ?_)
      · have hw := hw.1 c2156
        exact hret x H locs 82 ls d_Mod_joins_82 hw hW hS
      · have hw := hw.2 c2156
        refine lv_aload_n hx hb d_Mod_joins_30 rfl (lv_at hl 0 rfl) ?_
        refine lv_dup hx hb d_Mod_joins_31 rfl ?_
        refine w_geti (k := 139) (t := 12) (C := R_Mod) (T := F_Mod) (N := 167) hx hb hT hown hK hW ko_0.1 ko_0.2 (by decide) in_Mod rfl rfl (by decide) rfl fr_Mod_139 w_9_75 d_Mod_joins_32 ?_
        refine lv_iconst (v := 1) hx hb d_Mod_joins_35 (by decide) ?_
        refine lv_isub hx hb d_Mod_joins_36 ?_
        refine w_puti (ty := .int) (k := 139) (t := 12) (C := R_Mod) (T := F_Mod) (N := 167) hx hb hT hown hK hW hS ko_0.1 ko_0.2 (by decide) in_Mod t_Mod t_Mod_ok n_Mod rfl rfl (by decide) rfl fr_Mod_139 w_9_75 (by decide +kernel) rfl rfl d_Mod_joins_37 (fun H locs hW hS => ?_)
        obtain ⟨x2157, ex2157⟩ : ∃ y : St, y = setI x 0 139 ((fI x 0 139) - 1) := ⟨_, rfl⟩
        rw [← ex2157] at hW
        have hw := hw x2157 ex2157
        refine lv_aload_n hx hb d_Mod_joins_40 rfl (lv_at hl 0 rfl) ?_
        refine lv_dup hx hb d_Mod_joins_41 rfl ?_
        refine w_geti (k := 140) (t := 12) (C := R_Mod) (T := F_Mod) (N := 167) hx hb hT hown hK hW ko_0.1 ko_0.2 (by decide) in_Mod rfl rfl (by decide) rfl fr_Mod_140 w_9_76 d_Mod_joins_42 ?_
        refine lv_iload_n hx hb d_Mod_joins_45 rfl (lv_at hl 1 rfl) ?_
        refine lv_iconst (v := 1) hx hb d_Mod_joins_46 (by decide) ?_
        refine lv_icmp_ne (tgt := 54) hx hb d_Mod_joins_47 (by decide) (fun c2158 => ?_) (fun c2158 => ?_)
        · have hw := hw.1 c2158
          refine lv_iconst (v := 0) hx hb d_Mod_joins_54 (by decide) ?_
          exact t_Mod_joins_55 hx hb hml hown hT hK hN hA hRc hRs hRf hRl hret hrec0 l1 0 (fI x2157 0 140) x2157 H locs ls  hw hW hS (lv_sub hl [0, 1] rfl)
        · have hw := hw.2 c2158
          refine lv_iconst (v := 1) hx hb d_Mod_joins_50 (by decide) ?_
          refine lv_goto (tgt := 55) hx hb d_Mod_joins_51 (by decide) ?_
          exact t_Mod_joins_55 hx hb hml hown hT hK hN hA hRc hRs hRf hRl hret hrec0 l1 1 (fI x2157 0 140) x2157 H locs ls  hw hW hS (lv_sub hl [0, 1] rfl)
set_option maxHeartbeats 4000000 in
set_option maxRecDepth 100000 in
theorem tl_Mod_joins_0 {p : Program} {l : Launch} {e : Env} {R : Room} {s : State} {m : MethodId} {args : Array Value} {below : List Frame} {meth : Method} {c : Code} {cells slots : Nat} {Q : State → Prop} {dC : Nat → ClassId} {dI : Nat → Nat → Nat} {cI cB cJ cZ : ClassId} {A : Nat → Prop} {ad : Nat → Nat} {post : St → Prop} (hx : p.tables.exec = Jvm.exec) (hb : c.code = b_Mod_joins) (hml : c.maxLocals = 2) (hown : s.vm.findClass R_Mod = some m.cls) (hT : ∀ w ∈ TG, w.before args s = true) (hK : va_K (dC, dI) CL (TY cI cB cJ cZ) s) (hN : NW s) (hA : ∀ q : Nat, s.heap.size ≤ q → A q) (hRc : cells ≤ R.cells) (hRs : slots ≤ R.slots) (hRf : 2 ≤ R.frames) (hRl : 48 ≤ R.locals) (hret : ∀ (x : St) (H : Heap) (locs : List Loc) (pc : Nat) (ls : Array Slot), decode b_Mod_joins pc = .ok (.return_, 1) → post x → Wd dC dI cI cB cJ cZ ad stM kcM 115 A x H → va_S A s.heap H locs → W p l e R s m args below meth c H locs cells slots Q (F0 m pc ls []))  : ∀ n : Nat, ∀ (l1 : Int32) (x : St) (H : Heap) (locs : List Loc) (ls : Array Slot), wl_Mod_joins_0 post n l1 x → Wd dC dI cI cB cJ cZ ad stM kcM 115 A x H → va_S A s.heap H locs → lv_has ls 2 [(0, .ref (ad 0)), (1, .int l1)] → W p l e R s m args below meth c H locs cells slots Q (F0 m 0 ls []) := by
  intro n
  induction n with
  | zero => intro l1 x H locs ls  hw; exact hw.elim
  | succ n ih => intro l1 x H locs ls  hw hW hS hl; exact t_Mod_joins_0 hx hb hml hown hT hK hN hA hRc hRs hRf hRl hret  ih l1 x H locs ls  hw hW hS hl
set_option maxRecDepth 100000 in
set_option maxHeartbeats 4000000 in
set_option maxRecDepth 100000 in
theorem t_Mod_joins_e {p : Program} {l : Launch} {e : Env} {R : Room} {s : State} {m : MethodId} {args : Array Value} {below : List Frame} {meth : Method} {c : Code} {cells slots : Nat} {Q : State → Prop} {dC : Nat → ClassId} {dI : Nat → Nat → Nat} {cI cB cJ cZ : ClassId} {A : Nat → Prop} {ad : Nat → Nat} {post : St → Prop} (hx : p.tables.exec = Jvm.exec) (hb : c.code = b_Mod_joins) (hml : c.maxLocals = 2) (hown : s.vm.findClass R_Mod = some m.cls) (hT : ∀ w ∈ TG, w.before args s = true) (hK : va_K (dC, dI) CL (TY cI cB cJ cZ) s) (hN : NW s) (hA : ∀ q : Nat, s.heap.size ≤ q → A q) (hRc : cells ≤ R.cells) (hRs : slots ≤ R.slots) (hRf : 2 ≤ R.frames) (hRl : 48 ≤ R.locals) (hret : ∀ (x : St) (H : Heap) (locs : List Loc) (pc : Nat) (ls : Array Slot), decode b_Mod_joins pc = .ok (.return_, 1) → post x → Wd dC dI cI cB cJ cZ ad stM kcM 115 A x H → va_S A s.heap H locs → W p l e R s m args below meth c H locs cells slots Q (F0 m pc ls [])) : ∀ (l1 : Int32) (x : St) (H : Heap) (locs : List Loc) (ls : Array Slot), wp_Mod_joins post l1 x → Wd dC dI cI cB cJ cZ ad stM kcM 115 A x H → va_S A s.heap H locs → lv_has ls 2 [(0, .ref (ad 0)), (1, .int l1)] → W p l e R s m args below meth c H locs cells slots Q (F0 m 0 ls []) := by
  intro l1 x H locs ls  hw hW hS hl
  unfold wp_Mod_joins at hw
  obtain ⟨n, hw⟩ := hw
  exact tl_Mod_joins_0 hx hb hml hown hT hK hN hA hRc hRs hRf hRl hret  n l1 x H locs ls  hw hW hS (lv_sub hl [0, 1] rfl)
set_option maxHeartbeats 4000000 in
set_option maxRecDepth 100000 in
theorem k_Mod_joins (l : Launch) (dC : Nat → ClassId) (dI : Nat → Nat → Nat) (cI cB cJ cZ : ClassId) (ad : Nat → Nat) (sz : Nat) (l1 : Int32) (x : St) {post : St → Prop} (hw : wp_Mod_joins post l1 x) : Met l y_Mod_joins (wsOf y_Mod_joins b_Mod_joins 2 (none)) ({ frames := 2, cells := 0, slots := 0, locals := 48 }) (va_Pc [.ref (ad 0), .int l1] (PW dC dI cI cB cJ cZ ad stM kcM 115 sz x)) (va_Qv (fun (y : St) => post y) (fun y t => Wd dC dI cI cB cJ cZ ad stM kcM 115 (va_A (pic ad stM kcM 115 cI cB cJ cZ x) sz) y t.heap) (va_A (pic ad stM kcM 115 cI cB cJ cZ x) sz)) 0 0 (va_A (pic ad stM kcM 115 cI cB cJ cZ x) sz) := by
  refine Met.ofW (cc := b_Mod_joins) (maxL := 2) (ret := none) (by decide) rfl ?_
  intro p e s m args below meth c s₁ B hml hv
  obtain ⟨rfl, hsz, hW0, hK, hN⟩ := hv
  have hx := B.exec
  have hb := B.bytes
  have hr := B.returns
  have hts := atoms_spec B.pre
  have hT : ∀ w ∈ TG, w.before _ s = true := fun w h => hts w (List.mem_cons_of_mem _ h)
  have hown : s.vm.findClass R_Mod = some m.cls := findClass_of_methodNamed B.named
  have hlocks := B.notSynchronized
  subst hsz
  have hW : Wd dC dI cI cB cJ cZ ad stM kcM 115 (va_A (pic ad stM kcM 115 cI cB cJ cZ x) s.heap.size) x s.heap := ⟨hW0.1, hW0.2.1.self (sz := s.heap.size), hW0.2.2⟩
  generalize hAe : va_A (pic ad stM kcM 115 cI cB cJ cZ x) s.heap.size = A at hW ⊢
  have hA : ∀ q : Nat, s.heap.size ≤ q → A q := fun q h => by rw [← hAe]; exact Or.inr h
  have hS : va_S A s.heap s.heap [] := va_S.rf
  have hl := lv_entry ([.ref (ad 0), .int l1]) (n := 2) (Nat.le_of_ble_eq_true rfl)
  rw [lg_entry_eq]
  generalize (lg_sl ([.ref (ad 0), .int l1]) ++ List.replicate (2 - (lg_sl ([.ref (ad 0), .int l1])).length) Slot.unset).toArray = ls at hl ⊢
  have hl : lv_has ls 2 [(0, .ref (ad 0)), (1, .int l1)] := hl
  exact t_Mod_joins_e hx hb hml hown hT hK hN hA (Nat.le_refl 0) (Nat.le_refl 0) (Nat.le_refl 2) (Nat.le_refl 48) (fun x H locs pc ls hd hp hW hS => W.vret hx hb hr (fun t ht hM => ⟨⟨x, rfl, hp, Wd.back hW ht.symm (fun _ z => z)⟩, hS.F ht⟩) hS.2.2 hd hlocks)  l1 x _ _ ls  hw hW hS hl
set_option maxRecDepth 100000 in
set_option maxHeartbeats 4000000 in
set_option maxRecDepth 100000 in
theorem t_Mod_readCondition_14 {p : Program} {l : Launch} {e : Env} {R : Room} {s : State} {m : MethodId} {args : Array Value} {below : List Frame} {meth : Method} {c : Code} {cells slots : Nat} {Q : State → Prop} {dC : Nat → ClassId} {dI : Nat → Nat → Nat} {cI cB cJ cZ : ClassId} {A : Nat → Prop} {ad : Nat → Nat} {post : St → Prop} {rec14 : St → Prop} (hx : p.tables.exec = Jvm.exec) (hb : c.code = b_Mod_readCondition) (hml : c.maxLocals = 1) (hown : s.vm.findClass R_Mod = some m.cls) (hT : ∀ w ∈ TG, w.before args s = true) (hK : va_K (dC, dI) CL (TY cI cB cJ cZ) s) (hN : NW s) (hA : ∀ q : Nat, s.heap.size ≤ q → A q) (hRc : cells ≤ R.cells) (hRs : slots ≤ R.slots) (hRf : 8 ≤ R.frames) (hRl : 186 ≤ R.locals) (hret : ∀ (x : St) (H : Heap) (locs : List Loc) (pc : Nat) (ls : Array Slot), decode b_Mod_readCondition pc = .ok (.return_, 1) → post x → Wd dC dI cI cB cJ cZ ad stM kcM 115 A x H → va_S A s.heap H locs → W p l e R s m args below meth c H locs cells slots Q (F0 m pc ls [])) (hrec14 : ∀  (x : St) (H : Heap) (locs : List Loc) (ls : Array Slot), rec14  x → Wd dC dI cI cB cJ cZ ad stM kcM 115 A x H → va_S A s.heap H locs → lv_has ls 1 [(0, .ref (ad 0))] → W p l e R s m args below meth c H locs cells slots Q (F0 m 14 ls [])) : ∀  (x : St) (H : Heap) (locs : List Loc) (ls : Array Slot), j_Mod_readCondition_14 post rec14  x → Wd dC dI cI cB cJ cZ ad stM kcM 115 A x H → va_S A s.heap H locs → lv_has ls 1 [(0, .ref (ad 0))] → W p l e R s m args below meth c H locs cells slots Q (F0 m 14 ls []) := by
  intro  x H locs ls  hw hW hS hl
  unfold j_Mod_readCondition_14 at hw
  refine lv_aload_n hx hb d_Mod_readCondition_14 rfl (lv_at hl 0 rfl) ?_
  refine w_geti (k := 17) (t := 12) (C := R_Mod) (T := F_Mod) (N := 167) hx hb hT hown hK hW ko_0.1 ko_0.2 (by decide) in_Mod rfl rfl (by decide) rfl fr_Mod_17 w_8_193 d_Mod_readCondition_15 ?_
  refine lv_iconst (v := (-1)) hx hb d_Mod_readCondition_18 (by decide) ?_
  refine lv_icmp_ne (tgt := 164) hx hb d_Mod_readCondition_19 (by decide) (fun c2159 => ?_) (fun c2159 => ?_)
  · have hw := hw.1 c2159
    exact hret x H locs 164 ls d_Mod_readCondition_164 hw hW hS
  · have hw := hw.2 c2159
    refine lv_aload_n hx hb d_Mod_readCondition_22 rfl (lv_at hl 0 rfl) ?_
    refine lv_iconst (v := 1) hx hb d_Mod_readCondition_23 (by decide) ?_
    have hF := hW.free hS hA
    refine va_callv (va_runV (C := R_Mod) (As := [.int 1]) (rest := []) ⟨hx, hb, hml, hown, hT⟩ (k_Mod_joins l dC dI cI cB cJ cZ ad H.size 1 x  hw) ⟨callB_of 1 hT (gwt_in w_13_183) rfl rfl rfl (hT _ w_1_15) (hT _ w_13_180) (by decide +kernel) ⟨Nat.le_trans (Nat.le_of_ble_eq_true rfl) hRf, Nat.le_trans (Nat.le_of_ble_eq_true rfl) hRl⟩, hT _ w_13_182, hT _ ws_248⟩ ⟨PW.blind, va_recv hK hW.1 (ci := 12) (q0 := 0) rfl (pic_obj ko_0.1 ko_0.2 (by decide)), PW.at _ hW hK hN⟩ rfl rfl hl.1 rfl (lv_room (Nat.le_of_ble_eq_true rfl)) d_Mod_readCondition_24 ⟨hRc, hRs⟩) hS (fun q _ h => hF q h) hF (fun  x2160 t H locs ht hvm hw hB hz1 hk1 hS => ?_)
    have hW := Wd.back hB ht hF
    clear hB ht hF hz1 hk1 hvm
    refine lv_aload_n hx hb d_Mod_readCondition_27 rfl (lv_at hl 0 rfl) ?_
    refine lv_iconst (v := 2) hx hb d_Mod_readCondition_28 (by decide) ?_
    have hF := hW.free hS hA
    refine va_callv (va_runV (C := R_Mod) (As := [.int 2]) (rest := []) ⟨hx, hb, hml, hown, hT⟩ (k_Mod_joins l dC dI cI cB cJ cZ ad H.size 2 x2160  hw) ⟨callB_of 1 hT (gwt_in w_13_183) rfl rfl rfl (hT _ w_1_15) (hT _ w_13_180) (by decide +kernel) ⟨Nat.le_trans (Nat.le_of_ble_eq_true rfl) hRf, Nat.le_trans (Nat.le_of_ble_eq_true rfl) hRl⟩, hT _ w_13_182, hT _ ws_248⟩ ⟨PW.blind, va_recv hK hW.1 (ci := 12) (q0 := 0) rfl (pic_obj ko_0.1 ko_0.2 (by decide)), PW.at _ hW hK hN⟩ rfl rfl hl.1 rfl (lv_room (Nat.le_of_ble_eq_true rfl)) d_Mod_readCondition_29 ⟨hRc, hRs⟩) hS (fun q _ h => hF q h) hF (fun  x2161 t H locs ht hvm hw hB hz1 hk1 hS => ?_)
    have hW := Wd.back hB ht hF
    clear hB ht hF hz1 hk1 hvm
    refine lv_aload_n hx hb d_Mod_readCondition_32 rfl (lv_at hl 0 rfl) ?_
    refine w_geti (k := 17) (t := 12) (C := R_Mod) (T := F_Mod) (N := 167) hx hb hT hown hK hW ko_0.1 ko_0.2 (by decide) in_Mod rfl rfl (by decide) rfl fr_Mod_17 w_8_193 d_Mod_readCondition_33 ?_
    refine lv_iconst (v := (-1)) hx hb d_Mod_readCondition_36 (by decide) ?_
    refine lv_icmp_eq (tgt := 41) hx hb d_Mod_readCondition_37 (by decide) (fun c2162 => ?_) (fun c2162 => ?_)
    · have hw := hw.1 c2162
      refine lv_aload_n hx hb d_Mod_readCondition_41 rfl (lv_at hl 0 rfl) ?_
      refine lv_ldc2 hx hb hown (hT _ w_13_135) d_Mod_readCondition_42 ?_
      have hF := hW.free hS hA
      refine va_calli (va_runV (C := R_Mod) (As := [.long 6385252]) (rest := []) ⟨hx, hb, hml, hown, hT⟩ (k_Mod_sees l dC dI cI cB cJ cZ ad H.size 6385252 x2161  hw) ⟨callB_of 1 hT (gwt_in w_10_226) rfl rfl rfl (hT _ w_1_15) (hT _ w_10_223) (by decide +kernel) ⟨Nat.le_trans (Nat.le_of_ble_eq_true rfl) hRf, Nat.le_trans (Nat.le_of_ble_eq_true rfl) hRl⟩, hT _ w_10_225, hT _ ws_110⟩ ⟨PW.blind, va_recv hK hW.1 (ci := 12) (q0 := 0) rfl (pic_obj ko_0.1 ko_0.2 (by decide)), PW.at _ hW hK hN⟩ rfl rfl hl.1 rfl (lv_room (Nat.le_of_ble_eq_true rfl)) d_Mod_readCondition_45 ⟨hRc, hRs⟩) hS (fun q _ h => hF q h) hF (fun r2164 x2163 t H locs ht hvm hw hB hz1 hk1 hS => ?_)
      have hW := Wd.back hB ht hF
      clear hB ht hF hz1 hk1 hvm
      refine lv_if_eq (tgt := 77) hx hb d_Mod_readCondition_48 (by decide) (fun c2165 => ?_) (fun c2165 => ?_)
      · have hw := hw.1 c2165
        refine lv_aload_n hx hb d_Mod_readCondition_77 rfl (lv_at hl 0 rfl) ?_
        refine lv_iconst (v := 3) hx hb d_Mod_readCondition_78 (by decide) ?_
        have hF := hW.free hS hA
        refine va_callv (va_runV (C := R_Mod) (As := [.int 3]) (rest := []) ⟨hx, hb, hml, hown, hT⟩ (k_Mod_joins l dC dI cI cB cJ cZ ad H.size 3 x2163  hw) ⟨callB_of 1 hT (gwt_in w_13_183) rfl rfl rfl (hT _ w_1_15) (hT _ w_13_180) (by decide +kernel) ⟨Nat.le_trans (Nat.le_of_ble_eq_true rfl) hRf, Nat.le_trans (Nat.le_of_ble_eq_true rfl) hRl⟩, hT _ w_13_182, hT _ ws_248⟩ ⟨PW.blind, va_recv hK hW.1 (ci := 12) (q0 := 0) rfl (pic_obj ko_0.1 ko_0.2 (by decide)), PW.at _ hW hK hN⟩ rfl rfl hl.1 rfl (lv_room (Nat.le_of_ble_eq_true rfl)) d_Mod_readCondition_79 ⟨hRc, hRs⟩) hS (fun q _ h => hF q h) hF (fun  x2166 t H locs ht hvm hw hB hz1 hk1 hS => ?_)
        have hW := Wd.back hB ht hF
        clear hB ht hF hz1 hk1 hvm
        refine lv_aload_n hx hb d_Mod_readCondition_82 rfl (lv_at hl 0 rfl) ?_
        refine w_geti (k := 17) (t := 12) (C := R_Mod) (T := F_Mod) (N := 167) hx hb hT hown hK hW ko_0.1 ko_0.2 (by decide) in_Mod rfl rfl (by decide) rfl fr_Mod_17 w_8_193 d_Mod_readCondition_83 ?_
        refine lv_iconst (v := (-1)) hx hb d_Mod_readCondition_86 (by decide) ?_
        refine lv_icmp_eq (tgt := 91) hx hb d_Mod_readCondition_87 (by decide) (fun c2167 => ?_) (fun c2167 => ?_)
        · have hw := hw.1 c2167
          refine lv_aload_n hx hb d_Mod_readCondition_91 rfl (lv_at hl 0 rfl) ?_
          refine lv_ldc2 hx hb hown (hT _ w_13_136) d_Mod_readCondition_92 ?_
          have hF := hW.free hS hA
          refine va_calli (va_runV (C := R_Mod) (As := [.long 28530]) (rest := []) ⟨hx, hb, hml, hown, hT⟩ (k_Mod_sees l dC dI cI cB cJ cZ ad H.size 28530 x2166  hw) ⟨callB_of 1 hT (gwt_in w_10_226) rfl rfl rfl (hT _ w_1_15) (hT _ w_10_223) (by decide +kernel) ⟨Nat.le_trans (Nat.le_of_ble_eq_true rfl) hRf, Nat.le_trans (Nat.le_of_ble_eq_true rfl) hRl⟩, hT _ w_10_225, hT _ ws_110⟩ ⟨PW.blind, va_recv hK hW.1 (ci := 12) (q0 := 0) rfl (pic_obj ko_0.1 ko_0.2 (by decide)), PW.at _ hW hK hN⟩ rfl rfl hl.1 rfl (lv_room (Nat.le_of_ble_eq_true rfl)) d_Mod_readCondition_95 ⟨hRc, hRs⟩) hS (fun q _ h => hF q h) hF (fun r2169 x2168 t H locs ht hvm hw hB hz1 hk1 hS => ?_)
          have hW := Wd.back hB ht hF
          clear hB ht hF hz1 hk1 hvm
          refine lv_if_eq (tgt := 127) hx hb d_Mod_readCondition_98 (by decide) (fun c2170 => ?_) (fun c2170 => ?_)
          · have hw := hw.1 c2170
            refine lv_aload_n hx hb d_Mod_readCondition_127 rfl (lv_at hl 0 rfl) ?_
            refine w_geti (k := 139) (t := 12) (C := R_Mod) (T := F_Mod) (N := 167) hx hb hT hown hK hW ko_0.1 ko_0.2 (by decide) in_Mod rfl rfl (by decide) rfl fr_Mod_139 w_9_75 d_Mod_readCondition_128 ?_
            refine lv_if_ne (tgt := 135) hx hb d_Mod_readCondition_131 (by decide) (fun c2171 => ?_) (fun c2171 => ?_)
            · have hw := hw.1 c2171
              refine lv_aload_n hx hb d_Mod_readCondition_135 rfl (lv_at hl 0 rfl) ?_
              refine lv_bipush (v := 41) hx hb d_Mod_readCondition_136 (by decide) ?_
              have hF := hW.free hS hA
              refine va_callv (va_runV (C := R_Mod) (As := [.int 41]) (rest := []) ⟨hx, hb, hml, hown, hT⟩ (k_Mod_wantSign l dC dI cI cB cJ cZ ad H.size 41 x2168  hw) ⟨callB_of 1 hT (gwt_in w_11_42) rfl rfl rfl (hT _ w_1_15) (hT _ w_11_39) (by decide +kernel) ⟨Nat.le_trans (Nat.le_of_ble_eq_true rfl) hRf, Nat.le_trans (Nat.le_of_ble_eq_true rfl) hRl⟩, hT _ w_11_41, hT _ ws_120⟩ ⟨PW.blind, va_recv hK hW.1 (ci := 12) (q0 := 0) rfl (pic_obj ko_0.1 ko_0.2 (by decide)), PW.at _ hW hK hN⟩ rfl rfl hl.1 rfl (lv_room (Nat.le_of_ble_eq_true rfl)) d_Mod_readCondition_138 ⟨hRc, hRs⟩) hS (fun q _ h => hF q h) hF (fun  x2172 t H locs ht hvm hw hB hz1 hk1 hS => ?_)
              have hW := Wd.back hB ht hF
              clear hB ht hF hz1 hk1 hvm
              refine lv_aload_n hx hb d_Mod_readCondition_141 rfl (lv_at hl 0 rfl) ?_
              refine lv_dup hx hb d_Mod_readCondition_142 rfl ?_
              refine w_geti (k := 139) (t := 12) (C := R_Mod) (T := F_Mod) (N := 167) hx hb hT hown hK hW ko_0.1 ko_0.2 (by decide) in_Mod rfl rfl (by decide) rfl fr_Mod_139 w_9_75 d_Mod_readCondition_143 ?_
              refine lv_iconst (v := 1) hx hb d_Mod_readCondition_146 (by decide) ?_
              refine lv_isub hx hb d_Mod_readCondition_147 ?_
              refine w_puti (ty := .int) (k := 139) (t := 12) (C := R_Mod) (T := F_Mod) (N := 167) hx hb hT hown hK hW hS ko_0.1 ko_0.2 (by decide) in_Mod t_Mod t_Mod_ok n_Mod rfl rfl (by decide) rfl fr_Mod_139 w_9_75 (by decide +kernel) rfl rfl d_Mod_readCondition_148 (fun H locs hW hS => ?_)
              obtain ⟨x2173, ex2173⟩ : ∃ y : St, y = setI x2172 0 139 ((fI x2172 0 139) - 1) := ⟨_, rfl⟩
              rw [← ex2173] at hW
              have hw := hw x2173 ex2173
              refine lv_aload_n hx hb d_Mod_readCondition_151 rfl (lv_at hl 0 rfl) ?_
              refine lv_dup hx hb d_Mod_readCondition_152 rfl ?_
              refine w_geti (k := 140) (t := 12) (C := R_Mod) (T := F_Mod) (N := 167) hx hb hT hown hK hW ko_0.1 ko_0.2 (by decide) in_Mod rfl rfl (by decide) rfl fr_Mod_140 w_9_76 d_Mod_readCondition_153 ?_
              refine lv_iconst (v := 1) hx hb d_Mod_readCondition_156 (by decide) ?_
              refine lv_isub hx hb d_Mod_readCondition_157 ?_
              refine w_puti (ty := .int) (k := 140) (t := 12) (C := R_Mod) (T := F_Mod) (N := 167) hx hb hT hown hK hW hS ko_0.1 ko_0.2 (by decide) in_Mod t_Mod t_Mod_ok n_Mod rfl rfl (by decide) rfl fr_Mod_140 w_9_76 (by decide +kernel) rfl rfl d_Mod_readCondition_158 (fun H locs hW hS => ?_)
              obtain ⟨x2174, ex2174⟩ : ∃ y : St, y = setI x2173 0 140 ((fI x2173 0 140) - 1) := ⟨_, rfl⟩
              rw [← ex2174] at hW
              have hw := hw x2174 ex2174
              refine lv_goto (tgt := 14) hx hb d_Mod_readCondition_161 (by decide) ?_
              exact hrec14  x2174 H locs ls  hw hW hS (lv_sub hl [0] rfl)
            · have hw := hw.2 c2171
              exact hret x2168 H locs 134 ls d_Mod_readCondition_134 hw hW hS
          · have hw := hw.2 c2170
            refine lv_aload_n hx hb d_Mod_readCondition_101 rfl (lv_at hl 0 rfl) ?_
            refine lv_iconst (v := 3) hx hb d_Mod_readCondition_102 (by decide) ?_
            refine lv_aload_n hx hb d_Mod_readCondition_103 rfl (lv_at hl 0 rfl) ?_
            refine w_geti (k := 16) (t := 12) (C := R_Mod) (T := F_Mod) (N := 167) hx hb hT hown hK hW ko_0.1 ko_0.2 (by decide) in_Mod rfl rfl (by decide) rfl fr_Mod_16 w_8_192 d_Mod_readCondition_104 ?_
            have hF := hW.free hS hA
            refine va_callv (va_runV (C := R_Mod) (As := [.int 3, .int (fI x2168 0 16)]) (rest := []) ⟨hx, hb, hml, hown, hT⟩ (k_Mod_push l dC dI cI cB cJ cZ ad H.size 3 (fI x2168 0 16) x2168  hw) ⟨callB_of 2 hT (gwt_in w_13_179) rfl rfl rfl (hT _ w_1_15) (hT _ w_13_176) (by decide +kernel) ⟨Nat.le_trans (Nat.le_of_ble_eq_true rfl) hRf, Nat.le_trans (Nat.le_of_ble_eq_true rfl) hRl⟩, hT _ w_13_178, hT _ ws_247⟩ ⟨PW.blind, va_recv hK hW.1 (ci := 12) (q0 := 0) rfl (pic_obj ko_0.1 ko_0.2 (by decide)), PW.at _ hW hK hN⟩ rfl rfl hl.1 rfl (lv_room (Nat.le_of_ble_eq_true rfl)) d_Mod_readCondition_107 ⟨hRc, hRs⟩) hS (fun q _ h => hF q h) hF (fun  x2175 t H locs ht hvm hw hB hz1 hk1 hS => ?_)
            have hW := Wd.back hB ht hF
            clear hB ht hF hz1 hk1 hvm
            refine lv_aload_n hx hb d_Mod_readCondition_110 rfl (lv_at hl 0 rfl) ?_
            refine lv_dup hx hb d_Mod_readCondition_111 rfl ?_
            refine w_geti (k := 16) (t := 12) (C := R_Mod) (T := F_Mod) (N := 167) hx hb hT hown hK hW ko_0.1 ko_0.2 (by decide) in_Mod rfl rfl (by decide) rfl fr_Mod_16 w_8_192 d_Mod_readCondition_112 ?_
            refine lv_iconst (v := 2) hx hb d_Mod_readCondition_115 (by decide) ?_
            refine lv_iadd hx hb d_Mod_readCondition_116 ?_
            refine w_puti (ty := .int) (k := 16) (t := 12) (C := R_Mod) (T := F_Mod) (N := 167) hx hb hT hown hK hW hS ko_0.1 ko_0.2 (by decide) in_Mod t_Mod t_Mod_ok n_Mod rfl rfl (by decide) rfl fr_Mod_16 w_8_192 (by decide +kernel) rfl rfl d_Mod_readCondition_117 (fun H locs hW hS => ?_)
            obtain ⟨x2176, ex2176⟩ : ∃ y : St, y = setI x2175 0 16 ((fI x2175 0 16) + 2) := ⟨_, rfl⟩
            rw [← ex2176] at hW
            have hw := hw x2176 ex2176
            refine lv_aload_n hx hb d_Mod_readCondition_120 rfl (lv_at hl 0 rfl) ?_
            have hF := hW.free hS hA
            refine va_callv (va_runV (C := R_Mod) (As := []) (rest := []) ⟨hx, hb, hml, hown, hT⟩ (k_Mod_readTest l dC dI cI cB cJ cZ ad H.size  x2176  hw) ⟨callB_of 0 hT (gwt_in w_13_159) rfl rfl rfl (hT _ w_1_15) (hT _ w_13_156) (by decide +kernel) ⟨Nat.le_trans (Nat.le_of_ble_eq_true rfl) hRf, Nat.le_trans (Nat.le_of_ble_eq_true rfl) hRl⟩, hT _ w_13_158, hT _ ws_242⟩ ⟨PW.blind, va_recv hK hW.1 (ci := 12) (q0 := 0) rfl (pic_obj ko_0.1 ko_0.2 (by decide)), PW.at _ hW hK hN⟩ rfl rfl hl.1 rfl (lv_room (Nat.le_of_ble_eq_true rfl)) d_Mod_readCondition_121 ⟨hRc, hRs⟩) hS (fun q _ h => hF q h) hF (fun  x2177 t H locs ht hvm hw hB hz1 hk1 hS => ?_)
            have hW := Wd.back hB ht hF
            clear hB ht hF hz1 hk1 hvm
            refine lv_goto (tgt := 14) hx hb d_Mod_readCondition_124 (by decide) ?_
            exact hrec14  x2177 H locs ls  hw hW hS (lv_sub hl [0] rfl)
        · have hw := hw.2 c2167
          exact hret x2166 H locs 90 ls d_Mod_readCondition_90 hw hW hS
      · have hw := hw.2 c2165
        refine lv_aload_n hx hb d_Mod_readCondition_51 rfl (lv_at hl 0 rfl) ?_
        refine lv_iconst (v := 2) hx hb d_Mod_readCondition_52 (by decide) ?_
        refine lv_aload_n hx hb d_Mod_readCondition_53 rfl (lv_at hl 0 rfl) ?_
        refine w_geti (k := 16) (t := 12) (C := R_Mod) (T := F_Mod) (N := 167) hx hb hT hown hK hW ko_0.1 ko_0.2 (by decide) in_Mod rfl rfl (by decide) rfl fr_Mod_16 w_8_192 d_Mod_readCondition_54 ?_
        have hF := hW.free hS hA
        refine va_callv (va_runV (C := R_Mod) (As := [.int 2, .int (fI x2163 0 16)]) (rest := []) ⟨hx, hb, hml, hown, hT⟩ (k_Mod_push l dC dI cI cB cJ cZ ad H.size 2 (fI x2163 0 16) x2163  hw) ⟨callB_of 2 hT (gwt_in w_13_179) rfl rfl rfl (hT _ w_1_15) (hT _ w_13_176) (by decide +kernel) ⟨Nat.le_trans (Nat.le_of_ble_eq_true rfl) hRf, Nat.le_trans (Nat.le_of_ble_eq_true rfl) hRl⟩, hT _ w_13_178, hT _ ws_247⟩ ⟨PW.blind, va_recv hK hW.1 (ci := 12) (q0 := 0) rfl (pic_obj ko_0.1 ko_0.2 (by decide)), PW.at _ hW hK hN⟩ rfl rfl hl.1 rfl (lv_room (Nat.le_of_ble_eq_true rfl)) d_Mod_readCondition_57 ⟨hRc, hRs⟩) hS (fun q _ h => hF q h) hF (fun  x2178 t H locs ht hvm hw hB hz1 hk1 hS => ?_)
        have hW := Wd.back hB ht hF
        clear hB ht hF hz1 hk1 hvm
        refine lv_aload_n hx hb d_Mod_readCondition_60 rfl (lv_at hl 0 rfl) ?_
        refine lv_dup hx hb d_Mod_readCondition_61 rfl ?_
        refine w_geti (k := 16) (t := 12) (C := R_Mod) (T := F_Mod) (N := 167) hx hb hT hown hK hW ko_0.1 ko_0.2 (by decide) in_Mod rfl rfl (by decide) rfl fr_Mod_16 w_8_192 d_Mod_readCondition_62 ?_
        refine lv_iconst (v := 3) hx hb d_Mod_readCondition_65 (by decide) ?_
        refine lv_iadd hx hb d_Mod_readCondition_66 ?_
        refine w_puti (ty := .int) (k := 16) (t := 12) (C := R_Mod) (T := F_Mod) (N := 167) hx hb hT hown hK hW hS ko_0.1 ko_0.2 (by decide) in_Mod t_Mod t_Mod_ok n_Mod rfl rfl (by decide) rfl fr_Mod_16 w_8_192 (by decide +kernel) rfl rfl d_Mod_readCondition_67 (fun H locs hW hS => ?_)
        obtain ⟨x2179, ex2179⟩ : ∃ y : St, y = setI x2178 0 16 ((fI x2178 0 16) + 3) := ⟨_, rfl⟩
        rw [← ex2179] at hW
        have hw := hw x2179 ex2179
        refine lv_aload_n hx hb d_Mod_readCondition_70 rfl (lv_at hl 0 rfl) ?_
        have hF := hW.free hS hA
        refine va_callv (va_runV (C := R_Mod) (As := []) (rest := []) ⟨hx, hb, hml, hown, hT⟩ (k_Mod_readTest l dC dI cI cB cJ cZ ad H.size  x2179  hw) ⟨callB_of 0 hT (gwt_in w_13_159) rfl rfl rfl (hT _ w_1_15) (hT _ w_13_156) (by decide +kernel) ⟨Nat.le_trans (Nat.le_of_ble_eq_true rfl) hRf, Nat.le_trans (Nat.le_of_ble_eq_true rfl) hRl⟩, hT _ w_13_158, hT _ ws_242⟩ ⟨PW.blind, va_recv hK hW.1 (ci := 12) (q0 := 0) rfl (pic_obj ko_0.1 ko_0.2 (by decide)), PW.at _ hW hK hN⟩ rfl rfl hl.1 rfl (lv_room (Nat.le_of_ble_eq_true rfl)) d_Mod_readCondition_71 ⟨hRc, hRs⟩) hS (fun q _ h => hF q h) hF (fun  x2180 t H locs ht hvm hw hB hz1 hk1 hS => ?_)
        have hW := Wd.back hB ht hF
        clear hB ht hF hz1 hk1 hvm
        refine lv_goto (tgt := 14) hx hb d_Mod_readCondition_74 (by decide) ?_
        exact hrec14  x2180 H locs ls  hw hW hS (lv_sub hl [0] rfl)
    · have hw := hw.2 c2162
      exact hret x2161 H locs 40 ls d_Mod_readCondition_40 hw hW hS
set_option maxHeartbeats 4000000 in
set_option maxRecDepth 100000 in
theorem tl_Mod_readCondition_14 {p : Program} {l : Launch} {e : Env} {R : Room} {s : State} {m : MethodId} {args : Array Value} {below : List Frame} {meth : Method} {c : Code} {cells slots : Nat} {Q : State → Prop} {dC : Nat → ClassId} {dI : Nat → Nat → Nat} {cI cB cJ cZ : ClassId} {A : Nat → Prop} {ad : Nat → Nat} {post : St → Prop} (hx : p.tables.exec = Jvm.exec) (hb : c.code = b_Mod_readCondition) (hml : c.maxLocals = 1) (hown : s.vm.findClass R_Mod = some m.cls) (hT : ∀ w ∈ TG, w.before args s = true) (hK : va_K (dC, dI) CL (TY cI cB cJ cZ) s) (hN : NW s) (hA : ∀ q : Nat, s.heap.size ≤ q → A q) (hRc : cells ≤ R.cells) (hRs : slots ≤ R.slots) (hRf : 8 ≤ R.frames) (hRl : 186 ≤ R.locals) (hret : ∀ (x : St) (H : Heap) (locs : List Loc) (pc : Nat) (ls : Array Slot), decode b_Mod_readCondition pc = .ok (.return_, 1) → post x → Wd dC dI cI cB cJ cZ ad stM kcM 115 A x H → va_S A s.heap H locs → W p l e R s m args below meth c H locs cells slots Q (F0 m pc ls []))  : ∀ n : Nat, ∀  (x : St) (H : Heap) (locs : List Loc) (ls : Array Slot), wl_Mod_readCondition_14 post n  x → Wd dC dI cI cB cJ cZ ad stM kcM 115 A x H → va_S A s.heap H locs → lv_has ls 1 [(0, .ref (ad 0))] → W p l e R s m args below meth c H locs cells slots Q (F0 m 14 ls []) := by
  intro n
  induction n with
  | zero => intro  x H locs ls  hw; exact hw.elim
  | succ n ih => intro  x H locs ls  hw hW hS hl; exact t_Mod_readCondition_14 hx hb hml hown hT hK hN hA hRc hRs hRf hRl hret  ih  x H locs ls  hw hW hS hl
set_option maxRecDepth 100000 in
set_option maxHeartbeats 4000000 in
set_option maxRecDepth 100000 in
theorem t_Mod_readCondition_e {p : Program} {l : Launch} {e : Env} {R : Room} {s : State} {m : MethodId} {args : Array Value} {below : List Frame} {meth : Method} {c : Code} {cells slots : Nat} {Q : State → Prop} {dC : Nat → ClassId} {dI : Nat → Nat → Nat} {cI cB cJ cZ : ClassId} {A : Nat → Prop} {ad : Nat → Nat} {post : St → Prop} (hx : p.tables.exec = Jvm.exec) (hb : c.code = b_Mod_readCondition) (hml : c.maxLocals = 1) (hown : s.vm.findClass R_Mod = some m.cls) (hT : ∀ w ∈ TG, w.before args s = true) (hK : va_K (dC, dI) CL (TY cI cB cJ cZ) s) (hN : NW s) (hA : ∀ q : Nat, s.heap.size ≤ q → A q) (hRc : cells ≤ R.cells) (hRs : slots ≤ R.slots) (hRf : 8 ≤ R.frames) (hRl : 186 ≤ R.locals) (hret : ∀ (x : St) (H : Heap) (locs : List Loc) (pc : Nat) (ls : Array Slot), decode b_Mod_readCondition pc = .ok (.return_, 1) → post x → Wd dC dI cI cB cJ cZ ad stM kcM 115 A x H → va_S A s.heap H locs → W p l e R s m args below meth c H locs cells slots Q (F0 m pc ls [])) : ∀  (x : St) (H : Heap) (locs : List Loc) (ls : Array Slot), wp_Mod_readCondition post  x → Wd dC dI cI cB cJ cZ ad stM kcM 115 A x H → va_S A s.heap H locs → lv_has ls 1 [(0, .ref (ad 0))] → W p l e R s m args below meth c H locs cells slots Q (F0 m 0 ls []) := by
  intro  x H locs ls  hw hW hS hl
  unfold wp_Mod_readCondition at hw
  refine lv_aload_n hx hb d_Mod_readCondition_0 rfl (lv_at hl 0 rfl) ?_
  refine lv_iconst (v := 0) hx hb d_Mod_readCondition_1 (by decide) ?_
  refine w_puti (ty := .int) (k := 139) (t := 12) (C := R_Mod) (T := F_Mod) (N := 167) hx hb hT hown hK hW hS ko_0.1 ko_0.2 (by decide) in_Mod t_Mod t_Mod_ok n_Mod rfl rfl (by decide) rfl fr_Mod_139 w_9_75 (by decide +kernel) rfl rfl d_Mod_readCondition_2 (fun H locs hW hS => ?_)
  obtain ⟨x2181, ex2181⟩ : ∃ y : St, y = setI x 0 139 0 := ⟨_, rfl⟩
  rw [← ex2181] at hW
  have hw := hw x2181 ex2181
  refine lv_aload_n hx hb d_Mod_readCondition_5 rfl (lv_at hl 0 rfl) ?_
  refine lv_iconst (v := 0) hx hb d_Mod_readCondition_6 (by decide) ?_
  refine w_puti (ty := .int) (k := 140) (t := 12) (C := R_Mod) (T := F_Mod) (N := 167) hx hb hT hown hK hW hS ko_0.1 ko_0.2 (by decide) in_Mod t_Mod t_Mod_ok n_Mod rfl rfl (by decide) rfl fr_Mod_140 w_9_76 (by decide +kernel) rfl rfl d_Mod_readCondition_7 (fun H locs hW hS => ?_)
  obtain ⟨x2182, ex2182⟩ : ∃ y : St, y = setI x2181 0 140 0 := ⟨_, rfl⟩
  rw [← ex2182] at hW
  have hw := hw x2182 ex2182
  refine lv_aload_n hx hb d_Mod_readCondition_10 rfl (lv_at hl 0 rfl) ?_
  have hF := hW.free hS hA
  refine va_callv (va_runV (C := R_Mod) (As := []) (rest := []) ⟨hx, hb, hml, hown, hT⟩ (k_Mod_readTest l dC dI cI cB cJ cZ ad H.size  x2182  hw) ⟨callB_of 0 hT (gwt_in w_13_159) rfl rfl rfl (hT _ w_1_15) (hT _ w_13_156) (by decide +kernel) ⟨Nat.le_trans (Nat.le_of_ble_eq_true rfl) hRf, Nat.le_trans (Nat.le_of_ble_eq_true rfl) hRl⟩, hT _ w_13_158, hT _ ws_242⟩ ⟨PW.blind, va_recv hK hW.1 (ci := 12) (q0 := 0) rfl (pic_obj ko_0.1 ko_0.2 (by decide)), PW.at _ hW hK hN⟩ rfl rfl hl.1 rfl (lv_room (Nat.le_of_ble_eq_true rfl)) d_Mod_readCondition_11 ⟨hRc, hRs⟩) hS (fun q _ h => hF q h) hF (fun  x2183 t H locs ht hvm hw hB hz1 hk1 hS => ?_)
  have hW := Wd.back hB ht hF
  clear hB ht hF hz1 hk1 hvm
  obtain ⟨n, hw⟩ := hw
  exact tl_Mod_readCondition_14 hx hb hml hown hT hK hN hA hRc hRs hRf hRl hret  n  x2183 H locs ls  hw hW hS (lv_sub hl [0] rfl)
set_option maxHeartbeats 4000000 in
set_option maxRecDepth 100000 in
theorem k_Mod_readCondition (l : Launch) (dC : Nat → ClassId) (dI : Nat → Nat → Nat) (cI cB cJ cZ : ClassId) (ad : Nat → Nat) (sz : Nat)  (x : St) {post : St → Prop} (hw : wp_Mod_readCondition post  x) : Met l y_Mod_readCondition (wsOf y_Mod_readCondition b_Mod_readCondition 1 (none)) ({ frames := 8, cells := 0, slots := 0, locals := 186 }) (va_Pc [.ref (ad 0)] (PW dC dI cI cB cJ cZ ad stM kcM 115 sz x)) (va_Qv (fun (y : St) => post y) (fun y t => Wd dC dI cI cB cJ cZ ad stM kcM 115 (va_A (pic ad stM kcM 115 cI cB cJ cZ x) sz) y t.heap) (va_A (pic ad stM kcM 115 cI cB cJ cZ x) sz)) 0 0 (va_A (pic ad stM kcM 115 cI cB cJ cZ x) sz) := by
  refine Met.ofW (cc := b_Mod_readCondition) (maxL := 1) (ret := none) (by decide) rfl ?_
  intro p e s m args below meth c s₁ B hml hv
  obtain ⟨rfl, hsz, hW0, hK, hN⟩ := hv
  have hx := B.exec
  have hb := B.bytes
  have hr := B.returns
  have hts := atoms_spec B.pre
  have hT : ∀ w ∈ TG, w.before _ s = true := fun w h => hts w (List.mem_cons_of_mem _ h)
  have hown : s.vm.findClass R_Mod = some m.cls := findClass_of_methodNamed B.named
  have hlocks := B.notSynchronized
  subst hsz
  have hW : Wd dC dI cI cB cJ cZ ad stM kcM 115 (va_A (pic ad stM kcM 115 cI cB cJ cZ x) s.heap.size) x s.heap := ⟨hW0.1, hW0.2.1.self (sz := s.heap.size), hW0.2.2⟩
  generalize hAe : va_A (pic ad stM kcM 115 cI cB cJ cZ x) s.heap.size = A at hW ⊢
  have hA : ∀ q : Nat, s.heap.size ≤ q → A q := fun q h => by rw [← hAe]; exact Or.inr h
  have hS : va_S A s.heap s.heap [] := va_S.rf
  have hl := lv_entry ([.ref (ad 0)]) (n := 1) (Nat.le_of_ble_eq_true rfl)
  rw [lg_entry_eq]
  generalize (lg_sl ([.ref (ad 0)]) ++ List.replicate (1 - (lg_sl ([.ref (ad 0)])).length) Slot.unset).toArray = ls at hl ⊢
  have hl : lv_has ls 1 [(0, .ref (ad 0))] := hl
  exact t_Mod_readCondition_e hx hb hml hown hT hK hN hA (Nat.le_refl 0) (Nat.le_refl 0) (Nat.le_refl 8) (Nat.le_refl 186) (fun x H locs pc ls hd hp hW hS => W.vret hx hb hr (fun t ht hM => ⟨⟨x, rfl, hp, Wd.back hW ht.symm (fun _ z => z)⟩, hS.F ht⟩) hS.2.2 hd hlocks)   x _ _ ls  hw hW hS hl
set_option maxRecDepth 100000 in
set_option maxHeartbeats 4000000 in
set_option maxRecDepth 100000 in
theorem t_Mod_isBy_48 {p : Program} {l : Launch} {e : Env} {R : Room} {s : State} {m : MethodId} {args : Array Value} {below : List Frame} {meth : Method} {c : Code} {cells slots : Nat} {Q : State → Prop} {dC : Nat → ClassId} {dI : Nat → Nat → Nat} {cI cB cJ cZ : ClassId} {A : Nat → Prop} {ad : Nat → Nat} {post : Int32 → St → Prop} {rec4 : Int32 → Int32 → Int32 → St → Prop} (hx : p.tables.exec = Jvm.exec) (hb : c.code = b_Mod_isBy) (hml : c.maxLocals = 4) (hown : s.vm.findClass R_Mod = some m.cls) (hT : ∀ w ∈ TG, w.before args s = true) (hK : va_K (dC, dI) CL (TY cI cB cJ cZ) s) (hN : NW s) (hA : ∀ q : Nat, s.heap.size ≤ q → A q) (hRc : cells ≤ R.cells) (hRs : slots ≤ R.slots) (hRf : 0 ≤ R.frames) (hRl : 0 ≤ R.locals) (hret : ∀ (r : Int32) (x : St) (H : Heap) (locs : List Loc) (pc : Nat) (ls : Array Slot), decode b_Mod_isBy pc = .ok (.ireturn, 1) → narrow .boolean (.int r) = .int r → post r x → Wd dC dI cI cB cJ cZ ad stM kcM 115 A x H → va_S A s.heap H locs → W p l e R s m args below meth c H locs cells slots Q (F0 m pc ls [.int r])) (hrec4 : ∀ (l1 : Int32) (l2 : Int32) (l3 : Int32) (x : St) (H : Heap) (locs : List Loc) (ls : Array Slot), rec4 l1 l2 l3 x → Wd dC dI cI cB cJ cZ ad stM kcM 115 A x H → va_S A s.heap H locs → lv_has ls 4 [(0, .ref (ad 0)), (1, .int l1), (2, .int l2), (3, .int l3)] → W p l e R s m args below meth c H locs cells slots Q (F0 m 4 ls [])) : ∀ (l1 : Int32) (l2 : Int32) (l3 : Int32) (s0 : Int32) (x : St) (H : Heap) (locs : List Loc) (ls : Array Slot), j_Mod_isBy_48 post rec4 l1 l2 l3 s0 x → Wd dC dI cI cB cJ cZ ad stM kcM 115 A x H → va_S A s.heap H locs → lv_has ls 4 [(0, .ref (ad 0)), (1, .int l1), (2, .int l2), (3, .int l3)] → W p l e R s m args below meth c H locs cells slots Q (F0 m 48 ls [.int s0]) := by
  intro l1 l2 l3 s0 x H locs ls  hw hW hS hl
  unfold j_Mod_isBy_48 at hw
  refine lv_istore_n (lv' := [(2, .int s0), (0, .ref (ad 0)), (1, .int l1), (3, .int l3)]) hx hb d_Mod_isBy_48 rfl hl (by decide) rfl (fun ls hl => ?_)
  refine lv_iinc (v := (l3 + 1)) (lv' := [(3, .int (l3 + 1)), (2, .int s0), (0, .ref (ad 0)), (1, .int l1)]) hx hb d_Mod_isBy_49 hl (k := 3) rfl rfl (by decide) rfl (fun ls hl => ?_)
  refine lv_goto (tgt := 4) hx hb d_Mod_isBy_52 (by decide) ?_
  exact hrec4 l1 s0 (l3 + 1) x H locs ls  hw hW hS (lv_sub hl [2, 3, 1, 0] rfl)
set_option maxRecDepth 100000 in
set_option maxHeartbeats 4000000 in
set_option maxRecDepth 100000 in
theorem t_Mod_isBy_43 {p : Program} {l : Launch} {e : Env} {R : Room} {s : State} {m : MethodId} {args : Array Value} {below : List Frame} {meth : Method} {c : Code} {cells slots : Nat} {Q : State → Prop} {dC : Nat → ClassId} {dI : Nat → Nat → Nat} {cI cB cJ cZ : ClassId} {A : Nat → Prop} {ad : Nat → Nat} {post : Int32 → St → Prop} {rec4 : Int32 → Int32 → Int32 → St → Prop} (hx : p.tables.exec = Jvm.exec) (hb : c.code = b_Mod_isBy) (hml : c.maxLocals = 4) (hown : s.vm.findClass R_Mod = some m.cls) (hT : ∀ w ∈ TG, w.before args s = true) (hK : va_K (dC, dI) CL (TY cI cB cJ cZ) s) (hN : NW s) (hA : ∀ q : Nat, s.heap.size ≤ q → A q) (hRc : cells ≤ R.cells) (hRs : slots ≤ R.slots) (hRf : 0 ≤ R.frames) (hRl : 0 ≤ R.locals) (hret : ∀ (r : Int32) (x : St) (H : Heap) (locs : List Loc) (pc : Nat) (ls : Array Slot), decode b_Mod_isBy pc = .ok (.ireturn, 1) → narrow .boolean (.int r) = .int r → post r x → Wd dC dI cI cB cJ cZ ad stM kcM 115 A x H → va_S A s.heap H locs → W p l e R s m args below meth c H locs cells slots Q (F0 m pc ls [.int r])) (hrec4 : ∀ (l1 : Int32) (l2 : Int32) (l3 : Int32) (x : St) (H : Heap) (locs : List Loc) (ls : Array Slot), rec4 l1 l2 l3 x → Wd dC dI cI cB cJ cZ ad stM kcM 115 A x H → va_S A s.heap H locs → lv_has ls 4 [(0, .ref (ad 0)), (1, .int l1), (2, .int l2), (3, .int l3)] → W p l e R s m args below meth c H locs cells slots Q (F0 m 4 ls [])) : ∀ (l1 : Int32) (l2 : Int32) (l3 : Int32) (x : St) (H : Heap) (locs : List Loc) (ls : Array Slot), j_Mod_isBy_43 post rec4 l1 l2 l3 x → Wd dC dI cI cB cJ cZ ad stM kcM 115 A x H → va_S A s.heap H locs → lv_has ls 4 [(0, .ref (ad 0)), (1, .int l1), (2, .int l2), (3, .int l3)] → W p l e R s m args below meth c H locs cells slots Q (F0 m 43 ls []) := by
  intro l1 l2 l3 x H locs ls  hw hW hS hl
  unfold j_Mod_isBy_43 at hw
  refine lv_iconst (v := 1) hx hb d_Mod_isBy_43 (by decide) ?_
  refine lv_goto (tgt := 48) hx hb d_Mod_isBy_44 (by decide) ?_
  exact t_Mod_isBy_48 hx hb hml hown hT hK hN hA hRc hRs hRf hRl hret hrec4 l1 l2 l3 1 x H locs ls  hw hW hS (lv_sub hl [0, 1, 2, 3] rfl)
set_option maxRecDepth 100000 in
set_option maxHeartbeats 4000000 in
set_option maxRecDepth 100000 in
theorem t_Mod_isBy_4 {p : Program} {l : Launch} {e : Env} {R : Room} {s : State} {m : MethodId} {args : Array Value} {below : List Frame} {meth : Method} {c : Code} {cells slots : Nat} {Q : State → Prop} {dC : Nat → ClassId} {dI : Nat → Nat → Nat} {cI cB cJ cZ : ClassId} {A : Nat → Prop} {ad : Nat → Nat} {post : Int32 → St → Prop} {rec4 : Int32 → Int32 → Int32 → St → Prop} (hx : p.tables.exec = Jvm.exec) (hb : c.code = b_Mod_isBy) (hml : c.maxLocals = 4) (hown : s.vm.findClass R_Mod = some m.cls) (hT : ∀ w ∈ TG, w.before args s = true) (hK : va_K (dC, dI) CL (TY cI cB cJ cZ) s) (hN : NW s) (hA : ∀ q : Nat, s.heap.size ≤ q → A q) (hRc : cells ≤ R.cells) (hRs : slots ≤ R.slots) (hRf : 0 ≤ R.frames) (hRl : 0 ≤ R.locals) (hret : ∀ (r : Int32) (x : St) (H : Heap) (locs : List Loc) (pc : Nat) (ls : Array Slot), decode b_Mod_isBy pc = .ok (.ireturn, 1) → narrow .boolean (.int r) = .int r → post r x → Wd dC dI cI cB cJ cZ ad stM kcM 115 A x H → va_S A s.heap H locs → W p l e R s m args below meth c H locs cells slots Q (F0 m pc ls [.int r])) (hrec4 : ∀ (l1 : Int32) (l2 : Int32) (l3 : Int32) (x : St) (H : Heap) (locs : List Loc) (ls : Array Slot), rec4 l1 l2 l3 x → Wd dC dI cI cB cJ cZ ad stM kcM 115 A x H → va_S A s.heap H locs → lv_has ls 4 [(0, .ref (ad 0)), (1, .int l1), (2, .int l2), (3, .int l3)] → W p l e R s m args below meth c H locs cells slots Q (F0 m 4 ls [])) : ∀ (l1 : Int32) (l2 : Int32) (l3 : Int32) (x : St) (H : Heap) (locs : List Loc) (ls : Array Slot), j_Mod_isBy_4 post rec4 l1 l2 l3 x → Wd dC dI cI cB cJ cZ ad stM kcM 115 A x H → va_S A s.heap H locs → lv_has ls 4 [(0, .ref (ad 0)), (1, .int l1), (2, .int l2), (3, .int l3)] → W p l e R s m args below meth c H locs cells slots Q (F0 m 4 ls []) := by
  intro l1 l2 l3 x H locs ls  hw hW hS hl
  unfold j_Mod_isBy_4 at hw
  refine lv_iload_n hx hb d_Mod_isBy_4 rfl (lv_at hl 3 rfl) ?_
  refine lv_aload_n hx hb d_Mod_isBy_5 rfl (lv_at hl 0 rfl) ?_
  refine w_getf (q := 79) (k := 122) (t := 12) (C := R_Mod) (T := F_Mod) (N := 167) hx hb hT hown hK hW ko_0.1 ko_0.2 (by decide) in_Mod rfl rfl (by decide) rfl fr_Mod_122 w_9_58 d_Mod_isBy_6 rfl ?_
  refine lv_iconst (v := 4) hx hb d_Mod_isBy_9 (by decide) ?_
  refine lv_aload_n hx hb d_Mod_isBy_10 rfl (lv_at hl 0 rfl) ?_
  refine w_geti (k := 118) (t := 12) (C := R_Mod) (T := F_Mod) (N := 167) hx hb hT hown hK hW ko_0.1 ko_0.2 (by decide) in_Mod rfl rfl (by decide) rfl fr_Mod_118 w_9_54 d_Mod_isBy_11 ?_
  refine lv_imul hx hb d_Mod_isBy_14 ?_
  refine lv_iconst (v := 1) hx hb d_Mod_isBy_15 (by decide) ?_
  refine lv_iadd hx hb d_Mod_isBy_16 ?_
  obtain ⟨hi, hw⟩ := hw
  refine w_iald (o := 79) hx hb hK hW ko_79.1 ko_79.2 hi d_Mod_isBy_17 ?_
  refine lv_icmp_ge (tgt := 55) hx hb d_Mod_isBy_18 (by decide) (fun c2184 => ?_) (fun c2184 => ?_)
  · have hw := hw.1 c2184
    refine lv_iload_n hx hb d_Mod_isBy_55 rfl (lv_at hl 2 rfl) ?_
    exact hret l2 x H locs 56 ls d_Mod_isBy_56 hw.1 hw.2 hW hS
  · have hw := hw.2 c2184
    refine lv_iload_n hx hb d_Mod_isBy_21 rfl (lv_at hl 2 rfl) ?_
    refine lv_if_ne (tgt := 43) hx hb d_Mod_isBy_22 (by decide) (fun c2185 => ?_) (fun c2185 => ?_)
    · have hw := hw.1 c2185
      exact t_Mod_isBy_43 hx hb hml hown hT hK hN hA hRc hRs hRf hRl hret hrec4 l1 l2 l3 x H locs ls  hw hW hS (lv_sub hl [0, 1, 2, 3] rfl)
    · have hw := hw.2 c2185
      refine lv_aload_n hx hb d_Mod_isBy_25 rfl (lv_at hl 0 rfl) ?_
      refine w_getf (q := 83) (k := 126) (t := 12) (C := R_Mod) (T := F_Mod) (N := 167) hx hb hT hown hK hW ko_0.1 ko_0.2 (by decide) in_Mod rfl rfl (by decide) rfl fr_Mod_126 w_9_62 d_Mod_isBy_26 rfl ?_
      refine lv_bipush (v := 8) hx hb d_Mod_isBy_29 (by decide) ?_
      refine lv_aload_n hx hb d_Mod_isBy_31 rfl (lv_at hl 0 rfl) ?_
      refine w_geti (k := 118) (t := 12) (C := R_Mod) (T := F_Mod) (N := 167) hx hb hT hown hK hW ko_0.1 ko_0.2 (by decide) in_Mod rfl rfl (by decide) rfl fr_Mod_118 w_9_54 d_Mod_isBy_32 ?_
      refine lv_imul hx hb d_Mod_isBy_35 ?_
      refine lv_iload_n hx hb d_Mod_isBy_36 rfl (lv_at hl 3 rfl) ?_
      refine lv_iadd hx hb d_Mod_isBy_37 ?_
      obtain ⟨hi, hw⟩ := hw
      refine w_iald (o := 83) hx hb hK hW ko_83.1 ko_83.2 hi d_Mod_isBy_38 ?_
      refine lv_iload_n hx hb d_Mod_isBy_39 rfl (lv_at hl 1 rfl) ?_
      refine lv_icmp_ne (tgt := 47) hx hb d_Mod_isBy_40 (by decide) (fun c2186 => ?_) (fun c2186 => ?_)
      · have hw := hw.1 c2186
        refine lv_iconst (v := 0) hx hb d_Mod_isBy_47 (by decide) ?_
        exact t_Mod_isBy_48 hx hb hml hown hT hK hN hA hRc hRs hRf hRl hret hrec4 l1 l2 l3 0 x H locs ls  hw hW hS (lv_sub hl [0, 1, 2, 3] rfl)
      · have hw := hw.2 c2186
        exact t_Mod_isBy_43 hx hb hml hown hT hK hN hA hRc hRs hRf hRl hret hrec4 l1 l2 l3 x H locs ls  hw hW hS (lv_sub hl [0, 1, 2, 3] rfl)
set_option maxHeartbeats 4000000 in
set_option maxRecDepth 100000 in
theorem tl_Mod_isBy_4 {p : Program} {l : Launch} {e : Env} {R : Room} {s : State} {m : MethodId} {args : Array Value} {below : List Frame} {meth : Method} {c : Code} {cells slots : Nat} {Q : State → Prop} {dC : Nat → ClassId} {dI : Nat → Nat → Nat} {cI cB cJ cZ : ClassId} {A : Nat → Prop} {ad : Nat → Nat} {post : Int32 → St → Prop} (hx : p.tables.exec = Jvm.exec) (hb : c.code = b_Mod_isBy) (hml : c.maxLocals = 4) (hown : s.vm.findClass R_Mod = some m.cls) (hT : ∀ w ∈ TG, w.before args s = true) (hK : va_K (dC, dI) CL (TY cI cB cJ cZ) s) (hN : NW s) (hA : ∀ q : Nat, s.heap.size ≤ q → A q) (hRc : cells ≤ R.cells) (hRs : slots ≤ R.slots) (hRf : 0 ≤ R.frames) (hRl : 0 ≤ R.locals) (hret : ∀ (r : Int32) (x : St) (H : Heap) (locs : List Loc) (pc : Nat) (ls : Array Slot), decode b_Mod_isBy pc = .ok (.ireturn, 1) → narrow .boolean (.int r) = .int r → post r x → Wd dC dI cI cB cJ cZ ad stM kcM 115 A x H → va_S A s.heap H locs → W p l e R s m args below meth c H locs cells slots Q (F0 m pc ls [.int r]))  : ∀ n : Nat, ∀ (l1 : Int32) (l2 : Int32) (l3 : Int32) (x : St) (H : Heap) (locs : List Loc) (ls : Array Slot), wl_Mod_isBy_4 post n l1 l2 l3 x → Wd dC dI cI cB cJ cZ ad stM kcM 115 A x H → va_S A s.heap H locs → lv_has ls 4 [(0, .ref (ad 0)), (1, .int l1), (2, .int l2), (3, .int l3)] → W p l e R s m args below meth c H locs cells slots Q (F0 m 4 ls []) := by
  intro n
  induction n with
  | zero => intro l1 l2 l3 x H locs ls  hw; exact hw.elim
  | succ n ih => intro l1 l2 l3 x H locs ls  hw hW hS hl; exact t_Mod_isBy_4 hx hb hml hown hT hK hN hA hRc hRs hRf hRl hret  ih l1 l2 l3 x H locs ls  hw hW hS hl
set_option maxRecDepth 100000 in
set_option maxHeartbeats 4000000 in
set_option maxRecDepth 100000 in
theorem t_Mod_isBy_e {p : Program} {l : Launch} {e : Env} {R : Room} {s : State} {m : MethodId} {args : Array Value} {below : List Frame} {meth : Method} {c : Code} {cells slots : Nat} {Q : State → Prop} {dC : Nat → ClassId} {dI : Nat → Nat → Nat} {cI cB cJ cZ : ClassId} {A : Nat → Prop} {ad : Nat → Nat} {post : Int32 → St → Prop} (hx : p.tables.exec = Jvm.exec) (hb : c.code = b_Mod_isBy) (hml : c.maxLocals = 4) (hown : s.vm.findClass R_Mod = some m.cls) (hT : ∀ w ∈ TG, w.before args s = true) (hK : va_K (dC, dI) CL (TY cI cB cJ cZ) s) (hN : NW s) (hA : ∀ q : Nat, s.heap.size ≤ q → A q) (hRc : cells ≤ R.cells) (hRs : slots ≤ R.slots) (hRf : 0 ≤ R.frames) (hRl : 0 ≤ R.locals) (hret : ∀ (r : Int32) (x : St) (H : Heap) (locs : List Loc) (pc : Nat) (ls : Array Slot), decode b_Mod_isBy pc = .ok (.ireturn, 1) → narrow .boolean (.int r) = .int r → post r x → Wd dC dI cI cB cJ cZ ad stM kcM 115 A x H → va_S A s.heap H locs → W p l e R s m args below meth c H locs cells slots Q (F0 m pc ls [.int r])) : ∀ (l1 : Int32) (x : St) (H : Heap) (locs : List Loc) (ls : Array Slot), wp_Mod_isBy post l1 x → Wd dC dI cI cB cJ cZ ad stM kcM 115 A x H → va_S A s.heap H locs → lv_has ls 4 [(0, .ref (ad 0)), (1, .int l1)] → W p l e R s m args below meth c H locs cells slots Q (F0 m 0 ls []) := by
  intro l1 x H locs ls  hw hW hS hl
  unfold wp_Mod_isBy at hw
  refine lv_iconst (v := 0) hx hb d_Mod_isBy_0 (by decide) ?_
  refine lv_istore_n (lv' := [(2, .int 0), (0, .ref (ad 0)), (1, .int l1)]) hx hb d_Mod_isBy_1 rfl hl (by decide) rfl (fun ls hl => ?_)
  refine lv_iconst (v := 0) hx hb d_Mod_isBy_2 (by decide) ?_
  refine lv_istore_n (lv' := [(3, .int 0), (2, .int 0), (0, .ref (ad 0)), (1, .int l1)]) hx hb d_Mod_isBy_3 rfl hl (by decide) rfl (fun ls hl => ?_)
  obtain ⟨n, hw⟩ := hw
  exact tl_Mod_isBy_4 hx hb hml hown hT hK hN hA hRc hRs hRf hRl hret  n l1 0 0 x H locs ls  hw hW hS (lv_sub hl [2, 3, 1, 0] rfl)
set_option maxHeartbeats 4000000 in
set_option maxRecDepth 100000 in
theorem k_Mod_isBy (l : Launch) (dC : Nat → ClassId) (dI : Nat → Nat → Nat) (cI cB cJ cZ : ClassId) (ad : Nat → Nat) (sz : Nat) (l1 : Int32) (x : St) {post : Int32 → St → Prop} (hw : wp_Mod_isBy post l1 x) : Met l y_Mod_isBy (wsOf y_Mod_isBy b_Mod_isBy 4 (some (.boolean))) ({ frames := 0, cells := 0, slots := 0, locals := 0 }) (va_Pc [.ref (ad 0), .int l1] (PW dC dI cI cB cJ cZ ad stM kcM 115 sz x)) (va_Qi (fun (r : Int32) (y : St) => post r y) (fun y t => Wd dC dI cI cB cJ cZ ad stM kcM 115 (va_A (pic ad stM kcM 115 cI cB cJ cZ x) sz) y t.heap) (va_A (pic ad stM kcM 115 cI cB cJ cZ x) sz)) 0 0 (va_A (pic ad stM kcM 115 cI cB cJ cZ x) sz) := by
  refine Met.ofW (cc := b_Mod_isBy) (maxL := 4) (ret := some (.boolean)) (by decide) rfl ?_
  intro p e s m args below meth c s₁ B hml hv
  obtain ⟨rfl, hsz, hW0, hK, hN⟩ := hv
  have hx := B.exec
  have hb := B.bytes
  have hr := B.returns
  have hts := atoms_spec B.pre
  have hT : ∀ w ∈ TG, w.before _ s = true := fun w h => hts w (List.mem_cons_of_mem _ h)
  have hown : s.vm.findClass R_Mod = some m.cls := findClass_of_methodNamed B.named
  have hlocks := B.notSynchronized
  subst hsz
  have hW : Wd dC dI cI cB cJ cZ ad stM kcM 115 (va_A (pic ad stM kcM 115 cI cB cJ cZ x) s.heap.size) x s.heap := ⟨hW0.1, hW0.2.1.self (sz := s.heap.size), hW0.2.2⟩
  generalize hAe : va_A (pic ad stM kcM 115 cI cB cJ cZ x) s.heap.size = A at hW ⊢
  have hA : ∀ q : Nat, s.heap.size ≤ q → A q := fun q h => by rw [← hAe]; exact Or.inr h
  have hS : va_S A s.heap s.heap [] := va_S.rf
  have hl := lv_entry ([.ref (ad 0), .int l1]) (n := 4) (Nat.le_of_ble_eq_true rfl)
  rw [lg_entry_eq]
  generalize (lg_sl ([.ref (ad 0), .int l1]) ++ List.replicate (4 - (lg_sl ([.ref (ad 0), .int l1])).length) Slot.unset).toArray = ls at hl ⊢
  have hl : lv_has ls 4 [(0, .ref (ad 0)), (1, .int l1)] := hl
  exact t_Mod_isBy_e hx hb hml hown hT hK hN hA (Nat.le_refl 0) (Nat.le_refl 0) (Nat.le_refl 0) (Nat.le_refl 0) (fun r x H locs pc ls hd hz hp hW hS => W.zret (v := r) (ty := .boolean) hx hb hr hz (fun t ht hM => ⟨⟨r, x, rfl, hp, Wd.back hW ht.symm (fun _ z => z)⟩, hS.F ht⟩) hS.2.2 hd hlocks)  l1 x _ _ ls  hw hW hS hl
set_option maxRecDepth 100000 in
set_option maxHeartbeats 4000000 in
set_option maxRecDepth 100000 in
theorem t_Mod_readBy_58 {p : Program} {l : Launch} {e : Env} {R : Room} {s : State} {m : MethodId} {args : Array Value} {below : List Frame} {meth : Method} {c : Code} {cells slots : Nat} {Q : State → Prop} {dC : Nat → ClassId} {dI : Nat → Nat → Nat} {cI cB cJ cZ : ClassId} {A : Nat → Prop} {ad : Nat → Nat} {post : St → Prop} (hx : p.tables.exec = Jvm.exec) (hb : c.code = b_Mod_readBy) (hml : c.maxLocals = 3) (hown : s.vm.findClass R_Mod = some m.cls) (hT : ∀ w ∈ TG, w.before args s = true) (hK : va_K (dC, dI) CL (TY cI cB cJ cZ) s) (hN : NW s) (hA : ∀ q : Nat, s.heap.size ≤ q → A q) (hRc : cells ≤ R.cells) (hRs : slots ≤ R.slots) (hRf : 5 ≤ R.frames) (hRl : 112 ≤ R.locals) (hret : ∀ (x : St) (H : Heap) (locs : List Loc) (pc : Nat) (ls : Array Slot), decode b_Mod_readBy pc = .ok (.return_, 1) → post x → Wd dC dI cI cB cJ cZ ad stM kcM 115 A x H → va_S A s.heap H locs → W p l e R s m args below meth c H locs cells slots Q (F0 m pc ls []))  : ∀ (l1 : Int32) (l2 : Int32) (x : St) (H : Heap) (locs : List Loc) (ls : Array Slot), j_Mod_readBy_58 post l1 l2 x → Wd dC dI cI cB cJ cZ ad stM kcM 115 A x H → va_S A s.heap H locs → lv_has ls 3 [(0, .ref (ad 0)), (1, .int l1), (2, .int l2)] → W p l e R s m args below meth c H locs cells slots Q (F0 m 58 ls []) := by
  intro l1 l2 x H locs ls  hw hW hS hl
  unfold j_Mod_readBy_58 at hw
  refine lv_aload_n hx hb d_Mod_readBy_58 rfl (lv_at hl 0 rfl) ?_
  refine w_geti (k := 17) (t := 12) (C := R_Mod) (T := F_Mod) (N := 167) hx hb hT hown hK hW ko_0.1 ko_0.2 (by decide) in_Mod rfl rfl (by decide) rfl fr_Mod_17 w_8_193 d_Mod_readBy_59 ?_
  refine lv_iconst (v := (-1)) hx hb d_Mod_readBy_62 (by decide) ?_
  refine lv_icmp_eq (tgt := 67) hx hb d_Mod_readBy_63 (by decide) (fun c2187 => ?_) (fun c2187 => ?_)
  · have hw := hw.1 c2187
    refine lv_aload_n hx hb d_Mod_readBy_67 rfl (lv_at hl 0 rfl) ?_
    refine w_getf (q := 83) (k := 126) (t := 12) (C := R_Mod) (T := F_Mod) (N := 167) hx hb hT hown hK hW ko_0.1 ko_0.2 (by decide) in_Mod rfl rfl (by decide) rfl fr_Mod_126 w_9_62 d_Mod_readBy_68 rfl ?_
    refine lv_bipush (v := 8) hx hb d_Mod_readBy_71 (by decide) ?_
    refine lv_aload_n hx hb d_Mod_readBy_73 rfl (lv_at hl 0 rfl) ?_
    refine w_geti (k := 118) (t := 12) (C := R_Mod) (T := F_Mod) (N := 167) hx hb hT hown hK hW ko_0.1 ko_0.2 (by decide) in_Mod rfl rfl (by decide) rfl fr_Mod_118 w_9_54 d_Mod_readBy_74 ?_
    refine lv_imul hx hb d_Mod_readBy_77 ?_
    refine lv_aload_n hx hb d_Mod_readBy_78 rfl (lv_at hl 0 rfl) ?_
    refine w_getf (q := 79) (k := 122) (t := 12) (C := R_Mod) (T := F_Mod) (N := 167) hx hb hT hown hK hW ko_0.1 ko_0.2 (by decide) in_Mod rfl rfl (by decide) rfl fr_Mod_122 w_9_58 d_Mod_readBy_79 rfl ?_
    refine lv_iconst (v := 4) hx hb d_Mod_readBy_82 (by decide) ?_
    refine lv_aload_n hx hb d_Mod_readBy_83 rfl (lv_at hl 0 rfl) ?_
    refine w_geti (k := 118) (t := 12) (C := R_Mod) (T := F_Mod) (N := 167) hx hb hT hown hK hW ko_0.1 ko_0.2 (by decide) in_Mod rfl rfl (by decide) rfl fr_Mod_118 w_9_54 d_Mod_readBy_84 ?_
    refine lv_imul hx hb d_Mod_readBy_87 ?_
    refine lv_iconst (v := 1) hx hb d_Mod_readBy_88 (by decide) ?_
    refine lv_iadd hx hb d_Mod_readBy_89 ?_
    obtain ⟨hi, hw⟩ := hw
    refine w_iald (o := 79) hx hb hK hW ko_79.1 ko_79.2 hi d_Mod_readBy_90 ?_
    refine lv_iadd hx hb d_Mod_readBy_91 ?_
    refine lv_iload_n hx hb d_Mod_readBy_92 rfl (lv_at hl 2 rfl) ?_
    obtain ⟨hi, hw⟩ := hw
    refine w_iast (o := 83) hx hb hK hW hS ko_83.1 ko_83.2 hi d_Mod_readBy_93 (fun H locs hW hS => ?_)
    obtain ⟨x2188, ex2188⟩ : ∃ y : St, y = setA x 83 ((8 * (fI x 0 118)) + (rA x 79 ((4 * (fI x 0 118)) + 1))) l2 := ⟨_, rfl⟩
    rw [← ex2188] at hW
    have hw := hw x2188 ex2188
    refine lv_aload_n hx hb d_Mod_readBy_94 rfl (lv_at hl 0 rfl) ?_
    refine w_getf (q := 79) (k := 122) (t := 12) (C := R_Mod) (T := F_Mod) (N := 167) hx hb hT hown hK hW ko_0.1 ko_0.2 (by decide) in_Mod rfl rfl (by decide) rfl fr_Mod_122 w_9_58 d_Mod_readBy_95 rfl ?_
    refine lv_iconst (v := 4) hx hb d_Mod_readBy_98 (by decide) ?_
    refine lv_aload_n hx hb d_Mod_readBy_99 rfl (lv_at hl 0 rfl) ?_
    refine w_geti (k := 118) (t := 12) (C := R_Mod) (T := F_Mod) (N := 167) hx hb hT hown hK hW ko_0.1 ko_0.2 (by decide) in_Mod rfl rfl (by decide) rfl fr_Mod_118 w_9_54 d_Mod_readBy_100 ?_
    refine lv_imul hx hb d_Mod_readBy_103 ?_
    refine lv_iconst (v := 1) hx hb d_Mod_readBy_104 (by decide) ?_
    refine lv_iadd hx hb d_Mod_readBy_105 ?_
    refine lv_dup2_11 hx hb d_Mod_readBy_106 rfl rfl ?_
    obtain ⟨hi, hw⟩ := hw
    refine w_iald (o := 79) hx hb hK hW ko_79.1 ko_79.2 hi d_Mod_readBy_107 ?_
    refine lv_iconst (v := 1) hx hb d_Mod_readBy_108 (by decide) ?_
    refine lv_iadd hx hb d_Mod_readBy_109 ?_
    obtain ⟨hi, hw⟩ := hw
    refine w_iast (o := 79) hx hb hK hW hS ko_79.1 ko_79.2 hi d_Mod_readBy_110 (fun H locs hW hS => ?_)
    obtain ⟨x2189, ex2189⟩ : ∃ y : St, y = setA x2188 79 ((4 * (fI x2188 0 118)) + 1) ((rA x2188 79 ((4 * (fI x2188 0 118)) + 1)) + 1) := ⟨_, rfl⟩
    rw [← ex2189] at hW
    have hw := hw x2189 ex2189
    exact hret x2189 H locs 111 ls d_Mod_readBy_111 hw hW hS
  · have hw := hw.2 c2187
    exact hret x H locs 66 ls d_Mod_readBy_66 hw hW hS
set_option maxRecDepth 100000 in
set_option maxHeartbeats 4000000 in
set_option maxRecDepth 100000 in
theorem t_Mod_readBy_32 {p : Program} {l : Launch} {e : Env} {R : Room} {s : State} {m : MethodId} {args : Array Value} {below : List Frame} {meth : Method} {c : Code} {cells slots : Nat} {Q : State → Prop} {dC : Nat → ClassId} {dI : Nat → Nat → Nat} {cI cB cJ cZ : ClassId} {A : Nat → Prop} {ad : Nat → Nat} {post : St → Prop} (hx : p.tables.exec = Jvm.exec) (hb : c.code = b_Mod_readBy) (hml : c.maxLocals = 3) (hown : s.vm.findClass R_Mod = some m.cls) (hT : ∀ w ∈ TG, w.before args s = true) (hK : va_K (dC, dI) CL (TY cI cB cJ cZ) s) (hN : NW s) (hA : ∀ q : Nat, s.heap.size ≤ q → A q) (hRc : cells ≤ R.cells) (hRs : slots ≤ R.slots) (hRf : 5 ≤ R.frames) (hRl : 112 ≤ R.locals) (hret : ∀ (x : St) (H : Heap) (locs : List Loc) (pc : Nat) (ls : Array Slot), decode b_Mod_readBy pc = .ok (.return_, 1) → post x → Wd dC dI cI cB cJ cZ ad stM kcM 115 A x H → va_S A s.heap H locs → W p l e R s m args below meth c H locs cells slots Q (F0 m pc ls []))  : ∀ (l1 : Int32) (x : St) (H : Heap) (locs : List Loc) (ls : Array Slot), j_Mod_readBy_32 post l1 x → Wd dC dI cI cB cJ cZ ad stM kcM 115 A x H → va_S A s.heap H locs → lv_has ls 3 [(0, .ref (ad 0)), (1, .int l1)] → W p l e R s m args below meth c H locs cells slots Q (F0 m 32 ls []) := by
  intro l1 x H locs ls  hw hW hS hl
  unfold j_Mod_readBy_32 at hw
  refine lv_aload_n hx hb d_Mod_readBy_32 rfl (lv_at hl 0 rfl) ?_
  have hF := hW.free hS hA
  refine va_calli (va_runV (C := R_Mod) (As := []) (rest := []) ⟨hx, hb, hml, hown, hT⟩ (k_Mod_flatColumn l dC dI cI cB cJ cZ ad H.size  x  hw) ⟨callB_of 0 hT (gwt_in w_13_144) rfl rfl rfl (hT _ w_1_15) (hT _ w_13_141) (by decide +kernel) ⟨Nat.le_trans (Nat.le_of_ble_eq_true rfl) hRf, Nat.le_trans (Nat.le_of_ble_eq_true rfl) hRl⟩, hT _ w_13_143, hT _ ws_239⟩ ⟨PW.blind, va_recv hK hW.1 (ci := 12) (q0 := 0) rfl (pic_obj ko_0.1 ko_0.2 (by decide)), PW.at _ hW hK hN⟩ rfl rfl hl.1 rfl (lv_room (Nat.le_of_ble_eq_true rfl)) d_Mod_readBy_33 ⟨hRc, hRs⟩) hS (fun q _ h => hF q h) hF (fun r2191 x2190 t H locs ht hvm hw hB hz1 hk1 hS => ?_)
  have hW := Wd.back hB ht hF
  clear hB ht hF hz1 hk1 hvm
  refine lv_istore_n (lv' := [(2, .int r2191), (0, .ref (ad 0)), (1, .int l1)]) hx hb d_Mod_readBy_36 rfl hl (by decide) rfl (fun ls hl => ?_)
  refine lv_aload_n hx hb d_Mod_readBy_37 rfl (lv_at hl 1 rfl) ?_
  refine w_geti (k := 17) (t := 12) (C := R_Mod) (T := F_Mod) (N := 167) hx hb hT hown hK hW ko_0.1 ko_0.2 (by decide) in_Mod rfl rfl (by decide) rfl fr_Mod_17 w_8_193 d_Mod_readBy_38 ?_
  refine lv_iconst (v := (-1)) hx hb d_Mod_readBy_41 (by decide) ?_
  refine lv_icmp_ne (tgt := 58) hx hb d_Mod_readBy_42 (by decide) (fun c2192 => ?_) (fun c2192 => ?_)
  · have hw := hw.1 c2192
    exact t_Mod_readBy_58 hx hb hml hown hT hK hN hA hRc hRs hRf hRl hret  l1 r2191 x2190 H locs ls  hw hW hS (lv_sub hl [1, 2, 0] rfl)
  · have hw := hw.2 c2192
    refine lv_aload_n hx hb d_Mod_readBy_45 rfl (lv_at hl 1 rfl) ?_
    refine lv_iload_n hx hb d_Mod_readBy_46 rfl (lv_at hl 0 rfl) ?_
    have hF := hW.free hS hA
    refine va_calli (va_runV (C := R_Mod) (As := [.int r2191]) (rest := []) ⟨hx, hb, hml, hown, hT⟩ (k_Mod_isBy l dC dI cI cB cJ cZ ad H.size r2191 x2190  hw) ⟨callB_of 1 hT (gwt_in w_13_191) rfl rfl rfl (hT _ w_1_15) (hT _ w_13_188) (by decide +kernel) ⟨Nat.le_trans (Nat.le_of_ble_eq_true rfl) hRf, Nat.le_trans (Nat.le_of_ble_eq_true rfl) hRl⟩, hT _ w_13_190, hT _ ws_250⟩ ⟨PW.blind, va_recv hK hW.1 (ci := 12) (q0 := 0) rfl (pic_obj ko_0.1 ko_0.2 (by decide)), PW.at _ hW hK hN⟩ rfl rfl hl.1 rfl (lv_room (Nat.le_of_ble_eq_true rfl)) d_Mod_readBy_47 ⟨hRc, hRs⟩) hS (fun q _ h => hF q h) hF (fun r2194 x2193 t H locs ht hvm hw hB hz1 hk1 hS => ?_)
    have hW := Wd.back hB ht hF
    clear hB ht hF hz1 hk1 hvm
    refine lv_if_eq (tgt := 58) hx hb d_Mod_readBy_50 (by decide) (fun c2195 => ?_) (fun c2195 => ?_)
    · have hw := hw.1 c2195
      exact t_Mod_readBy_58 hx hb hml hown hT hK hN hA hRc hRs hRf hRl hret  l1 r2191 x2193 H locs ls  hw hW hS (lv_sub hl [1, 2, 0] rfl)
    · have hw := hw.2 c2195
      refine lv_aload_n hx hb d_Mod_readBy_53 rfl (lv_at hl 1 rfl) ?_
      refine lv_iload_n hx hb d_Mod_readBy_54 rfl (lv_at hl 2 rfl) ?_
      have hF := hW.free hS hA
      refine va_callv (va_runV (C := R_Mod) (As := [.int l1]) (rest := []) ⟨hx, hb, hml, hown, hT⟩ (k_Mod_fail l dC dI cI cB cJ cZ ad H.size l1 x2193  hw) ⟨callB_of 1 hT (gwt_in w_11_14) rfl rfl rfl (hT _ w_1_15) (hT _ w_11_11) (by decide +kernel) ⟨Nat.le_trans (Nat.le_of_ble_eq_true rfl) hRf, Nat.le_trans (Nat.le_of_ble_eq_true rfl) hRl⟩, hT _ w_11_13, hT _ ws_115⟩ ⟨PW.blind, va_recv hK hW.1 (ci := 12) (q0 := 0) rfl (pic_obj ko_0.1 ko_0.2 (by decide)), PW.at _ hW hK hN⟩ rfl rfl hl.1 rfl (lv_room (Nat.le_of_ble_eq_true rfl)) d_Mod_readBy_55 ⟨hRc, hRs⟩) hS (fun q _ h => hF q h) hF (fun  x2196 t H locs ht hvm hw hB hz1 hk1 hS => ?_)
      have hW := Wd.back hB ht hF
      clear hB ht hF hz1 hk1 hvm
      exact t_Mod_readBy_58 hx hb hml hown hT hK hN hA hRc hRs hRf hRl hret  l1 r2191 x2196 H locs ls  hw hW hS (lv_sub hl [1, 2, 0] rfl)
set_option maxRecDepth 100000 in
set_option maxHeartbeats 4000000 in
set_option maxRecDepth 100000 in
theorem t_Mod_readBy_e {p : Program} {l : Launch} {e : Env} {R : Room} {s : State} {m : MethodId} {args : Array Value} {below : List Frame} {meth : Method} {c : Code} {cells slots : Nat} {Q : State → Prop} {dC : Nat → ClassId} {dI : Nat → Nat → Nat} {cI cB cJ cZ : ClassId} {A : Nat → Prop} {ad : Nat → Nat} {post : St → Prop} (hx : p.tables.exec = Jvm.exec) (hb : c.code = b_Mod_readBy) (hml : c.maxLocals = 3) (hown : s.vm.findClass R_Mod = some m.cls) (hT : ∀ w ∈ TG, w.before args s = true) (hK : va_K (dC, dI) CL (TY cI cB cJ cZ) s) (hN : NW s) (hA : ∀ q : Nat, s.heap.size ≤ q → A q) (hRc : cells ≤ R.cells) (hRs : slots ≤ R.slots) (hRf : 5 ≤ R.frames) (hRl : 112 ≤ R.locals) (hret : ∀ (x : St) (H : Heap) (locs : List Loc) (pc : Nat) (ls : Array Slot), decode b_Mod_readBy pc = .ok (.return_, 1) → post x → Wd dC dI cI cB cJ cZ ad stM kcM 115 A x H → va_S A s.heap H locs → W p l e R s m args below meth c H locs cells slots Q (F0 m pc ls [])) : ∀  (x : St) (H : Heap) (locs : List Loc) (ls : Array Slot), wp_Mod_readBy post  x → Wd dC dI cI cB cJ cZ ad stM kcM 115 A x H → va_S A s.heap H locs → lv_has ls 3 [(0, .ref (ad 0))] → W p l e R s m args below meth c H locs cells slots Q (F0 m 0 ls []) := by
  intro  x H locs ls  hw hW hS hl
  unfold wp_Mod_readBy at hw
  refine lv_aload_n hx hb d_Mod_readBy_0 rfl (lv_at hl 0 rfl) ?_
  have hF := hW.free hS hA
  refine va_callv (va_runV (C := R_Mod) (As := []) (rest := []) ⟨hx, hb, hml, hown, hT⟩ (k_Mod_blanks l dC dI cI cB cJ cZ ad H.size  x  hw) ⟨callB_of 0 hT (gwt_in w_10_230) rfl rfl rfl (hT _ w_1_15) (hT _ w_10_227) (by decide +kernel) ⟨Nat.le_trans (Nat.le_of_ble_eq_true rfl) hRf, Nat.le_trans (Nat.le_of_ble_eq_true rfl) hRl⟩, hT _ w_10_229, hT _ ws_111⟩ ⟨PW.blind, va_recv hK hW.1 (ci := 12) (q0 := 0) rfl (pic_obj ko_0.1 ko_0.2 (by decide)), PW.at _ hW hK hN⟩ rfl rfl hl.1 rfl (lv_room (Nat.le_of_ble_eq_true rfl)) d_Mod_readBy_1 ⟨hRc, hRs⟩) hS (fun q _ h => hF q h) hF (fun  x2197 t H locs ht hvm hw hB hz1 hk1 hS => ?_)
  have hW := Wd.back hB ht hF
  clear hB ht hF hz1 hk1 hvm
  refine lv_aload_n hx hb d_Mod_readBy_4 rfl (lv_at hl 0 rfl) ?_
  refine w_geti (k := 16) (t := 12) (C := R_Mod) (T := F_Mod) (N := 167) hx hb hT hown hK hW ko_0.1 ko_0.2 (by decide) in_Mod rfl rfl (by decide) rfl fr_Mod_16 w_8_192 d_Mod_readBy_5 ?_
  refine lv_topi (fun v2198 ev2198 => ?_)
  have hw := hw v2198 ev2198
  refine lv_istore_n (lv' := [(1, .int v2198), (0, .ref (ad 0))]) hx hb d_Mod_readBy_8 rfl hl (by decide) rfl (fun ls hl => ?_)
  refine lv_aload_n hx hb d_Mod_readBy_9 rfl (lv_at hl 1 rfl) ?_
  refine w_getf (q := 79) (k := 122) (t := 12) (C := R_Mod) (T := F_Mod) (N := 167) hx hb hT hown hK hW ko_0.1 ko_0.2 (by decide) in_Mod rfl rfl (by decide) rfl fr_Mod_122 w_9_58 d_Mod_readBy_10 rfl ?_
  refine lv_iconst (v := 4) hx hb d_Mod_readBy_13 (by decide) ?_
  refine lv_aload_n hx hb d_Mod_readBy_14 rfl (lv_at hl 1 rfl) ?_
  refine w_geti (k := 118) (t := 12) (C := R_Mod) (T := F_Mod) (N := 167) hx hb hT hown hK hW ko_0.1 ko_0.2 (by decide) in_Mod rfl rfl (by decide) rfl fr_Mod_118 w_9_54 d_Mod_readBy_15 ?_
  refine lv_imul hx hb d_Mod_readBy_18 ?_
  refine lv_iconst (v := 1) hx hb d_Mod_readBy_19 (by decide) ?_
  refine lv_iadd hx hb d_Mod_readBy_20 ?_
  obtain ⟨hi, hw⟩ := hw
  refine w_iald (o := 79) hx hb hK hW ko_79.1 ko_79.2 hi d_Mod_readBy_21 ?_
  refine lv_bipush (v := 8) hx hb d_Mod_readBy_22 (by decide) ?_
  refine lv_icmp_ne (tgt := 32) hx hb d_Mod_readBy_24 (by decide) (fun c2199 => ?_) (fun c2199 => ?_)
  · have hw := hw.1 c2199
    exact t_Mod_readBy_32 hx hb hml hown hT hK hN hA hRc hRs hRf hRl hret  v2198 x2197 H locs ls  hw hW hS (lv_sub hl [1, 0] rfl)
  · have hw := hw.2 c2199
    refine lv_aload_n hx hb d_Mod_readBy_27 rfl (lv_at hl 1 rfl) ?_
    refine lv_iload_n hx hb d_Mod_readBy_28 rfl (lv_at hl 0 rfl) ?_
    have hF := hW.free hS hA
    refine va_callv (va_runV (C := R_Mod) (As := [.int v2198]) (rest := []) ⟨hx, hb, hml, hown, hT⟩ (k_Mod_fail l dC dI cI cB cJ cZ ad H.size v2198 x2197  hw) ⟨callB_of 1 hT (gwt_in w_11_14) rfl rfl rfl (hT _ w_1_15) (hT _ w_11_11) (by decide +kernel) ⟨Nat.le_trans (Nat.le_of_ble_eq_true rfl) hRf, Nat.le_trans (Nat.le_of_ble_eq_true rfl) hRl⟩, hT _ w_11_13, hT _ ws_115⟩ ⟨PW.blind, va_recv hK hW.1 (ci := 12) (q0 := 0) rfl (pic_obj ko_0.1 ko_0.2 (by decide)), PW.at _ hW hK hN⟩ rfl rfl hl.1 rfl (lv_room (Nat.le_of_ble_eq_true rfl)) d_Mod_readBy_29 ⟨hRc, hRs⟩) hS (fun q _ h => hF q h) hF (fun  x2200 t H locs ht hvm hw hB hz1 hk1 hS => ?_)
    have hW := Wd.back hB ht hF
    clear hB ht hF hz1 hk1 hvm
    exact t_Mod_readBy_32 hx hb hml hown hT hK hN hA hRc hRs hRf hRl hret  v2198 x2200 H locs ls  hw hW hS (lv_sub hl [1, 0] rfl)
set_option maxHeartbeats 4000000 in
set_option maxRecDepth 100000 in
theorem k_Mod_readBy (l : Launch) (dC : Nat → ClassId) (dI : Nat → Nat → Nat) (cI cB cJ cZ : ClassId) (ad : Nat → Nat) (sz : Nat)  (x : St) {post : St → Prop} (hw : wp_Mod_readBy post  x) : Met l y_Mod_readBy (wsOf y_Mod_readBy b_Mod_readBy 3 (none)) ({ frames := 5, cells := 0, slots := 0, locals := 112 }) (va_Pc [.ref (ad 0)] (PW dC dI cI cB cJ cZ ad stM kcM 115 sz x)) (va_Qv (fun (y : St) => post y) (fun y t => Wd dC dI cI cB cJ cZ ad stM kcM 115 (va_A (pic ad stM kcM 115 cI cB cJ cZ x) sz) y t.heap) (va_A (pic ad stM kcM 115 cI cB cJ cZ x) sz)) 0 0 (va_A (pic ad stM kcM 115 cI cB cJ cZ x) sz) := by
  refine Met.ofW (cc := b_Mod_readBy) (maxL := 3) (ret := none) (by decide) rfl ?_
  intro p e s m args below meth c s₁ B hml hv
  obtain ⟨rfl, hsz, hW0, hK, hN⟩ := hv
  have hx := B.exec
  have hb := B.bytes
  have hr := B.returns
  have hts := atoms_spec B.pre
  have hT : ∀ w ∈ TG, w.before _ s = true := fun w h => hts w (List.mem_cons_of_mem _ h)
  have hown : s.vm.findClass R_Mod = some m.cls := findClass_of_methodNamed B.named
  have hlocks := B.notSynchronized
  subst hsz
  have hW : Wd dC dI cI cB cJ cZ ad stM kcM 115 (va_A (pic ad stM kcM 115 cI cB cJ cZ x) s.heap.size) x s.heap := ⟨hW0.1, hW0.2.1.self (sz := s.heap.size), hW0.2.2⟩
  generalize hAe : va_A (pic ad stM kcM 115 cI cB cJ cZ x) s.heap.size = A at hW ⊢
  have hA : ∀ q : Nat, s.heap.size ≤ q → A q := fun q h => by rw [← hAe]; exact Or.inr h
  have hS : va_S A s.heap s.heap [] := va_S.rf
  have hl := lv_entry ([.ref (ad 0)]) (n := 3) (Nat.le_of_ble_eq_true rfl)
  rw [lg_entry_eq]
  generalize (lg_sl ([.ref (ad 0)]) ++ List.replicate (3 - (lg_sl ([.ref (ad 0)])).length) Slot.unset).toArray = ls at hl ⊢
  have hl : lv_has ls 3 [(0, .ref (ad 0))] := hl
  exact t_Mod_readBy_e hx hb hml hown hT hK hN hA (Nat.le_refl 0) (Nat.le_refl 0) (Nat.le_refl 5) (Nat.le_refl 112) (fun x H locs pc ls hd hp hW hS => W.vret hx hb hr (fun t ht hM => ⟨⟨x, rfl, hp, Wd.back hW ht.symm (fun _ z => z)⟩, hS.F ht⟩) hS.2.2 hd hlocks)   x _ _ ls  hw hW hS hl
set_option maxRecDepth 100000 in
set_option maxHeartbeats 4000000 in
set_option maxRecDepth 100000 in
theorem t_Mod_collects_56 {p : Program} {l : Launch} {e : Env} {R : Room} {s : State} {m : MethodId} {args : Array Value} {below : List Frame} {meth : Method} {c : Code} {cells slots : Nat} {Q : State → Prop} {dC : Nat → ClassId} {dI : Nat → Nat → Nat} {cI cB cJ cZ : ClassId} {A : Nat → Prop} {ad : Nat → Nat} {post : Int32 → St → Prop} {rec21 : Int32 → Int32 → Int32 → St → Prop} (hx : p.tables.exec = Jvm.exec) (hb : c.code = b_Mod_collects) (hml : c.maxLocals = 4) (hown : s.vm.findClass R_Mod = some m.cls) (hT : ∀ w ∈ TG, w.before args s = true) (hK : va_K (dC, dI) CL (TY cI cB cJ cZ) s) (hN : NW s) (hA : ∀ q : Nat, s.heap.size ≤ q → A q) (hRc : cells ≤ R.cells) (hRs : slots ≤ R.slots) (hRf : 0 ≤ R.frames) (hRl : 0 ≤ R.locals) (hret : ∀ (r : Int32) (x : St) (H : Heap) (locs : List Loc) (pc : Nat) (ls : Array Slot), decode b_Mod_collects pc = .ok (.ireturn, 1) → narrow .boolean (.int r) = .int r → post r x → Wd dC dI cI cB cJ cZ ad stM kcM 115 A x H → va_S A s.heap H locs → W p l e R s m args below meth c H locs cells slots Q (F0 m pc ls [.int r])) (hrec21 : ∀ (l1 : Int32) (l2 : Int32) (l3 : Int32) (x : St) (H : Heap) (locs : List Loc) (ls : Array Slot), rec21 l1 l2 l3 x → Wd dC dI cI cB cJ cZ ad stM kcM 115 A x H → va_S A s.heap H locs → lv_has ls 4 [(0, .ref (ad 0)), (1, .int l1), (2, .int l2), (3, .int l3)] → W p l e R s m args below meth c H locs cells slots Q (F0 m 21 ls [])) : ∀ (l1 : Int32) (l2 : Int32) (l3 : Int32) (s0 : Int32) (x : St) (H : Heap) (locs : List Loc) (ls : Array Slot), j_Mod_collects_56 post rec21 l1 l2 l3 s0 x → Wd dC dI cI cB cJ cZ ad stM kcM 115 A x H → va_S A s.heap H locs → lv_has ls 4 [(0, .ref (ad 0)), (1, .int l1), (2, .int l2), (3, .int l3)] → W p l e R s m args below meth c H locs cells slots Q (F0 m 56 ls [.int s0]) := by
  intro l1 l2 l3 s0 x H locs ls  hw hW hS hl
  unfold j_Mod_collects_56 at hw
  refine lv_istore_n (lv' := [(2, .int s0), (0, .ref (ad 0)), (1, .int l1), (3, .int l3)]) hx hb d_Mod_collects_56 rfl hl (by decide) rfl (fun ls hl => ?_)
  refine lv_iinc (v := (l3 + 1)) (lv' := [(3, .int (l3 + 1)), (2, .int s0), (0, .ref (ad 0)), (1, .int l1)]) hx hb d_Mod_collects_57 hl (k := 3) rfl rfl (by decide) rfl (fun ls hl => ?_)
  refine lv_goto (tgt := 21) hx hb d_Mod_collects_60 (by decide) ?_
  exact hrec21 l1 s0 (l3 + 1) x H locs ls  hw hW hS (lv_sub hl [2, 3, 1, 0] rfl)
set_option maxRecDepth 100000 in
set_option maxHeartbeats 4000000 in
set_option maxRecDepth 100000 in
theorem t_Mod_collects_51 {p : Program} {l : Launch} {e : Env} {R : Room} {s : State} {m : MethodId} {args : Array Value} {below : List Frame} {meth : Method} {c : Code} {cells slots : Nat} {Q : State → Prop} {dC : Nat → ClassId} {dI : Nat → Nat → Nat} {cI cB cJ cZ : ClassId} {A : Nat → Prop} {ad : Nat → Nat} {post : Int32 → St → Prop} {rec21 : Int32 → Int32 → Int32 → St → Prop} (hx : p.tables.exec = Jvm.exec) (hb : c.code = b_Mod_collects) (hml : c.maxLocals = 4) (hown : s.vm.findClass R_Mod = some m.cls) (hT : ∀ w ∈ TG, w.before args s = true) (hK : va_K (dC, dI) CL (TY cI cB cJ cZ) s) (hN : NW s) (hA : ∀ q : Nat, s.heap.size ≤ q → A q) (hRc : cells ≤ R.cells) (hRs : slots ≤ R.slots) (hRf : 0 ≤ R.frames) (hRl : 0 ≤ R.locals) (hret : ∀ (r : Int32) (x : St) (H : Heap) (locs : List Loc) (pc : Nat) (ls : Array Slot), decode b_Mod_collects pc = .ok (.ireturn, 1) → narrow .boolean (.int r) = .int r → post r x → Wd dC dI cI cB cJ cZ ad stM kcM 115 A x H → va_S A s.heap H locs → W p l e R s m args below meth c H locs cells slots Q (F0 m pc ls [.int r])) (hrec21 : ∀ (l1 : Int32) (l2 : Int32) (l3 : Int32) (x : St) (H : Heap) (locs : List Loc) (ls : Array Slot), rec21 l1 l2 l3 x → Wd dC dI cI cB cJ cZ ad stM kcM 115 A x H → va_S A s.heap H locs → lv_has ls 4 [(0, .ref (ad 0)), (1, .int l1), (2, .int l2), (3, .int l3)] → W p l e R s m args below meth c H locs cells slots Q (F0 m 21 ls [])) : ∀ (l1 : Int32) (l2 : Int32) (l3 : Int32) (x : St) (H : Heap) (locs : List Loc) (ls : Array Slot), j_Mod_collects_51 post rec21 l1 l2 l3 x → Wd dC dI cI cB cJ cZ ad stM kcM 115 A x H → va_S A s.heap H locs → lv_has ls 4 [(0, .ref (ad 0)), (1, .int l1), (2, .int l2), (3, .int l3)] → W p l e R s m args below meth c H locs cells slots Q (F0 m 51 ls []) := by
  intro l1 l2 l3 x H locs ls  hw hW hS hl
  unfold j_Mod_collects_51 at hw
  refine lv_iconst (v := 1) hx hb d_Mod_collects_51 (by decide) ?_
  refine lv_goto (tgt := 56) hx hb d_Mod_collects_52 (by decide) ?_
  exact t_Mod_collects_56 hx hb hml hown hT hK hN hA hRc hRs hRf hRl hret hrec21 l1 l2 l3 1 x H locs ls  hw hW hS (lv_sub hl [0, 1, 2, 3] rfl)
set_option maxRecDepth 100000 in
set_option maxHeartbeats 4000000 in
set_option maxRecDepth 100000 in
theorem t_Mod_collects_21 {p : Program} {l : Launch} {e : Env} {R : Room} {s : State} {m : MethodId} {args : Array Value} {below : List Frame} {meth : Method} {c : Code} {cells slots : Nat} {Q : State → Prop} {dC : Nat → ClassId} {dI : Nat → Nat → Nat} {cI cB cJ cZ : ClassId} {A : Nat → Prop} {ad : Nat → Nat} {post : Int32 → St → Prop} {rec21 : Int32 → Int32 → Int32 → St → Prop} (hx : p.tables.exec = Jvm.exec) (hb : c.code = b_Mod_collects) (hml : c.maxLocals = 4) (hown : s.vm.findClass R_Mod = some m.cls) (hT : ∀ w ∈ TG, w.before args s = true) (hK : va_K (dC, dI) CL (TY cI cB cJ cZ) s) (hN : NW s) (hA : ∀ q : Nat, s.heap.size ≤ q → A q) (hRc : cells ≤ R.cells) (hRs : slots ≤ R.slots) (hRf : 0 ≤ R.frames) (hRl : 0 ≤ R.locals) (hret : ∀ (r : Int32) (x : St) (H : Heap) (locs : List Loc) (pc : Nat) (ls : Array Slot), decode b_Mod_collects pc = .ok (.ireturn, 1) → narrow .boolean (.int r) = .int r → post r x → Wd dC dI cI cB cJ cZ ad stM kcM 115 A x H → va_S A s.heap H locs → W p l e R s m args below meth c H locs cells slots Q (F0 m pc ls [.int r])) (hrec21 : ∀ (l1 : Int32) (l2 : Int32) (l3 : Int32) (x : St) (H : Heap) (locs : List Loc) (ls : Array Slot), rec21 l1 l2 l3 x → Wd dC dI cI cB cJ cZ ad stM kcM 115 A x H → va_S A s.heap H locs → lv_has ls 4 [(0, .ref (ad 0)), (1, .int l1), (2, .int l2), (3, .int l3)] → W p l e R s m args below meth c H locs cells slots Q (F0 m 21 ls [])) : ∀ (l1 : Int32) (l2 : Int32) (l3 : Int32) (x : St) (H : Heap) (locs : List Loc) (ls : Array Slot), j_Mod_collects_21 post rec21 l1 l2 l3 x → Wd dC dI cI cB cJ cZ ad stM kcM 115 A x H → va_S A s.heap H locs → lv_has ls 4 [(0, .ref (ad 0)), (1, .int l1), (2, .int l2), (3, .int l3)] → W p l e R s m args below meth c H locs cells slots Q (F0 m 21 ls []) := by
  intro l1 l2 l3 x H locs ls  hw hW hS hl
  unfold j_Mod_collects_21 at hw
  refine lv_iload_n hx hb d_Mod_collects_21 rfl (lv_at hl 3 rfl) ?_
  refine lv_aload_n hx hb d_Mod_collects_22 rfl (lv_at hl 0 rfl) ?_
  refine w_getf (q := 79) (k := 122) (t := 12) (C := R_Mod) (T := F_Mod) (N := 167) hx hb hT hown hK hW ko_0.1 ko_0.2 (by decide) in_Mod rfl rfl (by decide) rfl fr_Mod_122 w_9_58 d_Mod_collects_23 rfl ?_
  refine lv_iconst (v := 4) hx hb d_Mod_collects_26 (by decide) ?_
  refine lv_iload_n hx hb d_Mod_collects_27 rfl (lv_at hl 1 rfl) ?_
  refine lv_imul hx hb d_Mod_collects_28 ?_
  obtain ⟨hi, hw⟩ := hw
  refine w_iald (o := 79) hx hb hK hW ko_79.1 ko_79.2 hi d_Mod_collects_29 ?_
  refine lv_icmp_ge (tgt := 63) hx hb d_Mod_collects_30 (by decide) (fun c2201 => ?_) (fun c2201 => ?_)
  · have hw := hw.1 c2201
    refine lv_iload_n hx hb d_Mod_collects_63 rfl (lv_at hl 2 rfl) ?_
    exact hret l2 x H locs 64 ls d_Mod_collects_64 hw.1 hw.2 hW hS
  · have hw := hw.2 c2201
    refine lv_iload_n hx hb d_Mod_collects_33 rfl (lv_at hl 2 rfl) ?_
    refine lv_if_ne (tgt := 51) hx hb d_Mod_collects_34 (by decide) (fun c2202 => ?_) (fun c2202 => ?_)
    · have hw := hw.1 c2202
      exact t_Mod_collects_51 hx hb hml hown hT hK hN hA hRc hRs hRf hRl hret hrec21 l1 l2 l3 x H locs ls  hw hW hS (lv_sub hl [0, 1, 2, 3] rfl)
    · have hw := hw.2 c2202
      refine lv_aload_n hx hb d_Mod_collects_37 rfl (lv_at hl 0 rfl) ?_
      refine w_getf (q := 80) (k := 123) (t := 12) (C := R_Mod) (T := F_Mod) (N := 167) hx hb hT hown hK hW ko_0.1 ko_0.2 (by decide) in_Mod rfl rfl (by decide) rfl fr_Mod_123 w_9_59 d_Mod_collects_38 rfl ?_
      refine lv_bipush (v := 16) hx hb d_Mod_collects_41 (by decide) ?_
      refine lv_iload_n hx hb d_Mod_collects_43 rfl (lv_at hl 1 rfl) ?_
      refine lv_imul hx hb d_Mod_collects_44 ?_
      refine lv_iload_n hx hb d_Mod_collects_45 rfl (lv_at hl 3 rfl) ?_
      refine lv_iadd hx hb d_Mod_collects_46 ?_
      obtain ⟨hi, hw⟩ := hw
      refine w_iald (o := 80) hx hb hK hW ko_80.1 ko_80.2 hi d_Mod_collects_47 ?_
      refine lv_if_le (tgt := 55) hx hb d_Mod_collects_48 (by decide) (fun c2203 => ?_) (fun c2203 => ?_)
      · have hw := hw.1 c2203
        refine lv_iconst (v := 0) hx hb d_Mod_collects_55 (by decide) ?_
        exact t_Mod_collects_56 hx hb hml hown hT hK hN hA hRc hRs hRf hRl hret hrec21 l1 l2 l3 0 x H locs ls  hw hW hS (lv_sub hl [0, 1, 2, 3] rfl)
      · have hw := hw.2 c2203
        exact t_Mod_collects_51 hx hb hml hown hT hK hN hA hRc hRs hRf hRl hret hrec21 l1 l2 l3 x H locs ls  hw hW hS (lv_sub hl [0, 1, 2, 3] rfl)
set_option maxHeartbeats 4000000 in
set_option maxRecDepth 100000 in
theorem tl_Mod_collects_21 {p : Program} {l : Launch} {e : Env} {R : Room} {s : State} {m : MethodId} {args : Array Value} {below : List Frame} {meth : Method} {c : Code} {cells slots : Nat} {Q : State → Prop} {dC : Nat → ClassId} {dI : Nat → Nat → Nat} {cI cB cJ cZ : ClassId} {A : Nat → Prop} {ad : Nat → Nat} {post : Int32 → St → Prop} (hx : p.tables.exec = Jvm.exec) (hb : c.code = b_Mod_collects) (hml : c.maxLocals = 4) (hown : s.vm.findClass R_Mod = some m.cls) (hT : ∀ w ∈ TG, w.before args s = true) (hK : va_K (dC, dI) CL (TY cI cB cJ cZ) s) (hN : NW s) (hA : ∀ q : Nat, s.heap.size ≤ q → A q) (hRc : cells ≤ R.cells) (hRs : slots ≤ R.slots) (hRf : 0 ≤ R.frames) (hRl : 0 ≤ R.locals) (hret : ∀ (r : Int32) (x : St) (H : Heap) (locs : List Loc) (pc : Nat) (ls : Array Slot), decode b_Mod_collects pc = .ok (.ireturn, 1) → narrow .boolean (.int r) = .int r → post r x → Wd dC dI cI cB cJ cZ ad stM kcM 115 A x H → va_S A s.heap H locs → W p l e R s m args below meth c H locs cells slots Q (F0 m pc ls [.int r]))  : ∀ n : Nat, ∀ (l1 : Int32) (l2 : Int32) (l3 : Int32) (x : St) (H : Heap) (locs : List Loc) (ls : Array Slot), wl_Mod_collects_21 post n l1 l2 l3 x → Wd dC dI cI cB cJ cZ ad stM kcM 115 A x H → va_S A s.heap H locs → lv_has ls 4 [(0, .ref (ad 0)), (1, .int l1), (2, .int l2), (3, .int l3)] → W p l e R s m args below meth c H locs cells slots Q (F0 m 21 ls []) := by
  intro n
  induction n with
  | zero => intro l1 l2 l3 x H locs ls  hw; exact hw.elim
  | succ n ih => intro l1 l2 l3 x H locs ls  hw hW hS hl; exact t_Mod_collects_21 hx hb hml hown hT hK hN hA hRc hRs hRf hRl hret  ih l1 l2 l3 x H locs ls  hw hW hS hl
set_option maxRecDepth 100000 in
set_option maxHeartbeats 4000000 in
set_option maxRecDepth 100000 in
theorem t_Mod_collects_18 {p : Program} {l : Launch} {e : Env} {R : Room} {s : State} {m : MethodId} {args : Array Value} {below : List Frame} {meth : Method} {c : Code} {cells slots : Nat} {Q : State → Prop} {dC : Nat → ClassId} {dI : Nat → Nat → Nat} {cI cB cJ cZ : ClassId} {A : Nat → Prop} {ad : Nat → Nat} {post : Int32 → St → Prop} (hx : p.tables.exec = Jvm.exec) (hb : c.code = b_Mod_collects) (hml : c.maxLocals = 4) (hown : s.vm.findClass R_Mod = some m.cls) (hT : ∀ w ∈ TG, w.before args s = true) (hK : va_K (dC, dI) CL (TY cI cB cJ cZ) s) (hN : NW s) (hA : ∀ q : Nat, s.heap.size ≤ q → A q) (hRc : cells ≤ R.cells) (hRs : slots ≤ R.slots) (hRf : 0 ≤ R.frames) (hRl : 0 ≤ R.locals) (hret : ∀ (r : Int32) (x : St) (H : Heap) (locs : List Loc) (pc : Nat) (ls : Array Slot), decode b_Mod_collects pc = .ok (.ireturn, 1) → narrow .boolean (.int r) = .int r → post r x → Wd dC dI cI cB cJ cZ ad stM kcM 115 A x H → va_S A s.heap H locs → W p l e R s m args below meth c H locs cells slots Q (F0 m pc ls [.int r]))  : ∀ (l1 : Int32) (s0 : Int32) (x : St) (H : Heap) (locs : List Loc) (ls : Array Slot), j_Mod_collects_18 post l1 s0 x → Wd dC dI cI cB cJ cZ ad stM kcM 115 A x H → va_S A s.heap H locs → lv_has ls 4 [(0, .ref (ad 0)), (1, .int l1)] → W p l e R s m args below meth c H locs cells slots Q (F0 m 18 ls [.int s0]) := by
  intro l1 s0 x H locs ls  hw hW hS hl
  unfold j_Mod_collects_18 at hw
  refine lv_istore_n (lv' := [(2, .int s0), (0, .ref (ad 0)), (1, .int l1)]) hx hb d_Mod_collects_18 rfl hl (by decide) rfl (fun ls hl => ?_)
  refine lv_iconst (v := 0) hx hb d_Mod_collects_19 (by decide) ?_
  refine lv_istore_n (lv' := [(3, .int 0), (2, .int s0), (0, .ref (ad 0)), (1, .int l1)]) hx hb d_Mod_collects_20 rfl hl (by decide) rfl (fun ls hl => ?_)
  obtain ⟨n, hw⟩ := hw
  exact tl_Mod_collects_21 hx hb hml hown hT hK hN hA hRc hRs hRf hRl hret  n l1 s0 0 x H locs ls  hw hW hS (lv_sub hl [2, 3, 1, 0] rfl)
set_option maxRecDepth 100000 in
set_option maxHeartbeats 4000000 in
set_option maxRecDepth 100000 in
theorem t_Mod_collects_e {p : Program} {l : Launch} {e : Env} {R : Room} {s : State} {m : MethodId} {args : Array Value} {below : List Frame} {meth : Method} {c : Code} {cells slots : Nat} {Q : State → Prop} {dC : Nat → ClassId} {dI : Nat → Nat → Nat} {cI cB cJ cZ : ClassId} {A : Nat → Prop} {ad : Nat → Nat} {post : Int32 → St → Prop} (hx : p.tables.exec = Jvm.exec) (hb : c.code = b_Mod_collects) (hml : c.maxLocals = 4) (hown : s.vm.findClass R_Mod = some m.cls) (hT : ∀ w ∈ TG, w.before args s = true) (hK : va_K (dC, dI) CL (TY cI cB cJ cZ) s) (hN : NW s) (hA : ∀ q : Nat, s.heap.size ≤ q → A q) (hRc : cells ≤ R.cells) (hRs : slots ≤ R.slots) (hRf : 0 ≤ R.frames) (hRl : 0 ≤ R.locals) (hret : ∀ (r : Int32) (x : St) (H : Heap) (locs : List Loc) (pc : Nat) (ls : Array Slot), decode b_Mod_collects pc = .ok (.ireturn, 1) → narrow .boolean (.int r) = .int r → post r x → Wd dC dI cI cB cJ cZ ad stM kcM 115 A x H → va_S A s.heap H locs → W p l e R s m args below meth c H locs cells slots Q (F0 m pc ls [.int r])) : ∀ (l1 : Int32) (x : St) (H : Heap) (locs : List Loc) (ls : Array Slot), wp_Mod_collects post l1 x → Wd dC dI cI cB cJ cZ ad stM kcM 115 A x H → va_S A s.heap H locs → lv_has ls 4 [(0, .ref (ad 0)), (1, .int l1)] → W p l e R s m args below meth c H locs cells slots Q (F0 m 0 ls []) := by
  intro l1 x H locs ls  hw hW hS hl
  unfold wp_Mod_collects at hw
  refine lv_aload_n hx hb d_Mod_collects_0 rfl (lv_at hl 0 rfl) ?_
  refine w_getf (q := 79) (k := 122) (t := 12) (C := R_Mod) (T := F_Mod) (N := 167) hx hb hT hown hK hW ko_0.1 ko_0.2 (by decide) in_Mod rfl rfl (by decide) rfl fr_Mod_122 w_9_58 d_Mod_collects_1 rfl ?_
  refine lv_iconst (v := 4) hx hb d_Mod_collects_4 (by decide) ?_
  refine lv_iload_n hx hb d_Mod_collects_5 rfl (lv_at hl 1 rfl) ?_
  refine lv_imul hx hb d_Mod_collects_6 ?_
  refine lv_iconst (v := 1) hx hb d_Mod_collects_7 (by decide) ?_
  refine lv_iadd hx hb d_Mod_collects_8 ?_
  obtain ⟨hi, hw⟩ := hw
  refine w_iald (o := 79) hx hb hK hW ko_79.1 ko_79.2 hi d_Mod_collects_9 ?_
  refine lv_if_le (tgt := 17) hx hb d_Mod_collects_10 (by decide) (fun c2204 => ?_) (fun c2204 => ?_)
  · have hw := hw.1 c2204
    refine lv_iconst (v := 0) hx hb d_Mod_collects_17 (by decide) ?_
    exact t_Mod_collects_18 hx hb hml hown hT hK hN hA hRc hRs hRf hRl hret  l1 0 x H locs ls  hw hW hS (lv_sub hl [0, 1] rfl)
  · have hw := hw.2 c2204
    refine lv_iconst (v := 1) hx hb d_Mod_collects_13 (by decide) ?_
    refine lv_goto (tgt := 18) hx hb d_Mod_collects_14 (by decide) ?_
    exact t_Mod_collects_18 hx hb hml hown hT hK hN hA hRc hRs hRf hRl hret  l1 1 x H locs ls  hw hW hS (lv_sub hl [0, 1] rfl)
set_option maxHeartbeats 4000000 in
set_option maxRecDepth 100000 in
theorem k_Mod_collects (l : Launch) (dC : Nat → ClassId) (dI : Nat → Nat → Nat) (cI cB cJ cZ : ClassId) (ad : Nat → Nat) (sz : Nat) (l1 : Int32) (x : St) {post : Int32 → St → Prop} (hw : wp_Mod_collects post l1 x) : Met l y_Mod_collects (wsOf y_Mod_collects b_Mod_collects 4 (some (.boolean))) ({ frames := 0, cells := 0, slots := 0, locals := 0 }) (va_Pc [.ref (ad 0), .int l1] (PW dC dI cI cB cJ cZ ad stM kcM 115 sz x)) (va_Qi (fun (r : Int32) (y : St) => post r y) (fun y t => Wd dC dI cI cB cJ cZ ad stM kcM 115 (va_A (pic ad stM kcM 115 cI cB cJ cZ x) sz) y t.heap) (va_A (pic ad stM kcM 115 cI cB cJ cZ x) sz)) 0 0 (va_A (pic ad stM kcM 115 cI cB cJ cZ x) sz) := by
  refine Met.ofW (cc := b_Mod_collects) (maxL := 4) (ret := some (.boolean)) (by decide) rfl ?_
  intro p e s m args below meth c s₁ B hml hv
  obtain ⟨rfl, hsz, hW0, hK, hN⟩ := hv
  have hx := B.exec
  have hb := B.bytes
  have hr := B.returns
  have hts := atoms_spec B.pre
  have hT : ∀ w ∈ TG, w.before _ s = true := fun w h => hts w (List.mem_cons_of_mem _ h)
  have hown : s.vm.findClass R_Mod = some m.cls := findClass_of_methodNamed B.named
  have hlocks := B.notSynchronized
  subst hsz
  have hW : Wd dC dI cI cB cJ cZ ad stM kcM 115 (va_A (pic ad stM kcM 115 cI cB cJ cZ x) s.heap.size) x s.heap := ⟨hW0.1, hW0.2.1.self (sz := s.heap.size), hW0.2.2⟩
  generalize hAe : va_A (pic ad stM kcM 115 cI cB cJ cZ x) s.heap.size = A at hW ⊢
  have hA : ∀ q : Nat, s.heap.size ≤ q → A q := fun q h => by rw [← hAe]; exact Or.inr h
  have hS : va_S A s.heap s.heap [] := va_S.rf
  have hl := lv_entry ([.ref (ad 0), .int l1]) (n := 4) (Nat.le_of_ble_eq_true rfl)
  rw [lg_entry_eq]
  generalize (lg_sl ([.ref (ad 0), .int l1]) ++ List.replicate (4 - (lg_sl ([.ref (ad 0), .int l1])).length) Slot.unset).toArray = ls at hl ⊢
  have hl : lv_has ls 4 [(0, .ref (ad 0)), (1, .int l1)] := hl
  exact t_Mod_collects_e hx hb hml hown hT hK hN hA (Nat.le_refl 0) (Nat.le_refl 0) (Nat.le_refl 0) (Nat.le_refl 0) (fun r x H locs pc ls hd hz hp hW hS => W.zret (v := r) (ty := .boolean) hx hb hr hz (fun t ht hM => ⟨⟨r, x, rfl, hp, Wd.back hW ht.symm (fun _ z => z)⟩, hS.F ht⟩) hS.2.2 hd hlocks)  l1 x _ _ ls  hw hW hS hl
set_option maxRecDepth 100000 in
set_option maxHeartbeats 4000000 in
set_option maxRecDepth 100000 in
theorem t_Mod_query_389 {p : Program} {l : Launch} {e : Env} {R : Room} {s : State} {m : MethodId} {args : Array Value} {below : List Frame} {meth : Method} {c : Code} {cells slots : Nat} {Q : State → Prop} {dC : Nat → ClassId} {dI : Nat → Nat → Nat} {cI cB cJ cZ : ClassId} {A : Nat → Prop} {ad : Nat → Nat} {post : Int32 → St → Prop} {rec389 : Int32 → Int32 → St → Prop} (hx : p.tables.exec = Jvm.exec) (hb : c.code = b_Mod_query) (hml : c.maxLocals = 3) (hown : s.vm.findClass R_Mod = some m.cls) (hT : ∀ w ∈ TG, w.before args s = true) (hK : va_K (dC, dI) CL (TY cI cB cJ cZ) s) (hN : NW s) (hA : ∀ q : Nat, s.heap.size ≤ q → A q) (hRc : cells ≤ R.cells) (hRs : slots ≤ R.slots) (hRf : 9 ≤ R.frames) (hRl : 206 ≤ R.locals) (hret : ∀ (r : Int32) (x : St) (H : Heap) (locs : List Loc) (pc : Nat) (ls : Array Slot), decode b_Mod_query pc = .ok (.ireturn, 1) → post r x → Wd dC dI cI cB cJ cZ ad stM kcM 115 A x H → va_S A s.heap H locs → W p l e R s m args below meth c H locs cells slots Q (F0 m pc ls [.int r])) (hrec389 : ∀ (l1 : Int32) (l2 : Int32) (x : St) (H : Heap) (locs : List Loc) (ls : Array Slot), rec389 l1 l2 x → Wd dC dI cI cB cJ cZ ad stM kcM 115 A x H → va_S A s.heap H locs → lv_has ls 3 [(0, .ref (ad 0)), (1, .int l1), (2, .int l2)] → W p l e R s m args below meth c H locs cells slots Q (F0 m 389 ls [])) : ∀ (l1 : Int32) (l2 : Int32) (x : St) (H : Heap) (locs : List Loc) (ls : Array Slot), j_Mod_query_389 post rec389 l1 l2 x → Wd dC dI cI cB cJ cZ ad stM kcM 115 A x H → va_S A s.heap H locs → lv_has ls 3 [(0, .ref (ad 0)), (1, .int l1), (2, .int l2)] → W p l e R s m args below meth c H locs cells slots Q (F0 m 389 ls []) := by
  intro l1 l2 x H locs ls  hw hW hS hl
  unfold j_Mod_query_389 at hw
  refine lv_iload_n hx hb d_Mod_query_389 rfl (lv_at hl 2 rfl) ?_
  refine lv_aload_n hx hb d_Mod_query_390 rfl (lv_at hl 0 rfl) ?_
  refine w_geti (k := 25) (t := 12) (C := R_Mod) (T := F_Mod) (N := 167) hx hb hT hown hK hW ko_0.1 ko_0.2 (by decide) in_Mod rfl rfl (by decide) rfl fr_Mod_25 w_8_201 d_Mod_query_391 ?_
  refine lv_icmp_ge (tgt := 424) hx hb d_Mod_query_394 (by decide) (fun c2205 => ?_) (fun c2205 => ?_)
  · have hw := hw.1 c2205
    refine lv_aload_n hx hb d_Mod_query_424 rfl (lv_at hl 0 rfl) ?_
    refine lv_aload_n hx hb d_Mod_query_425 rfl (lv_at hl 0 rfl) ?_
    refine w_geti (k := 118) (t := 12) (C := R_Mod) (T := F_Mod) (N := 167) hx hb hT hown hK hW ko_0.1 ko_0.2 (by decide) in_Mod rfl rfl (by decide) rfl fr_Mod_118 w_9_54 d_Mod_query_426 ?_
    refine w_puti (ty := .int) (k := 117) (t := 12) (C := R_Mod) (T := F_Mod) (N := 167) hx hb hT hown hK hW hS ko_0.1 ko_0.2 (by decide) in_Mod t_Mod t_Mod_ok n_Mod rfl rfl (by decide) rfl fr_Mod_117 w_9_53 (by decide +kernel) rfl rfl d_Mod_query_429 (fun H locs hW hS => ?_)
    obtain ⟨x2206, ex2206⟩ : ∃ y : St, y = setI x 0 117 (fI x 0 118) := ⟨_, rfl⟩
    rw [← ex2206] at hW
    have hw := hw x2206 ex2206
    refine lv_aload_n hx hb d_Mod_query_432 rfl (lv_at hl 0 rfl) ?_
    refine lv_iconst (v := 1) hx hb d_Mod_query_433 (by decide) ?_
    refine w_puti (ty := .boolean) (k := 120) (t := 12) (C := R_Mod) (T := F_Mod) (N := 167) hx hb hT hown hK hW hS ko_0.1 ko_0.2 (by decide) in_Mod t_Mod t_Mod_ok n_Mod rfl rfl (by decide) rfl fr_Mod_120 w_9_56 (by decide +kernel) rfl rfl d_Mod_query_434 (fun H locs hW hS => ?_)
    obtain ⟨x2207, ex2207⟩ : ∃ y : St, y = setI x2206 0 120 1 := ⟨_, rfl⟩
    rw [← ex2207] at hW
    have hw := hw x2207 ex2207
    refine lv_iconst (v := (-1)) hx hb d_Mod_query_437 (by decide) ?_
    exact hret (-1) x2207 H locs 438 ls d_Mod_query_438 hw hW hS
  · have hw := hw.2 c2205
    refine lv_aload_n hx hb d_Mod_query_397 rfl (lv_at hl 0 rfl) ?_
    refine w_getf (q := 92) (k := 135) (t := 12) (C := R_Mod) (T := F_Mod) (N := 167) hx hb hT hown hK hW ko_0.1 ko_0.2 (by decide) in_Mod rfl rfl (by decide) rfl fr_Mod_135 w_9_71 d_Mod_query_398 rfl ?_
    refine lv_sipush (v := 2000) hx hb d_Mod_query_401 (by decide) ?_
    refine lv_aload_n hx hb d_Mod_query_404 rfl (lv_at hl 0 rfl) ?_
    refine w_geti (k := 118) (t := 12) (C := R_Mod) (T := F_Mod) (N := 167) hx hb hT hown hK hW ko_0.1 ko_0.2 (by decide) in_Mod rfl rfl (by decide) rfl fr_Mod_118 w_9_54 d_Mod_query_405 ?_
    refine lv_imul hx hb d_Mod_query_408 ?_
    refine lv_iload_n hx hb d_Mod_query_409 rfl (lv_at hl 2 rfl) ?_
    refine lv_iadd hx hb d_Mod_query_410 ?_
    refine lv_aload_n hx hb d_Mod_query_411 rfl (lv_at hl 0 rfl) ?_
    refine w_getf (q := 16) (k := 22) (t := 12) (C := R_Mod) (T := F_Mod) (N := 167) hx hb hT hown hK hW ko_0.1 ko_0.2 (by decide) in_Mod rfl rfl (by decide) rfl fr_Mod_22 w_8_198 d_Mod_query_412 rfl ?_
    refine lv_iload_n hx hb d_Mod_query_415 rfl (lv_at hl 2 rfl) ?_
    obtain ⟨hi, hw⟩ := hw
    refine w_iald (o := 16) hx hb hK hW ko_16.1 ko_16.2 hi d_Mod_query_416 ?_
    obtain ⟨hi, hw⟩ := hw
    refine w_iast (o := 92) hx hb hK hW hS ko_92.1 ko_92.2 hi d_Mod_query_417 (fun H locs hW hS => ?_)
    obtain ⟨x2208, ex2208⟩ : ∃ y : St, y = setA x 92 ((2000 * (fI x 0 118)) + l2) (rA x 16 l2) := ⟨_, rfl⟩
    rw [← ex2208] at hW
    have hw := hw x2208 ex2208
    refine lv_iinc (v := (l2 + 1)) (lv' := [(2, .int (l2 + 1)), (0, .ref (ad 0)), (1, .int l1)]) hx hb d_Mod_query_418 hl (k := 2) rfl rfl (by decide) rfl (fun ls hl => ?_)
    refine lv_goto (tgt := 389) hx hb d_Mod_query_421 (by decide) ?_
    exact hrec389 l1 (l2 + 1) x2208 H locs ls  hw hW hS (lv_sub hl [1, 2, 0] rfl)
set_option maxHeartbeats 4000000 in
set_option maxRecDepth 100000 in
theorem tl_Mod_query_389 {p : Program} {l : Launch} {e : Env} {R : Room} {s : State} {m : MethodId} {args : Array Value} {below : List Frame} {meth : Method} {c : Code} {cells slots : Nat} {Q : State → Prop} {dC : Nat → ClassId} {dI : Nat → Nat → Nat} {cI cB cJ cZ : ClassId} {A : Nat → Prop} {ad : Nat → Nat} {post : Int32 → St → Prop} (hx : p.tables.exec = Jvm.exec) (hb : c.code = b_Mod_query) (hml : c.maxLocals = 3) (hown : s.vm.findClass R_Mod = some m.cls) (hT : ∀ w ∈ TG, w.before args s = true) (hK : va_K (dC, dI) CL (TY cI cB cJ cZ) s) (hN : NW s) (hA : ∀ q : Nat, s.heap.size ≤ q → A q) (hRc : cells ≤ R.cells) (hRs : slots ≤ R.slots) (hRf : 9 ≤ R.frames) (hRl : 206 ≤ R.locals) (hret : ∀ (r : Int32) (x : St) (H : Heap) (locs : List Loc) (pc : Nat) (ls : Array Slot), decode b_Mod_query pc = .ok (.ireturn, 1) → post r x → Wd dC dI cI cB cJ cZ ad stM kcM 115 A x H → va_S A s.heap H locs → W p l e R s m args below meth c H locs cells slots Q (F0 m pc ls [.int r]))  : ∀ n : Nat, ∀ (l1 : Int32) (l2 : Int32) (x : St) (H : Heap) (locs : List Loc) (ls : Array Slot), wl_Mod_query_389 post n l1 l2 x → Wd dC dI cI cB cJ cZ ad stM kcM 115 A x H → va_S A s.heap H locs → lv_has ls 3 [(0, .ref (ad 0)), (1, .int l1), (2, .int l2)] → W p l e R s m args below meth c H locs cells slots Q (F0 m 389 ls []) := by
  intro n
  induction n with
  | zero => intro l1 l2 x H locs ls  hw; exact hw.elim
  | succ n ih => intro l1 l2 x H locs ls  hw hW hS hl; exact t_Mod_query_389 hx hb hml hown hT hK hN hA hRc hRs hRf hRl hret  ih l1 l2 x H locs ls  hw hW hS hl
set_option maxRecDepth 100000 in
set_option maxHeartbeats 4000000 in
set_option maxRecDepth 100000 in
theorem t_Mod_query_374 {p : Program} {l : Launch} {e : Env} {R : Room} {s : State} {m : MethodId} {args : Array Value} {below : List Frame} {meth : Method} {c : Code} {cells slots : Nat} {Q : State → Prop} {dC : Nat → ClassId} {dI : Nat → Nat → Nat} {cI cB cJ cZ : ClassId} {A : Nat → Prop} {ad : Nat → Nat} {post : Int32 → St → Prop} (hx : p.tables.exec = Jvm.exec) (hb : c.code = b_Mod_query) (hml : c.maxLocals = 3) (hown : s.vm.findClass R_Mod = some m.cls) (hT : ∀ w ∈ TG, w.before args s = true) (hK : va_K (dC, dI) CL (TY cI cB cJ cZ) s) (hN : NW s) (hA : ∀ q : Nat, s.heap.size ≤ q → A q) (hRc : cells ≤ R.cells) (hRs : slots ≤ R.slots) (hRf : 9 ≤ R.frames) (hRl : 206 ≤ R.locals) (hret : ∀ (r : Int32) (x : St) (H : Heap) (locs : List Loc) (pc : Nat) (ls : Array Slot), decode b_Mod_query pc = .ok (.ireturn, 1) → post r x → Wd dC dI cI cB cJ cZ ad stM kcM 115 A x H → va_S A s.heap H locs → W p l e R s m args below meth c H locs cells slots Q (F0 m pc ls [.int r]))  : ∀ (l1 : Int32) (l2 : Int32) (x : St) (H : Heap) (locs : List Loc) (ls : Array Slot), j_Mod_query_374 post l1 l2 x → Wd dC dI cI cB cJ cZ ad stM kcM 115 A x H → va_S A s.heap H locs → lv_has ls 3 [(0, .ref (ad 0)), (1, .int l1), (2, .int l2)] → W p l e R s m args below meth c H locs cells slots Q (F0 m 374 ls []) := by
  intro l1 l2 x H locs ls  hw hW hS hl
  unfold j_Mod_query_374 at hw
  refine lv_aload_n hx hb d_Mod_query_374 rfl (lv_at hl 0 rfl) ?_
  refine w_geti (k := 17) (t := 12) (C := R_Mod) (T := F_Mod) (N := 167) hx hb hT hown hK hW ko_0.1 ko_0.2 (by decide) in_Mod rfl rfl (by decide) rfl fr_Mod_17 w_8_193 d_Mod_query_375 ?_
  refine lv_iconst (v := (-1)) hx hb d_Mod_query_378 (by decide) ?_
  refine lv_icmp_eq (tgt := 387) hx hb d_Mod_query_379 (by decide) (fun c2209 => ?_) (fun c2209 => ?_)
  · have hw := hw.1 c2209
    refine lv_iconst (v := 0) hx hb d_Mod_query_387 (by decide) ?_
    refine lv_istore_n (lv' := [(2, .int 0), (0, .ref (ad 0)), (1, .int l1)]) hx hb d_Mod_query_388 rfl hl (by decide) rfl (fun ls hl => ?_)
    obtain ⟨n, hw⟩ := hw
    exact tl_Mod_query_389 hx hb hml hown hT hK hN hA hRc hRs hRf hRl hret  n l1 0 x H locs ls  hw hW hS (lv_sub hl [1, 2, 0] rfl)
  · have hw := hw.2 c2209
    refine lv_aload_n hx hb d_Mod_query_382 rfl (lv_at hl 0 rfl) ?_
    refine w_geti (k := 17) (t := 12) (C := R_Mod) (T := F_Mod) (N := 167) hx hb hT hown hK hW ko_0.1 ko_0.2 (by decide) in_Mod rfl rfl (by decide) rfl fr_Mod_17 w_8_193 d_Mod_query_383 ?_
    exact hret (fI x 0 17) x H locs 386 ls d_Mod_query_386 hw hW hS
set_option maxRecDepth 100000 in
set_option maxHeartbeats 4000000 in
set_option maxRecDepth 100000 in
theorem t_Mod_query_368 {p : Program} {l : Launch} {e : Env} {R : Room} {s : State} {m : MethodId} {args : Array Value} {below : List Frame} {meth : Method} {c : Code} {cells slots : Nat} {Q : State → Prop} {dC : Nat → ClassId} {dI : Nat → Nat → Nat} {cI cB cJ cZ : ClassId} {A : Nat → Prop} {ad : Nat → Nat} {post : Int32 → St → Prop} {rec293 : Int32 → Int32 → St → Prop} (hx : p.tables.exec = Jvm.exec) (hb : c.code = b_Mod_query) (hml : c.maxLocals = 3) (hown : s.vm.findClass R_Mod = some m.cls) (hT : ∀ w ∈ TG, w.before args s = true) (hK : va_K (dC, dI) CL (TY cI cB cJ cZ) s) (hN : NW s) (hA : ∀ q : Nat, s.heap.size ≤ q → A q) (hRc : cells ≤ R.cells) (hRs : slots ≤ R.slots) (hRf : 9 ≤ R.frames) (hRl : 206 ≤ R.locals) (hret : ∀ (r : Int32) (x : St) (H : Heap) (locs : List Loc) (pc : Nat) (ls : Array Slot), decode b_Mod_query pc = .ok (.ireturn, 1) → post r x → Wd dC dI cI cB cJ cZ ad stM kcM 115 A x H → va_S A s.heap H locs → W p l e R s m args below meth c H locs cells slots Q (F0 m pc ls [.int r])) (hrec293 : ∀ (l1 : Int32) (l2 : Int32) (x : St) (H : Heap) (locs : List Loc) (ls : Array Slot), rec293 l1 l2 x → Wd dC dI cI cB cJ cZ ad stM kcM 115 A x H → va_S A s.heap H locs → lv_has ls 3 [(0, .ref (ad 0)), (1, .int l1), (2, .int l2)] → W p l e R s m args below meth c H locs cells slots Q (F0 m 293 ls [])) : ∀ (l1 : Int32) (l2 : Int32) (x : St) (H : Heap) (locs : List Loc) (ls : Array Slot), j_Mod_query_368 post rec293 l1 l2 x → Wd dC dI cI cB cJ cZ ad stM kcM 115 A x H → va_S A s.heap H locs → lv_has ls 3 [(0, .ref (ad 0)), (1, .int l1), (2, .int l2)] → W p l e R s m args below meth c H locs cells slots Q (F0 m 368 ls []) := by
  intro l1 l2 x H locs ls  hw hW hS hl
  unfold j_Mod_query_368 at hw
  refine lv_iinc (v := (l2 + 1)) (lv' := [(2, .int (l2 + 1)), (0, .ref (ad 0)), (1, .int l1)]) hx hb d_Mod_query_368 hl (k := 2) rfl rfl (by decide) rfl (fun ls hl => ?_)
  refine lv_goto (tgt := 293) hx hb d_Mod_query_371 (by decide) ?_
  exact hrec293 l1 (l2 + 1) x H locs ls  hw hW hS (lv_sub hl [1, 2, 0] rfl)
set_option maxRecDepth 100000 in
set_option maxHeartbeats 4000000 in
set_option maxRecDepth 100000 in
theorem t_Mod_query_293 {p : Program} {l : Launch} {e : Env} {R : Room} {s : State} {m : MethodId} {args : Array Value} {below : List Frame} {meth : Method} {c : Code} {cells slots : Nat} {Q : State → Prop} {dC : Nat → ClassId} {dI : Nat → Nat → Nat} {cI cB cJ cZ : ClassId} {A : Nat → Prop} {ad : Nat → Nat} {post : Int32 → St → Prop} {rec293 : Int32 → Int32 → St → Prop} (hx : p.tables.exec = Jvm.exec) (hb : c.code = b_Mod_query) (hml : c.maxLocals = 3) (hown : s.vm.findClass R_Mod = some m.cls) (hT : ∀ w ∈ TG, w.before args s = true) (hK : va_K (dC, dI) CL (TY cI cB cJ cZ) s) (hN : NW s) (hA : ∀ q : Nat, s.heap.size ≤ q → A q) (hRc : cells ≤ R.cells) (hRs : slots ≤ R.slots) (hRf : 9 ≤ R.frames) (hRl : 206 ≤ R.locals) (hret : ∀ (r : Int32) (x : St) (H : Heap) (locs : List Loc) (pc : Nat) (ls : Array Slot), decode b_Mod_query pc = .ok (.ireturn, 1) → post r x → Wd dC dI cI cB cJ cZ ad stM kcM 115 A x H → va_S A s.heap H locs → W p l e R s m args below meth c H locs cells slots Q (F0 m pc ls [.int r])) (hrec293 : ∀ (l1 : Int32) (l2 : Int32) (x : St) (H : Heap) (locs : List Loc) (ls : Array Slot), rec293 l1 l2 x → Wd dC dI cI cB cJ cZ ad stM kcM 115 A x H → va_S A s.heap H locs → lv_has ls 3 [(0, .ref (ad 0)), (1, .int l1), (2, .int l2)] → W p l e R s m args below meth c H locs cells slots Q (F0 m 293 ls [])) : ∀ (l1 : Int32) (l2 : Int32) (x : St) (H : Heap) (locs : List Loc) (ls : Array Slot), j_Mod_query_293 post rec293 l1 l2 x → Wd dC dI cI cB cJ cZ ad stM kcM 115 A x H → va_S A s.heap H locs → lv_has ls 3 [(0, .ref (ad 0)), (1, .int l1), (2, .int l2)] → W p l e R s m args below meth c H locs cells slots Q (F0 m 293 ls []) := by
  intro l1 l2 x H locs ls  hw hW hS hl
  unfold j_Mod_query_293 at hw
  refine lv_iload_n hx hb d_Mod_query_293 rfl (lv_at hl 2 rfl) ?_
  refine lv_aload_n hx hb d_Mod_query_294 rfl (lv_at hl 0 rfl) ?_
  refine w_getf (q := 79) (k := 122) (t := 12) (C := R_Mod) (T := F_Mod) (N := 167) hx hb hT hown hK hW ko_0.1 ko_0.2 (by decide) in_Mod rfl rfl (by decide) rfl fr_Mod_122 w_9_58 d_Mod_query_295 rfl ?_
  refine lv_iconst (v := 4) hx hb d_Mod_query_298 (by decide) ?_
  refine lv_aload_n hx hb d_Mod_query_299 rfl (lv_at hl 0 rfl) ?_
  refine w_geti (k := 118) (t := 12) (C := R_Mod) (T := F_Mod) (N := 167) hx hb hT hown hK hW ko_0.1 ko_0.2 (by decide) in_Mod rfl rfl (by decide) rfl fr_Mod_118 w_9_54 d_Mod_query_300 ?_
  refine lv_imul hx hb d_Mod_query_303 ?_
  obtain ⟨hi, hw⟩ := hw
  refine w_iald (o := 79) hx hb hK hW ko_79.1 ko_79.2 hi d_Mod_query_304 ?_
  refine lv_icmp_ge (tgt := 374) hx hb d_Mod_query_305 (by decide) (fun c2210 => ?_) (fun c2210 => ?_)
  · have hw := hw.1 c2210
    exact t_Mod_query_374 hx hb hml hown hT hK hN hA hRc hRs hRf hRl hret  l1 l2 x H locs ls  hw hW hS (lv_sub hl [0, 1, 2] rfl)
  · have hw := hw.2 c2210
    refine lv_iload_n hx hb d_Mod_query_308 rfl (lv_at hl 1 rfl) ?_
    refine lv_if_eq (tgt := 374) hx hb d_Mod_query_309 (by decide) (fun c2211 => ?_) (fun c2211 => ?_)
    · have hw := hw.1 c2211
      exact t_Mod_query_374 hx hb hml hown hT hK hN hA hRc hRs hRf hRl hret  l1 l2 x H locs ls  hw hW hS (lv_sub hl [0, 1, 2] rfl)
    · have hw := hw.2 c2211
      refine lv_aload_n hx hb d_Mod_query_312 rfl (lv_at hl 0 rfl) ?_
      refine w_getf (q := 80) (k := 123) (t := 12) (C := R_Mod) (T := F_Mod) (N := 167) hx hb hT hown hK hW ko_0.1 ko_0.2 (by decide) in_Mod rfl rfl (by decide) rfl fr_Mod_123 w_9_59 d_Mod_query_313 rfl ?_
      refine lv_bipush (v := 16) hx hb d_Mod_query_316 (by decide) ?_
      refine lv_aload_n hx hb d_Mod_query_318 rfl (lv_at hl 0 rfl) ?_
      refine w_geti (k := 118) (t := 12) (C := R_Mod) (T := F_Mod) (N := 167) hx hb hT hown hK hW ko_0.1 ko_0.2 (by decide) in_Mod rfl rfl (by decide) rfl fr_Mod_118 w_9_54 d_Mod_query_319 ?_
      refine lv_imul hx hb d_Mod_query_322 ?_
      refine lv_iload_n hx hb d_Mod_query_323 rfl (lv_at hl 2 rfl) ?_
      refine lv_iadd hx hb d_Mod_query_324 ?_
      obtain ⟨hi, hw⟩ := hw
      refine w_iald (o := 80) hx hb hK hW ko_80.1 ko_80.2 hi d_Mod_query_325 ?_
      refine lv_if_ne (tgt := 368) hx hb d_Mod_query_326 (by decide) (fun c2212 => ?_) (fun c2212 => ?_)
      · have hw := hw.1 c2212
        exact t_Mod_query_368 hx hb hml hown hT hK hN hA hRc hRs hRf hRl hret hrec293 l1 l2 x H locs ls  hw hW hS (lv_sub hl [0, 1, 2] rfl)
      · have hw := hw.2 c2212
        refine lv_aload_n hx hb d_Mod_query_329 rfl (lv_at hl 0 rfl) ?_
        refine lv_aload_n hx hb d_Mod_query_330 rfl (lv_at hl 0 rfl) ?_
        refine w_getf (q := 81) (k := 124) (t := 12) (C := R_Mod) (T := F_Mod) (N := 167) hx hb hT hown hK hW ko_0.1 ko_0.2 (by decide) in_Mod rfl rfl (by decide) rfl fr_Mod_124 w_9_60 d_Mod_query_331 rfl ?_
        refine lv_bipush (v := 16) hx hb d_Mod_query_334 (by decide) ?_
        refine lv_aload_n hx hb d_Mod_query_336 rfl (lv_at hl 0 rfl) ?_
        refine w_geti (k := 118) (t := 12) (C := R_Mod) (T := F_Mod) (N := 167) hx hb hT hown hK hW ko_0.1 ko_0.2 (by decide) in_Mod rfl rfl (by decide) rfl fr_Mod_118 w_9_54 d_Mod_query_337 ?_
        refine lv_imul hx hb d_Mod_query_340 ?_
        refine lv_iload_n hx hb d_Mod_query_341 rfl (lv_at hl 2 rfl) ?_
        refine lv_iadd hx hb d_Mod_query_342 ?_
        obtain ⟨hi, hw⟩ := hw
        refine w_iald (o := 81) hx hb hK hW ko_81.1 ko_81.2 hi d_Mod_query_343 ?_
        have hF := hW.free hS hA
        refine va_calli (va_runV (C := R_Mod) (As := [.int (rA x 81 ((16 * (fI x 0 118)) + l2))]) (rest := []) ⟨hx, hb, hml, hown, hT⟩ (k_Mod_isBy l dC dI cI cB cJ cZ ad H.size (rA x 81 ((16 * (fI x 0 118)) + l2)) x  hw) ⟨callB_of 1 hT (gwt_in w_13_191) rfl rfl rfl (hT _ w_1_15) (hT _ w_13_188) (by decide +kernel) ⟨Nat.le_trans (Nat.le_of_ble_eq_true rfl) hRf, Nat.le_trans (Nat.le_of_ble_eq_true rfl) hRl⟩, hT _ w_13_190, hT _ ws_250⟩ ⟨PW.blind, va_recv hK hW.1 (ci := 12) (q0 := 0) rfl (pic_obj ko_0.1 ko_0.2 (by decide)), PW.at _ hW hK hN⟩ rfl rfl hl.1 rfl (lv_room (Nat.le_of_ble_eq_true rfl)) d_Mod_query_344 ⟨hRc, hRs⟩) hS (fun q _ h => hF q h) hF (fun r2214 x2213 t H locs ht hvm hw hB hz1 hk1 hS => ?_)
        have hW := Wd.back hB ht hF
        clear hB ht hF hz1 hk1 hvm
        refine lv_if_ne (tgt := 368) hx hb d_Mod_query_347 (by decide) (fun c2215 => ?_) (fun c2215 => ?_)
        · have hw := hw.1 c2215
          exact t_Mod_query_368 hx hb hml hown hT hK hN hA hRc hRs hRf hRl hret hrec293 l1 l2 x2213 H locs ls  hw hW hS (lv_sub hl [0, 1, 2] rfl)
        · have hw := hw.2 c2215
          refine lv_aload_n hx hb d_Mod_query_350 rfl (lv_at hl 0 rfl) ?_
          refine lv_aload_n hx hb d_Mod_query_351 rfl (lv_at hl 0 rfl) ?_
          refine w_getf (q := 82) (k := 125) (t := 12) (C := R_Mod) (T := F_Mod) (N := 167) hx hb hT hown hK hW ko_0.1 ko_0.2 (by decide) in_Mod rfl rfl (by decide) rfl fr_Mod_125 w_9_61 d_Mod_query_352 rfl ?_
          refine lv_bipush (v := 16) hx hb d_Mod_query_355 (by decide) ?_
          refine lv_aload_n hx hb d_Mod_query_357 rfl (lv_at hl 0 rfl) ?_
          refine w_geti (k := 118) (t := 12) (C := R_Mod) (T := F_Mod) (N := 167) hx hb hT hown hK hW ko_0.1 ko_0.2 (by decide) in_Mod rfl rfl (by decide) rfl fr_Mod_118 w_9_54 d_Mod_query_358 ?_
          refine lv_imul hx hb d_Mod_query_361 ?_
          refine lv_iload_n hx hb d_Mod_query_362 rfl (lv_at hl 2 rfl) ?_
          refine lv_iadd hx hb d_Mod_query_363 ?_
          obtain ⟨hi, hw⟩ := hw
          refine w_iald (o := 82) hx hb hK hW ko_82.1 ko_82.2 hi d_Mod_query_364 ?_
          have hF := hW.free hS hA
          refine va_callv (va_runV (C := R_Mod) (As := [.int (rA x2213 82 ((16 * (fI x2213 0 118)) + l2))]) (rest := []) ⟨hx, hb, hml, hown, hT⟩ (k_Mod_fail l dC dI cI cB cJ cZ ad H.size (rA x2213 82 ((16 * (fI x2213 0 118)) + l2)) x2213  hw) ⟨callB_of 1 hT (gwt_in w_11_14) rfl rfl rfl (hT _ w_1_15) (hT _ w_11_11) (by decide +kernel) ⟨Nat.le_trans (Nat.le_of_ble_eq_true rfl) hRf, Nat.le_trans (Nat.le_of_ble_eq_true rfl) hRl⟩, hT _ w_11_13, hT _ ws_115⟩ ⟨PW.blind, va_recv hK hW.1 (ci := 12) (q0 := 0) rfl (pic_obj ko_0.1 ko_0.2 (by decide)), PW.at _ hW hK hN⟩ rfl rfl hl.1 rfl (lv_room (Nat.le_of_ble_eq_true rfl)) d_Mod_query_365 ⟨hRc, hRs⟩) hS (fun q _ h => hF q h) hF (fun  x2216 t H locs ht hvm hw hB hz1 hk1 hS => ?_)
          have hW := Wd.back hB ht hF
          clear hB ht hF hz1 hk1 hvm
          exact t_Mod_query_368 hx hb hml hown hT hK hN hA hRc hRs hRf hRl hret hrec293 l1 l2 x2216 H locs ls  hw hW hS (lv_sub hl [0, 1, 2] rfl)
set_option maxHeartbeats 4000000 in
set_option maxRecDepth 100000 in
theorem tl_Mod_query_293 {p : Program} {l : Launch} {e : Env} {R : Room} {s : State} {m : MethodId} {args : Array Value} {below : List Frame} {meth : Method} {c : Code} {cells slots : Nat} {Q : State → Prop} {dC : Nat → ClassId} {dI : Nat → Nat → Nat} {cI cB cJ cZ : ClassId} {A : Nat → Prop} {ad : Nat → Nat} {post : Int32 → St → Prop} (hx : p.tables.exec = Jvm.exec) (hb : c.code = b_Mod_query) (hml : c.maxLocals = 3) (hown : s.vm.findClass R_Mod = some m.cls) (hT : ∀ w ∈ TG, w.before args s = true) (hK : va_K (dC, dI) CL (TY cI cB cJ cZ) s) (hN : NW s) (hA : ∀ q : Nat, s.heap.size ≤ q → A q) (hRc : cells ≤ R.cells) (hRs : slots ≤ R.slots) (hRf : 9 ≤ R.frames) (hRl : 206 ≤ R.locals) (hret : ∀ (r : Int32) (x : St) (H : Heap) (locs : List Loc) (pc : Nat) (ls : Array Slot), decode b_Mod_query pc = .ok (.ireturn, 1) → post r x → Wd dC dI cI cB cJ cZ ad stM kcM 115 A x H → va_S A s.heap H locs → W p l e R s m args below meth c H locs cells slots Q (F0 m pc ls [.int r]))  : ∀ n : Nat, ∀ (l1 : Int32) (l2 : Int32) (x : St) (H : Heap) (locs : List Loc) (ls : Array Slot), wl_Mod_query_293 post n l1 l2 x → Wd dC dI cI cB cJ cZ ad stM kcM 115 A x H → va_S A s.heap H locs → lv_has ls 3 [(0, .ref (ad 0)), (1, .int l1), (2, .int l2)] → W p l e R s m args below meth c H locs cells slots Q (F0 m 293 ls []) := by
  intro n
  induction n with
  | zero => intro l1 l2 x H locs ls  hw; exact hw.elim
  | succ n ih => intro l1 l2 x H locs ls  hw hW hS hl; exact t_Mod_query_293 hx hb hml hown hT hK hN hA hRc hRs hRf hRl hret  ih l1 l2 x H locs ls  hw hW hS hl
set_option maxRecDepth 100000 in
set_option maxHeartbeats 4000000 in
set_option maxRecDepth 100000 in
theorem t_Mod_query_290 {p : Program} {l : Launch} {e : Env} {R : Room} {s : State} {m : MethodId} {args : Array Value} {below : List Frame} {meth : Method} {c : Code} {cells slots : Nat} {Q : State → Prop} {dC : Nat → ClassId} {dI : Nat → Nat → Nat} {cI cB cJ cZ : ClassId} {A : Nat → Prop} {ad : Nat → Nat} {post : Int32 → St → Prop} (hx : p.tables.exec = Jvm.exec) (hb : c.code = b_Mod_query) (hml : c.maxLocals = 3) (hown : s.vm.findClass R_Mod = some m.cls) (hT : ∀ w ∈ TG, w.before args s = true) (hK : va_K (dC, dI) CL (TY cI cB cJ cZ) s) (hN : NW s) (hA : ∀ q : Nat, s.heap.size ≤ q → A q) (hRc : cells ≤ R.cells) (hRs : slots ≤ R.slots) (hRf : 9 ≤ R.frames) (hRl : 206 ≤ R.locals) (hret : ∀ (r : Int32) (x : St) (H : Heap) (locs : List Loc) (pc : Nat) (ls : Array Slot), decode b_Mod_query pc = .ok (.ireturn, 1) → post r x → Wd dC dI cI cB cJ cZ ad stM kcM 115 A x H → va_S A s.heap H locs → W p l e R s m args below meth c H locs cells slots Q (F0 m pc ls [.int r]))  : ∀ (l1 : Int32) (s0 : Int32) (x : St) (H : Heap) (locs : List Loc) (ls : Array Slot), j_Mod_query_290 post l1 s0 x → Wd dC dI cI cB cJ cZ ad stM kcM 115 A x H → va_S A s.heap H locs → lv_has ls 3 [(0, .ref (ad 0)), (1, .int l1)] → W p l e R s m args below meth c H locs cells slots Q (F0 m 290 ls [.int s0]) := by
  intro l1 s0 x H locs ls  hw hW hS hl
  unfold j_Mod_query_290 at hw
  refine lv_istore_n (lv' := [(1, .int s0), (0, .ref (ad 0))]) hx hb d_Mod_query_290 rfl hl (by decide) rfl (fun ls hl => ?_)
  refine lv_iconst (v := 0) hx hb d_Mod_query_291 (by decide) ?_
  refine lv_istore_n (lv' := [(2, .int 0), (1, .int s0), (0, .ref (ad 0))]) hx hb d_Mod_query_292 rfl hl (by decide) rfl (fun ls hl => ?_)
  obtain ⟨n, hw⟩ := hw
  exact tl_Mod_query_293 hx hb hml hown hT hK hN hA hRc hRs hRf hRl hret  n s0 0 x H locs ls  hw hW hS (lv_sub hl [2, 1, 0] rfl)
set_option maxRecDepth 100000 in
set_option maxHeartbeats 4000000 in
set_option maxRecDepth 100000 in
theorem t_Mod_query_289 {p : Program} {l : Launch} {e : Env} {R : Room} {s : State} {m : MethodId} {args : Array Value} {below : List Frame} {meth : Method} {c : Code} {cells slots : Nat} {Q : State → Prop} {dC : Nat → ClassId} {dI : Nat → Nat → Nat} {cI cB cJ cZ : ClassId} {A : Nat → Prop} {ad : Nat → Nat} {post : Int32 → St → Prop} (hx : p.tables.exec = Jvm.exec) (hb : c.code = b_Mod_query) (hml : c.maxLocals = 3) (hown : s.vm.findClass R_Mod = some m.cls) (hT : ∀ w ∈ TG, w.before args s = true) (hK : va_K (dC, dI) CL (TY cI cB cJ cZ) s) (hN : NW s) (hA : ∀ q : Nat, s.heap.size ≤ q → A q) (hRc : cells ≤ R.cells) (hRs : slots ≤ R.slots) (hRf : 9 ≤ R.frames) (hRl : 206 ≤ R.locals) (hret : ∀ (r : Int32) (x : St) (H : Heap) (locs : List Loc) (pc : Nat) (ls : Array Slot), decode b_Mod_query pc = .ok (.ireturn, 1) → post r x → Wd dC dI cI cB cJ cZ ad stM kcM 115 A x H → va_S A s.heap H locs → W p l e R s m args below meth c H locs cells slots Q (F0 m pc ls [.int r]))  : ∀ (l1 : Int32) (x : St) (H : Heap) (locs : List Loc) (ls : Array Slot), j_Mod_query_289 post l1 x → Wd dC dI cI cB cJ cZ ad stM kcM 115 A x H → va_S A s.heap H locs → lv_has ls 3 [(0, .ref (ad 0)), (1, .int l1)] → W p l e R s m args below meth c H locs cells slots Q (F0 m 289 ls []) := by
  intro l1 x H locs ls  hw hW hS hl
  unfold j_Mod_query_289 at hw
  refine lv_iconst (v := 0) hx hb d_Mod_query_289 (by decide) ?_
  exact t_Mod_query_290 hx hb hml hown hT hK hN hA hRc hRs hRf hRl hret  l1 0 x H locs ls  hw hW hS (lv_sub hl [0, 1] rfl)
set_option maxRecDepth 100000 in
set_option maxHeartbeats 4000000 in
set_option maxRecDepth 100000 in
theorem t_Mod_query_266 {p : Program} {l : Launch} {e : Env} {R : Room} {s : State} {m : MethodId} {args : Array Value} {below : List Frame} {meth : Method} {c : Code} {cells slots : Nat} {Q : State → Prop} {dC : Nat → ClassId} {dI : Nat → Nat → Nat} {cI cB cJ cZ : ClassId} {A : Nat → Prop} {ad : Nat → Nat} {post : Int32 → St → Prop} (hx : p.tables.exec = Jvm.exec) (hb : c.code = b_Mod_query) (hml : c.maxLocals = 3) (hown : s.vm.findClass R_Mod = some m.cls) (hT : ∀ w ∈ TG, w.before args s = true) (hK : va_K (dC, dI) CL (TY cI cB cJ cZ) s) (hN : NW s) (hA : ∀ q : Nat, s.heap.size ≤ q → A q) (hRc : cells ≤ R.cells) (hRs : slots ≤ R.slots) (hRf : 9 ≤ R.frames) (hRl : 206 ≤ R.locals) (hret : ∀ (r : Int32) (x : St) (H : Heap) (locs : List Loc) (pc : Nat) (ls : Array Slot), decode b_Mod_query pc = .ok (.ireturn, 1) → post r x → Wd dC dI cI cB cJ cZ ad stM kcM 115 A x H → va_S A s.heap H locs → W p l e R s m args below meth c H locs cells slots Q (F0 m pc ls [.int r]))  : ∀ (l1 : Int32) (x : St) (H : Heap) (locs : List Loc) (ls : Array Slot), j_Mod_query_266 post l1 x → Wd dC dI cI cB cJ cZ ad stM kcM 115 A x H → va_S A s.heap H locs → lv_has ls 3 [(0, .ref (ad 0)), (1, .int l1)] → W p l e R s m args below meth c H locs cells slots Q (F0 m 266 ls []) := by
  intro l1 x H locs ls  hw hW hS hl
  unfold j_Mod_query_266 at hw
  refine lv_aload_n hx hb d_Mod_query_266 rfl (lv_at hl 0 rfl) ?_
  refine w_geti (k := 17) (t := 12) (C := R_Mod) (T := F_Mod) (N := 167) hx hb hT hown hK hW ko_0.1 ko_0.2 (by decide) in_Mod rfl rfl (by decide) rfl fr_Mod_17 w_8_193 d_Mod_query_267 ?_
  refine lv_iconst (v := (-1)) hx hb d_Mod_query_270 (by decide) ?_
  refine lv_icmp_ne (tgt := 289) hx hb d_Mod_query_271 (by decide) (fun c2217 => ?_) (fun c2217 => ?_)
  · have hw := hw.1 c2217
    exact t_Mod_query_289 hx hb hml hown hT hK hN hA hRc hRs hRf hRl hret  l1 x H locs ls  hw hW hS (lv_sub hl [0, 1] rfl)
  · have hw := hw.2 c2217
    refine lv_aload_n hx hb d_Mod_query_274 rfl (lv_at hl 0 rfl) ?_
    refine lv_aload_n hx hb d_Mod_query_275 rfl (lv_at hl 0 rfl) ?_
    refine w_geti (k := 118) (t := 12) (C := R_Mod) (T := F_Mod) (N := 167) hx hb hT hown hK hW ko_0.1 ko_0.2 (by decide) in_Mod rfl rfl (by decide) rfl fr_Mod_118 w_9_54 d_Mod_query_276 ?_
    have hF := hW.free hS hA
    refine va_calli (va_runV (C := R_Mod) (As := [.int (fI x 0 118)]) (rest := []) ⟨hx, hb, hml, hown, hT⟩ (k_Mod_collects l dC dI cI cB cJ cZ ad H.size (fI x 0 118) x  hw) ⟨callB_of 1 hT (gwt_in w_13_195) rfl rfl rfl (hT _ w_1_15) (hT _ w_13_192) (by decide +kernel) ⟨Nat.le_trans (Nat.le_of_ble_eq_true rfl) hRf, Nat.le_trans (Nat.le_of_ble_eq_true rfl) hRl⟩, hT _ w_13_194, hT _ ws_251⟩ ⟨PW.blind, va_recv hK hW.1 (ci := 12) (q0 := 0) rfl (pic_obj ko_0.1 ko_0.2 (by decide)), PW.at _ hW hK hN⟩ rfl rfl hl.1 rfl (lv_room (Nat.le_of_ble_eq_true rfl)) d_Mod_query_279 ⟨hRc, hRs⟩) hS (fun q _ h => hF q h) hF (fun r2219 x2218 t H locs ht hvm hw hB hz1 hk1 hS => ?_)
    have hW := Wd.back hB ht hF
    clear hB ht hF hz1 hk1 hvm
    refine lv_if_eq (tgt := 289) hx hb d_Mod_query_282 (by decide) (fun c2220 => ?_) (fun c2220 => ?_)
    · have hw := hw.1 c2220
      exact t_Mod_query_289 hx hb hml hown hT hK hN hA hRc hRs hRf hRl hret  l1 x2218 H locs ls  hw hW hS (lv_sub hl [0, 1] rfl)
    · have hw := hw.2 c2220
      refine lv_iconst (v := 1) hx hb d_Mod_query_285 (by decide) ?_
      refine lv_goto (tgt := 290) hx hb d_Mod_query_286 (by decide) ?_
      exact t_Mod_query_290 hx hb hml hown hT hK hN hA hRc hRs hRf hRl hret  l1 1 x2218 H locs ls  hw hW hS (lv_sub hl [0, 1] rfl)
set_option maxRecDepth 100000 in
set_option maxHeartbeats 4000000 in
set_option maxRecDepth 100000 in
theorem t_Mod_query_235 {p : Program} {l : Launch} {e : Env} {R : Room} {s : State} {m : MethodId} {args : Array Value} {below : List Frame} {meth : Method} {c : Code} {cells slots : Nat} {Q : State → Prop} {dC : Nat → ClassId} {dI : Nat → Nat → Nat} {cI cB cJ cZ : ClassId} {A : Nat → Prop} {ad : Nat → Nat} {post : Int32 → St → Prop} (hx : p.tables.exec = Jvm.exec) (hb : c.code = b_Mod_query) (hml : c.maxLocals = 3) (hown : s.vm.findClass R_Mod = some m.cls) (hT : ∀ w ∈ TG, w.before args s = true) (hK : va_K (dC, dI) CL (TY cI cB cJ cZ) s) (hN : NW s) (hA : ∀ q : Nat, s.heap.size ≤ q → A q) (hRc : cells ≤ R.cells) (hRs : slots ≤ R.slots) (hRf : 9 ≤ R.frames) (hRl : 206 ≤ R.locals) (hret : ∀ (r : Int32) (x : St) (H : Heap) (locs : List Loc) (pc : Nat) (ls : Array Slot), decode b_Mod_query pc = .ok (.ireturn, 1) → post r x → Wd dC dI cI cB cJ cZ ad stM kcM 115 A x H → va_S A s.heap H locs → W p l e R s m args below meth c H locs cells slots Q (F0 m pc ls [.int r]))  : ∀ (l1 : Int32) (x : St) (H : Heap) (locs : List Loc) (ls : Array Slot), j_Mod_query_235 post l1 x → Wd dC dI cI cB cJ cZ ad stM kcM 115 A x H → va_S A s.heap H locs → lv_has ls 3 [(0, .ref (ad 0)), (1, .int l1)] → W p l e R s m args below meth c H locs cells slots Q (F0 m 235 ls []) := by
  intro l1 x H locs ls  hw hW hS hl
  unfold j_Mod_query_235 at hw
  refine lv_aload_n hx hb d_Mod_query_235 rfl (lv_at hl 0 rfl) ?_
  have hF := hW.free hS hA
  refine va_callv (va_runV (C := R_Mod) (As := []) (rest := []) ⟨hx, hb, hml, hown, hT⟩ (k_Mod_blanks l dC dI cI cB cJ cZ ad H.size  x  hw) ⟨callB_of 0 hT (gwt_in w_10_230) rfl rfl rfl (hT _ w_1_15) (hT _ w_10_227) (by decide +kernel) ⟨Nat.le_trans (Nat.le_of_ble_eq_true rfl) hRf, Nat.le_trans (Nat.le_of_ble_eq_true rfl) hRl⟩, hT _ w_10_229, hT _ ws_111⟩ ⟨PW.blind, va_recv hK hW.1 (ci := 12) (q0 := 0) rfl (pic_obj ko_0.1 ko_0.2 (by decide)), PW.at _ hW hK hN⟩ rfl rfl hl.1 rfl (lv_room (Nat.le_of_ble_eq_true rfl)) d_Mod_query_236 ⟨hRc, hRs⟩) hS (fun q _ h => hF q h) hF (fun  x2221 t H locs ht hvm hw hB hz1 hk1 hS => ?_)
  have hW := Wd.back hB ht hF
  clear hB ht hF hz1 hk1 hvm
  refine lv_aload_n hx hb d_Mod_query_239 rfl (lv_at hl 0 rfl) ?_
  refine w_geti (k := 17) (t := 12) (C := R_Mod) (T := F_Mod) (N := 167) hx hb hT hown hK hW ko_0.1 ko_0.2 (by decide) in_Mod rfl rfl (by decide) rfl fr_Mod_17 w_8_193 d_Mod_query_240 ?_
  refine lv_iconst (v := (-1)) hx hb d_Mod_query_243 (by decide) ?_
  refine lv_icmp_ne (tgt := 266) hx hb d_Mod_query_244 (by decide) (fun c2222 => ?_) (fun c2222 => ?_)
  · have hw := hw.1 c2222
    exact t_Mod_query_266 hx hb hml hown hT hK hN hA hRc hRs hRf hRl hret  l1 x2221 H locs ls  hw hW hS (lv_sub hl [0, 1] rfl)
  · have hw := hw.2 c2222
    refine lv_aload_n hx hb d_Mod_query_247 rfl (lv_at hl 0 rfl) ?_
    refine w_geti (k := 16) (t := 12) (C := R_Mod) (T := F_Mod) (N := 167) hx hb hT hown hK hW ko_0.1 ko_0.2 (by decide) in_Mod rfl rfl (by decide) rfl fr_Mod_16 w_8_192 d_Mod_query_248 ?_
    refine lv_aload_n hx hb d_Mod_query_251 rfl (lv_at hl 0 rfl) ?_
    refine w_geti (k := 15) (t := 12) (C := R_Mod) (T := F_Mod) (N := 167) hx hb hT hown hK hW ko_0.1 ko_0.2 (by decide) in_Mod rfl rfl (by decide) rfl fr_Mod_15 w_8_191 d_Mod_query_252 ?_
    refine lv_icmp_ge (tgt := 266) hx hb d_Mod_query_255 (by decide) (fun c2223 => ?_) (fun c2223 => ?_)
    · have hw := hw.1 c2223
      exact t_Mod_query_266 hx hb hml hown hT hK hN hA hRc hRs hRf hRl hret  l1 x2221 H locs ls  hw hW hS (lv_sub hl [0, 1] rfl)
    · have hw := hw.2 c2223
      refine lv_aload_n hx hb d_Mod_query_258 rfl (lv_at hl 0 rfl) ?_
      refine lv_aload_n hx hb d_Mod_query_259 rfl (lv_at hl 0 rfl) ?_
      refine w_geti (k := 16) (t := 12) (C := R_Mod) (T := F_Mod) (N := 167) hx hb hT hown hK hW ko_0.1 ko_0.2 (by decide) in_Mod rfl rfl (by decide) rfl fr_Mod_16 w_8_192 d_Mod_query_260 ?_
      have hF := hW.free hS hA
      refine va_callv (va_runV (C := R_Mod) (As := [.int (fI x2221 0 16)]) (rest := []) ⟨hx, hb, hml, hown, hT⟩ (k_Mod_fail l dC dI cI cB cJ cZ ad H.size (fI x2221 0 16) x2221  hw) ⟨callB_of 1 hT (gwt_in w_11_14) rfl rfl rfl (hT _ w_1_15) (hT _ w_11_11) (by decide +kernel) ⟨Nat.le_trans (Nat.le_of_ble_eq_true rfl) hRf, Nat.le_trans (Nat.le_of_ble_eq_true rfl) hRl⟩, hT _ w_11_13, hT _ ws_115⟩ ⟨PW.blind, va_recv hK hW.1 (ci := 12) (q0 := 0) rfl (pic_obj ko_0.1 ko_0.2 (by decide)), PW.at _ hW hK hN⟩ rfl rfl hl.1 rfl (lv_room (Nat.le_of_ble_eq_true rfl)) d_Mod_query_263 ⟨hRc, hRs⟩) hS (fun q _ h => hF q h) hF (fun  x2224 t H locs ht hvm hw hB hz1 hk1 hS => ?_)
      have hW := Wd.back hB ht hF
      clear hB ht hF hz1 hk1 hvm
      exact t_Mod_query_266 hx hb hml hown hT hK hN hA hRc hRs hRf hRl hret  l1 x2224 H locs ls  hw hW hS (lv_sub hl [0, 1] rfl)
set_option maxRecDepth 100000 in
set_option maxHeartbeats 4000000 in
set_option maxRecDepth 100000 in
theorem t_Mod_query_219 {p : Program} {l : Launch} {e : Env} {R : Room} {s : State} {m : MethodId} {args : Array Value} {below : List Frame} {meth : Method} {c : Code} {cells slots : Nat} {Q : State → Prop} {dC : Nat → ClassId} {dI : Nat → Nat → Nat} {cI cB cJ cZ : ClassId} {A : Nat → Prop} {ad : Nat → Nat} {post : Int32 → St → Prop} {rec219 : Int32 → St → Prop} (hx : p.tables.exec = Jvm.exec) (hb : c.code = b_Mod_query) (hml : c.maxLocals = 3) (hown : s.vm.findClass R_Mod = some m.cls) (hT : ∀ w ∈ TG, w.before args s = true) (hK : va_K (dC, dI) CL (TY cI cB cJ cZ) s) (hN : NW s) (hA : ∀ q : Nat, s.heap.size ≤ q → A q) (hRc : cells ≤ R.cells) (hRs : slots ≤ R.slots) (hRf : 9 ≤ R.frames) (hRl : 206 ≤ R.locals) (hret : ∀ (r : Int32) (x : St) (H : Heap) (locs : List Loc) (pc : Nat) (ls : Array Slot), decode b_Mod_query pc = .ok (.ireturn, 1) → post r x → Wd dC dI cI cB cJ cZ ad stM kcM 115 A x H → va_S A s.heap H locs → W p l e R s m args below meth c H locs cells slots Q (F0 m pc ls [.int r])) (hrec219 : ∀ (l1 : Int32) (x : St) (H : Heap) (locs : List Loc) (ls : Array Slot), rec219 l1 x → Wd dC dI cI cB cJ cZ ad stM kcM 115 A x H → va_S A s.heap H locs → lv_has ls 3 [(0, .ref (ad 0)), (1, .int l1)] → W p l e R s m args below meth c H locs cells slots Q (F0 m 219 ls [])) : ∀ (l1 : Int32) (x : St) (H : Heap) (locs : List Loc) (ls : Array Slot), j_Mod_query_219 post rec219 l1 x → Wd dC dI cI cB cJ cZ ad stM kcM 115 A x H → va_S A s.heap H locs → lv_has ls 3 [(0, .ref (ad 0)), (1, .int l1)] → W p l e R s m args below meth c H locs cells slots Q (F0 m 219 ls []) := by
  intro l1 x H locs ls  hw hW hS hl
  unfold j_Mod_query_219 at hw
  refine lv_aload_n hx hb d_Mod_query_219 rfl (lv_at hl 0 rfl) ?_
  refine lv_bipush (v := 44) hx hb d_Mod_query_220 (by decide) ?_
  have hF := hW.free hS hA
  refine va_calli (va_runV (C := R_Mod) (As := [.int 44]) (rest := []) ⟨hx, hb, hml, hown, hT⟩ (k_Mod_takesSign l dC dI cI cB cJ cZ ad H.size 44 x  hw) ⟨callB_of 1 hT (gwt_in w_11_46) rfl rfl rfl (hT _ w_1_15) (hT _ w_11_43) (by decide +kernel) ⟨Nat.le_trans (Nat.le_of_ble_eq_true rfl) hRf, Nat.le_trans (Nat.le_of_ble_eq_true rfl) hRl⟩, hT _ w_11_45, hT _ ws_121⟩ ⟨PW.blind, va_recv hK hW.1 (ci := 12) (q0 := 0) rfl (pic_obj ko_0.1 ko_0.2 (by decide)), PW.at _ hW hK hN⟩ rfl rfl hl.1 rfl (lv_room (Nat.le_of_ble_eq_true rfl)) d_Mod_query_222 ⟨hRc, hRs⟩) hS (fun q _ h => hF q h) hF (fun r2226 x2225 t H locs ht hvm hw hB hz1 hk1 hS => ?_)
  have hW := Wd.back hB ht hF
  clear hB ht hF hz1 hk1 hvm
  refine lv_if_eq (tgt := 235) hx hb d_Mod_query_225 (by decide) (fun c2227 => ?_) (fun c2227 => ?_)
  · have hw := hw.1 c2227
    exact t_Mod_query_235 hx hb hml hown hT hK hN hA hRc hRs hRf hRl hret  l1 x2225 H locs ls  hw hW hS (lv_sub hl [0, 1] rfl)
  · have hw := hw.2 c2227
    refine lv_aload_n hx hb d_Mod_query_228 rfl (lv_at hl 0 rfl) ?_
    have hF := hW.free hS hA
    refine va_callv (va_runV (C := R_Mod) (As := []) (rest := []) ⟨hx, hb, hml, hown, hT⟩ (k_Mod_readBy l dC dI cI cB cJ cZ ad H.size  x2225  hw) ⟨callB_of 0 hT (gwt_in w_13_187) rfl rfl rfl (hT _ w_1_15) (hT _ w_13_184) (by decide +kernel) ⟨Nat.le_trans (Nat.le_of_ble_eq_true rfl) hRf, Nat.le_trans (Nat.le_of_ble_eq_true rfl) hRl⟩, hT _ w_13_186, hT _ ws_249⟩ ⟨PW.blind, va_recv hK hW.1 (ci := 12) (q0 := 0) rfl (pic_obj ko_0.1 ko_0.2 (by decide)), PW.at _ hW hK hN⟩ rfl rfl hl.1 rfl (lv_room (Nat.le_of_ble_eq_true rfl)) d_Mod_query_229 ⟨hRc, hRs⟩) hS (fun q _ h => hF q h) hF (fun  x2228 t H locs ht hvm hw hB hz1 hk1 hS => ?_)
    have hW := Wd.back hB ht hF
    clear hB ht hF hz1 hk1 hvm
    refine lv_goto (tgt := 219) hx hb d_Mod_query_232 (by decide) ?_
    exact hrec219 l1 x2228 H locs ls  hw hW hS (lv_sub hl [0, 1] rfl)
set_option maxHeartbeats 4000000 in
set_option maxRecDepth 100000 in
theorem tl_Mod_query_219 {p : Program} {l : Launch} {e : Env} {R : Room} {s : State} {m : MethodId} {args : Array Value} {below : List Frame} {meth : Method} {c : Code} {cells slots : Nat} {Q : State → Prop} {dC : Nat → ClassId} {dI : Nat → Nat → Nat} {cI cB cJ cZ : ClassId} {A : Nat → Prop} {ad : Nat → Nat} {post : Int32 → St → Prop} (hx : p.tables.exec = Jvm.exec) (hb : c.code = b_Mod_query) (hml : c.maxLocals = 3) (hown : s.vm.findClass R_Mod = some m.cls) (hT : ∀ w ∈ TG, w.before args s = true) (hK : va_K (dC, dI) CL (TY cI cB cJ cZ) s) (hN : NW s) (hA : ∀ q : Nat, s.heap.size ≤ q → A q) (hRc : cells ≤ R.cells) (hRs : slots ≤ R.slots) (hRf : 9 ≤ R.frames) (hRl : 206 ≤ R.locals) (hret : ∀ (r : Int32) (x : St) (H : Heap) (locs : List Loc) (pc : Nat) (ls : Array Slot), decode b_Mod_query pc = .ok (.ireturn, 1) → post r x → Wd dC dI cI cB cJ cZ ad stM kcM 115 A x H → va_S A s.heap H locs → W p l e R s m args below meth c H locs cells slots Q (F0 m pc ls [.int r]))  : ∀ n : Nat, ∀ (l1 : Int32) (x : St) (H : Heap) (locs : List Loc) (ls : Array Slot), wl_Mod_query_219 post n l1 x → Wd dC dI cI cB cJ cZ ad stM kcM 115 A x H → va_S A s.heap H locs → lv_has ls 3 [(0, .ref (ad 0)), (1, .int l1)] → W p l e R s m args below meth c H locs cells slots Q (F0 m 219 ls []) := by
  intro n
  induction n with
  | zero => intro l1 x H locs ls  hw; exact hw.elim
  | succ n ih => intro l1 x H locs ls  hw hW hS hl; exact t_Mod_query_219 hx hb hml hown hT hK hN hA hRc hRs hRf hRl hret  ih l1 x H locs ls  hw hW hS hl
set_option maxRecDepth 100000 in
set_option maxHeartbeats 4000000 in
set_option maxRecDepth 100000 in
theorem t_Mod_query_207 {p : Program} {l : Launch} {e : Env} {R : Room} {s : State} {m : MethodId} {args : Array Value} {below : List Frame} {meth : Method} {c : Code} {cells slots : Nat} {Q : State → Prop} {dC : Nat → ClassId} {dI : Nat → Nat → Nat} {cI cB cJ cZ : ClassId} {A : Nat → Prop} {ad : Nat → Nat} {post : Int32 → St → Prop} (hx : p.tables.exec = Jvm.exec) (hb : c.code = b_Mod_query) (hml : c.maxLocals = 3) (hown : s.vm.findClass R_Mod = some m.cls) (hT : ∀ w ∈ TG, w.before args s = true) (hK : va_K (dC, dI) CL (TY cI cB cJ cZ) s) (hN : NW s) (hA : ∀ q : Nat, s.heap.size ≤ q → A q) (hRc : cells ≤ R.cells) (hRs : slots ≤ R.slots) (hRf : 9 ≤ R.frames) (hRl : 206 ≤ R.locals) (hret : ∀ (r : Int32) (x : St) (H : Heap) (locs : List Loc) (pc : Nat) (ls : Array Slot), decode b_Mod_query pc = .ok (.ireturn, 1) → post r x → Wd dC dI cI cB cJ cZ ad stM kcM 115 A x H → va_S A s.heap H locs → W p l e R s m args below meth c H locs cells slots Q (F0 m pc ls [.int r]))  : ∀ (l1 : Int32) (x : St) (H : Heap) (locs : List Loc) (ls : Array Slot), j_Mod_query_207 post l1 x → Wd dC dI cI cB cJ cZ ad stM kcM 115 A x H → va_S A s.heap H locs → lv_has ls 3 [(0, .ref (ad 0)), (1, .int l1)] → W p l e R s m args below meth c H locs cells slots Q (F0 m 207 ls []) := by
  intro l1 x H locs ls  hw hW hS hl
  unfold j_Mod_query_207 at hw
  refine lv_aload_n hx hb d_Mod_query_207 rfl (lv_at hl 0 rfl) ?_
  refine w_geti (k := 17) (t := 12) (C := R_Mod) (T := F_Mod) (N := 167) hx hb hT hown hK hW ko_0.1 ko_0.2 (by decide) in_Mod rfl rfl (by decide) rfl fr_Mod_17 w_8_193 d_Mod_query_208 ?_
  refine lv_iconst (v := (-1)) hx hb d_Mod_query_211 (by decide) ?_
  refine lv_icmp_ne (tgt := 219) hx hb d_Mod_query_212 (by decide) (fun c2229 => ?_) (fun c2229 => ?_)
  · have hw := hw.1 c2229
    obtain ⟨n, hw⟩ := hw
    exact tl_Mod_query_219 hx hb hml hown hT hK hN hA hRc hRs hRf hRl hret  n l1 x H locs ls  hw hW hS (lv_sub hl [0, 1] rfl)
  · have hw := hw.2 c2229
    refine lv_aload_n hx hb d_Mod_query_215 rfl (lv_at hl 0 rfl) ?_
    have hF := hW.free hS hA
    refine va_callv (va_runV (C := R_Mod) (As := []) (rest := []) ⟨hx, hb, hml, hown, hT⟩ (k_Mod_readBy l dC dI cI cB cJ cZ ad H.size  x  hw) ⟨callB_of 0 hT (gwt_in w_13_187) rfl rfl rfl (hT _ w_1_15) (hT _ w_13_184) (by decide +kernel) ⟨Nat.le_trans (Nat.le_of_ble_eq_true rfl) hRf, Nat.le_trans (Nat.le_of_ble_eq_true rfl) hRl⟩, hT _ w_13_186, hT _ ws_249⟩ ⟨PW.blind, va_recv hK hW.1 (ci := 12) (q0 := 0) rfl (pic_obj ko_0.1 ko_0.2 (by decide)), PW.at _ hW hK hN⟩ rfl rfl hl.1 rfl (lv_room (Nat.le_of_ble_eq_true rfl)) d_Mod_query_216 ⟨hRc, hRs⟩) hS (fun q _ h => hF q h) hF (fun  x2230 t H locs ht hvm hw hB hz1 hk1 hS => ?_)
    have hW := Wd.back hB ht hF
    clear hB ht hF hz1 hk1 hvm
    obtain ⟨n, hw⟩ := hw
    exact tl_Mod_query_219 hx hb hml hown hT hK hN hA hRc hRs hRf hRl hret  n l1 x2230 H locs ls  hw hW hS (lv_sub hl [0, 1] rfl)
set_option maxRecDepth 100000 in
set_option maxHeartbeats 4000000 in
set_option maxRecDepth 100000 in
theorem t_Mod_query_179 {p : Program} {l : Launch} {e : Env} {R : Room} {s : State} {m : MethodId} {args : Array Value} {below : List Frame} {meth : Method} {c : Code} {cells slots : Nat} {Q : State → Prop} {dC : Nat → ClassId} {dI : Nat → Nat → Nat} {cI cB cJ cZ : ClassId} {A : Nat → Prop} {ad : Nat → Nat} {post : Int32 → St → Prop} (hx : p.tables.exec = Jvm.exec) (hb : c.code = b_Mod_query) (hml : c.maxLocals = 3) (hown : s.vm.findClass R_Mod = some m.cls) (hT : ∀ w ∈ TG, w.before args s = true) (hK : va_K (dC, dI) CL (TY cI cB cJ cZ) s) (hN : NW s) (hA : ∀ q : Nat, s.heap.size ≤ q → A q) (hRc : cells ≤ R.cells) (hRs : slots ≤ R.slots) (hRf : 9 ≤ R.frames) (hRl : 206 ≤ R.locals) (hret : ∀ (r : Int32) (x : St) (H : Heap) (locs : List Loc) (pc : Nat) (ls : Array Slot), decode b_Mod_query pc = .ok (.ireturn, 1) → post r x → Wd dC dI cI cB cJ cZ ad stM kcM 115 A x H → va_S A s.heap H locs → W p l e R s m args below meth c H locs cells slots Q (F0 m pc ls [.int r]))  : ∀ (l1 : Int32) (x : St) (H : Heap) (locs : List Loc) (ls : Array Slot), j_Mod_query_179 post l1 x → Wd dC dI cI cB cJ cZ ad stM kcM 115 A x H → va_S A s.heap H locs → lv_has ls 3 [(0, .ref (ad 0)), (1, .int l1)] → W p l e R s m args below meth c H locs cells slots Q (F0 m 179 ls []) := by
  intro l1 x H locs ls  hw hW hS hl
  unfold j_Mod_query_179 at hw
  refine lv_aload_n hx hb d_Mod_query_179 rfl (lv_at hl 0 rfl) ?_
  refine lv_ldc2 hx hb hown (hT _ w_11_19) d_Mod_query_180 ?_
  have hF := hW.free hS hA
  refine va_calli (va_runV (C := R_Mod) (As := [.long 444301538672]) (rest := []) ⟨hx, hb, hml, hown, hT⟩ (k_Mod_takesWord l dC dI cI cB cJ cZ ad H.size 444301538672 x  hw) ⟨callB_of 1 hT (gwt_in w_10_222) rfl rfl rfl (hT _ w_1_15) (hT _ w_10_219) (by decide +kernel) ⟨Nat.le_trans (Nat.le_of_ble_eq_true rfl) hRf, Nat.le_trans (Nat.le_of_ble_eq_true rfl) hRl⟩, hT _ w_10_221, hT _ ws_109⟩ ⟨PW.blind, va_recv hK hW.1 (ci := 12) (q0 := 0) rfl (pic_obj ko_0.1 ko_0.2 (by decide)), PW.at _ hW hK hN⟩ rfl rfl hl.1 rfl (lv_room (Nat.le_of_ble_eq_true rfl)) d_Mod_query_183 ⟨hRc, hRs⟩) hS (fun q _ h => hF q h) hF (fun r2232 x2231 t H locs ht hvm hw hB hz1 hk1 hS => ?_)
  have hW := Wd.back hB ht hF
  clear hB ht hF hz1 hk1 hvm
  refine lv_if_eq (tgt := 235) hx hb d_Mod_query_186 (by decide) (fun c2233 => ?_) (fun c2233 => ?_)
  · have hw := hw.1 c2233
    exact t_Mod_query_235 hx hb hml hown hT hK hN hA hRc hRs hRf hRl hret  l1 x2231 H locs ls  hw hW hS (lv_sub hl [0, 1] rfl)
  · have hw := hw.2 c2233
    refine lv_aload_n hx hb d_Mod_query_189 rfl (lv_at hl 0 rfl) ?_
    refine lv_ldc2 hx hb hown (hT _ w_13_134) d_Mod_query_190 ?_
    have hF := hW.free hS hA
    refine va_calli (va_runV (C := R_Mod) (As := [.long 25209]) (rest := []) ⟨hx, hb, hml, hown, hT⟩ (k_Mod_takesWord l dC dI cI cB cJ cZ ad H.size 25209 x2231  hw) ⟨callB_of 1 hT (gwt_in w_10_222) rfl rfl rfl (hT _ w_1_15) (hT _ w_10_219) (by decide +kernel) ⟨Nat.le_trans (Nat.le_of_ble_eq_true rfl) hRf, Nat.le_trans (Nat.le_of_ble_eq_true rfl) hRl⟩, hT _ w_10_221, hT _ ws_109⟩ ⟨PW.blind, va_recv hK hW.1 (ci := 12) (q0 := 0) rfl (pic_obj ko_0.1 ko_0.2 (by decide)), PW.at _ hW hK hN⟩ rfl rfl hl.1 rfl (lv_room (Nat.le_of_ble_eq_true rfl)) d_Mod_query_193 ⟨hRc, hRs⟩) hS (fun q _ h => hF q h) hF (fun r2235 x2234 t H locs ht hvm hw hB hz1 hk1 hS => ?_)
    have hW := Wd.back hB ht hF
    clear hB ht hF hz1 hk1 hvm
    refine lv_if_ne (tgt := 207) hx hb d_Mod_query_196 (by decide) (fun c2236 => ?_) (fun c2236 => ?_)
    · have hw := hw.1 c2236
      exact t_Mod_query_207 hx hb hml hown hT hK hN hA hRc hRs hRf hRl hret  l1 x2234 H locs ls  hw hW hS (lv_sub hl [0, 1] rfl)
    · have hw := hw.2 c2236
      refine lv_aload_n hx hb d_Mod_query_199 rfl (lv_at hl 0 rfl) ?_
      refine lv_aload_n hx hb d_Mod_query_200 rfl (lv_at hl 0 rfl) ?_
      refine w_geti (k := 16) (t := 12) (C := R_Mod) (T := F_Mod) (N := 167) hx hb hT hown hK hW ko_0.1 ko_0.2 (by decide) in_Mod rfl rfl (by decide) rfl fr_Mod_16 w_8_192 d_Mod_query_201 ?_
      have hF := hW.free hS hA
      refine va_callv (va_runV (C := R_Mod) (As := [.int (fI x2234 0 16)]) (rest := []) ⟨hx, hb, hml, hown, hT⟩ (k_Mod_fail l dC dI cI cB cJ cZ ad H.size (fI x2234 0 16) x2234  hw) ⟨callB_of 1 hT (gwt_in w_11_14) rfl rfl rfl (hT _ w_1_15) (hT _ w_11_11) (by decide +kernel) ⟨Nat.le_trans (Nat.le_of_ble_eq_true rfl) hRf, Nat.le_trans (Nat.le_of_ble_eq_true rfl) hRl⟩, hT _ w_11_13, hT _ ws_115⟩ ⟨PW.blind, va_recv hK hW.1 (ci := 12) (q0 := 0) rfl (pic_obj ko_0.1 ko_0.2 (by decide)), PW.at _ hW hK hN⟩ rfl rfl hl.1 rfl (lv_room (Nat.le_of_ble_eq_true rfl)) d_Mod_query_204 ⟨hRc, hRs⟩) hS (fun q _ h => hF q h) hF (fun  x2237 t H locs ht hvm hw hB hz1 hk1 hS => ?_)
      have hW := Wd.back hB ht hF
      clear hB ht hF hz1 hk1 hvm
      exact t_Mod_query_207 hx hb hml hown hT hK hN hA hRc hRs hRf hRl hret  l1 x2237 H locs ls  hw hW hS (lv_sub hl [0, 1] rfl)
set_option maxRecDepth 100000 in
set_option maxHeartbeats 4000000 in
set_option maxRecDepth 100000 in
theorem t_Mod_query_149 {p : Program} {l : Launch} {e : Env} {R : Room} {s : State} {m : MethodId} {args : Array Value} {below : List Frame} {meth : Method} {c : Code} {cells slots : Nat} {Q : State → Prop} {dC : Nat → ClassId} {dI : Nat → Nat → Nat} {cI cB cJ cZ : ClassId} {A : Nat → Prop} {ad : Nat → Nat} {post : Int32 → St → Prop} {rec149 : Int32 → St → Prop} (hx : p.tables.exec = Jvm.exec) (hb : c.code = b_Mod_query) (hml : c.maxLocals = 3) (hown : s.vm.findClass R_Mod = some m.cls) (hT : ∀ w ∈ TG, w.before args s = true) (hK : va_K (dC, dI) CL (TY cI cB cJ cZ) s) (hN : NW s) (hA : ∀ q : Nat, s.heap.size ≤ q → A q) (hRc : cells ≤ R.cells) (hRs : slots ≤ R.slots) (hRf : 9 ≤ R.frames) (hRl : 206 ≤ R.locals) (hret : ∀ (r : Int32) (x : St) (H : Heap) (locs : List Loc) (pc : Nat) (ls : Array Slot), decode b_Mod_query pc = .ok (.ireturn, 1) → post r x → Wd dC dI cI cB cJ cZ ad stM kcM 115 A x H → va_S A s.heap H locs → W p l e R s m args below meth c H locs cells slots Q (F0 m pc ls [.int r])) (hrec149 : ∀ (l1 : Int32) (x : St) (H : Heap) (locs : List Loc) (ls : Array Slot), rec149 l1 x → Wd dC dI cI cB cJ cZ ad stM kcM 115 A x H → va_S A s.heap H locs → lv_has ls 3 [(0, .ref (ad 0)), (1, .int l1)] → W p l e R s m args below meth c H locs cells slots Q (F0 m 149 ls [])) : ∀ (l1 : Int32) (x : St) (H : Heap) (locs : List Loc) (ls : Array Slot), j_Mod_query_149 post rec149 l1 x → Wd dC dI cI cB cJ cZ ad stM kcM 115 A x H → va_S A s.heap H locs → lv_has ls 3 [(0, .ref (ad 0)), (1, .int l1)] → W p l e R s m args below meth c H locs cells slots Q (F0 m 149 ls []) := by
  intro l1 x H locs ls  hw hW hS hl
  unfold j_Mod_query_149 at hw
  refine lv_aload_n hx hb d_Mod_query_149 rfl (lv_at hl 0 rfl) ?_
  refine lv_bipush (v := 44) hx hb d_Mod_query_150 (by decide) ?_
  have hF := hW.free hS hA
  refine va_calli (va_runV (C := R_Mod) (As := [.int 44]) (rest := []) ⟨hx, hb, hml, hown, hT⟩ (k_Mod_takesSign l dC dI cI cB cJ cZ ad H.size 44 x  hw) ⟨callB_of 1 hT (gwt_in w_11_46) rfl rfl rfl (hT _ w_1_15) (hT _ w_11_43) (by decide +kernel) ⟨Nat.le_trans (Nat.le_of_ble_eq_true rfl) hRf, Nat.le_trans (Nat.le_of_ble_eq_true rfl) hRl⟩, hT _ w_11_45, hT _ ws_121⟩ ⟨PW.blind, va_recv hK hW.1 (ci := 12) (q0 := 0) rfl (pic_obj ko_0.1 ko_0.2 (by decide)), PW.at _ hW hK hN⟩ rfl rfl hl.1 rfl (lv_room (Nat.le_of_ble_eq_true rfl)) d_Mod_query_152 ⟨hRc, hRs⟩) hS (fun q _ h => hF q h) hF (fun r2239 x2238 t H locs ht hvm hw hB hz1 hk1 hS => ?_)
  have hW := Wd.back hB ht hF
  clear hB ht hF hz1 hk1 hvm
  refine lv_if_eq (tgt := 165) hx hb d_Mod_query_155 (by decide) (fun c2240 => ?_) (fun c2240 => ?_)
  · have hw := hw.1 c2240
    refine lv_aload_n hx hb d_Mod_query_165 rfl (lv_at hl 0 rfl) ?_
    refine lv_ldc2 hx hb hown (hT _ w_13_133) d_Mod_query_166 ?_
    have hF := hW.free hS hA
    refine va_calli (va_runV (C := R_Mod) (As := [.long 512852587109]) (rest := []) ⟨hx, hb, hml, hown, hT⟩ (k_Mod_takesWord l dC dI cI cB cJ cZ ad H.size 512852587109 x2238  hw) ⟨callB_of 1 hT (gwt_in w_10_222) rfl rfl rfl (hT _ w_1_15) (hT _ w_10_219) (by decide +kernel) ⟨Nat.le_trans (Nat.le_of_ble_eq_true rfl) hRf, Nat.le_trans (Nat.le_of_ble_eq_true rfl) hRl⟩, hT _ w_10_221, hT _ ws_109⟩ ⟨PW.blind, va_recv hK hW.1 (ci := 12) (q0 := 0) rfl (pic_obj ko_0.1 ko_0.2 (by decide)), PW.at _ hW hK hN⟩ rfl rfl hl.1 rfl (lv_room (Nat.le_of_ble_eq_true rfl)) d_Mod_query_169 ⟨hRc, hRs⟩) hS (fun q _ h => hF q h) hF (fun r2242 x2241 t H locs ht hvm hw hB hz1 hk1 hS => ?_)
    have hW := Wd.back hB ht hF
    clear hB ht hF hz1 hk1 hvm
    refine lv_if_eq (tgt := 179) hx hb d_Mod_query_172 (by decide) (fun c2243 => ?_) (fun c2243 => ?_)
    · have hw := hw.1 c2243
      exact t_Mod_query_179 hx hb hml hown hT hK hN hA hRc hRs hRf hRl hret  l1 x2241 H locs ls  hw hW hS (lv_sub hl [0, 1] rfl)
    · have hw := hw.2 c2243
      refine lv_aload_n hx hb d_Mod_query_175 rfl (lv_at hl 0 rfl) ?_
      have hF := hW.free hS hA
      refine va_callv (va_runV (C := R_Mod) (As := []) (rest := []) ⟨hx, hb, hml, hown, hT⟩ (k_Mod_readCondition l dC dI cI cB cJ cZ ad H.size  x2241  hw) ⟨callB_of 0 hT (gwt_in w_13_155) rfl rfl rfl (hT _ w_1_15) (hT _ w_13_152) (by decide +kernel) ⟨Nat.le_trans (Nat.le_of_ble_eq_true rfl) hRf, Nat.le_trans (Nat.le_of_ble_eq_true rfl) hRl⟩, hT _ w_13_154, hT _ ws_241⟩ ⟨PW.blind, va_recv hK hW.1 (ci := 12) (q0 := 0) rfl (pic_obj ko_0.1 ko_0.2 (by decide)), PW.at _ hW hK hN⟩ rfl rfl hl.1 rfl (lv_room (Nat.le_of_ble_eq_true rfl)) d_Mod_query_176 ⟨hRc, hRs⟩) hS (fun q _ h => hF q h) hF (fun  x2244 t H locs ht hvm hw hB hz1 hk1 hS => ?_)
      have hW := Wd.back hB ht hF
      clear hB ht hF hz1 hk1 hvm
      exact t_Mod_query_179 hx hb hml hown hT hK hN hA hRc hRs hRf hRl hret  l1 x2244 H locs ls  hw hW hS (lv_sub hl [0, 1] rfl)
  · have hw := hw.2 c2240
    refine lv_aload_n hx hb d_Mod_query_158 rfl (lv_at hl 0 rfl) ?_
    have hF := hW.free hS hA
    refine va_callv (va_runV (C := R_Mod) (As := []) (rest := []) ⟨hx, hb, hml, hown, hT⟩ (k_Mod_readItem l dC dI cI cB cJ cZ ad H.size  x2238  hw) ⟨callB_of 0 hT (gwt_in w_13_121) rfl rfl rfl (hT _ w_1_15) (hT _ w_13_118) (by decide +kernel) ⟨Nat.le_trans (Nat.le_of_ble_eq_true rfl) hRf, Nat.le_trans (Nat.le_of_ble_eq_true rfl) hRl⟩, hT _ w_13_120, hT _ ws_237⟩ ⟨PW.blind, va_recv hK hW.1 (ci := 12) (q0 := 0) rfl (pic_obj ko_0.1 ko_0.2 (by decide)), PW.at _ hW hK hN⟩ rfl rfl hl.1 rfl (lv_room (Nat.le_of_ble_eq_true rfl)) d_Mod_query_159 ⟨hRc, hRs⟩) hS (fun q _ h => hF q h) hF (fun  x2245 t H locs ht hvm hw hB hz1 hk1 hS => ?_)
    have hW := Wd.back hB ht hF
    clear hB ht hF hz1 hk1 hvm
    refine lv_goto (tgt := 149) hx hb d_Mod_query_162 (by decide) ?_
    exact hrec149 l1 x2245 H locs ls  hw hW hS (lv_sub hl [0, 1] rfl)
set_option maxHeartbeats 4000000 in
set_option maxRecDepth 100000 in
theorem tl_Mod_query_149 {p : Program} {l : Launch} {e : Env} {R : Room} {s : State} {m : MethodId} {args : Array Value} {below : List Frame} {meth : Method} {c : Code} {cells slots : Nat} {Q : State → Prop} {dC : Nat → ClassId} {dI : Nat → Nat → Nat} {cI cB cJ cZ : ClassId} {A : Nat → Prop} {ad : Nat → Nat} {post : Int32 → St → Prop} (hx : p.tables.exec = Jvm.exec) (hb : c.code = b_Mod_query) (hml : c.maxLocals = 3) (hown : s.vm.findClass R_Mod = some m.cls) (hT : ∀ w ∈ TG, w.before args s = true) (hK : va_K (dC, dI) CL (TY cI cB cJ cZ) s) (hN : NW s) (hA : ∀ q : Nat, s.heap.size ≤ q → A q) (hRc : cells ≤ R.cells) (hRs : slots ≤ R.slots) (hRf : 9 ≤ R.frames) (hRl : 206 ≤ R.locals) (hret : ∀ (r : Int32) (x : St) (H : Heap) (locs : List Loc) (pc : Nat) (ls : Array Slot), decode b_Mod_query pc = .ok (.ireturn, 1) → post r x → Wd dC dI cI cB cJ cZ ad stM kcM 115 A x H → va_S A s.heap H locs → W p l e R s m args below meth c H locs cells slots Q (F0 m pc ls [.int r]))  : ∀ n : Nat, ∀ (l1 : Int32) (x : St) (H : Heap) (locs : List Loc) (ls : Array Slot), wl_Mod_query_149 post n l1 x → Wd dC dI cI cB cJ cZ ad stM kcM 115 A x H → va_S A s.heap H locs → lv_has ls 3 [(0, .ref (ad 0)), (1, .int l1)] → W p l e R s m args below meth c H locs cells slots Q (F0 m 149 ls []) := by
  intro n
  induction n with
  | zero => intro l1 x H locs ls  hw; exact hw.elim
  | succ n ih => intro l1 x H locs ls  hw hW hS hl; exact t_Mod_query_149 hx hb hml hown hT hK hN hA hRc hRs hRf hRl hret  ih l1 x H locs ls  hw hW hS hl
set_option maxRecDepth 100000 in
set_option maxHeartbeats 4000000 in
set_option maxRecDepth 100000 in
theorem t_Mod_query_137 {p : Program} {l : Launch} {e : Env} {R : Room} {s : State} {m : MethodId} {args : Array Value} {below : List Frame} {meth : Method} {c : Code} {cells slots : Nat} {Q : State → Prop} {dC : Nat → ClassId} {dI : Nat → Nat → Nat} {cI cB cJ cZ : ClassId} {A : Nat → Prop} {ad : Nat → Nat} {post : Int32 → St → Prop} (hx : p.tables.exec = Jvm.exec) (hb : c.code = b_Mod_query) (hml : c.maxLocals = 3) (hown : s.vm.findClass R_Mod = some m.cls) (hT : ∀ w ∈ TG, w.before args s = true) (hK : va_K (dC, dI) CL (TY cI cB cJ cZ) s) (hN : NW s) (hA : ∀ q : Nat, s.heap.size ≤ q → A q) (hRc : cells ≤ R.cells) (hRs : slots ≤ R.slots) (hRf : 9 ≤ R.frames) (hRl : 206 ≤ R.locals) (hret : ∀ (r : Int32) (x : St) (H : Heap) (locs : List Loc) (pc : Nat) (ls : Array Slot), decode b_Mod_query pc = .ok (.ireturn, 1) → post r x → Wd dC dI cI cB cJ cZ ad stM kcM 115 A x H → va_S A s.heap H locs → W p l e R s m args below meth c H locs cells slots Q (F0 m pc ls [.int r]))  : ∀ (l1 : Int32) (x : St) (H : Heap) (locs : List Loc) (ls : Array Slot), j_Mod_query_137 post l1 x → Wd dC dI cI cB cJ cZ ad stM kcM 115 A x H → va_S A s.heap H locs → lv_has ls 3 [(0, .ref (ad 0)), (1, .int l1)] → W p l e R s m args below meth c H locs cells slots Q (F0 m 137 ls []) := by
  intro l1 x H locs ls  hw hW hS hl
  unfold j_Mod_query_137 at hw
  refine lv_aload_n hx hb d_Mod_query_137 rfl (lv_at hl 0 rfl) ?_
  refine w_geti (k := 17) (t := 12) (C := R_Mod) (T := F_Mod) (N := 167) hx hb hT hown hK hW ko_0.1 ko_0.2 (by decide) in_Mod rfl rfl (by decide) rfl fr_Mod_17 w_8_193 d_Mod_query_138 ?_
  refine lv_iconst (v := (-1)) hx hb d_Mod_query_141 (by decide) ?_
  refine lv_icmp_ne (tgt := 149) hx hb d_Mod_query_142 (by decide) (fun c2246 => ?_) (fun c2246 => ?_)
  · have hw := hw.1 c2246
    obtain ⟨n, hw⟩ := hw
    exact tl_Mod_query_149 hx hb hml hown hT hK hN hA hRc hRs hRf hRl hret  n l1 x H locs ls  hw hW hS (lv_sub hl [0, 1] rfl)
  · have hw := hw.2 c2246
    refine lv_aload_n hx hb d_Mod_query_145 rfl (lv_at hl 0 rfl) ?_
    have hF := hW.free hS hA
    refine va_callv (va_runV (C := R_Mod) (As := []) (rest := []) ⟨hx, hb, hml, hown, hT⟩ (k_Mod_readItem l dC dI cI cB cJ cZ ad H.size  x  hw) ⟨callB_of 0 hT (gwt_in w_13_121) rfl rfl rfl (hT _ w_1_15) (hT _ w_13_118) (by decide +kernel) ⟨Nat.le_trans (Nat.le_of_ble_eq_true rfl) hRf, Nat.le_trans (Nat.le_of_ble_eq_true rfl) hRl⟩, hT _ w_13_120, hT _ ws_237⟩ ⟨PW.blind, va_recv hK hW.1 (ci := 12) (q0 := 0) rfl (pic_obj ko_0.1 ko_0.2 (by decide)), PW.at _ hW hK hN⟩ rfl rfl hl.1 rfl (lv_room (Nat.le_of_ble_eq_true rfl)) d_Mod_query_146 ⟨hRc, hRs⟩) hS (fun q _ h => hF q h) hF (fun  x2247 t H locs ht hvm hw hB hz1 hk1 hS => ?_)
    have hW := Wd.back hB ht hF
    clear hB ht hF hz1 hk1 hvm
    obtain ⟨n, hw⟩ := hw
    exact tl_Mod_query_149 hx hb hml hown hT hK hN hA hRc hRs hRf hRl hret  n l1 x2247 H locs ls  hw hW hS (lv_sub hl [0, 1] rfl)
set_option maxRecDepth 100000 in
set_option maxHeartbeats 4000000 in
set_option maxRecDepth 100000 in
theorem t_Mod_query_89 {p : Program} {l : Launch} {e : Env} {R : Room} {s : State} {m : MethodId} {args : Array Value} {below : List Frame} {meth : Method} {c : Code} {cells slots : Nat} {Q : State → Prop} {dC : Nat → ClassId} {dI : Nat → Nat → Nat} {cI cB cJ cZ : ClassId} {A : Nat → Prop} {ad : Nat → Nat} {post : Int32 → St → Prop} {rec89 : Int32 → St → Prop} (hx : p.tables.exec = Jvm.exec) (hb : c.code = b_Mod_query) (hml : c.maxLocals = 3) (hown : s.vm.findClass R_Mod = some m.cls) (hT : ∀ w ∈ TG, w.before args s = true) (hK : va_K (dC, dI) CL (TY cI cB cJ cZ) s) (hN : NW s) (hA : ∀ q : Nat, s.heap.size ≤ q → A q) (hRc : cells ≤ R.cells) (hRs : slots ≤ R.slots) (hRf : 9 ≤ R.frames) (hRl : 206 ≤ R.locals) (hret : ∀ (r : Int32) (x : St) (H : Heap) (locs : List Loc) (pc : Nat) (ls : Array Slot), decode b_Mod_query pc = .ok (.ireturn, 1) → post r x → Wd dC dI cI cB cJ cZ ad stM kcM 115 A x H → va_S A s.heap H locs → W p l e R s m args below meth c H locs cells slots Q (F0 m pc ls [.int r])) (hrec89 : ∀ (l1 : Int32) (x : St) (H : Heap) (locs : List Loc) (ls : Array Slot), rec89 l1 x → Wd dC dI cI cB cJ cZ ad stM kcM 115 A x H → va_S A s.heap H locs → lv_has ls 3 [(0, .ref (ad 0)), (1, .int l1)] → W p l e R s m args below meth c H locs cells slots Q (F0 m 89 ls [])) : ∀ (l1 : Int32) (x : St) (H : Heap) (locs : List Loc) (ls : Array Slot), j_Mod_query_89 post rec89 l1 x → Wd dC dI cI cB cJ cZ ad stM kcM 115 A x H → va_S A s.heap H locs → lv_has ls 3 [(0, .ref (ad 0)), (1, .int l1)] → W p l e R s m args below meth c H locs cells slots Q (F0 m 89 ls []) := by
  intro l1 x H locs ls  hw hW hS hl
  unfold j_Mod_query_89 at hw
  refine lv_iload_n hx hb d_Mod_query_89 rfl (lv_at hl 1 rfl) ?_
  refine lv_iconst (v := 4) hx hb d_Mod_query_90 (by decide) ?_
  refine lv_icmp_ge (tgt := 114) hx hb d_Mod_query_91 (by decide) (fun c2248 => ?_) (fun c2248 => ?_)
  · have hw := hw.1 c2248
    refine lv_aload_n hx hb d_Mod_query_114 rfl (lv_at hl 0 rfl) ?_
    refine lv_iconst (v := 0) hx hb d_Mod_query_115 (by decide) ?_
    refine w_puti (ty := .int) (k := 25) (t := 12) (C := R_Mod) (T := F_Mod) (N := 167) hx hb hT hown hK hW hS ko_0.1 ko_0.2 (by decide) in_Mod t_Mod t_Mod_ok n_Mod rfl rfl (by decide) rfl fr_Mod_25 w_8_201 (by decide +kernel) rfl rfl d_Mod_query_116 (fun H locs hW hS => ?_)
    obtain ⟨x2249, ex2249⟩ : ∃ y : St, y = setI x 0 25 0 := ⟨_, rfl⟩
    rw [← ex2249] at hW
    have hw := hw x2249 ex2249
    refine lv_aload_n hx hb d_Mod_query_119 rfl (lv_at hl 0 rfl) ?_
    refine lv_ldc2 hx hb hown (hT _ w_13_117) d_Mod_query_120 ?_
    have hF := hW.free hS hA
    refine va_calli (va_runV (C := R_Mod) (As := [.long 126879447475060]) (rest := []) ⟨hx, hb, hml, hown, hT⟩ (k_Mod_takesWord l dC dI cI cB cJ cZ ad H.size 126879447475060 x2249  hw) ⟨callB_of 1 hT (gwt_in w_10_222) rfl rfl rfl (hT _ w_1_15) (hT _ w_10_219) (by decide +kernel) ⟨Nat.le_trans (Nat.le_of_ble_eq_true rfl) hRf, Nat.le_trans (Nat.le_of_ble_eq_true rfl) hRl⟩, hT _ w_10_221, hT _ ws_109⟩ ⟨PW.blind, va_recv hK hW.1 (ci := 12) (q0 := 0) rfl (pic_obj ko_0.1 ko_0.2 (by decide)), PW.at _ hW hK hN⟩ rfl rfl hl.1 rfl (lv_room (Nat.le_of_ble_eq_true rfl)) d_Mod_query_123 ⟨hRc, hRs⟩) hS (fun q _ h => hF q h) hF (fun r2251 x2250 t H locs ht hvm hw hB hz1 hk1 hS => ?_)
    have hW := Wd.back hB ht hF
    clear hB ht hF hz1 hk1 hvm
    refine lv_if_ne (tgt := 137) hx hb d_Mod_query_126 (by decide) (fun c2252 => ?_) (fun c2252 => ?_)
    · have hw := hw.1 c2252
      exact t_Mod_query_137 hx hb hml hown hT hK hN hA hRc hRs hRf hRl hret  l1 x2250 H locs ls  hw hW hS (lv_sub hl [0, 1] rfl)
    · have hw := hw.2 c2252
      refine lv_aload_n hx hb d_Mod_query_129 rfl (lv_at hl 0 rfl) ?_
      refine lv_aload_n hx hb d_Mod_query_130 rfl (lv_at hl 0 rfl) ?_
      refine w_geti (k := 16) (t := 12) (C := R_Mod) (T := F_Mod) (N := 167) hx hb hT hown hK hW ko_0.1 ko_0.2 (by decide) in_Mod rfl rfl (by decide) rfl fr_Mod_16 w_8_192 d_Mod_query_131 ?_
      have hF := hW.free hS hA
      refine va_callv (va_runV (C := R_Mod) (As := [.int (fI x2250 0 16)]) (rest := []) ⟨hx, hb, hml, hown, hT⟩ (k_Mod_fail l dC dI cI cB cJ cZ ad H.size (fI x2250 0 16) x2250  hw) ⟨callB_of 1 hT (gwt_in w_11_14) rfl rfl rfl (hT _ w_1_15) (hT _ w_11_11) (by decide +kernel) ⟨Nat.le_trans (Nat.le_of_ble_eq_true rfl) hRf, Nat.le_trans (Nat.le_of_ble_eq_true rfl) hRl⟩, hT _ w_11_13, hT _ ws_115⟩ ⟨PW.blind, va_recv hK hW.1 (ci := 12) (q0 := 0) rfl (pic_obj ko_0.1 ko_0.2 (by decide)), PW.at _ hW hK hN⟩ rfl rfl hl.1 rfl (lv_room (Nat.le_of_ble_eq_true rfl)) d_Mod_query_134 ⟨hRc, hRs⟩) hS (fun q _ h => hF q h) hF (fun  x2253 t H locs ht hvm hw hB hz1 hk1 hS => ?_)
      have hW := Wd.back hB ht hF
      clear hB ht hF hz1 hk1 hvm
      exact t_Mod_query_137 hx hb hml hown hT hK hN hA hRc hRs hRf hRl hret  l1 x2253 H locs ls  hw hW hS (lv_sub hl [0, 1] rfl)
  · have hw := hw.2 c2248
    refine lv_aload_n hx hb d_Mod_query_94 rfl (lv_at hl 0 rfl) ?_
    refine w_getf (q := 79) (k := 122) (t := 12) (C := R_Mod) (T := F_Mod) (N := 167) hx hb hT hown hK hW ko_0.1 ko_0.2 (by decide) in_Mod rfl rfl (by decide) rfl fr_Mod_122 w_9_58 d_Mod_query_95 rfl ?_
    refine lv_iconst (v := 4) hx hb d_Mod_query_98 (by decide) ?_
    refine lv_aload_n hx hb d_Mod_query_99 rfl (lv_at hl 0 rfl) ?_
    refine w_geti (k := 118) (t := 12) (C := R_Mod) (T := F_Mod) (N := 167) hx hb hT hown hK hW ko_0.1 ko_0.2 (by decide) in_Mod rfl rfl (by decide) rfl fr_Mod_118 w_9_54 d_Mod_query_100 ?_
    refine lv_imul hx hb d_Mod_query_103 ?_
    refine lv_iload_n hx hb d_Mod_query_104 rfl (lv_at hl 1 rfl) ?_
    refine lv_iadd hx hb d_Mod_query_105 ?_
    refine lv_iconst (v := 0) hx hb d_Mod_query_106 (by decide) ?_
    obtain ⟨hi, hw⟩ := hw
    refine w_iast (o := 79) hx hb hK hW hS ko_79.1 ko_79.2 hi d_Mod_query_107 (fun H locs hW hS => ?_)
    obtain ⟨x2254, ex2254⟩ : ∃ y : St, y = setA x 79 ((4 * (fI x 0 118)) + l1) 0 := ⟨_, rfl⟩
    rw [← ex2254] at hW
    have hw := hw x2254 ex2254
    refine lv_iinc (v := (l1 + 1)) (lv' := [(1, .int (l1 + 1)), (0, .ref (ad 0))]) hx hb d_Mod_query_108 hl (k := 1) rfl rfl (by decide) rfl (fun ls hl => ?_)
    refine lv_goto (tgt := 89) hx hb d_Mod_query_111 (by decide) ?_
    exact hrec89 (l1 + 1) x2254 H locs ls  hw hW hS (lv_sub hl [1, 0] rfl)
set_option maxHeartbeats 4000000 in
set_option maxRecDepth 100000 in
theorem tl_Mod_query_89 {p : Program} {l : Launch} {e : Env} {R : Room} {s : State} {m : MethodId} {args : Array Value} {below : List Frame} {meth : Method} {c : Code} {cells slots : Nat} {Q : State → Prop} {dC : Nat → ClassId} {dI : Nat → Nat → Nat} {cI cB cJ cZ : ClassId} {A : Nat → Prop} {ad : Nat → Nat} {post : Int32 → St → Prop} (hx : p.tables.exec = Jvm.exec) (hb : c.code = b_Mod_query) (hml : c.maxLocals = 3) (hown : s.vm.findClass R_Mod = some m.cls) (hT : ∀ w ∈ TG, w.before args s = true) (hK : va_K (dC, dI) CL (TY cI cB cJ cZ) s) (hN : NW s) (hA : ∀ q : Nat, s.heap.size ≤ q → A q) (hRc : cells ≤ R.cells) (hRs : slots ≤ R.slots) (hRf : 9 ≤ R.frames) (hRl : 206 ≤ R.locals) (hret : ∀ (r : Int32) (x : St) (H : Heap) (locs : List Loc) (pc : Nat) (ls : Array Slot), decode b_Mod_query pc = .ok (.ireturn, 1) → post r x → Wd dC dI cI cB cJ cZ ad stM kcM 115 A x H → va_S A s.heap H locs → W p l e R s m args below meth c H locs cells slots Q (F0 m pc ls [.int r]))  : ∀ n : Nat, ∀ (l1 : Int32) (x : St) (H : Heap) (locs : List Loc) (ls : Array Slot), wl_Mod_query_89 post n l1 x → Wd dC dI cI cB cJ cZ ad stM kcM 115 A x H → va_S A s.heap H locs → lv_has ls 3 [(0, .ref (ad 0)), (1, .int l1)] → W p l e R s m args below meth c H locs cells slots Q (F0 m 89 ls []) := by
  intro n
  induction n with
  | zero => intro l1 x H locs ls  hw; exact hw.elim
  | succ n ih => intro l1 x H locs ls  hw hW hS hl; exact t_Mod_query_89 hx hb hml hown hT hK hN hA hRc hRs hRf hRl hret  ih l1 x H locs ls  hw hW hS hl
set_option maxRecDepth 100000 in
set_option maxHeartbeats 4000000 in
set_option maxRecDepth 100000 in
theorem t_Mod_query_87 {p : Program} {l : Launch} {e : Env} {R : Room} {s : State} {m : MethodId} {args : Array Value} {below : List Frame} {meth : Method} {c : Code} {cells slots : Nat} {Q : State → Prop} {dC : Nat → ClassId} {dI : Nat → Nat → Nat} {cI cB cJ cZ : ClassId} {A : Nat → Prop} {ad : Nat → Nat} {post : Int32 → St → Prop} (hx : p.tables.exec = Jvm.exec) (hb : c.code = b_Mod_query) (hml : c.maxLocals = 3) (hown : s.vm.findClass R_Mod = some m.cls) (hT : ∀ w ∈ TG, w.before args s = true) (hK : va_K (dC, dI) CL (TY cI cB cJ cZ) s) (hN : NW s) (hA : ∀ q : Nat, s.heap.size ≤ q → A q) (hRc : cells ≤ R.cells) (hRs : slots ≤ R.slots) (hRf : 9 ≤ R.frames) (hRl : 206 ≤ R.locals) (hret : ∀ (r : Int32) (x : St) (H : Heap) (locs : List Loc) (pc : Nat) (ls : Array Slot), decode b_Mod_query pc = .ok (.ireturn, 1) → post r x → Wd dC dI cI cB cJ cZ ad stM kcM 115 A x H → va_S A s.heap H locs → W p l e R s m args below meth c H locs cells slots Q (F0 m pc ls [.int r]))  : ∀  (x : St) (H : Heap) (locs : List Loc) (ls : Array Slot), j_Mod_query_87 post  x → Wd dC dI cI cB cJ cZ ad stM kcM 115 A x H → va_S A s.heap H locs → lv_has ls 3 [(0, .ref (ad 0))] → W p l e R s m args below meth c H locs cells slots Q (F0 m 87 ls []) := by
  intro  x H locs ls  hw hW hS hl
  unfold j_Mod_query_87 at hw
  refine lv_iconst (v := 0) hx hb d_Mod_query_87 (by decide) ?_
  refine lv_istore_n (lv' := [(1, .int 0), (0, .ref (ad 0))]) hx hb d_Mod_query_88 rfl hl (by decide) rfl (fun ls hl => ?_)
  obtain ⟨n, hw⟩ := hw
  exact tl_Mod_query_89 hx hb hml hown hT hK hN hA hRc hRs hRf hRl hret  n 0 x H locs ls  hw hW hS (lv_sub hl [1, 0] rfl)
set_option maxRecDepth 100000 in
set_option maxHeartbeats 4000000 in
set_option maxRecDepth 100000 in
theorem t_Mod_query_74 {p : Program} {l : Launch} {e : Env} {R : Room} {s : State} {m : MethodId} {args : Array Value} {below : List Frame} {meth : Method} {c : Code} {cells slots : Nat} {Q : State → Prop} {dC : Nat → ClassId} {dI : Nat → Nat → Nat} {cI cB cJ cZ : ClassId} {A : Nat → Prop} {ad : Nat → Nat} {post : Int32 → St → Prop} {rec38 : St → Prop} (hx : p.tables.exec = Jvm.exec) (hb : c.code = b_Mod_query) (hml : c.maxLocals = 3) (hown : s.vm.findClass R_Mod = some m.cls) (hT : ∀ w ∈ TG, w.before args s = true) (hK : va_K (dC, dI) CL (TY cI cB cJ cZ) s) (hN : NW s) (hA : ∀ q : Nat, s.heap.size ≤ q → A q) (hRc : cells ≤ R.cells) (hRs : slots ≤ R.slots) (hRf : 9 ≤ R.frames) (hRl : 206 ≤ R.locals) (hret : ∀ (r : Int32) (x : St) (H : Heap) (locs : List Loc) (pc : Nat) (ls : Array Slot), decode b_Mod_query pc = .ok (.ireturn, 1) → post r x → Wd dC dI cI cB cJ cZ ad stM kcM 115 A x H → va_S A s.heap H locs → W p l e R s m args below meth c H locs cells slots Q (F0 m pc ls [.int r])) (hrec38 : ∀  (x : St) (H : Heap) (locs : List Loc) (ls : Array Slot), rec38  x → Wd dC dI cI cB cJ cZ ad stM kcM 115 A x H → va_S A s.heap H locs → lv_has ls 3 [(0, .ref (ad 0))] → W p l e R s m args below meth c H locs cells slots Q (F0 m 38 ls [])) : ∀  (x : St) (H : Heap) (locs : List Loc) (ls : Array Slot), j_Mod_query_74 post rec38  x → Wd dC dI cI cB cJ cZ ad stM kcM 115 A x H → va_S A s.heap H locs → lv_has ls 3 [(0, .ref (ad 0))] → W p l e R s m args below meth c H locs cells slots Q (F0 m 74 ls []) := by
  intro  x H locs ls  hw hW hS hl
  unfold j_Mod_query_74 at hw
  refine lv_aload_n hx hb d_Mod_query_74 rfl (lv_at hl 0 rfl) ?_
  refine lv_dup hx hb d_Mod_query_75 rfl ?_
  refine w_geti (k := 118) (t := 12) (C := R_Mod) (T := F_Mod) (N := 167) hx hb hT hown hK hW ko_0.1 ko_0.2 (by decide) in_Mod rfl rfl (by decide) rfl fr_Mod_118 w_9_54 d_Mod_query_76 ?_
  refine lv_iconst (v := 1) hx hb d_Mod_query_79 (by decide) ?_
  refine lv_iadd hx hb d_Mod_query_80 ?_
  refine w_puti (ty := .int) (k := 118) (t := 12) (C := R_Mod) (T := F_Mod) (N := 167) hx hb hT hown hK hW hS ko_0.1 ko_0.2 (by decide) in_Mod t_Mod t_Mod_ok n_Mod rfl rfl (by decide) rfl fr_Mod_118 w_9_54 (by decide +kernel) rfl rfl d_Mod_query_81 (fun H locs hW hS => ?_)
  obtain ⟨x2255, ex2255⟩ : ∃ y : St, y = setI x 0 118 ((fI x 0 118) + 1) := ⟨_, rfl⟩
  rw [← ex2255] at hW
  have hw := hw x2255 ex2255
  refine lv_goto (tgt := 38) hx hb d_Mod_query_84 (by decide) ?_
  exact hrec38  x2255 H locs ls  hw hW hS (lv_sub hl [0] rfl)
set_option maxRecDepth 100000 in
set_option maxHeartbeats 4000000 in
set_option maxRecDepth 100000 in
theorem t_Mod_query_56 {p : Program} {l : Launch} {e : Env} {R : Room} {s : State} {m : MethodId} {args : Array Value} {below : List Frame} {meth : Method} {c : Code} {cells slots : Nat} {Q : State → Prop} {dC : Nat → ClassId} {dI : Nat → Nat → Nat} {cI cB cJ cZ : ClassId} {A : Nat → Prop} {ad : Nat → Nat} {post : Int32 → St → Prop} {rec38 : St → Prop} (hx : p.tables.exec = Jvm.exec) (hb : c.code = b_Mod_query) (hml : c.maxLocals = 3) (hown : s.vm.findClass R_Mod = some m.cls) (hT : ∀ w ∈ TG, w.before args s = true) (hK : va_K (dC, dI) CL (TY cI cB cJ cZ) s) (hN : NW s) (hA : ∀ q : Nat, s.heap.size ≤ q → A q) (hRc : cells ≤ R.cells) (hRs : slots ≤ R.slots) (hRf : 9 ≤ R.frames) (hRl : 206 ≤ R.locals) (hret : ∀ (r : Int32) (x : St) (H : Heap) (locs : List Loc) (pc : Nat) (ls : Array Slot), decode b_Mod_query pc = .ok (.ireturn, 1) → post r x → Wd dC dI cI cB cJ cZ ad stM kcM 115 A x H → va_S A s.heap H locs → W p l e R s m args below meth c H locs cells slots Q (F0 m pc ls [.int r])) (hrec38 : ∀  (x : St) (H : Heap) (locs : List Loc) (ls : Array Slot), rec38  x → Wd dC dI cI cB cJ cZ ad stM kcM 115 A x H → va_S A s.heap H locs → lv_has ls 3 [(0, .ref (ad 0))] → W p l e R s m args below meth c H locs cells slots Q (F0 m 38 ls [])) : ∀  (x : St) (H : Heap) (locs : List Loc) (ls : Array Slot), j_Mod_query_56 post rec38  x → Wd dC dI cI cB cJ cZ ad stM kcM 115 A x H → va_S A s.heap H locs → lv_has ls 3 [(0, .ref (ad 0))] → W p l e R s m args below meth c H locs cells slots Q (F0 m 56 ls []) := by
  intro  x H locs ls  hw hW hS hl
  unfold j_Mod_query_56 at hw
  refine lv_aload_n hx hb d_Mod_query_56 rfl (lv_at hl 0 rfl) ?_
  refine w_geti (k := 121) (t := 12) (C := R_Mod) (T := F_Mod) (N := 167) hx hb hT hown hK hW ko_0.1 ko_0.2 (by decide) in_Mod rfl rfl (by decide) rfl fr_Mod_121 w_9_57 d_Mod_query_57 ?_
  refine lv_if_eq (tgt := 87) hx hb d_Mod_query_60 (by decide) (fun c2256 => ?_) (fun c2256 => ?_)
  · have hw := hw.1 c2256
    exact t_Mod_query_87 hx hb hml hown hT hK hN hA hRc hRs hRf hRl hret   x H locs ls  hw hW hS (lv_sub hl [0] rfl)
  · have hw := hw.2 c2256
    refine lv_aload_n hx hb d_Mod_query_63 rfl (lv_at hl 0 rfl) ?_
    refine w_geti (k := 118) (t := 12) (C := R_Mod) (T := F_Mod) (N := 167) hx hb hT hown hK hW ko_0.1 ko_0.2 (by decide) in_Mod rfl rfl (by decide) rfl fr_Mod_118 w_9_54 d_Mod_query_64 ?_
    refine lv_aload_n hx hb d_Mod_query_67 rfl (lv_at hl 0 rfl) ?_
    refine w_geti (k := 119) (t := 12) (C := R_Mod) (T := F_Mod) (N := 167) hx hb hT hown hK hW ko_0.1 ko_0.2 (by decide) in_Mod rfl rfl (by decide) rfl fr_Mod_119 w_9_55 d_Mod_query_68 ?_
    refine lv_icmp_ne (tgt := 87) hx hb d_Mod_query_71 (by decide) (fun c2257 => ?_) (fun c2257 => ?_)
    · have hw := hw.1 c2257
      exact t_Mod_query_87 hx hb hml hown hT hK hN hA hRc hRs hRf hRl hret   x H locs ls  hw hW hS (lv_sub hl [0] rfl)
    · have hw := hw.2 c2257
      exact t_Mod_query_74 hx hb hml hown hT hK hN hA hRc hRs hRf hRl hret hrec38  x H locs ls  hw hW hS (lv_sub hl [0] rfl)
set_option maxRecDepth 100000 in
set_option maxHeartbeats 4000000 in
set_option maxRecDepth 100000 in
theorem t_Mod_query_38 {p : Program} {l : Launch} {e : Env} {R : Room} {s : State} {m : MethodId} {args : Array Value} {below : List Frame} {meth : Method} {c : Code} {cells slots : Nat} {Q : State → Prop} {dC : Nat → ClassId} {dI : Nat → Nat → Nat} {cI cB cJ cZ : ClassId} {A : Nat → Prop} {ad : Nat → Nat} {post : Int32 → St → Prop} {rec38 : St → Prop} (hx : p.tables.exec = Jvm.exec) (hb : c.code = b_Mod_query) (hml : c.maxLocals = 3) (hown : s.vm.findClass R_Mod = some m.cls) (hT : ∀ w ∈ TG, w.before args s = true) (hK : va_K (dC, dI) CL (TY cI cB cJ cZ) s) (hN : NW s) (hA : ∀ q : Nat, s.heap.size ≤ q → A q) (hRc : cells ≤ R.cells) (hRs : slots ≤ R.slots) (hRf : 9 ≤ R.frames) (hRl : 206 ≤ R.locals) (hret : ∀ (r : Int32) (x : St) (H : Heap) (locs : List Loc) (pc : Nat) (ls : Array Slot), decode b_Mod_query pc = .ok (.ireturn, 1) → post r x → Wd dC dI cI cB cJ cZ ad stM kcM 115 A x H → va_S A s.heap H locs → W p l e R s m args below meth c H locs cells slots Q (F0 m pc ls [.int r])) (hrec38 : ∀  (x : St) (H : Heap) (locs : List Loc) (ls : Array Slot), rec38  x → Wd dC dI cI cB cJ cZ ad stM kcM 115 A x H → va_S A s.heap H locs → lv_has ls 3 [(0, .ref (ad 0))] → W p l e R s m args below meth c H locs cells slots Q (F0 m 38 ls [])) : ∀  (x : St) (H : Heap) (locs : List Loc) (ls : Array Slot), j_Mod_query_38 post rec38  x → Wd dC dI cI cB cJ cZ ad stM kcM 115 A x H → va_S A s.heap H locs → lv_has ls 3 [(0, .ref (ad 0))] → W p l e R s m args below meth c H locs cells slots Q (F0 m 38 ls []) := by
  intro  x H locs ls  hw hW hS hl
  unfold j_Mod_query_38 at hw
  refine lv_aload_n hx hb d_Mod_query_38 rfl (lv_at hl 0 rfl) ?_
  refine w_geti (k := 120) (t := 12) (C := R_Mod) (T := F_Mod) (N := 167) hx hb hT hown hK hW ko_0.1 ko_0.2 (by decide) in_Mod rfl rfl (by decide) rfl fr_Mod_120 w_9_56 d_Mod_query_39 ?_
  refine lv_if_eq (tgt := 56) hx hb d_Mod_query_42 (by decide) (fun c2258 => ?_) (fun c2258 => ?_)
  · have hw := hw.1 c2258
    exact t_Mod_query_56 hx hb hml hown hT hK hN hA hRc hRs hRf hRl hret hrec38  x H locs ls  hw hW hS (lv_sub hl [0] rfl)
  · have hw := hw.2 c2258
    refine lv_aload_n hx hb d_Mod_query_45 rfl (lv_at hl 0 rfl) ?_
    refine w_geti (k := 118) (t := 12) (C := R_Mod) (T := F_Mod) (N := 167) hx hb hT hown hK hW ko_0.1 ko_0.2 (by decide) in_Mod rfl rfl (by decide) rfl fr_Mod_118 w_9_54 d_Mod_query_46 ?_
    refine lv_aload_n hx hb d_Mod_query_49 rfl (lv_at hl 0 rfl) ?_
    refine w_geti (k := 117) (t := 12) (C := R_Mod) (T := F_Mod) (N := 167) hx hb hT hown hK hW ko_0.1 ko_0.2 (by decide) in_Mod rfl rfl (by decide) rfl fr_Mod_117 w_9_53 d_Mod_query_50 ?_
    refine lv_icmp_eq (tgt := 74) hx hb d_Mod_query_53 (by decide) (fun c2259 => ?_) (fun c2259 => ?_)
    · have hw := hw.1 c2259
      exact t_Mod_query_74 hx hb hml hown hT hK hN hA hRc hRs hRf hRl hret hrec38  x H locs ls  hw hW hS (lv_sub hl [0] rfl)
    · have hw := hw.2 c2259
      exact t_Mod_query_56 hx hb hml hown hT hK hN hA hRc hRs hRf hRl hret hrec38  x H locs ls  hw hW hS (lv_sub hl [0] rfl)
set_option maxHeartbeats 4000000 in
set_option maxRecDepth 100000 in
theorem tl_Mod_query_38 {p : Program} {l : Launch} {e : Env} {R : Room} {s : State} {m : MethodId} {args : Array Value} {below : List Frame} {meth : Method} {c : Code} {cells slots : Nat} {Q : State → Prop} {dC : Nat → ClassId} {dI : Nat → Nat → Nat} {cI cB cJ cZ : ClassId} {A : Nat → Prop} {ad : Nat → Nat} {post : Int32 → St → Prop} (hx : p.tables.exec = Jvm.exec) (hb : c.code = b_Mod_query) (hml : c.maxLocals = 3) (hown : s.vm.findClass R_Mod = some m.cls) (hT : ∀ w ∈ TG, w.before args s = true) (hK : va_K (dC, dI) CL (TY cI cB cJ cZ) s) (hN : NW s) (hA : ∀ q : Nat, s.heap.size ≤ q → A q) (hRc : cells ≤ R.cells) (hRs : slots ≤ R.slots) (hRf : 9 ≤ R.frames) (hRl : 206 ≤ R.locals) (hret : ∀ (r : Int32) (x : St) (H : Heap) (locs : List Loc) (pc : Nat) (ls : Array Slot), decode b_Mod_query pc = .ok (.ireturn, 1) → post r x → Wd dC dI cI cB cJ cZ ad stM kcM 115 A x H → va_S A s.heap H locs → W p l e R s m args below meth c H locs cells slots Q (F0 m pc ls [.int r]))  : ∀ n : Nat, ∀  (x : St) (H : Heap) (locs : List Loc) (ls : Array Slot), wl_Mod_query_38 post n  x → Wd dC dI cI cB cJ cZ ad stM kcM 115 A x H → va_S A s.heap H locs → lv_has ls 3 [(0, .ref (ad 0))] → W p l e R s m args below meth c H locs cells slots Q (F0 m 38 ls []) := by
  intro n
  induction n with
  | zero => intro  x H locs ls  hw; exact hw.elim
  | succ n ih => intro  x H locs ls  hw hW hS hl; exact t_Mod_query_38 hx hb hml hown hT hK hN hA hRc hRs hRf hRl hret  ih  x H locs ls  hw hW hS hl
set_option maxRecDepth 100000 in
set_option maxHeartbeats 4000000 in
set_option maxRecDepth 100000 in
theorem t_Mod_query_e {p : Program} {l : Launch} {e : Env} {R : Room} {s : State} {m : MethodId} {args : Array Value} {below : List Frame} {meth : Method} {c : Code} {cells slots : Nat} {Q : State → Prop} {dC : Nat → ClassId} {dI : Nat → Nat → Nat} {cI cB cJ cZ : ClassId} {A : Nat → Prop} {ad : Nat → Nat} {post : Int32 → St → Prop} (hx : p.tables.exec = Jvm.exec) (hb : c.code = b_Mod_query) (hml : c.maxLocals = 3) (hown : s.vm.findClass R_Mod = some m.cls) (hT : ∀ w ∈ TG, w.before args s = true) (hK : va_K (dC, dI) CL (TY cI cB cJ cZ) s) (hN : NW s) (hA : ∀ q : Nat, s.heap.size ≤ q → A q) (hRc : cells ≤ R.cells) (hRs : slots ≤ R.slots) (hRf : 9 ≤ R.frames) (hRl : 206 ≤ R.locals) (hret : ∀ (r : Int32) (x : St) (H : Heap) (locs : List Loc) (pc : Nat) (ls : Array Slot), decode b_Mod_query pc = .ok (.ireturn, 1) → post r x → Wd dC dI cI cB cJ cZ ad stM kcM 115 A x H → va_S A s.heap H locs → W p l e R s m args below meth c H locs cells slots Q (F0 m pc ls [.int r])) : ∀  (x : St) (H : Heap) (locs : List Loc) (ls : Array Slot), wp_Mod_query post  x → Wd dC dI cI cB cJ cZ ad stM kcM 115 A x H → va_S A s.heap H locs → lv_has ls 3 [(0, .ref (ad 0))] → W p l e R s m args below meth c H locs cells slots Q (F0 m 0 ls []) := by
  intro  x H locs ls  hw hW hS hl
  unfold wp_Mod_query at hw
  refine lv_aload_n hx hb d_Mod_query_0 rfl (lv_at hl 0 rfl) ?_
  refine lv_iconst (v := 0) hx hb d_Mod_query_1 (by decide) ?_
  refine w_puti (ty := .int) (k := 0) (t := 12) (C := R_Mod) (T := F_Mod) (N := 167) hx hb hT hown hK hW hS ko_0.1 ko_0.2 (by decide) in_Mod t_Mod t_Mod_ok n_Mod rfl rfl (by decide) rfl fr_Mod_0 w_8_176 (by decide +kernel) rfl rfl d_Mod_query_2 (fun H locs hW hS => ?_)
  obtain ⟨x2260, ex2260⟩ : ∃ y : St, y = setI x 0 0 0 := ⟨_, rfl⟩
  rw [← ex2260] at hW
  have hw := hw x2260 ex2260
  refine lv_aload_n hx hb d_Mod_query_5 rfl (lv_at hl 0 rfl) ?_
  have hF := hW.free hS hA
  refine va_callv (va_runV (C := R_Mod) (As := []) (rest := []) ⟨hx, hb, hml, hown, hT⟩ (k_Mod_begins l dC dI cI cB cJ cZ ad H.size  x2260  hw) ⟨callB_of 0 hT (gwt_in w_10_213) rfl rfl rfl (hT _ w_1_15) (hT _ w_10_210) (by decide +kernel) ⟨Nat.le_trans (Nat.le_of_ble_eq_true rfl) hRf, Nat.le_trans (Nat.le_of_ble_eq_true rfl) hRl⟩, hT _ w_10_212, hT _ ws_107⟩ ⟨PW.blind, va_recv hK hW.1 (ci := 12) (q0 := 0) rfl (pic_obj ko_0.1 ko_0.2 (by decide)), PW.at _ hW hK hN⟩ rfl rfl hl.1 rfl (lv_room (Nat.le_of_ble_eq_true rfl)) d_Mod_query_6 ⟨hRc, hRs⟩) hS (fun q _ h => hF q h) hF (fun  x2261 t H locs ht hvm hw hB hz1 hk1 hS => ?_)
  have hW := Wd.back hB ht hF
  clear hB ht hF hz1 hk1 hvm
  refine lv_aload_n hx hb d_Mod_query_9 rfl (lv_at hl 0 rfl) ?_
  refine w_geti (k := 82) (t := 12) (C := R_Mod) (T := F_Mod) (N := 167) hx hb hT hown hK hW ko_0.1 ko_0.2 (by decide) in_Mod rfl rfl (by decide) rfl fr_Mod_82 w_9_18 d_Mod_query_10 ?_
  refine lv_if_ne (tgt := 19) hx hb d_Mod_query_13 (by decide) (fun c2262 => ?_) (fun c2262 => ?_)
  · have hw := hw.1 c2262
    refine lv_aload_n hx hb d_Mod_query_19 rfl (lv_at hl 0 rfl) ?_
    refine w_geti (k := 15) (t := 12) (C := R_Mod) (T := F_Mod) (N := 167) hx hb hT hown hK hW ko_0.1 ko_0.2 (by decide) in_Mod rfl rfl (by decide) rfl fr_Mod_15 w_8_191 d_Mod_query_20 ?_
    refine lv_sipush (v := 2000) hx hb d_Mod_query_23 (by decide) ?_
    refine lv_icmp_le (tgt := 33) hx hb d_Mod_query_26 (by decide) (fun c2263 => ?_) (fun c2263 => ?_)
    · have hw := hw.1 c2263
      refine lv_aload_n hx hb d_Mod_query_33 rfl (lv_at hl 0 rfl) ?_
      refine lv_iconst (v := 0) hx hb d_Mod_query_34 (by decide) ?_
      refine w_puti (ty := .int) (k := 118) (t := 12) (C := R_Mod) (T := F_Mod) (N := 167) hx hb hT hown hK hW hS ko_0.1 ko_0.2 (by decide) in_Mod t_Mod t_Mod_ok n_Mod rfl rfl (by decide) rfl fr_Mod_118 w_9_54 (by decide +kernel) rfl rfl d_Mod_query_35 (fun H locs hW hS => ?_)
      obtain ⟨x2264, ex2264⟩ : ∃ y : St, y = setI x2261 0 118 0 := ⟨_, rfl⟩
      rw [← ex2264] at hW
      have hw := hw x2264 ex2264
      obtain ⟨n, hw⟩ := hw
      exact tl_Mod_query_38 hx hb hml hown hT hK hN hA hRc hRs hRf hRl hret  n  x2264 H locs ls  hw hW hS (lv_sub hl [0] rfl)
    · have hw := hw.2 c2263
      refine lv_sipush (v := 2000) hx hb d_Mod_query_29 (by decide) ?_
      exact hret 2000 x2261 H locs 32 ls d_Mod_query_32 hw hW hS
  · have hw := hw.2 c2262
    refine lv_bipush (v := (-2)) hx hb d_Mod_query_16 (by decide) ?_
    exact hret (-2) x2261 H locs 18 ls d_Mod_query_18 hw hW hS
set_option maxHeartbeats 4000000 in
set_option maxRecDepth 100000 in
theorem k_Mod_query (l : Launch) (dC : Nat → ClassId) (dI : Nat → Nat → Nat) (cI cB cJ cZ : ClassId) (ad : Nat → Nat) (sz : Nat)  (x : St) {post : Int32 → St → Prop} (hw : wp_Mod_query post  x) : Met l y_Mod_query (wsOf y_Mod_query b_Mod_query 3 (some (.int))) ({ frames := 9, cells := 0, slots := 0, locals := 206 }) (va_Pc [.ref (ad 0)] (PW dC dI cI cB cJ cZ ad stM kcM 115 sz x)) (va_Qi (fun (r : Int32) (y : St) => post r y) (fun y t => Wd dC dI cI cB cJ cZ ad stM kcM 115 (va_A (pic ad stM kcM 115 cI cB cJ cZ x) sz) y t.heap) (va_A (pic ad stM kcM 115 cI cB cJ cZ x) sz)) 0 0 (va_A (pic ad stM kcM 115 cI cB cJ cZ x) sz) := by
  refine Met.ofW (cc := b_Mod_query) (maxL := 3) (ret := some (.int)) (by decide) rfl ?_
  intro p e s m args below meth c s₁ B hml hv
  obtain ⟨rfl, hsz, hW0, hK, hN⟩ := hv
  have hx := B.exec
  have hb := B.bytes
  have hr := B.returns
  have hts := atoms_spec B.pre
  have hT : ∀ w ∈ TG, w.before _ s = true := fun w h => hts w (List.mem_cons_of_mem _ h)
  have hown : s.vm.findClass R_Mod = some m.cls := findClass_of_methodNamed B.named
  have hlocks := B.notSynchronized
  subst hsz
  have hW : Wd dC dI cI cB cJ cZ ad stM kcM 115 (va_A (pic ad stM kcM 115 cI cB cJ cZ x) s.heap.size) x s.heap := ⟨hW0.1, hW0.2.1.self (sz := s.heap.size), hW0.2.2⟩
  generalize hAe : va_A (pic ad stM kcM 115 cI cB cJ cZ x) s.heap.size = A at hW ⊢
  have hA : ∀ q : Nat, s.heap.size ≤ q → A q := fun q h => by rw [← hAe]; exact Or.inr h
  have hS : va_S A s.heap s.heap [] := va_S.rf
  have hl := lv_entry ([.ref (ad 0)]) (n := 3) (Nat.le_of_ble_eq_true rfl)
  rw [lg_entry_eq]
  generalize (lg_sl ([.ref (ad 0)]) ++ List.replicate (3 - (lg_sl ([.ref (ad 0)])).length) Slot.unset).toArray = ls at hl ⊢
  have hl : lv_has ls 3 [(0, .ref (ad 0))] := hl
  exact t_Mod_query_e hx hb hml hown hT hK hN hA (Nat.le_refl 0) (Nat.le_refl 0) (Nat.le_refl 9) (Nat.le_refl 206) (fun r x H locs pc ls hd hp hW hS => W.iret (v := r) hx hb hr (fun t ht hM => ⟨⟨r, x, rfl, hp, Wd.back hW ht.symm (fun _ z => z)⟩, hS.F ht⟩) hS.2.2 hd hlocks)   x _ _ ls  hw hW hS hl
end
