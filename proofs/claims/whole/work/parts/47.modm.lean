theorem fr_Mod_37 : F_Mod 37 = (R_Mod, "full", "Z", false) := rfl
theorem w_11_103 : (Jvm.Cond.methodLink "StripedVaultModel" (543 : Nat) ({ cls := "StripedVaultModel", name := "stripe", desc := "(IIIII)V" } : Jvm.MethodName)) ∈ TG := tw_11 103 (by decide +kernel) (by decide +kernel)
theorem w_11_105 : (Jvm.Cond.instanceMethod ({ cls := "StripedVaultModel", name := "stripe", desc := "(IIIII)V" } : Jvm.MethodName)) ∈ TG := tw_11 105 (by decide +kernel) (by decide +kernel)
theorem w_11_106 : (Jvm.Cond.code ({ cls := "StripedVaultModel", name := "stripe", desc := "(IIIII)V" } : Jvm.MethodName) prog_14_method_42_code (11 : Nat) (Option.none : Option Jvm.ClassFile.FieldType)) ∈ TG := tw_11 106 (by decide +kernel) (by decide +kernel)
theorem w_11_107 : (Jvm.Cond.methodLink "StripedVaultModel" (535 : Nat) ({ cls := "StripedVaultModel", name := "onWay", desc := "(III)I" } : Jvm.MethodName)) ∈ TG := tw_11 107 (by decide +kernel) (by decide +kernel)
theorem w_11_109 : (Jvm.Cond.instanceMethod ({ cls := "StripedVaultModel", name := "onWay", desc := "(III)I" } : Jvm.MethodName)) ∈ TG := tw_11 109 (by decide +kernel) (by decide +kernel)
theorem w_11_110 : (Jvm.Cond.code ({ cls := "StripedVaultModel", name := "onWay", desc := "(III)I" } : Jvm.MethodName) prog_14_method_41_code (6 : Nat) (Option.some Jvm.ClassFile.FieldType.int)) ∈ TG := tw_11 110 (by decide +kernel) (by decide +kernel)
theorem w_11_111 : (Jvm.Cond.methodLink "StripedVaultModel" (416 : Nat) ({ cls := "StripedVaultModel", name := "level", desc := "(IIZ)I" } : Jvm.MethodName)) ∈ TG := tw_11 111 (by decide +kernel) (by decide +kernel)
theorem w_11_113 : (Jvm.Cond.instanceMethod ({ cls := "StripedVaultModel", name := "level", desc := "(IIZ)I" } : Jvm.MethodName)) ∈ TG := tw_11 113 (by decide +kernel) (by decide +kernel)
theorem w_11_114 : (Jvm.Cond.code ({ cls := "StripedVaultModel", name := "level", desc := "(IIZ)I" } : Jvm.MethodName) prog_14_method_19_code (7 : Nat) (Option.some Jvm.ClassFile.FieldType.int)) ∈ TG := tw_11 114 (by decide +kernel) (by decide +kernel)
theorem w_11_115 : (Jvm.Cond.methodLink "StripedVaultModel" (539 : Nat) ({ cls := "StripedVaultModel", name := "entry", desc := "(IIII)V" } : Jvm.MethodName)) ∈ TG := tw_11 115 (by decide +kernel) (by decide +kernel)
theorem w_11_117 : (Jvm.Cond.instanceMethod ({ cls := "StripedVaultModel", name := "entry", desc := "(IIII)V" } : Jvm.MethodName)) ∈ TG := tw_11 117 (by decide +kernel) (by decide +kernel)
theorem w_11_118 : (Jvm.Cond.code ({ cls := "StripedVaultModel", name := "entry", desc := "(IIII)V" } : Jvm.MethodName) prog_14_method_40_code (6 : Nat) (Option.none : Option Jvm.ClassFile.FieldType)) ∈ TG := tw_11 118 (by decide +kernel) (by decide +kernel)
theorem w_8_213 : (Jvm.Cond.fieldLink "StripedVaultModel" (532 : Nat) "StripedVaultModel" "full" "Z") ∈ TG := tw_8 213 (by decide +kernel) (by decide +kernel)
theorem ws_134 : Cond.selects R_Mod y_Mod_stripe y_Mod_stripe ∈ TG := tw_s 134 (by decide +kernel) (by decide +kernel)
theorem ws_135 : Cond.selects R_Mod y_Mod_onWay y_Mod_onWay ∈ TG := tw_s 135 (by decide +kernel) (by decide +kernel)
theorem ws_136 : Cond.selects R_Mod y_Mod_level y_Mod_level ∈ TG := tw_s 136 (by decide +kernel) (by decide +kernel)
theorem ws_137 : Cond.selects R_Mod y_Mod_entry y_Mod_entry ∈ TG := tw_s 137 (by decide +kernel) (by decide +kernel)
theorem d_Mod_onWay_13 : decode b_Mod_onWay 13 = .ok (.iload 5, 2) := by decide +kernel
theorem d_Mod_onWay_15 : decode b_Mod_onWay 15 = .ok (.iload_n 3, 1) := by decide +kernel
theorem d_Mod_onWay_16 : decode b_Mod_onWay 16 = .ok (.if_icmp .le 22, 3) := by decide +kernel
theorem d_Mod_onWay_38 : decode b_Mod_onWay 38 = .ok (.iload 4, 2) := by decide +kernel
theorem d_Mod_onWay_40 : decode b_Mod_onWay 40 = .ok (.ireturn, 1) := by decide +kernel
theorem d_Mod_onWay_19 : decode b_Mod_onWay 19 = .ok (.aload_n 0, 1) := by decide +kernel
theorem d_Mod_onWay_20 : decode b_Mod_onWay 20 = .ok (.getfield 23, 3) := by decide +kernel
theorem d_Mod_onWay_23 : decode b_Mod_onWay 23 = .ok (.iload_n 1, 1) := by decide +kernel
theorem d_Mod_onWay_24 : decode b_Mod_onWay 24 = .ok (.iload 4, 2) := by decide +kernel
theorem d_Mod_onWay_26 : decode b_Mod_onWay 26 = .ok (.invokestatic 412, 3) := by decide +kernel
theorem d_Mod_onWay_29 : decode b_Mod_onWay 29 = .ok (.iaload, 1) := by decide +kernel
theorem d_Mod_onWay_30 : decode b_Mod_onWay 30 = .ok (.istore 4, 2) := by decide +kernel
theorem d_Mod_onWay_32 : decode b_Mod_onWay 32 = .ok (.iinc 5 (-1), 3) := by decide +kernel
theorem d_Mod_onWay_35 : decode b_Mod_onWay 35 = .ok (.goto (-22), 3) := by decide +kernel
theorem d_Mod_onWay_0 : decode b_Mod_onWay 0 = .ok (.iload_n 2, 1) := by decide +kernel
theorem d_Mod_onWay_1 : decode b_Mod_onWay 1 = .ok (.istore 4, 2) := by decide +kernel
theorem d_Mod_onWay_3 : decode b_Mod_onWay 3 = .ok (.aload_n 0, 1) := by decide +kernel
theorem d_Mod_onWay_4 : decode b_Mod_onWay 4 = .ok (.iload_n 1, 1) := by decide +kernel
theorem d_Mod_onWay_5 : decode b_Mod_onWay 5 = .ok (.iload_n 2, 1) := by decide +kernel
theorem d_Mod_onWay_6 : decode b_Mod_onWay 6 = .ok (.invokevirtual 420, 3) := by decide +kernel
theorem d_Mod_onWay_9 : decode b_Mod_onWay 9 = .ok (.iconst 1, 1) := by decide +kernel
theorem d_Mod_onWay_10 : decode b_Mod_onWay 10 = .ok (.isub, 1) := by decide +kernel
theorem d_Mod_onWay_11 : decode b_Mod_onWay 11 = .ok (.istore 5, 2) := by decide +kernel
theorem d_Mod_level_55 : decode b_Mod_level 55 = .ok (.iadd, 1) := by decide +kernel
theorem d_Mod_level_56 : decode b_Mod_level 56 = .ok (.istore 4, 2) := by decide +kernel
theorem d_Mod_level_58 : decode b_Mod_level 58 = .ok (.aload_n 0, 1) := by decide +kernel
theorem d_Mod_level_59 : decode b_Mod_level 59 = .ok (.getfield 23, 3) := by decide +kernel
theorem d_Mod_level_62 : decode b_Mod_level 62 = .ok (.iload_n 1, 1) := by decide +kernel
theorem d_Mod_level_63 : decode b_Mod_level 63 = .ok (.iload 5, 2) := by decide +kernel
theorem d_Mod_level_65 : decode b_Mod_level 65 = .ok (.invokestatic 412, 3) := by decide +kernel
theorem d_Mod_level_68 : decode b_Mod_level 68 = .ok (.iaload, 1) := by decide +kernel
theorem d_Mod_level_69 : decode b_Mod_level 69 = .ok (.istore 5, 2) := by decide +kernel
theorem d_Mod_level_71 : decode b_Mod_level 71 = .ok (.goto (-65), 3) := by decide +kernel
theorem d_Mod_level_6 : decode b_Mod_level 6 = .ok (.iload 5, 2) := by decide +kernel
theorem d_Mod_level_8 : decode b_Mod_level 8 = .ok (.iconst (-1), 1) := by decide +kernel
theorem d_Mod_level_9 : decode b_Mod_level 9 = .ok (.if_icmp .eq 65, 3) := by decide +kernel
theorem d_Mod_level_74 : decode b_Mod_level 74 = .ok (.iload 4, 2) := by decide +kernel
theorem d_Mod_level_76 : decode b_Mod_level 76 = .ok (.ireturn, 1) := by decide +kernel
theorem d_Mod_level_12 : decode b_Mod_level 12 = .ok (.aload_n 0, 1) := by decide +kernel
theorem d_Mod_level_13 : decode b_Mod_level 13 = .ok (.getfield 17, 3) := by decide +kernel
theorem d_Mod_level_16 : decode b_Mod_level 16 = .ok (.iload_n 1, 1) := by decide +kernel
theorem d_Mod_level_17 : decode b_Mod_level 17 = .ok (.iload 5, 2) := by decide +kernel
theorem d_Mod_level_19 : decode b_Mod_level 19 = .ok (.invokestatic 412, 3) := by decide +kernel
theorem d_Mod_level_22 : decode b_Mod_level 22 = .ok (.iaload, 1) := by decide +kernel
theorem d_Mod_level_23 : decode b_Mod_level 23 = .ok (.istore 6, 2) := by decide +kernel
theorem d_Mod_level_25 : decode b_Mod_level 25 = .ok (.iload 4, 2) := by decide +kernel
theorem d_Mod_level_27 : decode b_Mod_level 27 = .ok (.iload_n 3, 1) := by decide +kernel
theorem d_Mod_level_28 : decode b_Mod_level 28 = .ok (.ifCond .eq 17, 3) := by decide +kernel
theorem d_Mod_level_45 : decode b_Mod_level 45 = .ok (.iload 6, 2) := by decide +kernel
theorem d_Mod_level_47 : decode b_Mod_level 47 = .ok (.ifCond .eq 7, 3) := by decide +kernel
theorem d_Mod_level_54 : decode b_Mod_level 54 = .ok (.iconst 0, 1) := by decide +kernel
theorem d_Mod_level_50 : decode b_Mod_level 50 = .ok (.iconst 1, 1) := by decide +kernel
theorem d_Mod_level_51 : decode b_Mod_level 51 = .ok (.goto 4, 3) := by decide +kernel
theorem d_Mod_level_31 : decode b_Mod_level 31 = .ok (.iload 6, 2) := by decide +kernel
theorem d_Mod_level_33 : decode b_Mod_level 33 = .ok (.iconst 2, 1) := by decide +kernel
theorem d_Mod_level_34 : decode b_Mod_level 34 = .ok (.if_icmp .ne 7, 3) := by decide +kernel
theorem d_Mod_level_41 : decode b_Mod_level 41 = .ok (.iconst 0, 1) := by decide +kernel
theorem d_Mod_level_42 : decode b_Mod_level 42 = .ok (.goto 13, 3) := by decide +kernel
theorem d_Mod_level_37 : decode b_Mod_level 37 = .ok (.iconst 1, 1) := by decide +kernel
theorem d_Mod_level_38 : decode b_Mod_level 38 = .ok (.goto 17, 3) := by decide +kernel
theorem d_Mod_level_0 : decode b_Mod_level 0 = .ok (.iconst 0, 1) := by decide +kernel
theorem d_Mod_level_1 : decode b_Mod_level 1 = .ok (.istore 4, 2) := by decide +kernel
theorem d_Mod_level_3 : decode b_Mod_level 3 = .ok (.iload_n 2, 1) := by decide +kernel
theorem d_Mod_level_4 : decode b_Mod_level 4 = .ok (.istore 5, 2) := by decide +kernel
theorem d_Mod_entry_146 : decode b_Mod_entry 146 = .ok (.iload 5, 2) := by decide +kernel
theorem d_Mod_entry_148 : decode b_Mod_entry 148 = .ok (.aload_n 0, 1) := by decide +kernel
theorem d_Mod_entry_149 : decode b_Mod_entry 149 = .ok (.getfield 75, 3) := by decide +kernel
theorem d_Mod_entry_152 : decode b_Mod_entry 152 = .ok (.aload_n 0, 1) := by decide +kernel
theorem d_Mod_entry_153 : decode b_Mod_entry 153 = .ok (.getfield 526, 3) := by decide +kernel
theorem d_Mod_entry_156 : decode b_Mod_entry 156 = .ok (.iaload, 1) := by decide +kernel
theorem d_Mod_entry_157 : decode b_Mod_entry 157 = .ok (.if_icmp .ge 36, 3) := by decide +kernel
theorem d_Mod_entry_193 : decode b_Mod_entry 193 = .ok (.aload_n 0, 1) := by decide +kernel
theorem d_Mod_entry_194 : decode b_Mod_entry 194 = .ok (.dup, 1) := by decide +kernel
theorem d_Mod_entry_195 : decode b_Mod_entry 195 = .ok (.getfield 529, 3) := by decide +kernel
theorem d_Mod_entry_198 : decode b_Mod_entry 198 = .ok (.aload_n 0, 1) := by decide +kernel
theorem d_Mod_entry_199 : decode b_Mod_entry 199 = .ok (.getfield 75, 3) := by decide +kernel
theorem d_Mod_entry_202 : decode b_Mod_entry 202 = .ok (.aload_n 0, 1) := by decide +kernel
theorem d_Mod_entry_203 : decode b_Mod_entry 203 = .ok (.getfield 526, 3) := by decide +kernel
theorem d_Mod_entry_206 : decode b_Mod_entry 206 = .ok (.iaload, 1) := by decide +kernel
theorem d_Mod_entry_207 : decode b_Mod_entry 207 = .ok (.iadd, 1) := by decide +kernel
theorem d_Mod_entry_208 : decode b_Mod_entry 208 = .ok (.putfield 529, 3) := by decide +kernel
theorem d_Mod_entry_211 : decode b_Mod_entry 211 = .ok (.aload_n 0, 1) := by decide +kernel
theorem d_Mod_entry_212 : decode b_Mod_entry 212 = .ok (.dup, 1) := by decide +kernel
theorem d_Mod_entry_213 : decode b_Mod_entry 213 = .ok (.getfield 526, 3) := by decide +kernel
theorem d_Mod_entry_216 : decode b_Mod_entry 216 = .ok (.iconst 1, 1) := by decide +kernel
theorem d_Mod_entry_217 : decode b_Mod_entry 217 = .ok (.iadd, 1) := by decide +kernel
theorem d_Mod_entry_218 : decode b_Mod_entry 218 = .ok (.putfield 526, 3) := by decide +kernel
theorem d_Mod_entry_221 : decode b_Mod_entry 221 = .ok (.return_, 1) := by decide +kernel
theorem d_Mod_entry_160 : decode b_Mod_entry 160 = .ok (.aload_n 0, 1) := by decide +kernel
theorem d_Mod_entry_161 : decode b_Mod_entry 161 = .ok (.getfield 82, 3) := by decide +kernel
theorem d_Mod_entry_164 : decode b_Mod_entry 164 = .ok (.aload_n 0, 1) := by decide +kernel
theorem d_Mod_entry_165 : decode b_Mod_entry 165 = .ok (.getfield 529, 3) := by decide +kernel
theorem d_Mod_entry_168 : decode b_Mod_entry 168 = .ok (.iload 5, 2) := by decide +kernel
theorem d_Mod_entry_170 : decode b_Mod_entry 170 = .ok (.iadd, 1) := by decide +kernel
theorem d_Mod_entry_171 : decode b_Mod_entry 171 = .ok (.aload_n 0, 1) := by decide +kernel
theorem d_Mod_entry_172 : decode b_Mod_entry 172 = .ok (.getfield 56, 3) := by decide +kernel
theorem d_Mod_entry_175 : decode b_Mod_entry 175 = .ok (.aload_n 0, 1) := by decide +kernel
theorem d_Mod_entry_176 : decode b_Mod_entry 176 = .ok (.getfield 50, 3) := by decide +kernel
theorem d_Mod_entry_179 : decode b_Mod_entry 179 = .ok (.iload 4, 2) := by decide +kernel
theorem d_Mod_entry_181 : decode b_Mod_entry 181 = .ok (.iaload, 1) := by decide +kernel
theorem d_Mod_entry_182 : decode b_Mod_entry 182 = .ok (.iload 5, 2) := by decide +kernel
theorem d_Mod_entry_184 : decode b_Mod_entry 184 = .ok (.iadd, 1) := by decide +kernel
theorem d_Mod_entry_185 : decode b_Mod_entry 185 = .ok (.iaload, 1) := by decide +kernel
theorem d_Mod_entry_186 : decode b_Mod_entry 186 = .ok (.iastore, 1) := by decide +kernel
theorem d_Mod_entry_187 : decode b_Mod_entry 187 = .ok (.iinc 5 1, 3) := by decide +kernel
theorem d_Mod_entry_190 : decode b_Mod_entry 190 = .ok (.goto (-44), 3) := by decide +kernel
theorem d_Mod_entry_117 : decode b_Mod_entry 117 = .ok (.iastore, 1) := by decide +kernel
theorem d_Mod_entry_118 : decode b_Mod_entry 118 = .ok (.aload_n 0, 1) := by decide +kernel
theorem d_Mod_entry_119 : decode b_Mod_entry 119 = .ok (.getfield 529, 3) := by decide +kernel
theorem d_Mod_entry_122 : decode b_Mod_entry 122 = .ok (.aload_n 0, 1) := by decide +kernel
theorem d_Mod_entry_123 : decode b_Mod_entry 123 = .ok (.getfield 75, 3) := by decide +kernel
theorem d_Mod_entry_126 : decode b_Mod_entry 126 = .ok (.aload_n 0, 1) := by decide +kernel
theorem d_Mod_entry_127 : decode b_Mod_entry 127 = .ok (.getfield 526, 3) := by decide +kernel
theorem d_Mod_entry_130 : decode b_Mod_entry 130 = .ok (.iaload, 1) := by decide +kernel
theorem d_Mod_entry_131 : decode b_Mod_entry 131 = .ok (.iadd, 1) := by decide +kernel
theorem d_Mod_entry_132 : decode b_Mod_entry 132 = .ok (.ldc 81, 2) := by decide +kernel
theorem d_Mod_entry_134 : decode b_Mod_entry 134 = .ok (.if_icmp .le 9, 3) := by decide +kernel
theorem d_Mod_entry_143 : decode b_Mod_entry 143 = .ok (.iconst 0, 1) := by decide +kernel
theorem d_Mod_entry_144 : decode b_Mod_entry 144 = .ok (.istore 5, 2) := by decide +kernel
theorem d_Mod_entry_137 : decode b_Mod_entry 137 = .ok (.aload_n 0, 1) := by decide +kernel
theorem d_Mod_entry_138 : decode b_Mod_entry 138 = .ok (.iconst 1, 1) := by decide +kernel
theorem d_Mod_entry_139 : decode b_Mod_entry 139 = .ok (.putfield 532, 3) := by decide +kernel
theorem d_Mod_entry_142 : decode b_Mod_entry 142 = .ok (.return_, 1) := by decide +kernel
theorem d_Mod_entry_78 : decode b_Mod_entry 78 = .ok (.lastore, 1) := by decide +kernel
theorem d_Mod_entry_79 : decode b_Mod_entry 79 = .ok (.aload_n 0, 1) := by decide +kernel
theorem d_Mod_entry_80 : decode b_Mod_entry 80 = .ok (.getfield 72, 3) := by decide +kernel
theorem d_Mod_entry_83 : decode b_Mod_entry 83 = .ok (.aload_n 0, 1) := by decide +kernel
theorem d_Mod_entry_84 : decode b_Mod_entry 84 = .ok (.getfield 526, 3) := by decide +kernel
theorem d_Mod_entry_87 : decode b_Mod_entry 87 = .ok (.aload_n 0, 1) := by decide +kernel
theorem d_Mod_entry_88 : decode b_Mod_entry 88 = .ok (.getfield 529, 3) := by decide +kernel
theorem d_Mod_entry_91 : decode b_Mod_entry 91 = .ok (.iastore, 1) := by decide +kernel
theorem d_Mod_entry_92 : decode b_Mod_entry 92 = .ok (.aload_n 0, 1) := by decide +kernel
theorem d_Mod_entry_93 : decode b_Mod_entry 93 = .ok (.getfield 75, 3) := by decide +kernel
theorem d_Mod_entry_96 : decode b_Mod_entry 96 = .ok (.aload_n 0, 1) := by decide +kernel
theorem d_Mod_entry_97 : decode b_Mod_entry 97 = .ok (.getfield 526, 3) := by decide +kernel
theorem d_Mod_entry_100 : decode b_Mod_entry 100 = .ok (.iload 4, 2) := by decide +kernel
theorem d_Mod_entry_102 : decode b_Mod_entry 102 = .ok (.iconst (-1), 1) := by decide +kernel
theorem d_Mod_entry_103 : decode b_Mod_entry 103 = .ok (.if_icmp .ne 7, 3) := by decide +kernel
theorem d_Mod_entry_110 : decode b_Mod_entry 110 = .ok (.aload_n 0, 1) := by decide +kernel
theorem d_Mod_entry_111 : decode b_Mod_entry 111 = .ok (.getfield 53, 3) := by decide +kernel
theorem d_Mod_entry_114 : decode b_Mod_entry 114 = .ok (.iload 4, 2) := by decide +kernel
theorem d_Mod_entry_116 : decode b_Mod_entry 116 = .ok (.iaload, 1) := by decide +kernel
theorem d_Mod_entry_106 : decode b_Mod_entry 106 = .ok (.iconst 0, 1) := by decide +kernel
theorem d_Mod_entry_107 : decode b_Mod_entry 107 = .ok (.goto 10, 3) := by decide +kernel
theorem d_Mod_entry_15 : decode b_Mod_entry 15 = .ok (.aload_n 0, 1) := by decide +kernel
theorem d_Mod_entry_16 : decode b_Mod_entry 16 = .ok (.getfield 532, 3) := by decide +kernel
theorem d_Mod_entry_19 : decode b_Mod_entry 19 = .ok (.ifCond .eq 4, 3) := by decide +kernel
theorem d_Mod_entry_23 : decode b_Mod_entry 23 = .ok (.aload_n 0, 1) := by decide +kernel
theorem d_Mod_entry_24 : decode b_Mod_entry 24 = .ok (.getfield 69, 3) := by decide +kernel
theorem d_Mod_entry_27 : decode b_Mod_entry 27 = .ok (.aload_n 0, 1) := by decide +kernel
theorem d_Mod_entry_28 : decode b_Mod_entry 28 = .ok (.getfield 526, 3) := by decide +kernel
theorem d_Mod_entry_31 : decode b_Mod_entry 31 = .ok (.iload_n 1, 1) := by decide +kernel
theorem d_Mod_entry_32 : decode b_Mod_entry 32 = .ok (.iastore, 1) := by decide +kernel
theorem d_Mod_entry_33 : decode b_Mod_entry 33 = .ok (.aload_n 0, 1) := by decide +kernel
theorem d_Mod_entry_34 : decode b_Mod_entry 34 = .ok (.getfield 63, 3) := by decide +kernel
theorem d_Mod_entry_37 : decode b_Mod_entry 37 = .ok (.aload_n 0, 1) := by decide +kernel
theorem d_Mod_entry_38 : decode b_Mod_entry 38 = .ok (.getfield 526, 3) := by decide +kernel
theorem d_Mod_entry_41 : decode b_Mod_entry 41 = .ok (.iload_n 2, 1) := by decide +kernel
theorem d_Mod_entry_42 : decode b_Mod_entry 42 = .ok (.iastore, 1) := by decide +kernel
theorem d_Mod_entry_43 : decode b_Mod_entry 43 = .ok (.aload_n 0, 1) := by decide +kernel
theorem d_Mod_entry_44 : decode b_Mod_entry 44 = .ok (.getfield 66, 3) := by decide +kernel
theorem d_Mod_entry_47 : decode b_Mod_entry 47 = .ok (.aload_n 0, 1) := by decide +kernel
theorem d_Mod_entry_48 : decode b_Mod_entry 48 = .ok (.getfield 526, 3) := by decide +kernel
theorem d_Mod_entry_51 : decode b_Mod_entry 51 = .ok (.iload_n 3, 1) := by decide +kernel
theorem d_Mod_entry_52 : decode b_Mod_entry 52 = .ok (.iastore, 1) := by decide +kernel
theorem d_Mod_entry_53 : decode b_Mod_entry 53 = .ok (.aload_n 0, 1) := by decide +kernel
theorem d_Mod_entry_54 : decode b_Mod_entry 54 = .ok (.getfield 85, 3) := by decide +kernel
theorem d_Mod_entry_57 : decode b_Mod_entry 57 = .ok (.aload_n 0, 1) := by decide +kernel
theorem d_Mod_entry_58 : decode b_Mod_entry 58 = .ok (.getfield 526, 3) := by decide +kernel
theorem d_Mod_entry_61 : decode b_Mod_entry 61 = .ok (.iload 4, 2) := by decide +kernel
theorem d_Mod_entry_63 : decode b_Mod_entry 63 = .ok (.iconst (-1), 1) := by decide +kernel
theorem d_Mod_entry_64 : decode b_Mod_entry 64 = .ok (.if_icmp .ne 7, 3) := by decide +kernel
theorem d_Mod_entry_71 : decode b_Mod_entry 71 = .ok (.aload_n 0, 1) := by decide +kernel
theorem d_Mod_entry_72 : decode b_Mod_entry 72 = .ok (.getfield 59, 3) := by decide +kernel
theorem d_Mod_entry_75 : decode b_Mod_entry 75 = .ok (.iload 4, 2) := by decide +kernel
theorem d_Mod_entry_77 : decode b_Mod_entry 77 = .ok (.laload, 1) := by decide +kernel
theorem d_Mod_entry_67 : decode b_Mod_entry 67 = .ok (.lconst 0, 1) := by decide +kernel
theorem d_Mod_entry_68 : decode b_Mod_entry 68 = .ok (.goto 10, 3) := by decide +kernel
theorem d_Mod_entry_22 : decode b_Mod_entry 22 = .ok (.return_, 1) := by decide +kernel
theorem d_Mod_entry_0 : decode b_Mod_entry 0 = .ok (.aload_n 0, 1) := by decide +kernel
theorem d_Mod_entry_1 : decode b_Mod_entry 1 = .ok (.getfield 526, 3) := by decide +kernel
theorem d_Mod_entry_4 : decode b_Mod_entry 4 = .ok (.sipush 10000, 3) := by decide +kernel
theorem d_Mod_entry_7 : decode b_Mod_entry 7 = .ok (.if_icmp .ne 8, 3) := by decide +kernel
theorem d_Mod_entry_10 : decode b_Mod_entry 10 = .ok (.aload_n 0, 1) := by decide +kernel
theorem d_Mod_entry_11 : decode b_Mod_entry 11 = .ok (.iconst 1, 1) := by decide +kernel
theorem d_Mod_entry_12 : decode b_Mod_entry 12 = .ok (.putfield 532, 3) := by decide +kernel
theorem d_Mod_stripe_143 : decode b_Mod_stripe 143 = .ok (.iload 9, 2) := by decide +kernel
theorem d_Mod_stripe_145 : decode b_Mod_stripe 145 = .ok (.ifCond .ne 13, 3) := by decide +kernel
theorem d_Mod_stripe_158 : decode b_Mod_stripe 158 = .ok (.return_, 1) := by decide +kernel
theorem d_Mod_stripe_148 : decode b_Mod_stripe 148 = .ok (.aload_n 0, 1) := by decide +kernel
theorem d_Mod_stripe_149 : decode b_Mod_stripe 149 = .ok (.iload_n 1, 1) := by decide +kernel
theorem d_Mod_stripe_150 : decode b_Mod_stripe 150 = .ok (.iload 4, 2) := by decide +kernel
theorem d_Mod_stripe_152 : decode b_Mod_stripe 152 = .ok (.iload 5, 2) := by decide +kernel
theorem d_Mod_stripe_154 : decode b_Mod_stripe 154 = .ok (.iconst (-1), 1) := by decide +kernel
theorem d_Mod_stripe_155 : decode b_Mod_stripe 155 = .ok (.invokevirtual 539, 3) := by decide +kernel
theorem d_Mod_stripe_137 : decode b_Mod_stripe 137 = .ok (.iinc 10 1, 3) := by decide +kernel
theorem d_Mod_stripe_140 : decode b_Mod_stripe 140 = .ok (.goto (-110), 3) := by decide +kernel
theorem d_Mod_stripe_87 : decode b_Mod_stripe 87 = .ok (.iconst 1, 1) := by decide +kernel
theorem d_Mod_stripe_88 : decode b_Mod_stripe 88 = .ok (.istore 9, 2) := by decide +kernel
theorem d_Mod_stripe_90 : decode b_Mod_stripe 90 = .ok (.iload 7, 2) := by decide +kernel
theorem d_Mod_stripe_92 : decode b_Mod_stripe 92 = .ok (.iload 6, 2) := by decide +kernel
theorem d_Mod_stripe_94 : decode b_Mod_stripe 94 = .ok (.if_icmp .ne 23, 3) := by decide +kernel
theorem d_Mod_stripe_117 : decode b_Mod_stripe 117 = .ok (.aload_n 0, 1) := by decide +kernel
theorem d_Mod_stripe_118 : decode b_Mod_stripe 118 = .ok (.iload_n 1, 1) := by decide +kernel
theorem d_Mod_stripe_119 : decode b_Mod_stripe 119 = .ok (.iload 10, 2) := by decide +kernel
theorem d_Mod_stripe_121 : decode b_Mod_stripe 121 = .ok (.iload_n 3, 1) := by decide +kernel
theorem d_Mod_stripe_122 : decode b_Mod_stripe 122 = .ok (.iconst 1, 1) := by decide +kernel
theorem d_Mod_stripe_123 : decode b_Mod_stripe 123 = .ok (.iadd, 1) := by decide +kernel
theorem d_Mod_stripe_124 : decode b_Mod_stripe 124 = .ok (.iload 8, 2) := by decide +kernel
theorem d_Mod_stripe_126 : decode b_Mod_stripe 126 = .ok (.aload_n 0, 1) := by decide +kernel
theorem d_Mod_stripe_127 : decode b_Mod_stripe 127 = .ok (.iconst 0, 1) := by decide +kernel
theorem d_Mod_stripe_128 : decode b_Mod_stripe 128 = .ok (.iload 7, 2) := by decide +kernel
theorem d_Mod_stripe_130 : decode b_Mod_stripe 130 = .ok (.iconst 0, 1) := by decide +kernel
theorem d_Mod_stripe_131 : decode b_Mod_stripe 131 = .ok (.invokevirtual 416, 3) := by decide +kernel
theorem d_Mod_stripe_134 : decode b_Mod_stripe 134 = .ok (.invokevirtual 543, 3) := by decide +kernel
theorem d_Mod_stripe_97 : decode b_Mod_stripe 97 = .ok (.aload_n 0, 1) := by decide +kernel
theorem d_Mod_stripe_98 : decode b_Mod_stripe 98 = .ok (.iload_n 1, 1) := by decide +kernel
theorem d_Mod_stripe_99 : decode b_Mod_stripe 99 = .ok (.iload 8, 2) := by decide +kernel
theorem d_Mod_stripe_101 : decode b_Mod_stripe 101 = .ok (.aload_n 0, 1) := by decide +kernel
theorem d_Mod_stripe_102 : decode b_Mod_stripe 102 = .ok (.iconst 0, 1) := by decide +kernel
theorem d_Mod_stripe_103 : decode b_Mod_stripe 103 = .ok (.iload 7, 2) := by decide +kernel
theorem d_Mod_stripe_105 : decode b_Mod_stripe 105 = .ok (.iconst 0, 1) := by decide +kernel
theorem d_Mod_stripe_106 : decode b_Mod_stripe 106 = .ok (.invokevirtual 416, 3) := by decide +kernel
theorem d_Mod_stripe_109 : decode b_Mod_stripe 109 = .ok (.iload 10, 2) := by decide +kernel
theorem d_Mod_stripe_111 : decode b_Mod_stripe 111 = .ok (.invokevirtual 539, 3) := by decide +kernel
theorem d_Mod_stripe_114 : decode b_Mod_stripe 114 = .ok (.goto 23, 3) := by decide +kernel
theorem d_Mod_stripe_30 : decode b_Mod_stripe 30 = .ok (.iload 10, 2) := by decide +kernel
theorem d_Mod_stripe_32 : decode b_Mod_stripe 32 = .ok (.aload_n 0, 1) := by decide +kernel
theorem d_Mod_stripe_33 : decode b_Mod_stripe 33 = .ok (.getfield 473, 3) := by decide +kernel
theorem d_Mod_stripe_36 : decode b_Mod_stripe 36 = .ok (.if_icmp .ge 107, 3) := by decide +kernel
theorem d_Mod_stripe_39 : decode b_Mod_stripe 39 = .ok (.aload_n 0, 1) := by decide +kernel
theorem d_Mod_stripe_40 : decode b_Mod_stripe 40 = .ok (.getfield 532, 3) := by decide +kernel
theorem d_Mod_stripe_43 : decode b_Mod_stripe 43 = .ok (.ifCond .ne 100, 3) := by decide +kernel
theorem d_Mod_stripe_46 : decode b_Mod_stripe 46 = .ok (.aload_n 0, 1) := by decide +kernel
theorem d_Mod_stripe_47 : decode b_Mod_stripe 47 = .ok (.getfield 47, 3) := by decide +kernel
theorem d_Mod_stripe_50 : decode b_Mod_stripe 50 = .ok (.iload 10, 2) := by decide +kernel
theorem d_Mod_stripe_52 : decode b_Mod_stripe 52 = .ok (.iaload, 1) := by decide +kernel
theorem d_Mod_stripe_53 : decode b_Mod_stripe 53 = .ok (.iload_n 2, 1) := by decide +kernel
theorem d_Mod_stripe_54 : decode b_Mod_stripe 54 = .ok (.if_icmp .ne 83, 3) := by decide +kernel
theorem d_Mod_stripe_57 : decode b_Mod_stripe 57 = .ok (.aload_n 0, 1) := by decide +kernel
theorem d_Mod_stripe_58 : decode b_Mod_stripe 58 = .ok (.getfield 44, 3) := by decide +kernel
theorem d_Mod_stripe_61 : decode b_Mod_stripe 61 = .ok (.iload 10, 2) := by decide +kernel
theorem d_Mod_stripe_63 : decode b_Mod_stripe 63 = .ok (.iaload, 1) := by decide +kernel
theorem d_Mod_stripe_64 : decode b_Mod_stripe 64 = .ok (.iload 7, 2) := by decide +kernel
theorem d_Mod_stripe_66 : decode b_Mod_stripe 66 = .ok (.if_icmp .eq 6, 3) := by decide +kernel
theorem d_Mod_stripe_72 : decode b_Mod_stripe 72 = .ok (.iload 9, 2) := by decide +kernel
theorem d_Mod_stripe_74 : decode b_Mod_stripe 74 = .ok (.ifCond .eq 13, 3) := by decide +kernel
theorem d_Mod_stripe_77 : decode b_Mod_stripe 77 = .ok (.aload_n 0, 1) := by decide +kernel
theorem d_Mod_stripe_78 : decode b_Mod_stripe 78 = .ok (.iconst 0, 1) := by decide +kernel
theorem d_Mod_stripe_79 : decode b_Mod_stripe 79 = .ok (.iload 7, 2) := by decide +kernel
theorem d_Mod_stripe_81 : decode b_Mod_stripe 81 = .ok (.iconst 1, 1) := by decide +kernel
theorem d_Mod_stripe_82 : decode b_Mod_stripe 82 = .ok (.invokevirtual 416, 3) := by decide +kernel
theorem d_Mod_stripe_85 : decode b_Mod_stripe 85 = .ok (.istore 8, 2) := by decide +kernel
theorem d_Mod_stripe_69 : decode b_Mod_stripe 69 = .ok (.goto 68, 3) := by decide +kernel
theorem d_Mod_stripe_0 : decode b_Mod_stripe 0 = .ok (.aload_n 0, 1) := by decide +kernel
theorem d_Mod_stripe_1 : decode b_Mod_stripe 1 = .ok (.getfield 41, 3) := by decide +kernel
theorem d_Mod_stripe_4 : decode b_Mod_stripe 4 = .ok (.iload_n 1, 1) := by decide +kernel
theorem d_Mod_stripe_5 : decode b_Mod_stripe 5 = .ok (.iaload, 1) := by decide +kernel
theorem d_Mod_stripe_6 : decode b_Mod_stripe 6 = .ok (.istore 6, 2) := by decide +kernel
theorem d_Mod_stripe_8 : decode b_Mod_stripe 8 = .ok (.aload_n 0, 1) := by decide +kernel
theorem d_Mod_stripe_9 : decode b_Mod_stripe 9 = .ok (.iconst 0, 1) := by decide +kernel
theorem d_Mod_stripe_10 : decode b_Mod_stripe 10 = .ok (.iload 6, 2) := by decide +kernel
theorem d_Mod_stripe_12 : decode b_Mod_stripe 12 = .ok (.iload_n 3, 1) := by decide +kernel
theorem d_Mod_stripe_13 : decode b_Mod_stripe 13 = .ok (.invokevirtual 535, 3) := by decide +kernel
theorem d_Mod_stripe_16 : decode b_Mod_stripe 16 = .ok (.istore 7, 2) := by decide +kernel
theorem d_Mod_stripe_18 : decode b_Mod_stripe 18 = .ok (.iload 4, 2) := by decide +kernel
theorem d_Mod_stripe_20 : decode b_Mod_stripe 20 = .ok (.istore 8, 2) := by decide +kernel
theorem d_Mod_stripe_22 : decode b_Mod_stripe 22 = .ok (.iconst 0, 1) := by decide +kernel
theorem d_Mod_stripe_23 : decode b_Mod_stripe 23 = .ok (.istore 9, 2) := by decide +kernel
theorem d_Mod_stripe_25 : decode b_Mod_stripe 25 = .ok (.iload_n 2, 1) := by decide +kernel
theorem d_Mod_stripe_26 : decode b_Mod_stripe 26 = .ok (.iconst 1, 1) := by decide +kernel
theorem d_Mod_stripe_27 : decode b_Mod_stripe 27 = .ok (.iadd, 1) := by decide +kernel
theorem d_Mod_stripe_28 : decode b_Mod_stripe 28 = .ok (.istore 10, 2) := by decide +kernel
section
variable (l : Launch) (dC : Nat → ClassId) (dI : Nat → Nat → Nat) (cI cB cJ cZ : ClassId)
set_option maxRecDepth 100000 in
set_option maxHeartbeats 4000000 in
set_option maxRecDepth 100000 in
theorem t_Mod_onWay_13 {p : Program} {l : Launch} {e : Env} {R : Room} {s : State} {m : MethodId} {args : Array Value} {below : List Frame} {meth : Method} {c : Code} {cells slots : Nat} {Q : State → Prop} {dC : Nat → ClassId} {dI : Nat → Nat → Nat} {cI cB cJ cZ : ClassId} {A : Nat → Prop} {ad : Nat → Nat} {post : Int32 → St → Prop} {rec13 : Int32 → Int32 → Int32 → Int32 → Int32 → St → Prop} (hx : p.tables.exec = Jvm.exec) (hb : c.code = b_Mod_onWay) (hml : c.maxLocals = 6) (hown : s.vm.findClass R_Mod = some m.cls) (hT : ∀ w ∈ TG, w.before args s = true) (hK : va_K (dC, dI) CL (TY cI cB cJ cZ) s) (hN : NW s) (hA : ∀ q : Nat, s.heap.size ≤ q → A q) (hRc : cells ≤ R.cells) (hRs : slots ≤ R.slots) (hRf : 2 ≤ R.frames) (hRl : 45 ≤ R.locals) (hret : ∀ (r : Int32) (x : St) (H : Heap) (locs : List Loc) (pc : Nat) (ls : Array Slot), decode b_Mod_onWay pc = .ok (.ireturn, 1) → post r x → Wd dC dI cI cB cJ cZ ad stM kcM 115 A x H → va_S A s.heap H locs → W p l e R s m args below meth c H locs cells slots Q (F0 m pc ls [.int r])) (hrec13 : ∀ (l1 : Int32) (l2 : Int32) (l3 : Int32) (l4 : Int32) (l5 : Int32) (x : St) (H : Heap) (locs : List Loc) (ls : Array Slot), rec13 l1 l2 l3 l4 l5 x → Wd dC dI cI cB cJ cZ ad stM kcM 115 A x H → va_S A s.heap H locs → lv_has ls 6 [(0, .ref (ad 0)), (1, .int l1), (2, .int l2), (3, .int l3), (4, .int l4), (5, .int l5)] → W p l e R s m args below meth c H locs cells slots Q (F0 m 13 ls [])) : ∀ (l1 : Int32) (l2 : Int32) (l3 : Int32) (l4 : Int32) (l5 : Int32) (x : St) (H : Heap) (locs : List Loc) (ls : Array Slot), j_Mod_onWay_13 post rec13 l1 l2 l3 l4 l5 x → Wd dC dI cI cB cJ cZ ad stM kcM 115 A x H → va_S A s.heap H locs → lv_has ls 6 [(0, .ref (ad 0)), (1, .int l1), (2, .int l2), (3, .int l3), (4, .int l4), (5, .int l5)] → W p l e R s m args below meth c H locs cells slots Q (F0 m 13 ls []) := by
  intro l1 l2 l3 l4 l5 x H locs ls  hw hW hS hl
  unfold j_Mod_onWay_13 at hw
  refine lv_iload hx hb d_Mod_onWay_13 (lv_at hl 5 rfl) ?_
  refine lv_iload_n hx hb d_Mod_onWay_15 rfl (lv_at hl 3 rfl) ?_
  refine lv_icmp_le (tgt := 38) hx hb d_Mod_onWay_16 (by decide) (fun c369 => ?_) (fun c369 => ?_)
  · have hw := hw.1 c369
    refine lv_iload hx hb d_Mod_onWay_38 (lv_at hl 4 rfl) ?_
    exact hret l4 x H locs 40 ls d_Mod_onWay_40 hw hW hS
  · have hw := hw.2 c369
    refine lv_aload_n hx hb d_Mod_onWay_19 rfl (lv_at hl 0 rfl) ?_
    refine w_getf (q := 5) (k := 7) (t := 12) (C := R_Mod) (T := F_Mod) (N := 167) hx hb hT hown hK hW ko_0.1 ko_0.2 (by decide) in_Mod rfl rfl (by decide) rfl fr_Mod_7 w_8_183 d_Mod_onWay_20 rfl ?_
    refine lv_iload_n hx hb d_Mod_onWay_23 rfl (lv_at hl 1 rfl) ?_
    refine lv_iload hx hb d_Mod_onWay_24 (lv_at hl 4 rfl) ?_
    have hF := hW.free hS hA
    refine va_calli (va_runS (As := [.int l1, .int l4]) (rest := [.ref (ad 5)]) ⟨hx, hb, hml, hown, hT⟩ (k_Mod_place l dC dI cI cB cJ cZ ad H.size l1 l4 x  hw) ⟨callB_of 2 hT (gwt_in w_11_30) rfl rfl rfl (hT _ w_1_15) (hT _ w_11_28) (by decide +kernel) ⟨Nat.le_trans (Nat.le_of_ble_eq_true rfl) hRf, Nat.le_trans (Nat.le_of_ble_eq_true rfl) hRl⟩, hT _ w_11_29⟩ ⟨PW.blind, PW.at _ hW hK hN⟩ rfl rfl hl.1 rfl (lv_room (Nat.le_of_ble_eq_true rfl)) d_Mod_onWay_26 ⟨hRc, hRs⟩) hS (fun q _ h => hF q h) hF (fun r371 x370 t H locs ht hvm hw hB hz1 hk1 hS => ?_)
    have hW := Wd.back hB ht hF
    clear hB ht hF hz1 hk1 hvm
    obtain ⟨hi, hw⟩ := hw
    refine w_iald (o := 5) hx hb hK hW ko_5.1 ko_5.2 hi d_Mod_onWay_29 ?_
    refine lv_topi (fun v372 ev372 => ?_)
    have hw := hw v372 ev372
    refine lv_istore (lv' := [(4, .int v372), (0, .ref (ad 0)), (1, .int l1), (2, .int l2), (3, .int l3), (5, .int l5)]) hx hb d_Mod_onWay_30 hl (by decide) rfl (fun ls hl => ?_)
    refine lv_iinc (v := (l5 + (-1))) (lv' := [(5, .int (l5 + (-1))), (4, .int v372), (0, .ref (ad 0)), (1, .int l1), (2, .int l2), (3, .int l3)]) hx hb d_Mod_onWay_32 hl (k := 5) rfl rfl (by decide) rfl (fun ls hl => ?_)
    refine lv_goto (tgt := 13) hx hb d_Mod_onWay_35 (by decide) ?_
    exact hrec13 l1 l2 l3 v372 (l5 + (-1)) x370 H locs ls  hw hW hS (lv_sub hl [2, 3, 4, 5, 1, 0] rfl)
set_option maxHeartbeats 4000000 in
set_option maxRecDepth 100000 in
theorem tl_Mod_onWay_13 {p : Program} {l : Launch} {e : Env} {R : Room} {s : State} {m : MethodId} {args : Array Value} {below : List Frame} {meth : Method} {c : Code} {cells slots : Nat} {Q : State → Prop} {dC : Nat → ClassId} {dI : Nat → Nat → Nat} {cI cB cJ cZ : ClassId} {A : Nat → Prop} {ad : Nat → Nat} {post : Int32 → St → Prop} (hx : p.tables.exec = Jvm.exec) (hb : c.code = b_Mod_onWay) (hml : c.maxLocals = 6) (hown : s.vm.findClass R_Mod = some m.cls) (hT : ∀ w ∈ TG, w.before args s = true) (hK : va_K (dC, dI) CL (TY cI cB cJ cZ) s) (hN : NW s) (hA : ∀ q : Nat, s.heap.size ≤ q → A q) (hRc : cells ≤ R.cells) (hRs : slots ≤ R.slots) (hRf : 2 ≤ R.frames) (hRl : 45 ≤ R.locals) (hret : ∀ (r : Int32) (x : St) (H : Heap) (locs : List Loc) (pc : Nat) (ls : Array Slot), decode b_Mod_onWay pc = .ok (.ireturn, 1) → post r x → Wd dC dI cI cB cJ cZ ad stM kcM 115 A x H → va_S A s.heap H locs → W p l e R s m args below meth c H locs cells slots Q (F0 m pc ls [.int r]))  : ∀ n : Nat, ∀ (l1 : Int32) (l2 : Int32) (l3 : Int32) (l4 : Int32) (l5 : Int32) (x : St) (H : Heap) (locs : List Loc) (ls : Array Slot), wl_Mod_onWay_13 post n l1 l2 l3 l4 l5 x → Wd dC dI cI cB cJ cZ ad stM kcM 115 A x H → va_S A s.heap H locs → lv_has ls 6 [(0, .ref (ad 0)), (1, .int l1), (2, .int l2), (3, .int l3), (4, .int l4), (5, .int l5)] → W p l e R s m args below meth c H locs cells slots Q (F0 m 13 ls []) := by
  intro n
  induction n with
  | zero => intro l1 l2 l3 l4 l5 x H locs ls  hw; exact hw.elim
  | succ n ih => intro l1 l2 l3 l4 l5 x H locs ls  hw hW hS hl; exact t_Mod_onWay_13 hx hb hml hown hT hK hN hA hRc hRs hRf hRl hret  ih l1 l2 l3 l4 l5 x H locs ls  hw hW hS hl
set_option maxRecDepth 100000 in
set_option maxHeartbeats 4000000 in
set_option maxRecDepth 100000 in
theorem t_Mod_onWay_e {p : Program} {l : Launch} {e : Env} {R : Room} {s : State} {m : MethodId} {args : Array Value} {below : List Frame} {meth : Method} {c : Code} {cells slots : Nat} {Q : State → Prop} {dC : Nat → ClassId} {dI : Nat → Nat → Nat} {cI cB cJ cZ : ClassId} {A : Nat → Prop} {ad : Nat → Nat} {post : Int32 → St → Prop} (hx : p.tables.exec = Jvm.exec) (hb : c.code = b_Mod_onWay) (hml : c.maxLocals = 6) (hown : s.vm.findClass R_Mod = some m.cls) (hT : ∀ w ∈ TG, w.before args s = true) (hK : va_K (dC, dI) CL (TY cI cB cJ cZ) s) (hN : NW s) (hA : ∀ q : Nat, s.heap.size ≤ q → A q) (hRc : cells ≤ R.cells) (hRs : slots ≤ R.slots) (hRf : 2 ≤ R.frames) (hRl : 45 ≤ R.locals) (hret : ∀ (r : Int32) (x : St) (H : Heap) (locs : List Loc) (pc : Nat) (ls : Array Slot), decode b_Mod_onWay pc = .ok (.ireturn, 1) → post r x → Wd dC dI cI cB cJ cZ ad stM kcM 115 A x H → va_S A s.heap H locs → W p l e R s m args below meth c H locs cells slots Q (F0 m pc ls [.int r])) : ∀ (l1 : Int32) (l2 : Int32) (l3 : Int32) (x : St) (H : Heap) (locs : List Loc) (ls : Array Slot), wp_Mod_onWay post l1 l2 l3 x → Wd dC dI cI cB cJ cZ ad stM kcM 115 A x H → va_S A s.heap H locs → lv_has ls 6 [(0, .ref (ad 0)), (1, .int l1), (2, .int l2), (3, .int l3)] → W p l e R s m args below meth c H locs cells slots Q (F0 m 0 ls []) := by
  intro l1 l2 l3 x H locs ls  hw hW hS hl
  unfold wp_Mod_onWay at hw
  refine lv_iload_n hx hb d_Mod_onWay_0 rfl (lv_at hl 2 rfl) ?_
  refine lv_istore (lv' := [(4, .int l2), (0, .ref (ad 0)), (1, .int l1), (2, .int l2), (3, .int l3)]) hx hb d_Mod_onWay_1 hl (by decide) rfl (fun ls hl => ?_)
  refine lv_aload_n hx hb d_Mod_onWay_3 rfl (lv_at hl 1 rfl) ?_
  refine lv_iload_n hx hb d_Mod_onWay_4 rfl (lv_at hl 2 rfl) ?_
  refine lv_iload_n hx hb d_Mod_onWay_5 rfl (lv_at hl 3 rfl) ?_
  have hF := hW.free hS hA
  refine va_calli (va_runV (C := R_Mod) (As := [.int l1, .int l2]) (rest := []) ⟨hx, hb, hml, hown, hT⟩ (k_Mod_deep l dC dI cI cB cJ cZ ad H.size l1 l2 x  hw) ⟨callB_of 2 hT (gwt_in w_11_27) rfl rfl rfl (hT _ w_1_15) (hT _ w_11_24) (by decide +kernel) ⟨Nat.le_trans (Nat.le_of_ble_eq_true rfl) hRf, Nat.le_trans (Nat.le_of_ble_eq_true rfl) hRl⟩, hT _ w_11_26, hT _ ws_117⟩ ⟨PW.blind, va_recv hK hW.1 (ci := 12) (q0 := 0) rfl (pic_obj ko_0.1 ko_0.2 (by decide)), PW.at _ hW hK hN⟩ rfl rfl hl.1 rfl (lv_room (Nat.le_of_ble_eq_true rfl)) d_Mod_onWay_6 ⟨hRc, hRs⟩) hS (fun q _ h => hF q h) hF (fun r374 x373 t H locs ht hvm hw hB hz1 hk1 hS => ?_)
  have hW := Wd.back hB ht hF
  clear hB ht hF hz1 hk1 hvm
  refine lv_iconst (v := 1) hx hb d_Mod_onWay_9 (by decide) ?_
  refine lv_isub hx hb d_Mod_onWay_10 ?_
  refine lv_topi (fun v375 ev375 => ?_)
  have hw := hw v375 ev375
  refine lv_istore (lv' := [(5, .int v375), (4, .int l2), (0, .ref (ad 0)), (1, .int l1), (2, .int l2), (3, .int l3)]) hx hb d_Mod_onWay_11 hl (by decide) rfl (fun ls hl => ?_)
  obtain ⟨n, hw⟩ := hw
  exact tl_Mod_onWay_13 hx hb hml hown hT hK hN hA hRc hRs hRf hRl hret  n l1 l2 l3 l2 v375 x373 H locs ls  hw hW hS (lv_sub hl [2, 3, 4, 5, 1, 0] rfl)
set_option maxHeartbeats 4000000 in
set_option maxRecDepth 100000 in
theorem k_Mod_onWay (l : Launch) (dC : Nat → ClassId) (dI : Nat → Nat → Nat) (cI cB cJ cZ : ClassId) (ad : Nat → Nat) (sz : Nat) (l1 : Int32) (l2 : Int32) (l3 : Int32) (x : St) {post : Int32 → St → Prop} (hw : wp_Mod_onWay post l1 l2 l3 x) : Met l y_Mod_onWay (wsOf y_Mod_onWay b_Mod_onWay 6 (some (.int))) ({ frames := 2, cells := 0, slots := 0, locals := 45 }) (va_Pc [.ref (ad 0), .int l1, .int l2, .int l3] (PW dC dI cI cB cJ cZ ad stM kcM 115 sz x)) (va_Qi (fun (r : Int32) (y : St) => post r y) (fun y t => Wd dC dI cI cB cJ cZ ad stM kcM 115 (va_A (pic ad stM kcM 115 cI cB cJ cZ x) sz) y t.heap) (va_A (pic ad stM kcM 115 cI cB cJ cZ x) sz)) 0 0 (va_A (pic ad stM kcM 115 cI cB cJ cZ x) sz) := by
  refine Met.ofW (cc := b_Mod_onWay) (maxL := 6) (ret := some (.int)) (by decide) rfl ?_
  intro p e s m args below meth c s₁ B hml hv
  obtain ⟨rfl, hsz, hW0, hK, hN⟩ := hv
  have hx := B.exec
  have hb := B.bytes
  have hr := B.returns
  have hts := atoms_spec B.pre
  have hT : ∀ w ∈ TG, w.before _ s = true := fun w h => hts w (List.mem_cons_of_mem _ h)
  have hown : s.vm.findClass R_Mod = some m.cls := findClass_of_methodNamed B.named
  have hlocks := B.notSynchronized
  subst hsz
  have hW : Wd dC dI cI cB cJ cZ ad stM kcM 115 (va_A (pic ad stM kcM 115 cI cB cJ cZ x) s.heap.size) x s.heap := ⟨hW0.1, hW0.2.1.self (sz := s.heap.size), hW0.2.2⟩
  generalize hAe : va_A (pic ad stM kcM 115 cI cB cJ cZ x) s.heap.size = A at hW ⊢
  have hA : ∀ q : Nat, s.heap.size ≤ q → A q := fun q h => by rw [← hAe]; exact Or.inr h
  have hS : va_S A s.heap s.heap [] := va_S.rf
  have hl := lv_entry ([.ref (ad 0), .int l1, .int l2, .int l3]) (n := 6) (Nat.le_of_ble_eq_true rfl)
  rw [lg_entry_eq]
  generalize (lg_sl ([.ref (ad 0), .int l1, .int l2, .int l3]) ++ List.replicate (6 - (lg_sl ([.ref (ad 0), .int l1, .int l2, .int l3])).length) Slot.unset).toArray = ls at hl ⊢
  have hl : lv_has ls 6 [(0, .ref (ad 0)), (1, .int l1), (2, .int l2), (3, .int l3)] := hl
  exact t_Mod_onWay_e hx hb hml hown hT hK hN hA (Nat.le_refl 0) (Nat.le_refl 0) (Nat.le_refl 2) (Nat.le_refl 45) (fun r x H locs pc ls hd hp hW hS => W.iret (v := r) hx hb hr (fun t ht hM => ⟨⟨r, x, rfl, hp, Wd.back hW ht.symm (fun _ z => z)⟩, hS.F ht⟩) hS.2.2 hd hlocks)  l1 l2 l3 x _ _ ls  hw hW hS hl
set_option maxRecDepth 100000 in
set_option maxHeartbeats 4000000 in
set_option maxRecDepth 100000 in
theorem t_Mod_level_55 {p : Program} {l : Launch} {e : Env} {R : Room} {s : State} {m : MethodId} {args : Array Value} {below : List Frame} {meth : Method} {c : Code} {cells slots : Nat} {Q : State → Prop} {dC : Nat → ClassId} {dI : Nat → Nat → Nat} {cI cB cJ cZ : ClassId} {A : Nat → Prop} {ad : Nat → Nat} {post : Int32 → St → Prop} {rec6 : Int32 → Int32 → Int32 → Int32 → Int32 → St → Prop} (hx : p.tables.exec = Jvm.exec) (hb : c.code = b_Mod_level) (hml : c.maxLocals = 7) (hown : s.vm.findClass R_Mod = some m.cls) (hT : ∀ w ∈ TG, w.before args s = true) (hK : va_K (dC, dI) CL (TY cI cB cJ cZ) s) (hN : NW s) (hA : ∀ q : Nat, s.heap.size ≤ q → A q) (hRc : cells ≤ R.cells) (hRs : slots ≤ R.slots) (hRf : 1 ≤ R.frames) (hRl : 21 ≤ R.locals) (hret : ∀ (r : Int32) (x : St) (H : Heap) (locs : List Loc) (pc : Nat) (ls : Array Slot), decode b_Mod_level pc = .ok (.ireturn, 1) → post r x → Wd dC dI cI cB cJ cZ ad stM kcM 115 A x H → va_S A s.heap H locs → W p l e R s m args below meth c H locs cells slots Q (F0 m pc ls [.int r])) (hrec6 : ∀ (l1 : Int32) (l2 : Int32) (l3 : Int32) (l4 : Int32) (l5 : Int32) (x : St) (H : Heap) (locs : List Loc) (ls : Array Slot), rec6 l1 l2 l3 l4 l5 x → Wd dC dI cI cB cJ cZ ad stM kcM 115 A x H → va_S A s.heap H locs → lv_has ls 7 [(0, .ref (ad 0)), (1, .int l1), (2, .int l2), (3, .int l3), (4, .int l4), (5, .int l5)] → W p l e R s m args below meth c H locs cells slots Q (F0 m 6 ls [])) : ∀ (l1 : Int32) (l2 : Int32) (l3 : Int32) (l4 : Int32) (l5 : Int32) (l6 : Int32) (s0 : Int32) (s1 : Int32) (x : St) (H : Heap) (locs : List Loc) (ls : Array Slot), j_Mod_level_55 post rec6 l1 l2 l3 l4 l5 l6 s0 s1 x → Wd dC dI cI cB cJ cZ ad stM kcM 115 A x H → va_S A s.heap H locs → lv_has ls 7 [(0, .ref (ad 0)), (1, .int l1), (2, .int l2), (3, .int l3), (4, .int l4), (5, .int l5), (6, .int l6)] → W p l e R s m args below meth c H locs cells slots Q (F0 m 55 ls [.int s0, .int s1]) := by
  intro l1 l2 l3 l4 l5 l6 s0 s1 x H locs ls  hw hW hS hl
  unfold j_Mod_level_55 at hw
  refine lv_iadd hx hb d_Mod_level_55 ?_
  refine lv_topi (fun v376 ev376 => ?_)
  have hw := hw v376 ev376
  refine lv_istore (lv' := [(4, .int v376), (0, .ref (ad 0)), (1, .int l1), (2, .int l2), (3, .int l3), (5, .int l5), (6, .int l6)]) hx hb d_Mod_level_56 hl (by decide) rfl (fun ls hl => ?_)
  refine lv_aload_n hx hb d_Mod_level_58 rfl (lv_at hl 1 rfl) ?_
  refine w_getf (q := 5) (k := 7) (t := 12) (C := R_Mod) (T := F_Mod) (N := 167) hx hb hT hown hK hW ko_0.1 ko_0.2 (by decide) in_Mod rfl rfl (by decide) rfl fr_Mod_7 w_8_183 d_Mod_level_59 rfl ?_
  refine lv_iload_n hx hb d_Mod_level_62 rfl (lv_at hl 2 rfl) ?_
  refine lv_iload hx hb d_Mod_level_63 (lv_at hl 5 rfl) ?_
  have hF := hW.free hS hA
  refine va_calli (va_runS (As := [.int l1, .int l5]) (rest := [.ref (ad 5)]) ⟨hx, hb, hml, hown, hT⟩ (k_Mod_place l dC dI cI cB cJ cZ ad H.size l1 l5 x  hw) ⟨callB_of 2 hT (gwt_in w_11_30) rfl rfl rfl (hT _ w_1_15) (hT _ w_11_28) (by decide +kernel) ⟨Nat.le_trans (Nat.le_of_ble_eq_true rfl) hRf, Nat.le_trans (Nat.le_of_ble_eq_true rfl) hRl⟩, hT _ w_11_29⟩ ⟨PW.blind, PW.at _ hW hK hN⟩ rfl rfl hl.1 rfl (lv_room (Nat.le_of_ble_eq_true rfl)) d_Mod_level_65 ⟨hRc, hRs⟩) hS (fun q _ h => hF q h) hF (fun r378 x377 t H locs ht hvm hw hB hz1 hk1 hS => ?_)
  have hW := Wd.back hB ht hF
  clear hB ht hF hz1 hk1 hvm
  obtain ⟨hi, hw⟩ := hw
  refine w_iald (o := 5) hx hb hK hW ko_5.1 ko_5.2 hi d_Mod_level_68 ?_
  refine lv_topi (fun v379 ev379 => ?_)
  have hw := hw v379 ev379
  refine lv_istore (lv' := [(5, .int v379), (4, .int v376), (0, .ref (ad 0)), (1, .int l1), (2, .int l2), (3, .int l3), (6, .int l6)]) hx hb d_Mod_level_69 hl (by decide) rfl (fun ls hl => ?_)
  refine lv_goto (tgt := 6) hx hb d_Mod_level_71 (by decide) ?_
  exact hrec6 l1 l2 l3 v376 v379 x377 H locs ls  hw hW hS (lv_sub hl [2, 3, 4, 5, 1, 0] rfl)
set_option maxRecDepth 100000 in
set_option maxHeartbeats 4000000 in
set_option maxRecDepth 100000 in
theorem t_Mod_level_6 {p : Program} {l : Launch} {e : Env} {R : Room} {s : State} {m : MethodId} {args : Array Value} {below : List Frame} {meth : Method} {c : Code} {cells slots : Nat} {Q : State → Prop} {dC : Nat → ClassId} {dI : Nat → Nat → Nat} {cI cB cJ cZ : ClassId} {A : Nat → Prop} {ad : Nat → Nat} {post : Int32 → St → Prop} {rec6 : Int32 → Int32 → Int32 → Int32 → Int32 → St → Prop} (hx : p.tables.exec = Jvm.exec) (hb : c.code = b_Mod_level) (hml : c.maxLocals = 7) (hown : s.vm.findClass R_Mod = some m.cls) (hT : ∀ w ∈ TG, w.before args s = true) (hK : va_K (dC, dI) CL (TY cI cB cJ cZ) s) (hN : NW s) (hA : ∀ q : Nat, s.heap.size ≤ q → A q) (hRc : cells ≤ R.cells) (hRs : slots ≤ R.slots) (hRf : 1 ≤ R.frames) (hRl : 21 ≤ R.locals) (hret : ∀ (r : Int32) (x : St) (H : Heap) (locs : List Loc) (pc : Nat) (ls : Array Slot), decode b_Mod_level pc = .ok (.ireturn, 1) → post r x → Wd dC dI cI cB cJ cZ ad stM kcM 115 A x H → va_S A s.heap H locs → W p l e R s m args below meth c H locs cells slots Q (F0 m pc ls [.int r])) (hrec6 : ∀ (l1 : Int32) (l2 : Int32) (l3 : Int32) (l4 : Int32) (l5 : Int32) (x : St) (H : Heap) (locs : List Loc) (ls : Array Slot), rec6 l1 l2 l3 l4 l5 x → Wd dC dI cI cB cJ cZ ad stM kcM 115 A x H → va_S A s.heap H locs → lv_has ls 7 [(0, .ref (ad 0)), (1, .int l1), (2, .int l2), (3, .int l3), (4, .int l4), (5, .int l5)] → W p l e R s m args below meth c H locs cells slots Q (F0 m 6 ls [])) : ∀ (l1 : Int32) (l2 : Int32) (l3 : Int32) (l4 : Int32) (l5 : Int32) (x : St) (H : Heap) (locs : List Loc) (ls : Array Slot), j_Mod_level_6 post rec6 l1 l2 l3 l4 l5 x → Wd dC dI cI cB cJ cZ ad stM kcM 115 A x H → va_S A s.heap H locs → lv_has ls 7 [(0, .ref (ad 0)), (1, .int l1), (2, .int l2), (3, .int l3), (4, .int l4), (5, .int l5)] → W p l e R s m args below meth c H locs cells slots Q (F0 m 6 ls []) := by
  intro l1 l2 l3 l4 l5 x H locs ls  hw hW hS hl
  unfold j_Mod_level_6 at hw
  refine lv_iload hx hb d_Mod_level_6 (lv_at hl 5 rfl) ?_
  refine lv_iconst (v := (-1)) hx hb d_Mod_level_8 (by decide) ?_
  refine lv_icmp_eq (tgt := 74) hx hb d_Mod_level_9 (by decide) (fun c380 => ?_) (fun c380 => ?_)
  · have hw := hw.1 c380
    refine lv_iload hx hb d_Mod_level_74 (lv_at hl 4 rfl) ?_
    exact hret l4 x H locs 76 ls d_Mod_level_76 hw hW hS
  · have hw := hw.2 c380
    refine lv_aload_n hx hb d_Mod_level_12 rfl (lv_at hl 0 rfl) ?_
    refine w_getf (q := 3) (k := 5) (t := 12) (C := R_Mod) (T := F_Mod) (N := 167) hx hb hT hown hK hW ko_0.1 ko_0.2 (by decide) in_Mod rfl rfl (by decide) rfl fr_Mod_5 w_8_181 d_Mod_level_13 rfl ?_
    refine lv_iload_n hx hb d_Mod_level_16 rfl (lv_at hl 1 rfl) ?_
    refine lv_iload hx hb d_Mod_level_17 (lv_at hl 5 rfl) ?_
    have hF := hW.free hS hA
    refine va_calli (va_runS (As := [.int l1, .int l5]) (rest := [.ref (ad 3)]) ⟨hx, hb, hml, hown, hT⟩ (k_Mod_place l dC dI cI cB cJ cZ ad H.size l1 l5 x  hw) ⟨callB_of 2 hT (gwt_in w_11_30) rfl rfl rfl (hT _ w_1_15) (hT _ w_11_28) (by decide +kernel) ⟨Nat.le_trans (Nat.le_of_ble_eq_true rfl) hRf, Nat.le_trans (Nat.le_of_ble_eq_true rfl) hRl⟩, hT _ w_11_29⟩ ⟨PW.blind, PW.at _ hW hK hN⟩ rfl rfl hl.1 rfl (lv_room (Nat.le_of_ble_eq_true rfl)) d_Mod_level_19 ⟨hRc, hRs⟩) hS (fun q _ h => hF q h) hF (fun r382 x381 t H locs ht hvm hw hB hz1 hk1 hS => ?_)
    have hW := Wd.back hB ht hF
    clear hB ht hF hz1 hk1 hvm
    obtain ⟨hi, hw⟩ := hw
    refine w_iald (o := 3) hx hb hK hW ko_3.1 ko_3.2 hi d_Mod_level_22 ?_
    refine lv_topi (fun v383 ev383 => ?_)
    have hw := hw v383 ev383
    refine lv_istore (lv' := [(6, .int v383), (0, .ref (ad 0)), (1, .int l1), (2, .int l2), (3, .int l3), (4, .int l4), (5, .int l5)]) hx hb d_Mod_level_23 hl (by decide) rfl (fun ls hl => ?_)
    refine lv_iload hx hb d_Mod_level_25 (lv_at hl 5 rfl) ?_
    refine lv_iload_n hx hb d_Mod_level_27 rfl (lv_at hl 4 rfl) ?_
    refine lv_if_eq (tgt := 45) hx hb d_Mod_level_28 (by decide) (fun c384 => ?_) (fun c384 => ?_)
    · have hw := hw.1 c384
      refine lv_iload hx hb d_Mod_level_45 (lv_at hl 0 rfl) ?_
      refine lv_if_eq (tgt := 54) hx hb d_Mod_level_47 (by decide) (fun c385 => ?_) (fun c385 => ?_)
      · have hw := hw.1 c385
        refine lv_iconst (v := 0) hx hb d_Mod_level_54 (by decide) ?_
        exact t_Mod_level_55 hx hb hml hown hT hK hN hA hRc hRs hRf hRl hret hrec6 l1 l2 l3 l4 l5 v383 0 l4 x381 H locs ls  hw hW hS (lv_sub hl [1, 2, 3, 4, 5, 6, 0] rfl)
      · have hw := hw.2 c385
        refine lv_iconst (v := 1) hx hb d_Mod_level_50 (by decide) ?_
        refine lv_goto (tgt := 55) hx hb d_Mod_level_51 (by decide) ?_
        exact t_Mod_level_55 hx hb hml hown hT hK hN hA hRc hRs hRf hRl hret hrec6 l1 l2 l3 l4 l5 v383 1 l4 x381 H locs ls  hw hW hS (lv_sub hl [1, 2, 3, 4, 5, 6, 0] rfl)
    · have hw := hw.2 c384
      refine lv_iload hx hb d_Mod_level_31 (lv_at hl 0 rfl) ?_
      refine lv_iconst (v := 2) hx hb d_Mod_level_33 (by decide) ?_
      refine lv_icmp_ne (tgt := 41) hx hb d_Mod_level_34 (by decide) (fun c386 => ?_) (fun c386 => ?_)
      · have hw := hw.1 c386
        refine lv_iconst (v := 0) hx hb d_Mod_level_41 (by decide) ?_
        refine lv_goto (tgt := 55) hx hb d_Mod_level_42 (by decide) ?_
        exact t_Mod_level_55 hx hb hml hown hT hK hN hA hRc hRs hRf hRl hret hrec6 l1 l2 l3 l4 l5 v383 0 l4 x381 H locs ls  hw hW hS (lv_sub hl [1, 2, 3, 4, 5, 6, 0] rfl)
      · have hw := hw.2 c386
        refine lv_iconst (v := 1) hx hb d_Mod_level_37 (by decide) ?_
        refine lv_goto (tgt := 55) hx hb d_Mod_level_38 (by decide) ?_
        exact t_Mod_level_55 hx hb hml hown hT hK hN hA hRc hRs hRf hRl hret hrec6 l1 l2 l3 l4 l5 v383 1 l4 x381 H locs ls  hw hW hS (lv_sub hl [1, 2, 3, 4, 5, 6, 0] rfl)
set_option maxHeartbeats 4000000 in
set_option maxRecDepth 100000 in
theorem tl_Mod_level_6 {p : Program} {l : Launch} {e : Env} {R : Room} {s : State} {m : MethodId} {args : Array Value} {below : List Frame} {meth : Method} {c : Code} {cells slots : Nat} {Q : State → Prop} {dC : Nat → ClassId} {dI : Nat → Nat → Nat} {cI cB cJ cZ : ClassId} {A : Nat → Prop} {ad : Nat → Nat} {post : Int32 → St → Prop} (hx : p.tables.exec = Jvm.exec) (hb : c.code = b_Mod_level) (hml : c.maxLocals = 7) (hown : s.vm.findClass R_Mod = some m.cls) (hT : ∀ w ∈ TG, w.before args s = true) (hK : va_K (dC, dI) CL (TY cI cB cJ cZ) s) (hN : NW s) (hA : ∀ q : Nat, s.heap.size ≤ q → A q) (hRc : cells ≤ R.cells) (hRs : slots ≤ R.slots) (hRf : 1 ≤ R.frames) (hRl : 21 ≤ R.locals) (hret : ∀ (r : Int32) (x : St) (H : Heap) (locs : List Loc) (pc : Nat) (ls : Array Slot), decode b_Mod_level pc = .ok (.ireturn, 1) → post r x → Wd dC dI cI cB cJ cZ ad stM kcM 115 A x H → va_S A s.heap H locs → W p l e R s m args below meth c H locs cells slots Q (F0 m pc ls [.int r]))  : ∀ n : Nat, ∀ (l1 : Int32) (l2 : Int32) (l3 : Int32) (l4 : Int32) (l5 : Int32) (x : St) (H : Heap) (locs : List Loc) (ls : Array Slot), wl_Mod_level_6 post n l1 l2 l3 l4 l5 x → Wd dC dI cI cB cJ cZ ad stM kcM 115 A x H → va_S A s.heap H locs → lv_has ls 7 [(0, .ref (ad 0)), (1, .int l1), (2, .int l2), (3, .int l3), (4, .int l4), (5, .int l5)] → W p l e R s m args below meth c H locs cells slots Q (F0 m 6 ls []) := by
  intro n
  induction n with
  | zero => intro l1 l2 l3 l4 l5 x H locs ls  hw; exact hw.elim
  | succ n ih => intro l1 l2 l3 l4 l5 x H locs ls  hw hW hS hl; exact t_Mod_level_6 hx hb hml hown hT hK hN hA hRc hRs hRf hRl hret  ih l1 l2 l3 l4 l5 x H locs ls  hw hW hS hl
set_option maxRecDepth 100000 in
set_option maxHeartbeats 4000000 in
set_option maxRecDepth 100000 in
theorem t_Mod_level_e {p : Program} {l : Launch} {e : Env} {R : Room} {s : State} {m : MethodId} {args : Array Value} {below : List Frame} {meth : Method} {c : Code} {cells slots : Nat} {Q : State → Prop} {dC : Nat → ClassId} {dI : Nat → Nat → Nat} {cI cB cJ cZ : ClassId} {A : Nat → Prop} {ad : Nat → Nat} {post : Int32 → St → Prop} (hx : p.tables.exec = Jvm.exec) (hb : c.code = b_Mod_level) (hml : c.maxLocals = 7) (hown : s.vm.findClass R_Mod = some m.cls) (hT : ∀ w ∈ TG, w.before args s = true) (hK : va_K (dC, dI) CL (TY cI cB cJ cZ) s) (hN : NW s) (hA : ∀ q : Nat, s.heap.size ≤ q → A q) (hRc : cells ≤ R.cells) (hRs : slots ≤ R.slots) (hRf : 1 ≤ R.frames) (hRl : 21 ≤ R.locals) (hret : ∀ (r : Int32) (x : St) (H : Heap) (locs : List Loc) (pc : Nat) (ls : Array Slot), decode b_Mod_level pc = .ok (.ireturn, 1) → post r x → Wd dC dI cI cB cJ cZ ad stM kcM 115 A x H → va_S A s.heap H locs → W p l e R s m args below meth c H locs cells slots Q (F0 m pc ls [.int r])) : ∀ (l1 : Int32) (l2 : Int32) (l3 : Int32) (x : St) (H : Heap) (locs : List Loc) (ls : Array Slot), wp_Mod_level post l1 l2 l3 x → Wd dC dI cI cB cJ cZ ad stM kcM 115 A x H → va_S A s.heap H locs → lv_has ls 7 [(0, .ref (ad 0)), (1, .int l1), (2, .int l2), (3, .int l3)] → W p l e R s m args below meth c H locs cells slots Q (F0 m 0 ls []) := by
  intro l1 l2 l3 x H locs ls  hw hW hS hl
  unfold wp_Mod_level at hw
  refine lv_iconst (v := 0) hx hb d_Mod_level_0 (by decide) ?_
  refine lv_istore (lv' := [(4, .int 0), (0, .ref (ad 0)), (1, .int l1), (2, .int l2), (3, .int l3)]) hx hb d_Mod_level_1 hl (by decide) rfl (fun ls hl => ?_)
  refine lv_iload_n hx hb d_Mod_level_3 rfl (lv_at hl 3 rfl) ?_
  refine lv_istore (lv' := [(5, .int l2), (4, .int 0), (0, .ref (ad 0)), (1, .int l1), (2, .int l2), (3, .int l3)]) hx hb d_Mod_level_4 hl (by decide) rfl (fun ls hl => ?_)
  obtain ⟨n, hw⟩ := hw
  exact tl_Mod_level_6 hx hb hml hown hT hK hN hA hRc hRs hRf hRl hret  n l1 l2 l3 0 l2 x H locs ls  hw hW hS (lv_sub hl [2, 3, 4, 5, 1, 0] rfl)
set_option maxHeartbeats 4000000 in
set_option maxRecDepth 100000 in
theorem k_Mod_level (l : Launch) (dC : Nat → ClassId) (dI : Nat → Nat → Nat) (cI cB cJ cZ : ClassId) (ad : Nat → Nat) (sz : Nat) (l1 : Int32) (l2 : Int32) (l3 : Int32) (x : St) {post : Int32 → St → Prop} (hw : wp_Mod_level post l1 l2 l3 x) : Met l y_Mod_level (wsOf y_Mod_level b_Mod_level 7 (some (.int))) ({ frames := 1, cells := 0, slots := 0, locals := 21 }) (va_Pc [.ref (ad 0), .int l1, .int l2, .int l3] (PW dC dI cI cB cJ cZ ad stM kcM 115 sz x)) (va_Qi (fun (r : Int32) (y : St) => post r y) (fun y t => Wd dC dI cI cB cJ cZ ad stM kcM 115 (va_A (pic ad stM kcM 115 cI cB cJ cZ x) sz) y t.heap) (va_A (pic ad stM kcM 115 cI cB cJ cZ x) sz)) 0 0 (va_A (pic ad stM kcM 115 cI cB cJ cZ x) sz) := by
  refine Met.ofW (cc := b_Mod_level) (maxL := 7) (ret := some (.int)) (by decide) rfl ?_
  intro p e s m args below meth c s₁ B hml hv
  obtain ⟨rfl, hsz, hW0, hK, hN⟩ := hv
  have hx := B.exec
  have hb := B.bytes
  have hr := B.returns
  have hts := atoms_spec B.pre
  have hT : ∀ w ∈ TG, w.before _ s = true := fun w h => hts w (List.mem_cons_of_mem _ h)
  have hown : s.vm.findClass R_Mod = some m.cls := findClass_of_methodNamed B.named
  have hlocks := B.notSynchronized
  subst hsz
  have hW : Wd dC dI cI cB cJ cZ ad stM kcM 115 (va_A (pic ad stM kcM 115 cI cB cJ cZ x) s.heap.size) x s.heap := ⟨hW0.1, hW0.2.1.self (sz := s.heap.size), hW0.2.2⟩
  generalize hAe : va_A (pic ad stM kcM 115 cI cB cJ cZ x) s.heap.size = A at hW ⊢
  have hA : ∀ q : Nat, s.heap.size ≤ q → A q := fun q h => by rw [← hAe]; exact Or.inr h
  have hS : va_S A s.heap s.heap [] := va_S.rf
  have hl := lv_entry ([.ref (ad 0), .int l1, .int l2, .int l3]) (n := 7) (Nat.le_of_ble_eq_true rfl)
  rw [lg_entry_eq]
  generalize (lg_sl ([.ref (ad 0), .int l1, .int l2, .int l3]) ++ List.replicate (7 - (lg_sl ([.ref (ad 0), .int l1, .int l2, .int l3])).length) Slot.unset).toArray = ls at hl ⊢
  have hl : lv_has ls 7 [(0, .ref (ad 0)), (1, .int l1), (2, .int l2), (3, .int l3)] := hl
  exact t_Mod_level_e hx hb hml hown hT hK hN hA (Nat.le_refl 0) (Nat.le_refl 0) (Nat.le_refl 1) (Nat.le_refl 21) (fun r x H locs pc ls hd hp hW hS => W.iret (v := r) hx hb hr (fun t ht hM => ⟨⟨r, x, rfl, hp, Wd.back hW ht.symm (fun _ z => z)⟩, hS.F ht⟩) hS.2.2 hd hlocks)  l1 l2 l3 x _ _ ls  hw hW hS hl
set_option maxRecDepth 100000 in
set_option maxHeartbeats 4000000 in
set_option maxRecDepth 100000 in
theorem t_Mod_entry_146 {p : Program} {l : Launch} {e : Env} {R : Room} {s : State} {m : MethodId} {args : Array Value} {below : List Frame} {meth : Method} {c : Code} {cells slots : Nat} {Q : State → Prop} {dC : Nat → ClassId} {dI : Nat → Nat → Nat} {cI cB cJ cZ : ClassId} {A : Nat → Prop} {ad : Nat → Nat} {post : St → Prop} {rec146 : Int32 → Int32 → Int32 → Int32 → Int32 → St → Prop} (hx : p.tables.exec = Jvm.exec) (hb : c.code = b_Mod_entry) (hml : c.maxLocals = 6) (hown : s.vm.findClass R_Mod = some m.cls) (hT : ∀ w ∈ TG, w.before args s = true) (hK : va_K (dC, dI) CL (TY cI cB cJ cZ) s) (hN : NW s) (hA : ∀ q : Nat, s.heap.size ≤ q → A q) (hRc : cells ≤ R.cells) (hRs : slots ≤ R.slots) (hRf : 0 ≤ R.frames) (hRl : 0 ≤ R.locals) (hret : ∀ (x : St) (H : Heap) (locs : List Loc) (pc : Nat) (ls : Array Slot), decode b_Mod_entry pc = .ok (.return_, 1) → post x → Wd dC dI cI cB cJ cZ ad stM kcM 115 A x H → va_S A s.heap H locs → W p l e R s m args below meth c H locs cells slots Q (F0 m pc ls [])) (hrec146 : ∀ (l1 : Int32) (l2 : Int32) (l3 : Int32) (l4 : Int32) (l5 : Int32) (x : St) (H : Heap) (locs : List Loc) (ls : Array Slot), rec146 l1 l2 l3 l4 l5 x → Wd dC dI cI cB cJ cZ ad stM kcM 115 A x H → va_S A s.heap H locs → lv_has ls 6 [(0, .ref (ad 0)), (1, .int l1), (2, .int l2), (3, .int l3), (4, .int l4), (5, .int l5)] → W p l e R s m args below meth c H locs cells slots Q (F0 m 146 ls [])) : ∀ (l1 : Int32) (l2 : Int32) (l3 : Int32) (l4 : Int32) (l5 : Int32) (x : St) (H : Heap) (locs : List Loc) (ls : Array Slot), j_Mod_entry_146 post rec146 l1 l2 l3 l4 l5 x → Wd dC dI cI cB cJ cZ ad stM kcM 115 A x H → va_S A s.heap H locs → lv_has ls 6 [(0, .ref (ad 0)), (1, .int l1), (2, .int l2), (3, .int l3), (4, .int l4), (5, .int l5)] → W p l e R s m args below meth c H locs cells slots Q (F0 m 146 ls []) := by
  intro l1 l2 l3 l4 l5 x H locs ls  hw hW hS hl
  unfold j_Mod_entry_146 at hw
  refine lv_iload hx hb d_Mod_entry_146 (lv_at hl 5 rfl) ?_
  refine lv_aload_n hx hb d_Mod_entry_148 rfl (lv_at hl 0 rfl) ?_
  refine w_getf (q := 22) (k := 30) (t := 12) (C := R_Mod) (T := F_Mod) (N := 167) hx hb hT hown hK hW ko_0.1 ko_0.2 (by decide) in_Mod rfl rfl (by decide) rfl fr_Mod_30 w_8_206 d_Mod_entry_149 rfl ?_
  refine lv_aload_n hx hb d_Mod_entry_152 rfl (lv_at hl 0 rfl) ?_
  refine w_geti (k := 35) (t := 12) (C := R_Mod) (T := F_Mod) (N := 167) hx hb hT hown hK hW ko_0.1 ko_0.2 (by decide) in_Mod rfl rfl (by decide) rfl fr_Mod_35 w_8_211 d_Mod_entry_153 ?_
  obtain ⟨hi, hw⟩ := hw
  refine w_iald (o := 22) hx hb hK hW ko_22.1 ko_22.2 hi d_Mod_entry_156 ?_
  refine lv_icmp_ge (tgt := 193) hx hb d_Mod_entry_157 (by decide) (fun c387 => ?_) (fun c387 => ?_)
  · have hw := hw.1 c387
    refine lv_aload_n hx hb d_Mod_entry_193 rfl (lv_at hl 0 rfl) ?_
    refine lv_dup hx hb d_Mod_entry_194 rfl ?_
    refine w_geti (k := 36) (t := 12) (C := R_Mod) (T := F_Mod) (N := 167) hx hb hT hown hK hW ko_0.1 ko_0.2 (by decide) in_Mod rfl rfl (by decide) rfl fr_Mod_36 w_8_212 d_Mod_entry_195 ?_
    refine lv_aload_n hx hb d_Mod_entry_198 rfl (lv_at hl 0 rfl) ?_
    refine w_getf (q := 22) (k := 30) (t := 12) (C := R_Mod) (T := F_Mod) (N := 167) hx hb hT hown hK hW ko_0.1 ko_0.2 (by decide) in_Mod rfl rfl (by decide) rfl fr_Mod_30 w_8_206 d_Mod_entry_199 rfl ?_
    refine lv_aload_n hx hb d_Mod_entry_202 rfl (lv_at hl 0 rfl) ?_
    refine w_geti (k := 35) (t := 12) (C := R_Mod) (T := F_Mod) (N := 167) hx hb hT hown hK hW ko_0.1 ko_0.2 (by decide) in_Mod rfl rfl (by decide) rfl fr_Mod_35 w_8_211 d_Mod_entry_203 ?_
    obtain ⟨hi, hw⟩ := hw
    refine w_iald (o := 22) hx hb hK hW ko_22.1 ko_22.2 hi d_Mod_entry_206 ?_
    refine lv_iadd hx hb d_Mod_entry_207 ?_
    refine w_puti (ty := .int) (k := 36) (t := 12) (C := R_Mod) (T := F_Mod) (N := 167) hx hb hT hown hK hW hS ko_0.1 ko_0.2 (by decide) in_Mod t_Mod t_Mod_ok n_Mod rfl rfl (by decide) rfl fr_Mod_36 w_8_212 (by decide +kernel) rfl rfl d_Mod_entry_208 (fun H locs hW hS => ?_)
    obtain ⟨x388, ex388⟩ : ∃ y : St, y = setI x 0 36 ((fI x 0 36) + (rA x 22 (fI x 0 35))) := ⟨_, rfl⟩
    rw [← ex388] at hW
    have hw := hw x388 ex388
    refine lv_aload_n hx hb d_Mod_entry_211 rfl (lv_at hl 0 rfl) ?_
    refine lv_dup hx hb d_Mod_entry_212 rfl ?_
    refine w_geti (k := 35) (t := 12) (C := R_Mod) (T := F_Mod) (N := 167) hx hb hT hown hK hW ko_0.1 ko_0.2 (by decide) in_Mod rfl rfl (by decide) rfl fr_Mod_35 w_8_211 d_Mod_entry_213 ?_
    refine lv_iconst (v := 1) hx hb d_Mod_entry_216 (by decide) ?_
    refine lv_iadd hx hb d_Mod_entry_217 ?_
    refine w_puti (ty := .int) (k := 35) (t := 12) (C := R_Mod) (T := F_Mod) (N := 167) hx hb hT hown hK hW hS ko_0.1 ko_0.2 (by decide) in_Mod t_Mod t_Mod_ok n_Mod rfl rfl (by decide) rfl fr_Mod_35 w_8_211 (by decide +kernel) rfl rfl d_Mod_entry_218 (fun H locs hW hS => ?_)
    obtain ⟨x389, ex389⟩ : ∃ y : St, y = setI x388 0 35 ((fI x388 0 35) + 1) := ⟨_, rfl⟩
    rw [← ex389] at hW
    have hw := hw x389 ex389
    exact hret x389 H locs 221 ls d_Mod_entry_221 hw hW hS
  · have hw := hw.2 c387
    refine lv_aload_n hx hb d_Mod_entry_160 rfl (lv_at hl 0 rfl) ?_
    refine w_getf (q := 24) (k := 32) (t := 12) (C := R_Mod) (T := F_Mod) (N := 167) hx hb hT hown hK hW ko_0.1 ko_0.2 (by decide) in_Mod rfl rfl (by decide) rfl fr_Mod_32 w_8_208 d_Mod_entry_161 rfl ?_
    refine lv_aload_n hx hb d_Mod_entry_164 rfl (lv_at hl 0 rfl) ?_
    refine w_geti (k := 36) (t := 12) (C := R_Mod) (T := F_Mod) (N := 167) hx hb hT hown hK hW ko_0.1 ko_0.2 (by decide) in_Mod rfl rfl (by decide) rfl fr_Mod_36 w_8_212 d_Mod_entry_165 ?_
    refine lv_iload hx hb d_Mod_entry_168 (lv_at hl 5 rfl) ?_
    refine lv_iadd hx hb d_Mod_entry_170 ?_
    refine lv_aload_n hx hb d_Mod_entry_171 rfl (lv_at hl 0 rfl) ?_
    refine w_getf (q := 16) (k := 22) (t := 12) (C := R_Mod) (T := F_Mod) (N := 167) hx hb hT hown hK hW ko_0.1 ko_0.2 (by decide) in_Mod rfl rfl (by decide) rfl fr_Mod_22 w_8_198 d_Mod_entry_172 rfl ?_
    refine lv_aload_n hx hb d_Mod_entry_175 rfl (lv_at hl 0 rfl) ?_
    refine w_getf (q := 14) (k := 20) (t := 12) (C := R_Mod) (T := F_Mod) (N := 167) hx hb hT hown hK hW ko_0.1 ko_0.2 (by decide) in_Mod rfl rfl (by decide) rfl fr_Mod_20 w_8_196 d_Mod_entry_176 rfl ?_
    refine lv_iload hx hb d_Mod_entry_179 (lv_at hl 4 rfl) ?_
    obtain ⟨hi, hw⟩ := hw
    refine w_iald (o := 14) hx hb hK hW ko_14.1 ko_14.2 hi d_Mod_entry_181 ?_
    refine lv_iload hx hb d_Mod_entry_182 (lv_at hl 5 rfl) ?_
    refine lv_iadd hx hb d_Mod_entry_184 ?_
    obtain ⟨hi, hw⟩ := hw
    refine w_iald (o := 16) hx hb hK hW ko_16.1 ko_16.2 hi d_Mod_entry_185 ?_
    obtain ⟨hi, hw⟩ := hw
    refine w_iast (o := 24) hx hb hK hW hS ko_24.1 ko_24.2 hi d_Mod_entry_186 (fun H locs hW hS => ?_)
    obtain ⟨x390, ex390⟩ : ∃ y : St, y = setA x 24 ((fI x 0 36) + l5) (rA x 16 ((rA x 14 l4) + l5)) := ⟨_, rfl⟩
    rw [← ex390] at hW
    have hw := hw x390 ex390
    refine lv_iinc (v := (l5 + 1)) (lv' := [(5, .int (l5 + 1)), (0, .ref (ad 0)), (1, .int l1), (2, .int l2), (3, .int l3), (4, .int l4)]) hx hb d_Mod_entry_187 hl (k := 5) rfl rfl (by decide) rfl (fun ls hl => ?_)
    refine lv_goto (tgt := 146) hx hb d_Mod_entry_190 (by decide) ?_
    exact hrec146 l1 l2 l3 l4 (l5 + 1) x390 H locs ls  hw hW hS (lv_sub hl [1, 2, 3, 4, 5, 0] rfl)
set_option maxHeartbeats 4000000 in
set_option maxRecDepth 100000 in
theorem tl_Mod_entry_146 {p : Program} {l : Launch} {e : Env} {R : Room} {s : State} {m : MethodId} {args : Array Value} {below : List Frame} {meth : Method} {c : Code} {cells slots : Nat} {Q : State → Prop} {dC : Nat → ClassId} {dI : Nat → Nat → Nat} {cI cB cJ cZ : ClassId} {A : Nat → Prop} {ad : Nat → Nat} {post : St → Prop} (hx : p.tables.exec = Jvm.exec) (hb : c.code = b_Mod_entry) (hml : c.maxLocals = 6) (hown : s.vm.findClass R_Mod = some m.cls) (hT : ∀ w ∈ TG, w.before args s = true) (hK : va_K (dC, dI) CL (TY cI cB cJ cZ) s) (hN : NW s) (hA : ∀ q : Nat, s.heap.size ≤ q → A q) (hRc : cells ≤ R.cells) (hRs : slots ≤ R.slots) (hRf : 0 ≤ R.frames) (hRl : 0 ≤ R.locals) (hret : ∀ (x : St) (H : Heap) (locs : List Loc) (pc : Nat) (ls : Array Slot), decode b_Mod_entry pc = .ok (.return_, 1) → post x → Wd dC dI cI cB cJ cZ ad stM kcM 115 A x H → va_S A s.heap H locs → W p l e R s m args below meth c H locs cells slots Q (F0 m pc ls []))  : ∀ n : Nat, ∀ (l1 : Int32) (l2 : Int32) (l3 : Int32) (l4 : Int32) (l5 : Int32) (x : St) (H : Heap) (locs : List Loc) (ls : Array Slot), wl_Mod_entry_146 post n l1 l2 l3 l4 l5 x → Wd dC dI cI cB cJ cZ ad stM kcM 115 A x H → va_S A s.heap H locs → lv_has ls 6 [(0, .ref (ad 0)), (1, .int l1), (2, .int l2), (3, .int l3), (4, .int l4), (5, .int l5)] → W p l e R s m args below meth c H locs cells slots Q (F0 m 146 ls []) := by
  intro n
  induction n with
  | zero => intro l1 l2 l3 l4 l5 x H locs ls  hw; exact hw.elim
  | succ n ih => intro l1 l2 l3 l4 l5 x H locs ls  hw hW hS hl; exact t_Mod_entry_146 hx hb hml hown hT hK hN hA hRc hRs hRf hRl hret  ih l1 l2 l3 l4 l5 x H locs ls  hw hW hS hl
set_option maxRecDepth 100000 in
set_option maxHeartbeats 4000000 in
set_option maxRecDepth 100000 in
theorem t_Mod_entry_117 {p : Program} {l : Launch} {e : Env} {R : Room} {s : State} {m : MethodId} {args : Array Value} {below : List Frame} {meth : Method} {c : Code} {cells slots : Nat} {Q : State → Prop} {dC : Nat → ClassId} {dI : Nat → Nat → Nat} {cI cB cJ cZ : ClassId} {A : Nat → Prop} {ad : Nat → Nat} {post : St → Prop} (hx : p.tables.exec = Jvm.exec) (hb : c.code = b_Mod_entry) (hml : c.maxLocals = 6) (hown : s.vm.findClass R_Mod = some m.cls) (hT : ∀ w ∈ TG, w.before args s = true) (hK : va_K (dC, dI) CL (TY cI cB cJ cZ) s) (hN : NW s) (hA : ∀ q : Nat, s.heap.size ≤ q → A q) (hRc : cells ≤ R.cells) (hRs : slots ≤ R.slots) (hRf : 0 ≤ R.frames) (hRl : 0 ≤ R.locals) (hret : ∀ (x : St) (H : Heap) (locs : List Loc) (pc : Nat) (ls : Array Slot), decode b_Mod_entry pc = .ok (.return_, 1) → post x → Wd dC dI cI cB cJ cZ ad stM kcM 115 A x H → va_S A s.heap H locs → W p l e R s m args below meth c H locs cells slots Q (F0 m pc ls []))  : ∀ (l1 : Int32) (l2 : Int32) (l3 : Int32) (l4 : Int32) (s0 : Int32) (s1 : Int32) (s2 : Nat) (x : St) (H : Heap) (locs : List Loc) (ls : Array Slot), (s2 < 115 ∧ kcM s2 = 20) → j_Mod_entry_117 post l1 l2 l3 l4 s0 s1 s2 x → Wd dC dI cI cB cJ cZ ad stM kcM 115 A x H → va_S A s.heap H locs → lv_has ls 6 [(0, .ref (ad 0)), (1, .int l1), (2, .int l2), (3, .int l3), (4, .int l4)] → W p l e R s m args below meth c H locs cells slots Q (F0 m 117 ls [.int s0, .int s1, .ref (ad s2)]) := by
  intro l1 l2 l3 l4 s0 s1 s2 x H locs ls fs2 hw hW hS hl
  unfold j_Mod_entry_117 at hw
  obtain ⟨hi, hw⟩ := hw
  refine w_iast (o := s2) hx hb hK hW hS fs2.1 fs2.2 hi d_Mod_entry_117 (fun H locs hW hS => ?_)
  obtain ⟨x391, ex391⟩ : ∃ y : St, y = setA x s2 s1 s0 := ⟨_, rfl⟩
  rw [← ex391] at hW
  have hw := hw x391 ex391
  refine lv_aload_n hx hb d_Mod_entry_118 rfl (lv_at hl 0 rfl) ?_
  refine w_geti (k := 36) (t := 12) (C := R_Mod) (T := F_Mod) (N := 167) hx hb hT hown hK hW ko_0.1 ko_0.2 (by decide) in_Mod rfl rfl (by decide) rfl fr_Mod_36 w_8_212 d_Mod_entry_119 ?_
  refine lv_aload_n hx hb d_Mod_entry_122 rfl (lv_at hl 0 rfl) ?_
  refine w_getf (q := 22) (k := 30) (t := 12) (C := R_Mod) (T := F_Mod) (N := 167) hx hb hT hown hK hW ko_0.1 ko_0.2 (by decide) in_Mod rfl rfl (by decide) rfl fr_Mod_30 w_8_206 d_Mod_entry_123 rfl ?_
  refine lv_aload_n hx hb d_Mod_entry_126 rfl (lv_at hl 0 rfl) ?_
  refine w_geti (k := 35) (t := 12) (C := R_Mod) (T := F_Mod) (N := 167) hx hb hT hown hK hW ko_0.1 ko_0.2 (by decide) in_Mod rfl rfl (by decide) rfl fr_Mod_35 w_8_211 d_Mod_entry_127 ?_
  obtain ⟨hi, hw⟩ := hw
  refine w_iald (o := 22) hx hb hK hW ko_22.1 ko_22.2 hi d_Mod_entry_130 ?_
  refine lv_iadd hx hb d_Mod_entry_131 ?_
  refine lv_ldc hx hb hown (hT _ w_8_172) d_Mod_entry_132 ?_
  refine lv_icmp_le (tgt := 143) hx hb d_Mod_entry_134 (by decide) (fun c392 => ?_) (fun c392 => ?_)
  · have hw := hw.1 c392
    refine lv_iconst (v := 0) hx hb d_Mod_entry_143 (by decide) ?_
    refine lv_istore (lv' := [(5, .int 0), (0, .ref (ad 0)), (1, .int l1), (2, .int l2), (3, .int l3), (4, .int l4)]) hx hb d_Mod_entry_144 hl (by decide) rfl (fun ls hl => ?_)
    obtain ⟨n, hw⟩ := hw
    exact tl_Mod_entry_146 hx hb hml hown hT hK hN hA hRc hRs hRf hRl hret  n l1 l2 l3 l4 0 x391 H locs ls  hw hW hS (lv_sub hl [1, 2, 3, 4, 5, 0] rfl)
  · have hw := hw.2 c392
    refine lv_aload_n hx hb d_Mod_entry_137 rfl (lv_at hl 0 rfl) ?_
    refine lv_iconst (v := 1) hx hb d_Mod_entry_138 (by decide) ?_
    refine w_puti (ty := .boolean) (k := 37) (t := 12) (C := R_Mod) (T := F_Mod) (N := 167) hx hb hT hown hK hW hS ko_0.1 ko_0.2 (by decide) in_Mod t_Mod t_Mod_ok n_Mod rfl rfl (by decide) rfl fr_Mod_37 w_8_213 (by decide +kernel) rfl rfl d_Mod_entry_139 (fun H locs hW hS => ?_)
    obtain ⟨x393, ex393⟩ : ∃ y : St, y = setI x391 0 37 1 := ⟨_, rfl⟩
    rw [← ex393] at hW
    have hw := hw x393 ex393
    exact hret x393 H locs 142 ls d_Mod_entry_142 hw hW hS
set_option maxRecDepth 100000 in
set_option maxHeartbeats 4000000 in
set_option maxRecDepth 100000 in
theorem t_Mod_entry_78 {p : Program} {l : Launch} {e : Env} {R : Room} {s : State} {m : MethodId} {args : Array Value} {below : List Frame} {meth : Method} {c : Code} {cells slots : Nat} {Q : State → Prop} {dC : Nat → ClassId} {dI : Nat → Nat → Nat} {cI cB cJ cZ : ClassId} {A : Nat → Prop} {ad : Nat → Nat} {post : St → Prop} (hx : p.tables.exec = Jvm.exec) (hb : c.code = b_Mod_entry) (hml : c.maxLocals = 6) (hown : s.vm.findClass R_Mod = some m.cls) (hT : ∀ w ∈ TG, w.before args s = true) (hK : va_K (dC, dI) CL (TY cI cB cJ cZ) s) (hN : NW s) (hA : ∀ q : Nat, s.heap.size ≤ q → A q) (hRc : cells ≤ R.cells) (hRs : slots ≤ R.slots) (hRf : 0 ≤ R.frames) (hRl : 0 ≤ R.locals) (hret : ∀ (x : St) (H : Heap) (locs : List Loc) (pc : Nat) (ls : Array Slot), decode b_Mod_entry pc = .ok (.return_, 1) → post x → Wd dC dI cI cB cJ cZ ad stM kcM 115 A x H → va_S A s.heap H locs → W p l e R s m args below meth c H locs cells slots Q (F0 m pc ls []))  : ∀ (l1 : Int32) (l2 : Int32) (l3 : Int32) (l4 : Int32) (s0 : Int64) (s1 : Int32) (s2 : Nat) (x : St) (H : Heap) (locs : List Loc) (ls : Array Slot), (s2 < 115 ∧ kcM s2 = 22) → j_Mod_entry_78 post l1 l2 l3 l4 s0 s1 s2 x → Wd dC dI cI cB cJ cZ ad stM kcM 115 A x H → va_S A s.heap H locs → lv_has ls 6 [(0, .ref (ad 0)), (1, .int l1), (2, .int l2), (3, .int l3), (4, .int l4)] → W p l e R s m args below meth c H locs cells slots Q (F0 m 78 ls [.long s0, .int s1, .ref (ad s2)]) := by
  intro l1 l2 l3 l4 s0 s1 s2 x H locs ls fs2 hw hW hS hl
  unfold j_Mod_entry_78 at hw
  obtain ⟨hi, hw⟩ := hw
  refine w_last (o := s2) hx hb hK hW hS fs2.1 fs2.2 hi d_Mod_entry_78 (fun H locs hW hS => ?_)
  obtain ⟨x394, ex394⟩ : ∃ y : St, y = setL x s2 s1 s0 := ⟨_, rfl⟩
  rw [← ex394] at hW
  have hw := hw x394 ex394
  refine lv_aload_n hx hb d_Mod_entry_79 rfl (lv_at hl 0 rfl) ?_
  refine w_getf (q := 21) (k := 29) (t := 12) (C := R_Mod) (T := F_Mod) (N := 167) hx hb hT hown hK hW ko_0.1 ko_0.2 (by decide) in_Mod rfl rfl (by decide) rfl fr_Mod_29 w_8_205 d_Mod_entry_80 rfl ?_
  refine lv_aload_n hx hb d_Mod_entry_83 rfl (lv_at hl 0 rfl) ?_
  refine w_geti (k := 35) (t := 12) (C := R_Mod) (T := F_Mod) (N := 167) hx hb hT hown hK hW ko_0.1 ko_0.2 (by decide) in_Mod rfl rfl (by decide) rfl fr_Mod_35 w_8_211 d_Mod_entry_84 ?_
  refine lv_aload_n hx hb d_Mod_entry_87 rfl (lv_at hl 0 rfl) ?_
  refine w_geti (k := 36) (t := 12) (C := R_Mod) (T := F_Mod) (N := 167) hx hb hT hown hK hW ko_0.1 ko_0.2 (by decide) in_Mod rfl rfl (by decide) rfl fr_Mod_36 w_8_212 d_Mod_entry_88 ?_
  obtain ⟨hi, hw⟩ := hw
  refine w_iast (o := 21) hx hb hK hW hS ko_21.1 ko_21.2 hi d_Mod_entry_91 (fun H locs hW hS => ?_)
  obtain ⟨x395, ex395⟩ : ∃ y : St, y = setA x394 21 (fI x394 0 35) (fI x394 0 36) := ⟨_, rfl⟩
  rw [← ex395] at hW
  have hw := hw x395 ex395
  refine lv_aload_n hx hb d_Mod_entry_92 rfl (lv_at hl 0 rfl) ?_
  refine w_getf (q := 22) (k := 30) (t := 12) (C := R_Mod) (T := F_Mod) (N := 167) hx hb hT hown hK hW ko_0.1 ko_0.2 (by decide) in_Mod rfl rfl (by decide) rfl fr_Mod_30 w_8_206 d_Mod_entry_93 rfl ?_
  refine lv_aload_n hx hb d_Mod_entry_96 rfl (lv_at hl 0 rfl) ?_
  refine w_geti (k := 35) (t := 12) (C := R_Mod) (T := F_Mod) (N := 167) hx hb hT hown hK hW ko_0.1 ko_0.2 (by decide) in_Mod rfl rfl (by decide) rfl fr_Mod_35 w_8_211 d_Mod_entry_97 ?_
  refine lv_iload hx hb d_Mod_entry_100 (lv_at hl 4 rfl) ?_
  refine lv_iconst (v := (-1)) hx hb d_Mod_entry_102 (by decide) ?_
  refine lv_icmp_ne (tgt := 110) hx hb d_Mod_entry_103 (by decide) (fun c396 => ?_) (fun c396 => ?_)
  · have hw := hw.1 c396
    refine lv_aload_n hx hb d_Mod_entry_110 rfl (lv_at hl 0 rfl) ?_
    refine w_getf (q := 15) (k := 21) (t := 12) (C := R_Mod) (T := F_Mod) (N := 167) hx hb hT hown hK hW ko_0.1 ko_0.2 (by decide) in_Mod rfl rfl (by decide) rfl fr_Mod_21 w_8_197 d_Mod_entry_111 rfl ?_
    refine lv_iload hx hb d_Mod_entry_114 (lv_at hl 4 rfl) ?_
    obtain ⟨hi, hw⟩ := hw
    refine w_iald (o := 15) hx hb hK hW ko_15.1 ko_15.2 hi d_Mod_entry_116 ?_
    exact t_Mod_entry_117 hx hb hml hown hT hK hN hA hRc hRs hRf hRl hret  l1 l2 l3 l4 (rA x395 15 l4) (fI x395 0 35) 22 x395 H locs ls ko_22 hw hW hS (lv_sub hl [0, 1, 2, 3, 4] rfl)
  · have hw := hw.2 c396
    refine lv_iconst (v := 0) hx hb d_Mod_entry_106 (by decide) ?_
    refine lv_goto (tgt := 117) hx hb d_Mod_entry_107 (by decide) ?_
    exact t_Mod_entry_117 hx hb hml hown hT hK hN hA hRc hRs hRf hRl hret  l1 l2 l3 l4 0 (fI x395 0 35) 22 x395 H locs ls ko_22 hw hW hS (lv_sub hl [0, 1, 2, 3, 4] rfl)
set_option maxRecDepth 100000 in
set_option maxHeartbeats 4000000 in
set_option maxRecDepth 100000 in
theorem t_Mod_entry_15 {p : Program} {l : Launch} {e : Env} {R : Room} {s : State} {m : MethodId} {args : Array Value} {below : List Frame} {meth : Method} {c : Code} {cells slots : Nat} {Q : State → Prop} {dC : Nat → ClassId} {dI : Nat → Nat → Nat} {cI cB cJ cZ : ClassId} {A : Nat → Prop} {ad : Nat → Nat} {post : St → Prop} (hx : p.tables.exec = Jvm.exec) (hb : c.code = b_Mod_entry) (hml : c.maxLocals = 6) (hown : s.vm.findClass R_Mod = some m.cls) (hT : ∀ w ∈ TG, w.before args s = true) (hK : va_K (dC, dI) CL (TY cI cB cJ cZ) s) (hN : NW s) (hA : ∀ q : Nat, s.heap.size ≤ q → A q) (hRc : cells ≤ R.cells) (hRs : slots ≤ R.slots) (hRf : 0 ≤ R.frames) (hRl : 0 ≤ R.locals) (hret : ∀ (x : St) (H : Heap) (locs : List Loc) (pc : Nat) (ls : Array Slot), decode b_Mod_entry pc = .ok (.return_, 1) → post x → Wd dC dI cI cB cJ cZ ad stM kcM 115 A x H → va_S A s.heap H locs → W p l e R s m args below meth c H locs cells slots Q (F0 m pc ls []))  : ∀ (l1 : Int32) (l2 : Int32) (l3 : Int32) (l4 : Int32) (x : St) (H : Heap) (locs : List Loc) (ls : Array Slot), j_Mod_entry_15 post l1 l2 l3 l4 x → Wd dC dI cI cB cJ cZ ad stM kcM 115 A x H → va_S A s.heap H locs → lv_has ls 6 [(0, .ref (ad 0)), (1, .int l1), (2, .int l2), (3, .int l3), (4, .int l4)] → W p l e R s m args below meth c H locs cells slots Q (F0 m 15 ls []) := by
  intro l1 l2 l3 l4 x H locs ls  hw hW hS hl
  unfold j_Mod_entry_15 at hw
  refine lv_aload_n hx hb d_Mod_entry_15 rfl (lv_at hl 0 rfl) ?_
  refine w_geti (k := 37) (t := 12) (C := R_Mod) (T := F_Mod) (N := 167) hx hb hT hown hK hW ko_0.1 ko_0.2 (by decide) in_Mod rfl rfl (by decide) rfl fr_Mod_37 w_8_213 d_Mod_entry_16 ?_
  refine lv_if_eq (tgt := 23) hx hb d_Mod_entry_19 (by decide) (fun c397 => ?_) (fun c397 => ?_)
  · have hw := hw.1 c397
    refine lv_aload_n hx hb d_Mod_entry_23 rfl (lv_at hl 0 rfl) ?_
    refine w_getf (q := 20) (k := 28) (t := 12) (C := R_Mod) (T := F_Mod) (N := 167) hx hb hT hown hK hW ko_0.1 ko_0.2 (by decide) in_Mod rfl rfl (by decide) rfl fr_Mod_28 w_8_204 d_Mod_entry_24 rfl ?_
    refine lv_aload_n hx hb d_Mod_entry_27 rfl (lv_at hl 0 rfl) ?_
    refine w_geti (k := 35) (t := 12) (C := R_Mod) (T := F_Mod) (N := 167) hx hb hT hown hK hW ko_0.1 ko_0.2 (by decide) in_Mod rfl rfl (by decide) rfl fr_Mod_35 w_8_211 d_Mod_entry_28 ?_
    refine lv_iload_n hx hb d_Mod_entry_31 rfl (lv_at hl 1 rfl) ?_
    obtain ⟨hi, hw⟩ := hw
    refine w_iast (o := 20) hx hb hK hW hS ko_20.1 ko_20.2 hi d_Mod_entry_32 (fun H locs hW hS => ?_)
    obtain ⟨x398, ex398⟩ : ∃ y : St, y = setA x 20 (fI x 0 35) l1 := ⟨_, rfl⟩
    rw [← ex398] at hW
    have hw := hw x398 ex398
    refine lv_aload_n hx hb d_Mod_entry_33 rfl (lv_at hl 0 rfl) ?_
    refine w_getf (q := 18) (k := 26) (t := 12) (C := R_Mod) (T := F_Mod) (N := 167) hx hb hT hown hK hW ko_0.1 ko_0.2 (by decide) in_Mod rfl rfl (by decide) rfl fr_Mod_26 w_8_202 d_Mod_entry_34 rfl ?_
    refine lv_aload_n hx hb d_Mod_entry_37 rfl (lv_at hl 0 rfl) ?_
    refine w_geti (k := 35) (t := 12) (C := R_Mod) (T := F_Mod) (N := 167) hx hb hT hown hK hW ko_0.1 ko_0.2 (by decide) in_Mod rfl rfl (by decide) rfl fr_Mod_35 w_8_211 d_Mod_entry_38 ?_
    refine lv_iload_n hx hb d_Mod_entry_41 rfl (lv_at hl 2 rfl) ?_
    obtain ⟨hi, hw⟩ := hw
    refine w_iast (o := 18) hx hb hK hW hS ko_18.1 ko_18.2 hi d_Mod_entry_42 (fun H locs hW hS => ?_)
    obtain ⟨x399, ex399⟩ : ∃ y : St, y = setA x398 18 (fI x398 0 35) l2 := ⟨_, rfl⟩
    rw [← ex399] at hW
    have hw := hw x399 ex399
    refine lv_aload_n hx hb d_Mod_entry_43 rfl (lv_at hl 0 rfl) ?_
    refine w_getf (q := 19) (k := 27) (t := 12) (C := R_Mod) (T := F_Mod) (N := 167) hx hb hT hown hK hW ko_0.1 ko_0.2 (by decide) in_Mod rfl rfl (by decide) rfl fr_Mod_27 w_8_203 d_Mod_entry_44 rfl ?_
    refine lv_aload_n hx hb d_Mod_entry_47 rfl (lv_at hl 0 rfl) ?_
    refine w_geti (k := 35) (t := 12) (C := R_Mod) (T := F_Mod) (N := 167) hx hb hT hown hK hW ko_0.1 ko_0.2 (by decide) in_Mod rfl rfl (by decide) rfl fr_Mod_35 w_8_211 d_Mod_entry_48 ?_
    refine lv_iload_n hx hb d_Mod_entry_51 rfl (lv_at hl 3 rfl) ?_
    obtain ⟨hi, hw⟩ := hw
    refine w_iast (o := 19) hx hb hK hW hS ko_19.1 ko_19.2 hi d_Mod_entry_52 (fun H locs hW hS => ?_)
    obtain ⟨x400, ex400⟩ : ∃ y : St, y = setA x399 19 (fI x399 0 35) l3 := ⟨_, rfl⟩
    rw [← ex400] at hW
    have hw := hw x400 ex400
    refine lv_aload_n hx hb d_Mod_entry_53 rfl (lv_at hl 0 rfl) ?_
    refine w_getf (q := 25) (k := 33) (t := 12) (C := R_Mod) (T := F_Mod) (N := 167) hx hb hT hown hK hW ko_0.1 ko_0.2 (by decide) in_Mod rfl rfl (by decide) rfl fr_Mod_33 w_8_209 d_Mod_entry_54 rfl ?_
    refine lv_aload_n hx hb d_Mod_entry_57 rfl (lv_at hl 0 rfl) ?_
    refine w_geti (k := 35) (t := 12) (C := R_Mod) (T := F_Mod) (N := 167) hx hb hT hown hK hW ko_0.1 ko_0.2 (by decide) in_Mod rfl rfl (by decide) rfl fr_Mod_35 w_8_211 d_Mod_entry_58 ?_
    refine lv_iload hx hb d_Mod_entry_61 (lv_at hl 4 rfl) ?_
    refine lv_iconst (v := (-1)) hx hb d_Mod_entry_63 (by decide) ?_
    refine lv_icmp_ne (tgt := 71) hx hb d_Mod_entry_64 (by decide) (fun c401 => ?_) (fun c401 => ?_)
    · have hw := hw.1 c401
      refine lv_aload_n hx hb d_Mod_entry_71 rfl (lv_at hl 0 rfl) ?_
      refine w_getf (q := 17) (k := 23) (t := 12) (C := R_Mod) (T := F_Mod) (N := 167) hx hb hT hown hK hW ko_0.1 ko_0.2 (by decide) in_Mod rfl rfl (by decide) rfl fr_Mod_23 w_8_199 d_Mod_entry_72 rfl ?_
      refine lv_iload hx hb d_Mod_entry_75 (lv_at hl 4 rfl) ?_
      obtain ⟨hi, hw⟩ := hw
      refine w_lald (o := 17) hx hb hK hW ko_17.1 ko_17.2 hi d_Mod_entry_77 ?_
      exact t_Mod_entry_78 hx hb hml hown hT hK hN hA hRc hRs hRf hRl hret  l1 l2 l3 l4 (rL x400 17 l4) (fI x400 0 35) 25 x400 H locs ls ko_25 hw hW hS (lv_sub hl [0, 1, 2, 3, 4] rfl)
    · have hw := hw.2 c401
      refine lv_lconst (v := 0) hx hb d_Mod_entry_67 (by decide) ?_
      refine lv_goto (tgt := 78) hx hb d_Mod_entry_68 (by decide) ?_
      exact t_Mod_entry_78 hx hb hml hown hT hK hN hA hRc hRs hRf hRl hret  l1 l2 l3 l4 0 (fI x400 0 35) 25 x400 H locs ls ko_25 hw hW hS (lv_sub hl [0, 1, 2, 3, 4] rfl)
  · have hw := hw.2 c397
    exact hret x H locs 22 ls d_Mod_entry_22 hw hW hS
set_option maxRecDepth 100000 in
set_option maxHeartbeats 4000000 in
set_option maxRecDepth 100000 in
theorem t_Mod_entry_e {p : Program} {l : Launch} {e : Env} {R : Room} {s : State} {m : MethodId} {args : Array Value} {below : List Frame} {meth : Method} {c : Code} {cells slots : Nat} {Q : State → Prop} {dC : Nat → ClassId} {dI : Nat → Nat → Nat} {cI cB cJ cZ : ClassId} {A : Nat → Prop} {ad : Nat → Nat} {post : St → Prop} (hx : p.tables.exec = Jvm.exec) (hb : c.code = b_Mod_entry) (hml : c.maxLocals = 6) (hown : s.vm.findClass R_Mod = some m.cls) (hT : ∀ w ∈ TG, w.before args s = true) (hK : va_K (dC, dI) CL (TY cI cB cJ cZ) s) (hN : NW s) (hA : ∀ q : Nat, s.heap.size ≤ q → A q) (hRc : cells ≤ R.cells) (hRs : slots ≤ R.slots) (hRf : 0 ≤ R.frames) (hRl : 0 ≤ R.locals) (hret : ∀ (x : St) (H : Heap) (locs : List Loc) (pc : Nat) (ls : Array Slot), decode b_Mod_entry pc = .ok (.return_, 1) → post x → Wd dC dI cI cB cJ cZ ad stM kcM 115 A x H → va_S A s.heap H locs → W p l e R s m args below meth c H locs cells slots Q (F0 m pc ls [])) : ∀ (l1 : Int32) (l2 : Int32) (l3 : Int32) (l4 : Int32) (x : St) (H : Heap) (locs : List Loc) (ls : Array Slot), wp_Mod_entry post l1 l2 l3 l4 x → Wd dC dI cI cB cJ cZ ad stM kcM 115 A x H → va_S A s.heap H locs → lv_has ls 6 [(0, .ref (ad 0)), (1, .int l1), (2, .int l2), (3, .int l3), (4, .int l4)] → W p l e R s m args below meth c H locs cells slots Q (F0 m 0 ls []) := by
  intro l1 l2 l3 l4 x H locs ls  hw hW hS hl
  unfold wp_Mod_entry at hw
  refine lv_aload_n hx hb d_Mod_entry_0 rfl (lv_at hl 0 rfl) ?_
  refine w_geti (k := 35) (t := 12) (C := R_Mod) (T := F_Mod) (N := 167) hx hb hT hown hK hW ko_0.1 ko_0.2 (by decide) in_Mod rfl rfl (by decide) rfl fr_Mod_35 w_8_211 d_Mod_entry_1 ?_
  refine lv_sipush (v := 10000) hx hb d_Mod_entry_4 (by decide) ?_
  refine lv_icmp_ne (tgt := 15) hx hb d_Mod_entry_7 (by decide) (fun c402 => ?_) (fun c402 => ?_)
  · have hw := hw.1 c402
    exact t_Mod_entry_15 hx hb hml hown hT hK hN hA hRc hRs hRf hRl hret  l1 l2 l3 l4 x H locs ls  hw hW hS (lv_sub hl [0, 1, 2, 3, 4] rfl)
  · have hw := hw.2 c402
    refine lv_aload_n hx hb d_Mod_entry_10 rfl (lv_at hl 0 rfl) ?_
    refine lv_iconst (v := 1) hx hb d_Mod_entry_11 (by decide) ?_
    refine w_puti (ty := .boolean) (k := 37) (t := 12) (C := R_Mod) (T := F_Mod) (N := 167) hx hb hT hown hK hW hS ko_0.1 ko_0.2 (by decide) in_Mod t_Mod t_Mod_ok n_Mod rfl rfl (by decide) rfl fr_Mod_37 w_8_213 (by decide +kernel) rfl rfl d_Mod_entry_12 (fun H locs hW hS => ?_)
    obtain ⟨x403, ex403⟩ : ∃ y : St, y = setI x 0 37 1 := ⟨_, rfl⟩
    rw [← ex403] at hW
    have hw := hw x403 ex403
    exact t_Mod_entry_15 hx hb hml hown hT hK hN hA hRc hRs hRf hRl hret  l1 l2 l3 l4 x403 H locs ls  hw hW hS (lv_sub hl [0, 1, 2, 3, 4] rfl)
set_option maxHeartbeats 4000000 in
set_option maxRecDepth 100000 in
theorem k_Mod_entry (l : Launch) (dC : Nat → ClassId) (dI : Nat → Nat → Nat) (cI cB cJ cZ : ClassId) (ad : Nat → Nat) (sz : Nat) (l1 : Int32) (l2 : Int32) (l3 : Int32) (l4 : Int32) (x : St) {post : St → Prop} (hw : wp_Mod_entry post l1 l2 l3 l4 x) : Met l y_Mod_entry (wsOf y_Mod_entry b_Mod_entry 6 (none)) ({ frames := 0, cells := 0, slots := 0, locals := 0 }) (va_Pc [.ref (ad 0), .int l1, .int l2, .int l3, .int l4] (PW dC dI cI cB cJ cZ ad stM kcM 115 sz x)) (va_Qv (fun (y : St) => post y) (fun y t => Wd dC dI cI cB cJ cZ ad stM kcM 115 (va_A (pic ad stM kcM 115 cI cB cJ cZ x) sz) y t.heap) (va_A (pic ad stM kcM 115 cI cB cJ cZ x) sz)) 0 0 (va_A (pic ad stM kcM 115 cI cB cJ cZ x) sz) := by
  refine Met.ofW (cc := b_Mod_entry) (maxL := 6) (ret := none) (by decide) rfl ?_
  intro p e s m args below meth c s₁ B hml hv
  obtain ⟨rfl, hsz, hW0, hK, hN⟩ := hv
  have hx := B.exec
  have hb := B.bytes
  have hr := B.returns
  have hts := atoms_spec B.pre
  have hT : ∀ w ∈ TG, w.before _ s = true := fun w h => hts w (List.mem_cons_of_mem _ h)
  have hown : s.vm.findClass R_Mod = some m.cls := findClass_of_methodNamed B.named
  have hlocks := B.notSynchronized
  subst hsz
  have hW : Wd dC dI cI cB cJ cZ ad stM kcM 115 (va_A (pic ad stM kcM 115 cI cB cJ cZ x) s.heap.size) x s.heap := ⟨hW0.1, hW0.2.1.self (sz := s.heap.size), hW0.2.2⟩
  generalize hAe : va_A (pic ad stM kcM 115 cI cB cJ cZ x) s.heap.size = A at hW ⊢
  have hA : ∀ q : Nat, s.heap.size ≤ q → A q := fun q h => by rw [← hAe]; exact Or.inr h
  have hS : va_S A s.heap s.heap [] := va_S.rf
  have hl := lv_entry ([.ref (ad 0), .int l1, .int l2, .int l3, .int l4]) (n := 6) (Nat.le_of_ble_eq_true rfl)
  rw [lg_entry_eq]
  generalize (lg_sl ([.ref (ad 0), .int l1, .int l2, .int l3, .int l4]) ++ List.replicate (6 - (lg_sl ([.ref (ad 0), .int l1, .int l2, .int l3, .int l4])).length) Slot.unset).toArray = ls at hl ⊢
  have hl : lv_has ls 6 [(0, .ref (ad 0)), (1, .int l1), (2, .int l2), (3, .int l3), (4, .int l4)] := hl
  exact t_Mod_entry_e hx hb hml hown hT hK hN hA (Nat.le_refl 0) (Nat.le_refl 0) (Nat.le_refl 0) (Nat.le_refl 0) (fun x H locs pc ls hd hp hW hS => W.vret hx hb hr (fun t ht hM => ⟨⟨x, rfl, hp, Wd.back hW ht.symm (fun _ z => z)⟩, hS.F ht⟩) hS.2.2 hd hlocks)  l1 l2 l3 l4 x _ _ ls  hw hW hS hl
set_option maxRecDepth 100000 in
set_option maxHeartbeats 4000000 in
set_option maxRecDepth 100000 in
theorem t_Mod_stripe_143 {p : Program} {l : Launch} {e : Env} {R : Room} {s : State} {m : MethodId} {args : Array Value} {below : List Frame} {meth : Method} {c : Code} {cells slots : Nat} {Q : State → Prop} {dC : Nat → ClassId} {dI : Nat → Nat → Nat} {cI cB cJ cZ : ClassId} {A : Nat → Prop} {ad : Nat → Nat} {post : St → Prop} {self_Mod_stripe : (St → Prop) → Int32 → Int32 → Int32 → Int32 → Int32 → St → Prop} {fd ld : Nat} (hx : p.tables.exec = Jvm.exec) (hb : c.code = b_Mod_stripe) (hml : c.maxLocals = 11) (hown : s.vm.findClass R_Mod = some m.cls) (hT : ∀ w ∈ TG, w.before args s = true) (hK : va_K (dC, dI) CL (TY cI cB cJ cZ) s) (hN : NW s) (hA : ∀ q : Nat, s.heap.size ≤ q → A q) (hRc : cells ≤ R.cells) (hRs : slots ≤ R.slots) (hRf : 3 ≤ R.frames) (hRl : 70 ≤ R.locals) (hret : ∀ (x : St) (H : Heap) (locs : List Loc) (pc : Nat) (ls : Array Slot), decode b_Mod_stripe pc = .ok (.return_, 1) → post x → Wd dC dI cI cB cJ cZ ad stM kcM 115 A x H → va_S A s.heap H locs → W p l e R s m args below meth c H locs cells slots Q (F0 m pc ls [])) (hs_Mod_stripe : ∀ (sz : Nat) (l1 : Int32) (l2 : Int32) (l3 : Int32) (l4 : Int32) (l5 : Int32) (x : St), ∀ (post : St → Prop), self_Mod_stripe post l1 l2 l3 l4 l5 x → Met l y_Mod_stripe (wsOf y_Mod_stripe b_Mod_stripe 11 (none)) ({ frames := fd, cells := 0, slots := 0, locals := ld }) (va_Pc [.ref (ad 0), .int l1, .int l2, .int l3, .int l4, .int l5] (PW dC dI cI cB cJ cZ ad stM kcM 115 sz x)) (va_Qv (fun (y : St) => post y) (fun y t => Wd dC dI cI cB cJ cZ ad stM kcM 115 (va_A (pic ad stM kcM 115 cI cB cJ cZ x) sz) y t.heap) (va_A (pic ad stM kcM 115 cI cB cJ cZ x) sz)) 0 0 (va_A (pic ad stM kcM 115 cI cB cJ cZ x) sz)) (hDf : fd + 1 ≤ R.frames) (hDl : 30 + ld ≤ R.locals)  : ∀ (l1 : Int32) (l2 : Int32) (l3 : Int32) (l4 : Int32) (l5 : Int32) (l6 : Int32) (l7 : Int32) (l8 : Int32) (l9 : Int32) (l10 : Int32) (x : St) (H : Heap) (locs : List Loc) (ls : Array Slot), j_Mod_stripe_143 post self_Mod_stripe l1 l2 l3 l4 l5 l6 l7 l8 l9 l10 x → Wd dC dI cI cB cJ cZ ad stM kcM 115 A x H → va_S A s.heap H locs → lv_has ls 11 [(0, .ref (ad 0)), (1, .int l1), (2, .int l2), (3, .int l3), (4, .int l4), (5, .int l5), (6, .int l6), (7, .int l7), (8, .int l8), (9, .int l9), (10, .int l10)] → W p l e R s m args below meth c H locs cells slots Q (F0 m 143 ls []) := by
  intro l1 l2 l3 l4 l5 l6 l7 l8 l9 l10 x H locs ls  hw hW hS hl
  unfold j_Mod_stripe_143 at hw
  refine lv_iload hx hb d_Mod_stripe_143 (lv_at hl 9 rfl) ?_
  refine lv_if_ne (tgt := 158) hx hb d_Mod_stripe_145 (by decide) (fun c404 => ?_) (fun c404 => ?_)
  · have hw := hw.1 c404
    exact hret x H locs 158 ls d_Mod_stripe_158 hw hW hS
  · have hw := hw.2 c404
    refine lv_aload_n hx hb d_Mod_stripe_148 rfl (lv_at hl 0 rfl) ?_
    refine lv_iload_n hx hb d_Mod_stripe_149 rfl (lv_at hl 1 rfl) ?_
    refine lv_iload hx hb d_Mod_stripe_150 (lv_at hl 4 rfl) ?_
    refine lv_iload hx hb d_Mod_stripe_152 (lv_at hl 5 rfl) ?_
    refine lv_iconst (v := (-1)) hx hb d_Mod_stripe_154 (by decide) ?_
    have hF := hW.free hS hA
    refine va_callv (va_runV (C := R_Mod) (As := [.int l1, .int l4, .int l5, .int (-1)]) (rest := []) ⟨hx, hb, hml, hown, hT⟩ (k_Mod_entry l dC dI cI cB cJ cZ ad H.size l1 l4 l5 (-1) x  hw) ⟨callB_of 4 hT (gwt_in w_11_118) rfl rfl rfl (hT _ w_1_15) (hT _ w_11_115) (by decide +kernel) ⟨Nat.le_trans (Nat.le_of_ble_eq_true rfl) hRf, Nat.le_trans (Nat.le_of_ble_eq_true rfl) hRl⟩, hT _ w_11_117, hT _ ws_137⟩ ⟨PW.blind, va_recv hK hW.1 (ci := 12) (q0 := 0) rfl (pic_obj ko_0.1 ko_0.2 (by decide)), PW.at _ hW hK hN⟩ rfl rfl hl.1 rfl (lv_room (Nat.le_of_ble_eq_true rfl)) d_Mod_stripe_155 ⟨hRc, hRs⟩) hS (fun q _ h => hF q h) hF (fun  x405 t H locs ht hvm hw hB hz1 hk1 hS => ?_)
    have hW := Wd.back hB ht hF
    clear hB ht hF hz1 hk1 hvm
    exact hret x405 H locs 158 ls d_Mod_stripe_158 hw hW hS
set_option maxRecDepth 100000 in
set_option maxHeartbeats 4000000 in
set_option maxRecDepth 100000 in
theorem t_Mod_stripe_137 {p : Program} {l : Launch} {e : Env} {R : Room} {s : State} {m : MethodId} {args : Array Value} {below : List Frame} {meth : Method} {c : Code} {cells slots : Nat} {Q : State → Prop} {dC : Nat → ClassId} {dI : Nat → Nat → Nat} {cI cB cJ cZ : ClassId} {A : Nat → Prop} {ad : Nat → Nat} {post : St → Prop} {self_Mod_stripe : (St → Prop) → Int32 → Int32 → Int32 → Int32 → Int32 → St → Prop} {fd ld : Nat} {rec30 : Int32 → Int32 → Int32 → Int32 → Int32 → Int32 → Int32 → Int32 → Int32 → Int32 → St → Prop} (hx : p.tables.exec = Jvm.exec) (hb : c.code = b_Mod_stripe) (hml : c.maxLocals = 11) (hown : s.vm.findClass R_Mod = some m.cls) (hT : ∀ w ∈ TG, w.before args s = true) (hK : va_K (dC, dI) CL (TY cI cB cJ cZ) s) (hN : NW s) (hA : ∀ q : Nat, s.heap.size ≤ q → A q) (hRc : cells ≤ R.cells) (hRs : slots ≤ R.slots) (hRf : 3 ≤ R.frames) (hRl : 70 ≤ R.locals) (hret : ∀ (x : St) (H : Heap) (locs : List Loc) (pc : Nat) (ls : Array Slot), decode b_Mod_stripe pc = .ok (.return_, 1) → post x → Wd dC dI cI cB cJ cZ ad stM kcM 115 A x H → va_S A s.heap H locs → W p l e R s m args below meth c H locs cells slots Q (F0 m pc ls [])) (hs_Mod_stripe : ∀ (sz : Nat) (l1 : Int32) (l2 : Int32) (l3 : Int32) (l4 : Int32) (l5 : Int32) (x : St), ∀ (post : St → Prop), self_Mod_stripe post l1 l2 l3 l4 l5 x → Met l y_Mod_stripe (wsOf y_Mod_stripe b_Mod_stripe 11 (none)) ({ frames := fd, cells := 0, slots := 0, locals := ld }) (va_Pc [.ref (ad 0), .int l1, .int l2, .int l3, .int l4, .int l5] (PW dC dI cI cB cJ cZ ad stM kcM 115 sz x)) (va_Qv (fun (y : St) => post y) (fun y t => Wd dC dI cI cB cJ cZ ad stM kcM 115 (va_A (pic ad stM kcM 115 cI cB cJ cZ x) sz) y t.heap) (va_A (pic ad stM kcM 115 cI cB cJ cZ x) sz)) 0 0 (va_A (pic ad stM kcM 115 cI cB cJ cZ x) sz)) (hDf : fd + 1 ≤ R.frames) (hDl : 30 + ld ≤ R.locals) (hrec30 : ∀ (l1 : Int32) (l2 : Int32) (l3 : Int32) (l4 : Int32) (l5 : Int32) (l6 : Int32) (l7 : Int32) (l8 : Int32) (l9 : Int32) (l10 : Int32) (x : St) (H : Heap) (locs : List Loc) (ls : Array Slot), rec30 l1 l2 l3 l4 l5 l6 l7 l8 l9 l10 x → Wd dC dI cI cB cJ cZ ad stM kcM 115 A x H → va_S A s.heap H locs → lv_has ls 11 [(0, .ref (ad 0)), (1, .int l1), (2, .int l2), (3, .int l3), (4, .int l4), (5, .int l5), (6, .int l6), (7, .int l7), (8, .int l8), (9, .int l9), (10, .int l10)] → W p l e R s m args below meth c H locs cells slots Q (F0 m 30 ls [])) : ∀ (l1 : Int32) (l2 : Int32) (l3 : Int32) (l4 : Int32) (l5 : Int32) (l6 : Int32) (l7 : Int32) (l8 : Int32) (l9 : Int32) (l10 : Int32) (x : St) (H : Heap) (locs : List Loc) (ls : Array Slot), j_Mod_stripe_137 post self_Mod_stripe rec30 l1 l2 l3 l4 l5 l6 l7 l8 l9 l10 x → Wd dC dI cI cB cJ cZ ad stM kcM 115 A x H → va_S A s.heap H locs → lv_has ls 11 [(0, .ref (ad 0)), (1, .int l1), (2, .int l2), (3, .int l3), (4, .int l4), (5, .int l5), (6, .int l6), (7, .int l7), (8, .int l8), (9, .int l9), (10, .int l10)] → W p l e R s m args below meth c H locs cells slots Q (F0 m 137 ls []) := by
  intro l1 l2 l3 l4 l5 l6 l7 l8 l9 l10 x H locs ls  hw hW hS hl
  unfold j_Mod_stripe_137 at hw
  refine lv_iinc (v := (l10 + 1)) (lv' := [(10, .int (l10 + 1)), (0, .ref (ad 0)), (1, .int l1), (2, .int l2), (3, .int l3), (4, .int l4), (5, .int l5), (6, .int l6), (7, .int l7), (8, .int l8), (9, .int l9)]) hx hb d_Mod_stripe_137 hl (k := 10) rfl rfl (by decide) rfl (fun ls hl => ?_)
  refine lv_goto (tgt := 30) hx hb d_Mod_stripe_140 (by decide) ?_
  exact hrec30 l1 l2 l3 l4 l5 l6 l7 l8 l9 (l10 + 1) x H locs ls  hw hW hS (lv_sub hl [1, 2, 3, 4, 5, 6, 7, 8, 9, 10, 0] rfl)
set_option maxRecDepth 100000 in
set_option maxHeartbeats 4000000 in
set_option maxRecDepth 100000 in
theorem t_Mod_stripe_87 {p : Program} {l : Launch} {e : Env} {R : Room} {s : State} {m : MethodId} {args : Array Value} {below : List Frame} {meth : Method} {c : Code} {cells slots : Nat} {Q : State → Prop} {dC : Nat → ClassId} {dI : Nat → Nat → Nat} {cI cB cJ cZ : ClassId} {A : Nat → Prop} {ad : Nat → Nat} {post : St → Prop} {self_Mod_stripe : (St → Prop) → Int32 → Int32 → Int32 → Int32 → Int32 → St → Prop} {fd ld : Nat} {rec30 : Int32 → Int32 → Int32 → Int32 → Int32 → Int32 → Int32 → Int32 → Int32 → Int32 → St → Prop} (hx : p.tables.exec = Jvm.exec) (hb : c.code = b_Mod_stripe) (hml : c.maxLocals = 11) (hown : s.vm.findClass R_Mod = some m.cls) (hT : ∀ w ∈ TG, w.before args s = true) (hK : va_K (dC, dI) CL (TY cI cB cJ cZ) s) (hN : NW s) (hA : ∀ q : Nat, s.heap.size ≤ q → A q) (hRc : cells ≤ R.cells) (hRs : slots ≤ R.slots) (hRf : 3 ≤ R.frames) (hRl : 70 ≤ R.locals) (hret : ∀ (x : St) (H : Heap) (locs : List Loc) (pc : Nat) (ls : Array Slot), decode b_Mod_stripe pc = .ok (.return_, 1) → post x → Wd dC dI cI cB cJ cZ ad stM kcM 115 A x H → va_S A s.heap H locs → W p l e R s m args below meth c H locs cells slots Q (F0 m pc ls [])) (hs_Mod_stripe : ∀ (sz : Nat) (l1 : Int32) (l2 : Int32) (l3 : Int32) (l4 : Int32) (l5 : Int32) (x : St), ∀ (post : St → Prop), self_Mod_stripe post l1 l2 l3 l4 l5 x → Met l y_Mod_stripe (wsOf y_Mod_stripe b_Mod_stripe 11 (none)) ({ frames := fd, cells := 0, slots := 0, locals := ld }) (va_Pc [.ref (ad 0), .int l1, .int l2, .int l3, .int l4, .int l5] (PW dC dI cI cB cJ cZ ad stM kcM 115 sz x)) (va_Qv (fun (y : St) => post y) (fun y t => Wd dC dI cI cB cJ cZ ad stM kcM 115 (va_A (pic ad stM kcM 115 cI cB cJ cZ x) sz) y t.heap) (va_A (pic ad stM kcM 115 cI cB cJ cZ x) sz)) 0 0 (va_A (pic ad stM kcM 115 cI cB cJ cZ x) sz)) (hDf : fd + 1 ≤ R.frames) (hDl : 30 + ld ≤ R.locals) (hrec30 : ∀ (l1 : Int32) (l2 : Int32) (l3 : Int32) (l4 : Int32) (l5 : Int32) (l6 : Int32) (l7 : Int32) (l8 : Int32) (l9 : Int32) (l10 : Int32) (x : St) (H : Heap) (locs : List Loc) (ls : Array Slot), rec30 l1 l2 l3 l4 l5 l6 l7 l8 l9 l10 x → Wd dC dI cI cB cJ cZ ad stM kcM 115 A x H → va_S A s.heap H locs → lv_has ls 11 [(0, .ref (ad 0)), (1, .int l1), (2, .int l2), (3, .int l3), (4, .int l4), (5, .int l5), (6, .int l6), (7, .int l7), (8, .int l8), (9, .int l9), (10, .int l10)] → W p l e R s m args below meth c H locs cells slots Q (F0 m 30 ls [])) : ∀ (l1 : Int32) (l2 : Int32) (l3 : Int32) (l4 : Int32) (l5 : Int32) (l6 : Int32) (l7 : Int32) (l8 : Int32) (l9 : Int32) (l10 : Int32) (x : St) (H : Heap) (locs : List Loc) (ls : Array Slot), j_Mod_stripe_87 post self_Mod_stripe rec30 l1 l2 l3 l4 l5 l6 l7 l8 l9 l10 x → Wd dC dI cI cB cJ cZ ad stM kcM 115 A x H → va_S A s.heap H locs → lv_has ls 11 [(0, .ref (ad 0)), (1, .int l1), (2, .int l2), (3, .int l3), (4, .int l4), (5, .int l5), (6, .int l6), (7, .int l7), (8, .int l8), (9, .int l9), (10, .int l10)] → W p l e R s m args below meth c H locs cells slots Q (F0 m 87 ls []) := by
  intro l1 l2 l3 l4 l5 l6 l7 l8 l9 l10 x H locs ls  hw hW hS hl
  unfold j_Mod_stripe_87 at hw
  refine lv_iconst (v := 1) hx hb d_Mod_stripe_87 (by decide) ?_
  refine lv_istore (lv' := [(9, .int 1), (0, .ref (ad 0)), (1, .int l1), (2, .int l2), (3, .int l3), (4, .int l4), (5, .int l5), (6, .int l6), (7, .int l7), (8, .int l8), (10, .int l10)]) hx hb d_Mod_stripe_88 hl (by decide) rfl (fun ls hl => ?_)
  refine lv_iload hx hb d_Mod_stripe_90 (lv_at hl 8 rfl) ?_
  refine lv_iload hx hb d_Mod_stripe_92 (lv_at hl 7 rfl) ?_
  refine lv_icmp_ne (tgt := 117) hx hb d_Mod_stripe_94 (by decide) (fun c406 => ?_) (fun c406 => ?_)
  · have hw := hw.1 c406
    refine lv_aload_n hx hb d_Mod_stripe_117 rfl (lv_at hl 1 rfl) ?_
    refine lv_iload_n hx hb d_Mod_stripe_118 rfl (lv_at hl 2 rfl) ?_
    refine lv_iload hx hb d_Mod_stripe_119 (lv_at hl 10 rfl) ?_
    refine lv_iload_n hx hb d_Mod_stripe_121 rfl (lv_at hl 4 rfl) ?_
    refine lv_iconst (v := 1) hx hb d_Mod_stripe_122 (by decide) ?_
    refine lv_iadd hx hb d_Mod_stripe_123 ?_
    refine lv_iload hx hb d_Mod_stripe_124 (lv_at hl 9 rfl) ?_
    refine lv_aload_n hx hb d_Mod_stripe_126 rfl (lv_at hl 1 rfl) ?_
    refine lv_iconst (v := 0) hx hb d_Mod_stripe_127 (by decide) ?_
    refine lv_iload hx hb d_Mod_stripe_128 (lv_at hl 8 rfl) ?_
    refine lv_iconst (v := 0) hx hb d_Mod_stripe_130 (by decide) ?_
    have hF := hW.free hS hA
    refine va_calli (va_runV (C := R_Mod) (As := [.int 0, .int l7, .int 0]) (rest := [.int l8, .int (l3 + 1), .int l10, .int l1, .ref (ad 0)]) ⟨hx, hb, hml, hown, hT⟩ (k_Mod_level l dC dI cI cB cJ cZ ad H.size 0 l7 0 x  hw) ⟨callB_of 3 hT (gwt_in w_11_114) rfl rfl rfl (hT _ w_1_15) (hT _ w_11_111) (by decide +kernel) ⟨Nat.le_trans (Nat.le_of_ble_eq_true rfl) hRf, Nat.le_trans (Nat.le_of_ble_eq_true rfl) hRl⟩, hT _ w_11_113, hT _ ws_136⟩ ⟨PW.blind, va_recv hK hW.1 (ci := 12) (q0 := 0) rfl (pic_obj ko_0.1 ko_0.2 (by decide)), PW.at _ hW hK hN⟩ rfl rfl hl.1 rfl (lv_room (Nat.le_of_ble_eq_true rfl)) d_Mod_stripe_131 ⟨hRc, hRs⟩) hS (fun q _ h => hF q h) hF (fun r408 x407 t H locs ht hvm hw hB hz1 hk1 hS => ?_)
    have hW := Wd.back hB ht hF
    clear hB ht hF hz1 hk1 hvm
    have hF := hW.free hS hA
    refine va_callv (va_runV (C := R_Mod) (As := [.int l1, .int l10, .int (l3 + 1), .int l8, .int r408]) (rest := []) ⟨hx, hb, hml, hown, hT⟩ (hs_Mod_stripe H.size l1 l10 (l3 + 1) l8 r408 x407  _ hw) ⟨callB_of 5 hT (gwt_in w_11_106) rfl rfl rfl (hT _ w_1_15) (hT _ w_11_103) (by decide +kernel) ⟨hDf, Nat.le_trans (Nat.add_le_add_right (by decide) _) hDl⟩, hT _ w_11_105, hT _ ws_134⟩ ⟨PW.blind, va_recv hK hW.1 (ci := 12) (q0 := 0) rfl (pic_obj ko_0.1 ko_0.2 (by decide)), PW.at _ hW hK hN⟩ rfl rfl hl.1 rfl (lv_room (Nat.le_of_ble_eq_true rfl)) d_Mod_stripe_134 ⟨hRc, hRs⟩) hS (fun q _ h => hF q h) hF (fun  x409 t H locs ht hvm hw hB hz1 hk1 hS => ?_)
    have hW := Wd.back hB ht hF
    clear hB ht hF hz1 hk1 hvm
    exact t_Mod_stripe_137 hx hb hml hown hT hK hN hA hRc hRs hRf hRl hret hs_Mod_stripe hDf hDl hrec30 l1 l2 l3 l4 l5 l6 l7 l8 1 l10 x409 H locs ls  hw hW hS (lv_sub hl [1, 2, 3, 4, 5, 6, 7, 8, 9, 0, 10] rfl)
  · have hw := hw.2 c406
    refine lv_aload_n hx hb d_Mod_stripe_97 rfl (lv_at hl 1 rfl) ?_
    refine lv_iload_n hx hb d_Mod_stripe_98 rfl (lv_at hl 2 rfl) ?_
    refine lv_iload hx hb d_Mod_stripe_99 (lv_at hl 9 rfl) ?_
    refine lv_aload_n hx hb d_Mod_stripe_101 rfl (lv_at hl 1 rfl) ?_
    refine lv_iconst (v := 0) hx hb d_Mod_stripe_102 (by decide) ?_
    refine lv_iload hx hb d_Mod_stripe_103 (lv_at hl 8 rfl) ?_
    refine lv_iconst (v := 0) hx hb d_Mod_stripe_105 (by decide) ?_
    have hF := hW.free hS hA
    refine va_calli (va_runV (C := R_Mod) (As := [.int 0, .int l7, .int 0]) (rest := [.int l8, .int l1, .ref (ad 0)]) ⟨hx, hb, hml, hown, hT⟩ (k_Mod_level l dC dI cI cB cJ cZ ad H.size 0 l7 0 x  hw) ⟨callB_of 3 hT (gwt_in w_11_114) rfl rfl rfl (hT _ w_1_15) (hT _ w_11_111) (by decide +kernel) ⟨Nat.le_trans (Nat.le_of_ble_eq_true rfl) hRf, Nat.le_trans (Nat.le_of_ble_eq_true rfl) hRl⟩, hT _ w_11_113, hT _ ws_136⟩ ⟨PW.blind, va_recv hK hW.1 (ci := 12) (q0 := 0) rfl (pic_obj ko_0.1 ko_0.2 (by decide)), PW.at _ hW hK hN⟩ rfl rfl hl.1 rfl (lv_room (Nat.le_of_ble_eq_true rfl)) d_Mod_stripe_106 ⟨hRc, hRs⟩) hS (fun q _ h => hF q h) hF (fun r411 x410 t H locs ht hvm hw hB hz1 hk1 hS => ?_)
    have hW := Wd.back hB ht hF
    clear hB ht hF hz1 hk1 hvm
    refine lv_iload hx hb d_Mod_stripe_109 (lv_at hl 10 rfl) ?_
    have hF := hW.free hS hA
    refine va_callv (va_runV (C := R_Mod) (As := [.int l1, .int l8, .int r411, .int l10]) (rest := []) ⟨hx, hb, hml, hown, hT⟩ (k_Mod_entry l dC dI cI cB cJ cZ ad H.size l1 l8 r411 l10 x410  hw) ⟨callB_of 4 hT (gwt_in w_11_118) rfl rfl rfl (hT _ w_1_15) (hT _ w_11_115) (by decide +kernel) ⟨Nat.le_trans (Nat.le_of_ble_eq_true rfl) hRf, Nat.le_trans (Nat.le_of_ble_eq_true rfl) hRl⟩, hT _ w_11_117, hT _ ws_137⟩ ⟨PW.blind, va_recv hK hW.1 (ci := 12) (q0 := 0) rfl (pic_obj ko_0.1 ko_0.2 (by decide)), PW.at _ hW hK hN⟩ rfl rfl hl.1 rfl (lv_room (Nat.le_of_ble_eq_true rfl)) d_Mod_stripe_111 ⟨hRc, hRs⟩) hS (fun q _ h => hF q h) hF (fun  x412 t H locs ht hvm hw hB hz1 hk1 hS => ?_)
    have hW := Wd.back hB ht hF
    clear hB ht hF hz1 hk1 hvm
    refine lv_goto (tgt := 137) hx hb d_Mod_stripe_114 (by decide) ?_
    exact t_Mod_stripe_137 hx hb hml hown hT hK hN hA hRc hRs hRf hRl hret hs_Mod_stripe hDf hDl hrec30 l1 l2 l3 l4 l5 l6 l7 l8 1 l10 x412 H locs ls  hw hW hS (lv_sub hl [1, 2, 3, 4, 5, 6, 7, 8, 9, 0, 10] rfl)
set_option maxRecDepth 100000 in
set_option maxHeartbeats 4000000 in
set_option maxRecDepth 100000 in
theorem t_Mod_stripe_30 {p : Program} {l : Launch} {e : Env} {R : Room} {s : State} {m : MethodId} {args : Array Value} {below : List Frame} {meth : Method} {c : Code} {cells slots : Nat} {Q : State → Prop} {dC : Nat → ClassId} {dI : Nat → Nat → Nat} {cI cB cJ cZ : ClassId} {A : Nat → Prop} {ad : Nat → Nat} {post : St → Prop} {self_Mod_stripe : (St → Prop) → Int32 → Int32 → Int32 → Int32 → Int32 → St → Prop} {fd ld : Nat} {rec30 : Int32 → Int32 → Int32 → Int32 → Int32 → Int32 → Int32 → Int32 → Int32 → Int32 → St → Prop} (hx : p.tables.exec = Jvm.exec) (hb : c.code = b_Mod_stripe) (hml : c.maxLocals = 11) (hown : s.vm.findClass R_Mod = some m.cls) (hT : ∀ w ∈ TG, w.before args s = true) (hK : va_K (dC, dI) CL (TY cI cB cJ cZ) s) (hN : NW s) (hA : ∀ q : Nat, s.heap.size ≤ q → A q) (hRc : cells ≤ R.cells) (hRs : slots ≤ R.slots) (hRf : 3 ≤ R.frames) (hRl : 70 ≤ R.locals) (hret : ∀ (x : St) (H : Heap) (locs : List Loc) (pc : Nat) (ls : Array Slot), decode b_Mod_stripe pc = .ok (.return_, 1) → post x → Wd dC dI cI cB cJ cZ ad stM kcM 115 A x H → va_S A s.heap H locs → W p l e R s m args below meth c H locs cells slots Q (F0 m pc ls [])) (hs_Mod_stripe : ∀ (sz : Nat) (l1 : Int32) (l2 : Int32) (l3 : Int32) (l4 : Int32) (l5 : Int32) (x : St), ∀ (post : St → Prop), self_Mod_stripe post l1 l2 l3 l4 l5 x → Met l y_Mod_stripe (wsOf y_Mod_stripe b_Mod_stripe 11 (none)) ({ frames := fd, cells := 0, slots := 0, locals := ld }) (va_Pc [.ref (ad 0), .int l1, .int l2, .int l3, .int l4, .int l5] (PW dC dI cI cB cJ cZ ad stM kcM 115 sz x)) (va_Qv (fun (y : St) => post y) (fun y t => Wd dC dI cI cB cJ cZ ad stM kcM 115 (va_A (pic ad stM kcM 115 cI cB cJ cZ x) sz) y t.heap) (va_A (pic ad stM kcM 115 cI cB cJ cZ x) sz)) 0 0 (va_A (pic ad stM kcM 115 cI cB cJ cZ x) sz)) (hDf : fd + 1 ≤ R.frames) (hDl : 30 + ld ≤ R.locals) (hrec30 : ∀ (l1 : Int32) (l2 : Int32) (l3 : Int32) (l4 : Int32) (l5 : Int32) (l6 : Int32) (l7 : Int32) (l8 : Int32) (l9 : Int32) (l10 : Int32) (x : St) (H : Heap) (locs : List Loc) (ls : Array Slot), rec30 l1 l2 l3 l4 l5 l6 l7 l8 l9 l10 x → Wd dC dI cI cB cJ cZ ad stM kcM 115 A x H → va_S A s.heap H locs → lv_has ls 11 [(0, .ref (ad 0)), (1, .int l1), (2, .int l2), (3, .int l3), (4, .int l4), (5, .int l5), (6, .int l6), (7, .int l7), (8, .int l8), (9, .int l9), (10, .int l10)] → W p l e R s m args below meth c H locs cells slots Q (F0 m 30 ls [])) : ∀ (l1 : Int32) (l2 : Int32) (l3 : Int32) (l4 : Int32) (l5 : Int32) (l6 : Int32) (l7 : Int32) (l8 : Int32) (l9 : Int32) (l10 : Int32) (x : St) (H : Heap) (locs : List Loc) (ls : Array Slot), j_Mod_stripe_30 post self_Mod_stripe rec30 l1 l2 l3 l4 l5 l6 l7 l8 l9 l10 x → Wd dC dI cI cB cJ cZ ad stM kcM 115 A x H → va_S A s.heap H locs → lv_has ls 11 [(0, .ref (ad 0)), (1, .int l1), (2, .int l2), (3, .int l3), (4, .int l4), (5, .int l5), (6, .int l6), (7, .int l7), (8, .int l8), (9, .int l9), (10, .int l10)] → W p l e R s m args below meth c H locs cells slots Q (F0 m 30 ls []) := by
  intro l1 l2 l3 l4 l5 l6 l7 l8 l9 l10 x H locs ls  hw hW hS hl
  unfold j_Mod_stripe_30 at hw
  refine lv_iload hx hb d_Mod_stripe_30 (lv_at hl 10 rfl) ?_
  refine lv_aload_n hx hb d_Mod_stripe_32 rfl (lv_at hl 0 rfl) ?_
  refine w_geti (k := 24) (t := 12) (C := R_Mod) (T := F_Mod) (N := 167) hx hb hT hown hK hW ko_0.1 ko_0.2 (by decide) in_Mod rfl rfl (by decide) rfl fr_Mod_24 w_8_200 d_Mod_stripe_33 ?_
  refine lv_icmp_ge (tgt := 143) hx hb d_Mod_stripe_36 (by decide) (fun c413 => ?_) (fun c413 => ?_)
  · have hw := hw.1 c413
    exact t_Mod_stripe_143 hx hb hml hown hT hK hN hA hRc hRs hRf hRl hret hs_Mod_stripe hDf hDl  l1 l2 l3 l4 l5 l6 l7 l8 l9 l10 x H locs ls  hw hW hS (lv_sub hl [0, 1, 2, 3, 4, 5, 6, 7, 8, 9, 10] rfl)
  · have hw := hw.2 c413
    refine lv_aload_n hx hb d_Mod_stripe_39 rfl (lv_at hl 0 rfl) ?_
    refine w_geti (k := 37) (t := 12) (C := R_Mod) (T := F_Mod) (N := 167) hx hb hT hown hK hW ko_0.1 ko_0.2 (by decide) in_Mod rfl rfl (by decide) rfl fr_Mod_37 w_8_213 d_Mod_stripe_40 ?_
    refine lv_if_ne (tgt := 143) hx hb d_Mod_stripe_43 (by decide) (fun c414 => ?_) (fun c414 => ?_)
    · have hw := hw.1 c414
      exact t_Mod_stripe_143 hx hb hml hown hT hK hN hA hRc hRs hRf hRl hret hs_Mod_stripe hDf hDl  l1 l2 l3 l4 l5 l6 l7 l8 l9 l10 x H locs ls  hw hW hS (lv_sub hl [0, 1, 2, 3, 4, 5, 6, 7, 8, 9, 10] rfl)
    · have hw := hw.2 c414
      refine lv_aload_n hx hb d_Mod_stripe_46 rfl (lv_at hl 0 rfl) ?_
      refine w_getf (q := 13) (k := 19) (t := 12) (C := R_Mod) (T := F_Mod) (N := 167) hx hb hT hown hK hW ko_0.1 ko_0.2 (by decide) in_Mod rfl rfl (by decide) rfl fr_Mod_19 w_8_195 d_Mod_stripe_47 rfl ?_
      refine lv_iload hx hb d_Mod_stripe_50 (lv_at hl 10 rfl) ?_
      obtain ⟨hi, hw⟩ := hw
      refine w_iald (o := 13) hx hb hK hW ko_13.1 ko_13.2 hi d_Mod_stripe_52 ?_
      refine lv_iload_n hx hb d_Mod_stripe_53 rfl (lv_at hl 2 rfl) ?_
      refine lv_icmp_ne (tgt := 137) hx hb d_Mod_stripe_54 (by decide) (fun c415 => ?_) (fun c415 => ?_)
      · have hw := hw.1 c415
        exact t_Mod_stripe_137 hx hb hml hown hT hK hN hA hRc hRs hRf hRl hret hs_Mod_stripe hDf hDl hrec30 l1 l2 l3 l4 l5 l6 l7 l8 l9 l10 x H locs ls  hw hW hS (lv_sub hl [0, 1, 2, 3, 4, 5, 6, 7, 8, 9, 10] rfl)
      · have hw := hw.2 c415
        refine lv_aload_n hx hb d_Mod_stripe_57 rfl (lv_at hl 0 rfl) ?_
        refine w_getf (q := 12) (k := 18) (t := 12) (C := R_Mod) (T := F_Mod) (N := 167) hx hb hT hown hK hW ko_0.1 ko_0.2 (by decide) in_Mod rfl rfl (by decide) rfl fr_Mod_18 w_8_194 d_Mod_stripe_58 rfl ?_
        refine lv_iload hx hb d_Mod_stripe_61 (lv_at hl 10 rfl) ?_
        obtain ⟨hi, hw⟩ := hw
        refine w_iald (o := 12) hx hb hK hW ko_12.1 ko_12.2 hi d_Mod_stripe_63 ?_
        refine lv_iload hx hb d_Mod_stripe_64 (lv_at hl 7 rfl) ?_
        refine lv_icmp_eq (tgt := 72) hx hb d_Mod_stripe_66 (by decide) (fun c416 => ?_) (fun c416 => ?_)
        · have hw := hw.1 c416
          refine lv_iload hx hb d_Mod_stripe_72 (lv_at hl 9 rfl) ?_
          refine lv_if_eq (tgt := 87) hx hb d_Mod_stripe_74 (by decide) (fun c417 => ?_) (fun c417 => ?_)
          · have hw := hw.1 c417
            exact t_Mod_stripe_87 hx hb hml hown hT hK hN hA hRc hRs hRf hRl hret hs_Mod_stripe hDf hDl hrec30 l1 l2 l3 l4 l5 l6 l7 l8 l9 l10 x H locs ls  hw hW hS (lv_sub hl [0, 1, 2, 3, 4, 5, 6, 7, 8, 9, 10] rfl)
          · have hw := hw.2 c417
            refine lv_aload_n hx hb d_Mod_stripe_77 rfl (lv_at hl 0 rfl) ?_
            refine lv_iconst (v := 0) hx hb d_Mod_stripe_78 (by decide) ?_
            refine lv_iload hx hb d_Mod_stripe_79 (lv_at hl 7 rfl) ?_
            refine lv_iconst (v := 1) hx hb d_Mod_stripe_81 (by decide) ?_
            have hF := hW.free hS hA
            refine va_calli (va_runV (C := R_Mod) (As := [.int 0, .int l7, .int 1]) (rest := []) ⟨hx, hb, hml, hown, hT⟩ (k_Mod_level l dC dI cI cB cJ cZ ad H.size 0 l7 1 x  hw) ⟨callB_of 3 hT (gwt_in w_11_114) rfl rfl rfl (hT _ w_1_15) (hT _ w_11_111) (by decide +kernel) ⟨Nat.le_trans (Nat.le_of_ble_eq_true rfl) hRf, Nat.le_trans (Nat.le_of_ble_eq_true rfl) hRl⟩, hT _ w_11_113, hT _ ws_136⟩ ⟨PW.blind, va_recv hK hW.1 (ci := 12) (q0 := 0) rfl (pic_obj ko_0.1 ko_0.2 (by decide)), PW.at _ hW hK hN⟩ rfl rfl hl.1 rfl (lv_room (Nat.le_of_ble_eq_true rfl)) d_Mod_stripe_82 ⟨hRc, hRs⟩) hS (fun q _ h => hF q h) hF (fun r419 x418 t H locs ht hvm hw hB hz1 hk1 hS => ?_)
            have hW := Wd.back hB ht hF
            clear hB ht hF hz1 hk1 hvm
            refine lv_istore (lv' := [(8, .int r419), (0, .ref (ad 0)), (1, .int l1), (2, .int l2), (3, .int l3), (4, .int l4), (5, .int l5), (6, .int l6), (7, .int l7), (9, .int l9), (10, .int l10)]) hx hb d_Mod_stripe_85 hl (by decide) rfl (fun ls hl => ?_)
            exact t_Mod_stripe_87 hx hb hml hown hT hK hN hA hRc hRs hRf hRl hret hs_Mod_stripe hDf hDl hrec30 l1 l2 l3 l4 l5 l6 l7 r419 l9 l10 x418 H locs ls  hw hW hS (lv_sub hl [1, 2, 3, 4, 5, 6, 7, 8, 0, 9, 10] rfl)
        · have hw := hw.2 c416
          refine lv_goto (tgt := 137) hx hb d_Mod_stripe_69 (by decide) ?_
          exact t_Mod_stripe_137 hx hb hml hown hT hK hN hA hRc hRs hRf hRl hret hs_Mod_stripe hDf hDl hrec30 l1 l2 l3 l4 l5 l6 l7 l8 l9 l10 x H locs ls  hw hW hS (lv_sub hl [0, 1, 2, 3, 4, 5, 6, 7, 8, 9, 10] rfl)
set_option maxHeartbeats 4000000 in
set_option maxRecDepth 100000 in
theorem tl_Mod_stripe_30 {p : Program} {l : Launch} {e : Env} {R : Room} {s : State} {m : MethodId} {args : Array Value} {below : List Frame} {meth : Method} {c : Code} {cells slots : Nat} {Q : State → Prop} {dC : Nat → ClassId} {dI : Nat → Nat → Nat} {cI cB cJ cZ : ClassId} {A : Nat → Prop} {ad : Nat → Nat} {post : St → Prop} {self_Mod_stripe : (St → Prop) → Int32 → Int32 → Int32 → Int32 → Int32 → St → Prop} {fd ld : Nat} (hx : p.tables.exec = Jvm.exec) (hb : c.code = b_Mod_stripe) (hml : c.maxLocals = 11) (hown : s.vm.findClass R_Mod = some m.cls) (hT : ∀ w ∈ TG, w.before args s = true) (hK : va_K (dC, dI) CL (TY cI cB cJ cZ) s) (hN : NW s) (hA : ∀ q : Nat, s.heap.size ≤ q → A q) (hRc : cells ≤ R.cells) (hRs : slots ≤ R.slots) (hRf : 3 ≤ R.frames) (hRl : 70 ≤ R.locals) (hret : ∀ (x : St) (H : Heap) (locs : List Loc) (pc : Nat) (ls : Array Slot), decode b_Mod_stripe pc = .ok (.return_, 1) → post x → Wd dC dI cI cB cJ cZ ad stM kcM 115 A x H → va_S A s.heap H locs → W p l e R s m args below meth c H locs cells slots Q (F0 m pc ls [])) (hs_Mod_stripe : ∀ (sz : Nat) (l1 : Int32) (l2 : Int32) (l3 : Int32) (l4 : Int32) (l5 : Int32) (x : St), ∀ (post : St → Prop), self_Mod_stripe post l1 l2 l3 l4 l5 x → Met l y_Mod_stripe (wsOf y_Mod_stripe b_Mod_stripe 11 (none)) ({ frames := fd, cells := 0, slots := 0, locals := ld }) (va_Pc [.ref (ad 0), .int l1, .int l2, .int l3, .int l4, .int l5] (PW dC dI cI cB cJ cZ ad stM kcM 115 sz x)) (va_Qv (fun (y : St) => post y) (fun y t => Wd dC dI cI cB cJ cZ ad stM kcM 115 (va_A (pic ad stM kcM 115 cI cB cJ cZ x) sz) y t.heap) (va_A (pic ad stM kcM 115 cI cB cJ cZ x) sz)) 0 0 (va_A (pic ad stM kcM 115 cI cB cJ cZ x) sz)) (hDf : fd + 1 ≤ R.frames) (hDl : 30 + ld ≤ R.locals)  : ∀ n : Nat, ∀ (l1 : Int32) (l2 : Int32) (l3 : Int32) (l4 : Int32) (l5 : Int32) (l6 : Int32) (l7 : Int32) (l8 : Int32) (l9 : Int32) (l10 : Int32) (x : St) (H : Heap) (locs : List Loc) (ls : Array Slot), wl_Mod_stripe_30 post self_Mod_stripe n l1 l2 l3 l4 l5 l6 l7 l8 l9 l10 x → Wd dC dI cI cB cJ cZ ad stM kcM 115 A x H → va_S A s.heap H locs → lv_has ls 11 [(0, .ref (ad 0)), (1, .int l1), (2, .int l2), (3, .int l3), (4, .int l4), (5, .int l5), (6, .int l6), (7, .int l7), (8, .int l8), (9, .int l9), (10, .int l10)] → W p l e R s m args below meth c H locs cells slots Q (F0 m 30 ls []) := by
  intro n
  induction n with
  | zero => intro l1 l2 l3 l4 l5 l6 l7 l8 l9 l10 x H locs ls  hw; exact hw.elim
  | succ n ih => intro l1 l2 l3 l4 l5 l6 l7 l8 l9 l10 x H locs ls  hw hW hS hl; exact t_Mod_stripe_30 hx hb hml hown hT hK hN hA hRc hRs hRf hRl hret hs_Mod_stripe hDf hDl  ih l1 l2 l3 l4 l5 l6 l7 l8 l9 l10 x H locs ls  hw hW hS hl
set_option maxRecDepth 100000 in
set_option maxHeartbeats 4000000 in
set_option maxRecDepth 100000 in
theorem t_Mod_stripe_e {p : Program} {l : Launch} {e : Env} {R : Room} {s : State} {m : MethodId} {args : Array Value} {below : List Frame} {meth : Method} {c : Code} {cells slots : Nat} {Q : State → Prop} {dC : Nat → ClassId} {dI : Nat → Nat → Nat} {cI cB cJ cZ : ClassId} {A : Nat → Prop} {ad : Nat → Nat} {post : St → Prop} {self_Mod_stripe : (St → Prop) → Int32 → Int32 → Int32 → Int32 → Int32 → St → Prop} {fd ld : Nat} (hx : p.tables.exec = Jvm.exec) (hb : c.code = b_Mod_stripe) (hml : c.maxLocals = 11) (hown : s.vm.findClass R_Mod = some m.cls) (hT : ∀ w ∈ TG, w.before args s = true) (hK : va_K (dC, dI) CL (TY cI cB cJ cZ) s) (hN : NW s) (hA : ∀ q : Nat, s.heap.size ≤ q → A q) (hRc : cells ≤ R.cells) (hRs : slots ≤ R.slots) (hRf : 3 ≤ R.frames) (hRl : 70 ≤ R.locals) (hret : ∀ (x : St) (H : Heap) (locs : List Loc) (pc : Nat) (ls : Array Slot), decode b_Mod_stripe pc = .ok (.return_, 1) → post x → Wd dC dI cI cB cJ cZ ad stM kcM 115 A x H → va_S A s.heap H locs → W p l e R s m args below meth c H locs cells slots Q (F0 m pc ls [])) (hs_Mod_stripe : ∀ (sz : Nat) (l1 : Int32) (l2 : Int32) (l3 : Int32) (l4 : Int32) (l5 : Int32) (x : St), ∀ (post : St → Prop), self_Mod_stripe post l1 l2 l3 l4 l5 x → Met l y_Mod_stripe (wsOf y_Mod_stripe b_Mod_stripe 11 (none)) ({ frames := fd, cells := 0, slots := 0, locals := ld }) (va_Pc [.ref (ad 0), .int l1, .int l2, .int l3, .int l4, .int l5] (PW dC dI cI cB cJ cZ ad stM kcM 115 sz x)) (va_Qv (fun (y : St) => post y) (fun y t => Wd dC dI cI cB cJ cZ ad stM kcM 115 (va_A (pic ad stM kcM 115 cI cB cJ cZ x) sz) y t.heap) (va_A (pic ad stM kcM 115 cI cB cJ cZ x) sz)) 0 0 (va_A (pic ad stM kcM 115 cI cB cJ cZ x) sz)) (hDf : fd + 1 ≤ R.frames) (hDl : 30 + ld ≤ R.locals) : ∀ (l1 : Int32) (l2 : Int32) (l3 : Int32) (l4 : Int32) (l5 : Int32) (x : St) (H : Heap) (locs : List Loc) (ls : Array Slot), wb_Mod_stripe post self_Mod_stripe l1 l2 l3 l4 l5 x → Wd dC dI cI cB cJ cZ ad stM kcM 115 A x H → va_S A s.heap H locs → lv_has ls 11 [(0, .ref (ad 0)), (1, .int l1), (2, .int l2), (3, .int l3), (4, .int l4), (5, .int l5)] → W p l e R s m args below meth c H locs cells slots Q (F0 m 0 ls []) := by
  intro l1 l2 l3 l4 l5 x H locs ls  hw hW hS hl
  unfold wb_Mod_stripe at hw
  refine lv_aload_n hx hb d_Mod_stripe_0 rfl (lv_at hl 0 rfl) ?_
  refine w_getf (q := 11) (k := 13) (t := 12) (C := R_Mod) (T := F_Mod) (N := 167) hx hb hT hown hK hW ko_0.1 ko_0.2 (by decide) in_Mod rfl rfl (by decide) rfl fr_Mod_13 w_8_189 d_Mod_stripe_1 rfl ?_
  refine lv_iload_n hx hb d_Mod_stripe_4 rfl (lv_at hl 1 rfl) ?_
  obtain ⟨hi, hw⟩ := hw
  refine w_iald (o := 11) hx hb hK hW ko_11.1 ko_11.2 hi d_Mod_stripe_5 ?_
  refine lv_topi (fun v420 ev420 => ?_)
  have hw := hw v420 ev420
  refine lv_istore (lv' := [(6, .int v420), (0, .ref (ad 0)), (1, .int l1), (2, .int l2), (3, .int l3), (4, .int l4), (5, .int l5)]) hx hb d_Mod_stripe_6 hl (by decide) rfl (fun ls hl => ?_)
  refine lv_aload_n hx hb d_Mod_stripe_8 rfl (lv_at hl 1 rfl) ?_
  refine lv_iconst (v := 0) hx hb d_Mod_stripe_9 (by decide) ?_
  refine lv_iload hx hb d_Mod_stripe_10 (lv_at hl 0 rfl) ?_
  refine lv_iload_n hx hb d_Mod_stripe_12 rfl (lv_at hl 4 rfl) ?_
  have hF := hW.free hS hA
  refine va_calli (va_runV (C := R_Mod) (As := [.int 0, .int v420, .int l3]) (rest := []) ⟨hx, hb, hml, hown, hT⟩ (k_Mod_onWay l dC dI cI cB cJ cZ ad H.size 0 v420 l3 x  hw) ⟨callB_of 3 hT (gwt_in w_11_110) rfl rfl rfl (hT _ w_1_15) (hT _ w_11_107) (by decide +kernel) ⟨Nat.le_trans (Nat.le_of_ble_eq_true rfl) hRf, Nat.le_trans (Nat.le_of_ble_eq_true rfl) hRl⟩, hT _ w_11_109, hT _ ws_135⟩ ⟨PW.blind, va_recv hK hW.1 (ci := 12) (q0 := 0) rfl (pic_obj ko_0.1 ko_0.2 (by decide)), PW.at _ hW hK hN⟩ rfl rfl hl.1 rfl (lv_room (Nat.le_of_ble_eq_true rfl)) d_Mod_stripe_13 ⟨hRc, hRs⟩) hS (fun q _ h => hF q h) hF (fun r422 x421 t H locs ht hvm hw hB hz1 hk1 hS => ?_)
  have hW := Wd.back hB ht hF
  clear hB ht hF hz1 hk1 hvm
  refine lv_istore (lv' := [(7, .int r422), (6, .int v420), (0, .ref (ad 0)), (1, .int l1), (2, .int l2), (3, .int l3), (4, .int l4), (5, .int l5)]) hx hb d_Mod_stripe_16 hl (by decide) rfl (fun ls hl => ?_)
  refine lv_iload hx hb d_Mod_stripe_18 (lv_at hl 6 rfl) ?_
  refine lv_istore (lv' := [(8, .int l4), (7, .int r422), (6, .int v420), (0, .ref (ad 0)), (1, .int l1), (2, .int l2), (3, .int l3), (4, .int l4), (5, .int l5)]) hx hb d_Mod_stripe_20 hl (by decide) rfl (fun ls hl => ?_)
  refine lv_iconst (v := 0) hx hb d_Mod_stripe_22 (by decide) ?_
  refine lv_istore (lv' := [(9, .int 0), (8, .int l4), (7, .int r422), (6, .int v420), (0, .ref (ad 0)), (1, .int l1), (2, .int l2), (3, .int l3), (4, .int l4), (5, .int l5)]) hx hb d_Mod_stripe_23 hl (by decide) rfl (fun ls hl => ?_)
  refine lv_iload_n hx hb d_Mod_stripe_25 rfl (lv_at hl 6 rfl) ?_
  refine lv_iconst (v := 1) hx hb d_Mod_stripe_26 (by decide) ?_
  refine lv_iadd hx hb d_Mod_stripe_27 ?_
  refine lv_topi (fun v423 ev423 => ?_)
  have hw := hw v423 ev423
  refine lv_istore (lv' := [(10, .int v423), (9, .int 0), (8, .int l4), (7, .int r422), (6, .int v420), (0, .ref (ad 0)), (1, .int l1), (2, .int l2), (3, .int l3), (4, .int l4), (5, .int l5)]) hx hb d_Mod_stripe_28 hl (by decide) rfl (fun ls hl => ?_)
  obtain ⟨n, hw⟩ := hw
  exact tl_Mod_stripe_30 hx hb hml hown hT hK hN hA hRc hRs hRf hRl hret hs_Mod_stripe hDf hDl  n l1 l2 l3 l4 l5 v420 r422 l4 0 v423 x421 H locs ls  hw hW hS (lv_sub hl [5, 6, 7, 8, 9, 10, 4, 3, 2, 1, 0] rfl)
set_option maxHeartbeats 4000000 in
set_option maxRecDepth 100000 in
theorem kr_Mod_stripe (l : Launch) (dC : Nat → ClassId) (dI : Nat → Nat → Nat) (cI cB cJ cZ : ClassId) (ad : Nat → Nat) : ∀ d : Nat, (∀ (sz : Nat) (l1 : Int32) (l2 : Int32) (l3 : Int32) (l4 : Int32) (l5 : Int32) (x : St), ∀ (post : St → Prop), (wr_Mod_stripe d) post l1 l2 l3 l4 l5 x → Met l y_Mod_stripe (wsOf y_Mod_stripe b_Mod_stripe 11 (none)) ({ frames := 3 + d, cells := 0, slots := 0, locals := 70 + d * 30 }) (va_Pc [.ref (ad 0), .int l1, .int l2, .int l3, .int l4, .int l5] (PW dC dI cI cB cJ cZ ad stM kcM 115 sz x)) (va_Qv (fun (y : St) => post y) (fun y t => Wd dC dI cI cB cJ cZ ad stM kcM 115 (va_A (pic ad stM kcM 115 cI cB cJ cZ x) sz) y t.heap) (va_A (pic ad stM kcM 115 cI cB cJ cZ x) sz)) 0 0 (va_A (pic ad stM kcM 115 cI cB cJ cZ x) sz)) := by
  intro d
  induction d with
  | zero =>
    exact fun sz l1 l2 l3 l4 l5 x  post hw => hw.elim
  | succ d ih =>
    intro sz l1 l2 l3 l4 l5 x  post hw
    have hw : wb_Mod_stripe post (wr_Mod_stripe d) l1 l2 l3 l4 l5 x := hw
    refine Met.ofW (cc := b_Mod_stripe) (maxL := 11) (ret := none) (by decide) rfl ?_
    intro p e s m args below meth c s₁ B hml hv
    obtain ⟨rfl, hsz, hW0, hK, hN⟩ := hv
    have hx := B.exec
    have hb := B.bytes
    have hr := B.returns
    have hts := atoms_spec B.pre
    have hT : ∀ w ∈ TG, w.before _ s = true := fun w h => hts w (List.mem_cons_of_mem _ h)
    have hown : s.vm.findClass R_Mod = some m.cls := findClass_of_methodNamed B.named
    have hlocks := B.notSynchronized
    subst hsz
    have hW : Wd dC dI cI cB cJ cZ ad stM kcM 115 (va_A (pic ad stM kcM 115 cI cB cJ cZ x) s.heap.size) x s.heap := ⟨hW0.1, hW0.2.1.self (sz := s.heap.size), hW0.2.2⟩
    generalize hAe : va_A (pic ad stM kcM 115 cI cB cJ cZ x) s.heap.size = A at hW ⊢
    have hA : ∀ q : Nat, s.heap.size ≤ q → A q := fun q h => by rw [← hAe]; exact Or.inr h
    have hS : va_S A s.heap s.heap [] := va_S.rf
    have hl := lv_entry ([.ref (ad 0), .int l1, .int l2, .int l3, .int l4, .int l5]) (n := 11) (Nat.le_of_ble_eq_true rfl)
    rw [lg_entry_eq]
    generalize (lg_sl ([.ref (ad 0), .int l1, .int l2, .int l3, .int l4, .int l5]) ++ List.replicate (11 - (lg_sl ([.ref (ad 0), .int l1, .int l2, .int l3, .int l4, .int l5])).length) Slot.unset).toArray = ls at hl ⊢
    have hl : lv_has ls 11 [(0, .ref (ad 0)), (1, .int l1), (2, .int l2), (3, .int l3), (4, .int l4), (5, .int l5)] := hl
    exact t_Mod_stripe_e hx hb hml hown hT hK hN hA (Nat.le_refl 0) (Nat.le_refl 0) (Nat.le_add_right 3 (d + 1)) (Nat.le_add_right 70 ((d + 1) * 30)) (fun x H locs pc ls hd hp hW hS => W.vret hx hb hr (fun t ht hM => ⟨⟨x, rfl, hp, Wd.back hW ht.symm (fun _ z => z)⟩, hS.F ht⟩) hS.2.2 hd hlocks) ih (Nat.le_of_eq (Nat.add_assoc 3 d 1)) (by show 30 + (70 + d * 30) ≤ 70 + (d + 1) * 30; omega) l1 l2 l3 l4 l5 x _ _ ls  hw hW hS hl

theorem k_Mod_stripe (l : Launch) (dC : Nat → ClassId) (dI : Nat → Nat → Nat) (cI cB cJ cZ : ClassId) (ad : Nat → Nat) (sz : Nat) (l1 : Int32) (l2 : Int32) (l3 : Int32) (l4 : Int32) (l5 : Int32) (x : St) {post : St → Prop} (hw : wp_Mod_stripe post l1 l2 l3 l4 l5 x) : Met l y_Mod_stripe (wsOf y_Mod_stripe b_Mod_stripe 11 (none)) ({ frames := 203, cells := 0, slots := 0, locals := 6070 }) (va_Pc [.ref (ad 0), .int l1, .int l2, .int l3, .int l4, .int l5] (PW dC dI cI cB cJ cZ ad stM kcM 115 sz x)) (va_Qv (fun (y : St) => post y) (fun y t => Wd dC dI cI cB cJ cZ ad stM kcM 115 (va_A (pic ad stM kcM 115 cI cB cJ cZ x) sz) y t.heap) (va_A (pic ad stM kcM 115 cI cB cJ cZ x) sz)) 0 0 (va_A (pic ad stM kcM 115 cI cB cJ cZ x) sz) := (kr_Mod_stripe l dC dI cI cB cJ cZ ad 200) sz l1 l2 l3 l4 l5 x  post hw
end
