theorem w_12_161 : (Jvm.Cond.methodLink "StripedVaultModel" (908 : Nat) ({ cls := "StripedVaultModel", name := "openPage", desc := "(III)V" } : Jvm.MethodName)) ∈ TG := tw_12 161 (by decide +kernel) (by decide +kernel)
theorem w_12_163 : (Jvm.Cond.instanceMethod ({ cls := "StripedVaultModel", name := "openPage", desc := "(III)V" } : Jvm.MethodName)) ∈ TG := tw_12 163 (by decide +kernel) (by decide +kernel)
theorem w_12_164 : (Jvm.Cond.code ({ cls := "StripedVaultModel", name := "openPage", desc := "(III)V" } : Jvm.MethodName) prog_14_method_133_code (8 : Nat) (Option.none : Option Jvm.ClassFile.FieldType)) ∈ TG := tw_12 164 rfl (by decide +kernel)
theorem w_13_27 : (Jvm.Cond.methodLink "StripedVaultModel" (911 : Nat) ({ cls := "StripedVaultModel", name := "apart", desc := "(II)V" } : Jvm.MethodName)) ∈ TG := tw_13 27 (by decide +kernel) (by decide +kernel)
theorem w_13_29 : (Jvm.Cond.instanceMethod ({ cls := "StripedVaultModel", name := "apart", desc := "(II)V" } : Jvm.MethodName)) ∈ TG := tw_13 29 (by decide +kernel) (by decide +kernel)
theorem w_13_30 : (Jvm.Cond.code ({ cls := "StripedVaultModel", name := "apart", desc := "(II)V" } : Jvm.MethodName) prog_14_method_136_code (9 : Nat) (Option.none : Option Jvm.ClassFile.FieldType)) ∈ TG := tw_13 30 (by decide +kernel) (by decide +kernel)
theorem w_13_31 : (Jvm.Cond.methodLink "StripedVaultModel" (914 : Nat) ({ cls := "StripedVaultModel", name := "around", desc := "(II)I" } : Jvm.MethodName)) ∈ TG := tw_13 31 (by decide +kernel) (by decide +kernel)
theorem w_13_33 : (Jvm.Cond.instanceMethod ({ cls := "StripedVaultModel", name := "around", desc := "(II)I" } : Jvm.MethodName)) ∈ TG := tw_13 33 (by decide +kernel) (by decide +kernel)
theorem w_13_34 : (Jvm.Cond.code ({ cls := "StripedVaultModel", name := "around", desc := "(II)I" } : Jvm.MethodName) prog_14_method_135_code (7 : Nat) (Option.some Jvm.ClassFile.FieldType.int)) ∈ TG := tw_13 34 (by decide +kernel) (by decide +kernel)
theorem ws_195 : Cond.selects R_Mod y_Mod_openPage y_Mod_openPage ∈ TG := tw_s 195 (by decide +kernel) (by decide +kernel)
theorem ws_220 : Cond.selects R_Mod y_Mod_apart y_Mod_apart ∈ TG := tw_s 220 (by decide +kernel) (by decide +kernel)
theorem ws_221 : Cond.selects R_Mod y_Mod_around y_Mod_around ∈ TG := tw_s 221 (by decide +kernel) (by decide +kernel)
theorem d_Mod_around_109 : decode b_Mod_around 109 = .ok (.iload_n 3, 1) := by decide +kernel
theorem d_Mod_around_110 : decode b_Mod_around 110 = .ok (.ireturn, 1) := by decide +kernel
theorem d_Mod_around_92 : decode b_Mod_around 92 = .ok (.istore_n 3, 1) := by decide +kernel
theorem d_Mod_around_93 : decode b_Mod_around 93 = .ok (.aload_n 0, 1) := by decide +kernel
theorem d_Mod_around_94 : decode b_Mod_around 94 = .ok (.getfield 23, 3) := by decide +kernel
theorem d_Mod_around_97 : decode b_Mod_around 97 = .ok (.iconst 1, 1) := by decide +kernel
theorem d_Mod_around_98 : decode b_Mod_around 98 = .ok (.iload 4, 2) := by decide +kernel
theorem d_Mod_around_100 : decode b_Mod_around 100 = .ok (.invokestatic 412, 3) := by decide +kernel
theorem d_Mod_around_103 : decode b_Mod_around 103 = .ok (.iaload, 1) := by decide +kernel
theorem d_Mod_around_104 : decode b_Mod_around 104 = .ok (.istore 4, 2) := by decide +kernel
theorem d_Mod_around_106 : decode b_Mod_around 106 = .ok (.goto (-92), 3) := by decide +kernel
theorem d_Mod_around_63 : decode b_Mod_around 63 = .ok (.istore 5, 2) := by decide +kernel
theorem d_Mod_around_65 : decode b_Mod_around 65 = .ok (.aload_n 0, 1) := by decide +kernel
theorem d_Mod_around_66 : decode b_Mod_around 66 = .ok (.getfield 23, 3) := by decide +kernel
theorem d_Mod_around_69 : decode b_Mod_around 69 = .ok (.iconst 1, 1) := by decide +kernel
theorem d_Mod_around_70 : decode b_Mod_around 70 = .ok (.iload 6, 2) := by decide +kernel
theorem d_Mod_around_72 : decode b_Mod_around 72 = .ok (.invokestatic 412, 3) := by decide +kernel
theorem d_Mod_around_75 : decode b_Mod_around 75 = .ok (.iaload, 1) := by decide +kernel
theorem d_Mod_around_76 : decode b_Mod_around 76 = .ok (.istore 6, 2) := by decide +kernel
theorem d_Mod_around_78 : decode b_Mod_around 78 = .ok (.goto (-38), 3) := by decide +kernel
theorem d_Mod_around_58 : decode b_Mod_around 58 = .ok (.iconst 1, 1) := by decide +kernel
theorem d_Mod_around_59 : decode b_Mod_around 59 = .ok (.goto 4, 3) := by decide +kernel
theorem d_Mod_around_40 : decode b_Mod_around 40 = .ok (.iload 6, 2) := by decide +kernel
theorem d_Mod_around_42 : decode b_Mod_around 42 = .ok (.iconst (-1), 1) := by decide +kernel
theorem d_Mod_around_43 : decode b_Mod_around 43 = .ok (.if_icmp .eq 38, 3) := by decide +kernel
theorem d_Mod_around_81 : decode b_Mod_around 81 = .ok (.iload 5, 2) := by decide +kernel
theorem d_Mod_around_83 : decode b_Mod_around 83 = .ok (.ifCond .eq 8, 3) := by decide +kernel
theorem d_Mod_around_91 : decode b_Mod_around 91 = .ok (.iload_n 3, 1) := by decide +kernel
theorem d_Mod_around_86 : decode b_Mod_around 86 = .ok (.iload 4, 2) := by decide +kernel
theorem d_Mod_around_88 : decode b_Mod_around 88 = .ok (.goto 4, 3) := by decide +kernel
theorem d_Mod_around_46 : decode b_Mod_around 46 = .ok (.iload 5, 2) := by decide +kernel
theorem d_Mod_around_48 : decode b_Mod_around 48 = .ok (.ifCond .ne 10, 3) := by decide +kernel
theorem d_Mod_around_51 : decode b_Mod_around 51 = .ok (.iload 6, 2) := by decide +kernel
theorem d_Mod_around_53 : decode b_Mod_around 53 = .ok (.iload 4, 2) := by decide +kernel
theorem d_Mod_around_55 : decode b_Mod_around 55 = .ok (.if_icmp .ne 7, 3) := by decide +kernel
theorem d_Mod_around_62 : decode b_Mod_around 62 = .ok (.iconst 0, 1) := by decide +kernel
theorem d_Mod_around_14 : decode b_Mod_around 14 = .ok (.iload 4, 2) := by decide +kernel
theorem d_Mod_around_16 : decode b_Mod_around 16 = .ok (.iconst (-1), 1) := by decide +kernel
theorem d_Mod_around_17 : decode b_Mod_around 17 = .ok (.if_icmp .eq 92, 3) := by decide +kernel
theorem d_Mod_around_20 : decode b_Mod_around 20 = .ok (.iload_n 3, 1) := by decide +kernel
theorem d_Mod_around_21 : decode b_Mod_around 21 = .ok (.iconst (-1), 1) := by decide +kernel
theorem d_Mod_around_22 : decode b_Mod_around 22 = .ok (.if_icmp .ne 87, 3) := by decide +kernel
theorem d_Mod_around_25 : decode b_Mod_around 25 = .ok (.iconst 0, 1) := by decide +kernel
theorem d_Mod_around_26 : decode b_Mod_around 26 = .ok (.istore 5, 2) := by decide +kernel
theorem d_Mod_around_28 : decode b_Mod_around 28 = .ok (.aload_n 0, 1) := by decide +kernel
theorem d_Mod_around_29 : decode b_Mod_around 29 = .ok (.getfield 23, 3) := by decide +kernel
theorem d_Mod_around_32 : decode b_Mod_around 32 = .ok (.iconst 1, 1) := by decide +kernel
theorem d_Mod_around_33 : decode b_Mod_around 33 = .ok (.iload_n 2, 1) := by decide +kernel
theorem d_Mod_around_34 : decode b_Mod_around 34 = .ok (.invokestatic 412, 3) := by decide +kernel
theorem d_Mod_around_37 : decode b_Mod_around 37 = .ok (.iaload, 1) := by decide +kernel
theorem d_Mod_around_38 : decode b_Mod_around 38 = .ok (.istore 6, 2) := by decide +kernel
theorem d_Mod_around_0 : decode b_Mod_around 0 = .ok (.iconst (-1), 1) := by decide +kernel
theorem d_Mod_around_1 : decode b_Mod_around 1 = .ok (.istore_n 3, 1) := by decide +kernel
theorem d_Mod_around_2 : decode b_Mod_around 2 = .ok (.aload_n 0, 1) := by decide +kernel
theorem d_Mod_around_3 : decode b_Mod_around 3 = .ok (.getfield 23, 3) := by decide +kernel
theorem d_Mod_around_6 : decode b_Mod_around 6 = .ok (.iconst 1, 1) := by decide +kernel
theorem d_Mod_around_7 : decode b_Mod_around 7 = .ok (.iload_n 1, 1) := by decide +kernel
theorem d_Mod_around_8 : decode b_Mod_around 8 = .ok (.invokestatic 412, 3) := by decide +kernel
theorem d_Mod_around_11 : decode b_Mod_around 11 = .ok (.iaload, 1) := by decide +kernel
theorem d_Mod_around_12 : decode b_Mod_around 12 = .ok (.istore 4, 2) := by decide +kernel
theorem d_Mod_apart_271 : decode b_Mod_apart 271 = .ok (.bipush 21, 2) := by decide +kernel
theorem d_Mod_apart_273 : decode b_Mod_apart 273 = .ok (.invokevirtual 841, 3) := by decide +kernel
theorem d_Mod_apart_276 : decode b_Mod_apart 276 = .ok (.return_, 1) := by decide +kernel
theorem d_Mod_apart_256 : decode b_Mod_apart 256 = .ok (.aload_n 0, 1) := by decide +kernel
theorem d_Mod_apart_257 : decode b_Mod_apart 257 = .ok (.iload 6, 2) := by decide +kernel
theorem d_Mod_apart_259 : decode b_Mod_apart 259 = .ok (.aload_n 0, 1) := by decide +kernel
theorem d_Mod_apart_260 : decode b_Mod_apart 260 = .ok (.getfield 896, 3) := by decide +kernel
theorem d_Mod_apart_263 : decode b_Mod_apart 263 = .ok (.if_icmp .ge 7, 3) := by decide +kernel
theorem d_Mod_apart_270 : decode b_Mod_apart 270 = .ok (.iconst 0, 1) := by decide +kernel
theorem d_Mod_apart_266 : decode b_Mod_apart 266 = .ok (.iconst 1, 1) := by decide +kernel
theorem d_Mod_apart_267 : decode b_Mod_apart 267 = .ok (.goto 4, 3) := by decide +kernel
theorem d_Mod_apart_229 : decode b_Mod_apart 229 = .ok (.iload 6, 2) := by decide +kernel
theorem d_Mod_apart_231 : decode b_Mod_apart 231 = .ok (.aload_n 0, 1) := by decide +kernel
theorem d_Mod_apart_232 : decode b_Mod_apart 232 = .ok (.getfield 896, 3) := by decide +kernel
theorem d_Mod_apart_235 : decode b_Mod_apart 235 = .ok (.if_icmp .ge 21, 3) := by decide +kernel
theorem d_Mod_apart_238 : decode b_Mod_apart 238 = .ok (.aload_n 0, 1) := by decide +kernel
theorem d_Mod_apart_239 : decode b_Mod_apart 239 = .ok (.getfield 186, 3) := by decide +kernel
theorem d_Mod_apart_242 : decode b_Mod_apart 242 = .ok (.iload 6, 2) := by decide +kernel
theorem d_Mod_apart_244 : decode b_Mod_apart 244 = .ok (.iaload, 1) := by decide +kernel
theorem d_Mod_apart_245 : decode b_Mod_apart 245 = .ok (.iload 4, 2) := by decide +kernel
theorem d_Mod_apart_247 : decode b_Mod_apart 247 = .ok (.if_icmp .le 9, 3) := by decide +kernel
theorem d_Mod_apart_250 : decode b_Mod_apart 250 = .ok (.iinc 6 1, 3) := by decide +kernel
theorem d_Mod_apart_253 : decode b_Mod_apart 253 = .ok (.goto (-24), 3) := by decide +kernel
theorem d_Mod_apart_223 : decode b_Mod_apart 223 = .ok (.iinc 7 1, 3) := by decide +kernel
theorem d_Mod_apart_226 : decode b_Mod_apart 226 = .ok (.goto (-159), 3) := by decide +kernel
theorem d_Mod_apart_215 : decode b_Mod_apart 215 = .ok (.bipush 21, 2) := by decide +kernel
theorem d_Mod_apart_217 : decode b_Mod_apart 217 = .ok (.invokevirtual 841, 3) := by decide +kernel
theorem d_Mod_apart_220 : decode b_Mod_apart 220 = .ok (.iinc 6 1, 3) := by decide +kernel
theorem d_Mod_apart_202 : decode b_Mod_apart 202 = .ok (.istore 8, 2) := by decide +kernel
theorem d_Mod_apart_204 : decode b_Mod_apart 204 = .ok (.aload_n 0, 1) := by decide +kernel
theorem d_Mod_apart_205 : decode b_Mod_apart 205 = .ok (.iload 8, 2) := by decide +kernel
theorem d_Mod_apart_207 : decode b_Mod_apart 207 = .ok (.ifCond .ne 7, 3) := by decide +kernel
theorem d_Mod_apart_214 : decode b_Mod_apart 214 = .ok (.iconst 0, 1) := by decide +kernel
theorem d_Mod_apart_210 : decode b_Mod_apart 210 = .ok (.iconst 1, 1) := by decide +kernel
theorem d_Mod_apart_211 : decode b_Mod_apart 211 = .ok (.goto 4, 3) := by decide +kernel
theorem d_Mod_apart_201 : decode b_Mod_apart 201 = .ok (.iconst 0, 1) := by decide +kernel
theorem d_Mod_apart_194 : decode b_Mod_apart 194 = .ok (.if_icmp .ne 7, 3) := by decide +kernel
theorem d_Mod_apart_197 : decode b_Mod_apart 197 = .ok (.iconst 1, 1) := by decide +kernel
theorem d_Mod_apart_198 : decode b_Mod_apart 198 = .ok (.goto 4, 3) := by decide +kernel
theorem d_Mod_apart_170 : decode b_Mod_apart 170 = .ok (.aload_n 0, 1) := by decide +kernel
theorem d_Mod_apart_171 : decode b_Mod_apart 171 = .ok (.getfield 189, 3) := by decide +kernel
theorem d_Mod_apart_174 : decode b_Mod_apart 174 = .ok (.iload 6, 2) := by decide +kernel
theorem d_Mod_apart_176 : decode b_Mod_apart 176 = .ok (.iaload, 1) := by decide +kernel
theorem d_Mod_apart_177 : decode b_Mod_apart 177 = .ok (.iload 5, 2) := by decide +kernel
theorem d_Mod_apart_179 : decode b_Mod_apart 179 = .ok (.if_icmp .ge 13, 3) := by decide +kernel
theorem d_Mod_apart_192 : decode b_Mod_apart 192 = .ok (.iload 5, 2) := by decide +kernel
theorem d_Mod_apart_182 : decode b_Mod_apart 182 = .ok (.aload_n 0, 1) := by decide +kernel
theorem d_Mod_apart_183 : decode b_Mod_apart 183 = .ok (.getfield 189, 3) := by decide +kernel
theorem d_Mod_apart_186 : decode b_Mod_apart 186 = .ok (.iload 6, 2) := by decide +kernel
theorem d_Mod_apart_188 : decode b_Mod_apart 188 = .ok (.iaload, 1) := by decide +kernel
theorem d_Mod_apart_189 : decode b_Mod_apart 189 = .ok (.goto 5, 3) := by decide +kernel
theorem d_Mod_apart_120 : decode b_Mod_apart 120 = .ok (.iload 6, 2) := by decide +kernel
theorem d_Mod_apart_122 : decode b_Mod_apart 122 = .ok (.aload_n 0, 1) := by decide +kernel
theorem d_Mod_apart_123 : decode b_Mod_apart 123 = .ok (.getfield 896, 3) := by decide +kernel
theorem d_Mod_apart_126 : decode b_Mod_apart 126 = .ok (.if_icmp .ge 75, 3) := by decide +kernel
theorem d_Mod_apart_129 : decode b_Mod_apart 129 = .ok (.aload_n 0, 1) := by decide +kernel
theorem d_Mod_apart_130 : decode b_Mod_apart 130 = .ok (.getfield 186, 3) := by decide +kernel
theorem d_Mod_apart_133 : decode b_Mod_apart 133 = .ok (.iload 7, 2) := by decide +kernel
theorem d_Mod_apart_135 : decode b_Mod_apart 135 = .ok (.iaload, 1) := by decide +kernel
theorem d_Mod_apart_136 : decode b_Mod_apart 136 = .ok (.aload_n 0, 1) := by decide +kernel
theorem d_Mod_apart_137 : decode b_Mod_apart 137 = .ok (.getfield 186, 3) := by decide +kernel
theorem d_Mod_apart_140 : decode b_Mod_apart 140 = .ok (.iload 6, 2) := by decide +kernel
theorem d_Mod_apart_142 : decode b_Mod_apart 142 = .ok (.iaload, 1) := by decide +kernel
theorem d_Mod_apart_143 : decode b_Mod_apart 143 = .ok (.if_icmp .ne 58, 3) := by decide +kernel
theorem d_Mod_apart_146 : decode b_Mod_apart 146 = .ok (.aload_n 0, 1) := by decide +kernel
theorem d_Mod_apart_147 : decode b_Mod_apart 147 = .ok (.getfield 189, 3) := by decide +kernel
theorem d_Mod_apart_150 : decode b_Mod_apart 150 = .ok (.iload 7, 2) := by decide +kernel
theorem d_Mod_apart_152 : decode b_Mod_apart 152 = .ok (.iaload, 1) := by decide +kernel
theorem d_Mod_apart_153 : decode b_Mod_apart 153 = .ok (.iload 5, 2) := by decide +kernel
theorem d_Mod_apart_155 : decode b_Mod_apart 155 = .ok (.if_icmp .ge 13, 3) := by decide +kernel
theorem d_Mod_apart_168 : decode b_Mod_apart 168 = .ok (.iload 5, 2) := by decide +kernel
theorem d_Mod_apart_158 : decode b_Mod_apart 158 = .ok (.aload_n 0, 1) := by decide +kernel
theorem d_Mod_apart_159 : decode b_Mod_apart 159 = .ok (.getfield 189, 3) := by decide +kernel
theorem d_Mod_apart_162 : decode b_Mod_apart 162 = .ok (.iload 7, 2) := by decide +kernel
theorem d_Mod_apart_164 : decode b_Mod_apart 164 = .ok (.iaload, 1) := by decide +kernel
theorem d_Mod_apart_165 : decode b_Mod_apart 165 = .ok (.goto 5, 3) := by decide +kernel
theorem d_Mod_apart_93 : decode b_Mod_apart 93 = .ok (.iload 6, 2) := by decide +kernel
theorem d_Mod_apart_95 : decode b_Mod_apart 95 = .ok (.aload_n 0, 1) := by decide +kernel
theorem d_Mod_apart_96 : decode b_Mod_apart 96 = .ok (.getfield 896, 3) := by decide +kernel
theorem d_Mod_apart_99 : decode b_Mod_apart 99 = .ok (.if_icmp .ge 21, 3) := by decide +kernel
theorem d_Mod_apart_102 : decode b_Mod_apart 102 = .ok (.aload_n 0, 1) := by decide +kernel
theorem d_Mod_apart_103 : decode b_Mod_apart 103 = .ok (.getfield 186, 3) := by decide +kernel
theorem d_Mod_apart_106 : decode b_Mod_apart 106 = .ok (.iload 6, 2) := by decide +kernel
theorem d_Mod_apart_108 : decode b_Mod_apart 108 = .ok (.iaload, 1) := by decide +kernel
theorem d_Mod_apart_109 : decode b_Mod_apart 109 = .ok (.iload 4, 2) := by decide +kernel
theorem d_Mod_apart_111 : decode b_Mod_apart 111 = .ok (.if_icmp .le 9, 3) := by decide +kernel
theorem d_Mod_apart_114 : decode b_Mod_apart 114 = .ok (.iinc 6 1, 3) := by decide +kernel
theorem d_Mod_apart_117 : decode b_Mod_apart 117 = .ok (.goto (-24), 3) := by decide +kernel
theorem d_Mod_apart_67 : decode b_Mod_apart 67 = .ok (.iload 7, 2) := by decide +kernel
theorem d_Mod_apart_69 : decode b_Mod_apart 69 = .ok (.aload_n 0, 1) := by decide +kernel
theorem d_Mod_apart_70 : decode b_Mod_apart 70 = .ok (.getfield 207, 3) := by decide +kernel
theorem d_Mod_apart_73 : decode b_Mod_apart 73 = .ok (.iload_n 1, 1) := by decide +kernel
theorem d_Mod_apart_74 : decode b_Mod_apart 74 = .ok (.iaload, 1) := by decide +kernel
theorem d_Mod_apart_75 : decode b_Mod_apart 75 = .ok (.if_icmp .ge 154, 3) := by decide +kernel
theorem d_Mod_apart_78 : decode b_Mod_apart 78 = .ok (.aload_n 0, 1) := by decide +kernel
theorem d_Mod_apart_79 : decode b_Mod_apart 79 = .ok (.getfield 186, 3) := by decide +kernel
theorem d_Mod_apart_82 : decode b_Mod_apart 82 = .ok (.iload 7, 2) := by decide +kernel
theorem d_Mod_apart_84 : decode b_Mod_apart 84 = .ok (.iaload, 1) := by decide +kernel
theorem d_Mod_apart_85 : decode b_Mod_apart 85 = .ok (.iload 4, 2) := by decide +kernel
theorem d_Mod_apart_87 : decode b_Mod_apart 87 = .ok (.if_icmp .le 6, 3) := by decide +kernel
theorem d_Mod_apart_90 : decode b_Mod_apart 90 = .ok (.goto 133, 3) := by decide +kernel
theorem d_Mod_apart_0 : decode b_Mod_apart 0 = .ok (.aload_n 0, 1) := by decide +kernel
theorem d_Mod_apart_1 : decode b_Mod_apart 1 = .ok (.aload_n 0, 1) := by decide +kernel
theorem d_Mod_apart_2 : decode b_Mod_apart 2 = .ok (.getfield 41, 3) := by decide +kernel
theorem d_Mod_apart_5 : decode b_Mod_apart 5 = .ok (.bipush 64, 2) := by decide +kernel
theorem d_Mod_apart_7 : decode b_Mod_apart 7 = .ok (.iload_n 2, 1) := by decide +kernel
theorem d_Mod_apart_8 : decode b_Mod_apart 8 = .ok (.iadd, 1) := by decide +kernel
theorem d_Mod_apart_9 : decode b_Mod_apart 9 = .ok (.iconst 1, 1) := by decide +kernel
theorem d_Mod_apart_10 : decode b_Mod_apart 10 = .ok (.isub, 1) := by decide +kernel
theorem d_Mod_apart_11 : decode b_Mod_apart 11 = .ok (.iaload, 1) := by decide +kernel
theorem d_Mod_apart_12 : decode b_Mod_apart 12 = .ok (.aload_n 0, 1) := by decide +kernel
theorem d_Mod_apart_13 : decode b_Mod_apart 13 = .ok (.getfield 41, 3) := by decide +kernel
theorem d_Mod_apart_16 : decode b_Mod_apart 16 = .ok (.bipush 64, 2) := by decide +kernel
theorem d_Mod_apart_18 : decode b_Mod_apart 18 = .ok (.iload_n 2, 1) := by decide +kernel
theorem d_Mod_apart_19 : decode b_Mod_apart 19 = .ok (.iadd, 1) := by decide +kernel
theorem d_Mod_apart_20 : decode b_Mod_apart 20 = .ok (.iaload, 1) := by decide +kernel
theorem d_Mod_apart_21 : decode b_Mod_apart 21 = .ok (.invokevirtual 914, 3) := by decide +kernel
theorem d_Mod_apart_24 : decode b_Mod_apart 24 = .ok (.istore_n 3, 1) := by decide +kernel
theorem d_Mod_apart_25 : decode b_Mod_apart 25 = .ok (.iload_n 3, 1) := by decide +kernel
theorem d_Mod_apart_26 : decode b_Mod_apart 26 = .ok (.iconst (-1), 1) := by decide +kernel
theorem d_Mod_apart_27 : decode b_Mod_apart 27 = .ok (.if_icmp .ne 4, 3) := by decide +kernel
theorem d_Mod_apart_31 : decode b_Mod_apart 31 = .ok (.aload_n 0, 1) := by decide +kernel
theorem d_Mod_apart_32 : decode b_Mod_apart 32 = .ok (.iconst 1, 1) := by decide +kernel
theorem d_Mod_apart_33 : decode b_Mod_apart 33 = .ok (.iload_n 3, 1) := by decide +kernel
theorem d_Mod_apart_34 : decode b_Mod_apart 34 = .ok (.iconst 1, 1) := by decide +kernel
theorem d_Mod_apart_35 : decode b_Mod_apart 35 = .ok (.invokevirtual 416, 3) := by decide +kernel
theorem d_Mod_apart_38 : decode b_Mod_apart 38 = .ok (.istore 4, 2) := by decide +kernel
theorem d_Mod_apart_40 : decode b_Mod_apart 40 = .ok (.aload_n 0, 1) := by decide +kernel
theorem d_Mod_apart_41 : decode b_Mod_apart 41 = .ok (.iconst 1, 1) := by decide +kernel
theorem d_Mod_apart_42 : decode b_Mod_apart 42 = .ok (.iload_n 3, 1) := by decide +kernel
theorem d_Mod_apart_43 : decode b_Mod_apart 43 = .ok (.iconst 0, 1) := by decide +kernel
theorem d_Mod_apart_44 : decode b_Mod_apart 44 = .ok (.invokevirtual 416, 3) := by decide +kernel
theorem d_Mod_apart_47 : decode b_Mod_apart 47 = .ok (.istore 5, 2) := by decide +kernel
theorem d_Mod_apart_49 : decode b_Mod_apart 49 = .ok (.aload_n 0, 1) := by decide +kernel
theorem d_Mod_apart_50 : decode b_Mod_apart 50 = .ok (.getfield 207, 3) := by decide +kernel
theorem d_Mod_apart_53 : decode b_Mod_apart 53 = .ok (.iload_n 1, 1) := by decide +kernel
theorem d_Mod_apart_54 : decode b_Mod_apart 54 = .ok (.iaload, 1) := by decide +kernel
theorem d_Mod_apart_55 : decode b_Mod_apart 55 = .ok (.istore 6, 2) := by decide +kernel
theorem d_Mod_apart_57 : decode b_Mod_apart 57 = .ok (.aload_n 0, 1) := by decide +kernel
theorem d_Mod_apart_58 : decode b_Mod_apart 58 = .ok (.getfield 207, 3) := by decide +kernel
theorem d_Mod_apart_61 : decode b_Mod_apart 61 = .ok (.iload_n 1, 1) := by decide +kernel
theorem d_Mod_apart_62 : decode b_Mod_apart 62 = .ok (.iconst 1, 1) := by decide +kernel
theorem d_Mod_apart_63 : decode b_Mod_apart 63 = .ok (.isub, 1) := by decide +kernel
theorem d_Mod_apart_64 : decode b_Mod_apart 64 = .ok (.iaload, 1) := by decide +kernel
theorem d_Mod_apart_65 : decode b_Mod_apart 65 = .ok (.istore 7, 2) := by decide +kernel
theorem d_Mod_apart_30 : decode b_Mod_apart 30 = .ok (.return_, 1) := by decide +kernel
theorem d_Mod_openChunk_453 : decode b_Mod_openChunk 453 = .ok (.aload_n 0, 1) := by decide +kernel
theorem d_Mod_openChunk_454 : decode b_Mod_openChunk 454 = .ok (.getfield 207, 3) := by decide +kernel
theorem d_Mod_openChunk_457 : decode b_Mod_openChunk 457 = .ok (.iload 4, 2) := by decide +kernel
theorem d_Mod_openChunk_459 : decode b_Mod_openChunk 459 = .ok (.iconst 1, 1) := by decide +kernel
theorem d_Mod_openChunk_460 : decode b_Mod_openChunk 460 = .ok (.iadd, 1) := by decide +kernel
theorem d_Mod_openChunk_461 : decode b_Mod_openChunk 461 = .ok (.aload_n 0, 1) := by decide +kernel
theorem d_Mod_openChunk_462 : decode b_Mod_openChunk 462 = .ok (.getfield 896, 3) := by decide +kernel
theorem d_Mod_openChunk_465 : decode b_Mod_openChunk 465 = .ok (.iastore, 1) := by decide +kernel
theorem d_Mod_openChunk_466 : decode b_Mod_openChunk 466 = .ok (.aload_n 0, 1) := by decide +kernel
theorem d_Mod_openChunk_467 : decode b_Mod_openChunk 467 = .ok (.getfield 550, 3) := by decide +kernel
theorem d_Mod_openChunk_470 : decode b_Mod_openChunk 470 = .ok (.ifCond .ne 14, 3) := by decide +kernel
theorem d_Mod_openChunk_484 : decode b_Mod_openChunk 484 = .ok (.return_, 1) := by decide +kernel
theorem d_Mod_openChunk_473 : decode b_Mod_openChunk 473 = .ok (.iload_n 2, 1) := by decide +kernel
theorem d_Mod_openChunk_474 : decode b_Mod_openChunk 474 = .ok (.ifCond .le 10, 3) := by decide +kernel
theorem d_Mod_openChunk_477 : decode b_Mod_openChunk 477 = .ok (.aload_n 0, 1) := by decide +kernel
theorem d_Mod_openChunk_478 : decode b_Mod_openChunk 478 = .ok (.iload 4, 2) := by decide +kernel
theorem d_Mod_openChunk_480 : decode b_Mod_openChunk 480 = .ok (.iload_n 2, 1) := by decide +kernel
theorem d_Mod_openChunk_481 : decode b_Mod_openChunk 481 = .ok (.invokevirtual 911, 3) := by decide +kernel
theorem d_Mod_openChunk_448 : decode b_Mod_openChunk 448 = .ok (.bipush 12, 2) := by decide +kernel
theorem d_Mod_openChunk_450 : decode b_Mod_openChunk 450 = .ok (.invokevirtual 841, 3) := by decide +kernel
theorem d_Mod_openChunk_409 : decode b_Mod_openChunk 409 = .ok (.aload_n 0, 1) := by decide +kernel
theorem d_Mod_openChunk_410 : decode b_Mod_openChunk 410 = .ok (.getfield 550, 3) := by decide +kernel
theorem d_Mod_openChunk_413 : decode b_Mod_openChunk 413 = .ok (.ifCond .ne 40, 3) := by decide +kernel
theorem d_Mod_openChunk_416 : decode b_Mod_openChunk 416 = .ok (.iload 10, 2) := by decide +kernel
theorem d_Mod_openChunk_418 : decode b_Mod_openChunk 418 = .ok (.iconst (-1), 1) := by decide +kernel
theorem d_Mod_openChunk_419 : decode b_Mod_openChunk 419 = .ok (.if_icmp .eq 34, 3) := by decide +kernel
theorem d_Mod_openChunk_422 : decode b_Mod_openChunk 422 = .ok (.aload_n 0, 1) := by decide +kernel
theorem d_Mod_openChunk_423 : decode b_Mod_openChunk 423 = .ok (.aload_n 0, 1) := by decide +kernel
theorem d_Mod_openChunk_424 : decode b_Mod_openChunk 424 = .ok (.aload_n 0, 1) := by decide +kernel
theorem d_Mod_openChunk_425 : decode b_Mod_openChunk 425 = .ok (.getfield 623, 3) := by decide +kernel
theorem d_Mod_openChunk_428 : decode b_Mod_openChunk 428 = .ok (.iload 11, 2) := by decide +kernel
theorem d_Mod_openChunk_430 : decode b_Mod_openChunk 430 = .ok (.aload_n 0, 1) := by decide +kernel
theorem d_Mod_openChunk_431 : decode b_Mod_openChunk 431 = .ok (.getfield 204, 3) := by decide +kernel
theorem d_Mod_openChunk_434 : decode b_Mod_openChunk 434 = .ok (.iload 4, 2) := by decide +kernel
theorem d_Mod_openChunk_436 : decode b_Mod_openChunk 436 = .ok (.iaload, 1) := by decide +kernel
theorem d_Mod_openChunk_437 : decode b_Mod_openChunk 437 = .ok (.invokevirtual 905, 3) := by decide +kernel
theorem d_Mod_openChunk_440 : decode b_Mod_openChunk 440 = .ok (.ifCond .eq 7, 3) := by decide +kernel
theorem d_Mod_openChunk_447 : decode b_Mod_openChunk 447 = .ok (.iconst 0, 1) := by decide +kernel
theorem d_Mod_openChunk_443 : decode b_Mod_openChunk 443 = .ok (.iconst 1, 1) := by decide +kernel
theorem d_Mod_openChunk_444 : decode b_Mod_openChunk 444 = .ok (.goto 4, 3) := by decide +kernel
theorem d_Mod_openChunk_404 : decode b_Mod_openChunk 404 = .ok (.bipush 11, 2) := by decide +kernel
theorem d_Mod_openChunk_406 : decode b_Mod_openChunk 406 = .ok (.invokevirtual 841, 3) := by decide +kernel
theorem d_Mod_openChunk_360 : decode b_Mod_openChunk 360 = .ok (.bipush 10, 2) := by decide +kernel
theorem d_Mod_openChunk_362 : decode b_Mod_openChunk 362 = .ok (.invokevirtual 841, 3) := by decide +kernel
theorem d_Mod_openChunk_365 : decode b_Mod_openChunk 365 = .ok (.aload_n 0, 1) := by decide +kernel
theorem d_Mod_openChunk_366 : decode b_Mod_openChunk 366 = .ok (.getfield 550, 3) := by decide +kernel
theorem d_Mod_openChunk_369 : decode b_Mod_openChunk 369 = .ok (.ifCond .ne 40, 3) := by decide +kernel
theorem d_Mod_openChunk_372 : decode b_Mod_openChunk 372 = .ok (.iload 10, 2) := by decide +kernel
theorem d_Mod_openChunk_374 : decode b_Mod_openChunk 374 = .ok (.iconst (-1), 1) := by decide +kernel
theorem d_Mod_openChunk_375 : decode b_Mod_openChunk 375 = .ok (.if_icmp .eq 34, 3) := by decide +kernel
theorem d_Mod_openChunk_378 : decode b_Mod_openChunk 378 = .ok (.aload_n 0, 1) := by decide +kernel
theorem d_Mod_openChunk_379 : decode b_Mod_openChunk 379 = .ok (.aload_n 0, 1) := by decide +kernel
theorem d_Mod_openChunk_380 : decode b_Mod_openChunk 380 = .ok (.aload_n 0, 1) := by decide +kernel
theorem d_Mod_openChunk_381 : decode b_Mod_openChunk 381 = .ok (.getfield 623, 3) := by decide +kernel
theorem d_Mod_openChunk_384 : decode b_Mod_openChunk 384 = .ok (.iload 10, 2) := by decide +kernel
theorem d_Mod_openChunk_386 : decode b_Mod_openChunk 386 = .ok (.aload_n 0, 1) := by decide +kernel
theorem d_Mod_openChunk_387 : decode b_Mod_openChunk 387 = .ok (.getfield 201, 3) := by decide +kernel
theorem d_Mod_openChunk_390 : decode b_Mod_openChunk 390 = .ok (.iload 4, 2) := by decide +kernel
theorem d_Mod_openChunk_392 : decode b_Mod_openChunk 392 = .ok (.iaload, 1) := by decide +kernel
theorem d_Mod_openChunk_393 : decode b_Mod_openChunk 393 = .ok (.invokevirtual 905, 3) := by decide +kernel
theorem d_Mod_openChunk_396 : decode b_Mod_openChunk 396 = .ok (.ifCond .eq 7, 3) := by decide +kernel
theorem d_Mod_openChunk_403 : decode b_Mod_openChunk 403 = .ok (.iconst 0, 1) := by decide +kernel
theorem d_Mod_openChunk_399 : decode b_Mod_openChunk 399 = .ok (.iconst 1, 1) := by decide +kernel
theorem d_Mod_openChunk_400 : decode b_Mod_openChunk 400 = .ok (.goto 4, 3) := by decide +kernel
theorem d_Mod_openChunk_336 : decode b_Mod_openChunk 336 = .ok (.iinc 12 1, 3) := by decide +kernel
theorem d_Mod_openChunk_339 : decode b_Mod_openChunk 339 = .ok (.goto (-118), 3) := by decide +kernel
theorem d_Mod_openChunk_334 : decode b_Mod_openChunk 334 = .ok (.istore 11, 2) := by decide +kernel
theorem d_Mod_openChunk_322 : decode b_Mod_openChunk 322 = .ok (.aload_n 0, 1) := by decide +kernel
theorem d_Mod_openChunk_323 : decode b_Mod_openChunk 323 = .ok (.getfield 228, 3) := by decide +kernel
theorem d_Mod_openChunk_326 : decode b_Mod_openChunk 326 = .ok (.iload 12, 2) := by decide +kernel
theorem d_Mod_openChunk_328 : decode b_Mod_openChunk 328 = .ok (.iaload, 1) := by decide +kernel
theorem d_Mod_openChunk_329 : decode b_Mod_openChunk 329 = .ok (.goto 5, 3) := by decide +kernel
theorem d_Mod_openChunk_294 : decode b_Mod_openChunk 294 = .ok (.istore 10, 2) := by decide +kernel
theorem d_Mod_openChunk_296 : decode b_Mod_openChunk 296 = .ok (.iload 11, 2) := by decide +kernel
theorem d_Mod_openChunk_298 : decode b_Mod_openChunk 298 = .ok (.iconst (-1), 1) := by decide +kernel
theorem d_Mod_openChunk_299 : decode b_Mod_openChunk 299 = .ok (.if_icmp .eq 23, 3) := by decide +kernel
theorem d_Mod_openChunk_302 : decode b_Mod_openChunk 302 = .ok (.aload_n 0, 1) := by decide +kernel
theorem d_Mod_openChunk_303 : decode b_Mod_openChunk 303 = .ok (.aload_n 0, 1) := by decide +kernel
theorem d_Mod_openChunk_304 : decode b_Mod_openChunk 304 = .ok (.getfield 623, 3) := by decide +kernel
theorem d_Mod_openChunk_307 : decode b_Mod_openChunk 307 = .ok (.aload_n 0, 1) := by decide +kernel
theorem d_Mod_openChunk_308 : decode b_Mod_openChunk 308 = .ok (.getfield 228, 3) := by decide +kernel
theorem d_Mod_openChunk_311 : decode b_Mod_openChunk 311 = .ok (.iload 12, 2) := by decide +kernel
theorem d_Mod_openChunk_313 : decode b_Mod_openChunk 313 = .ok (.iaload, 1) := by decide +kernel
theorem d_Mod_openChunk_314 : decode b_Mod_openChunk 314 = .ok (.iload 11, 2) := by decide +kernel
theorem d_Mod_openChunk_316 : decode b_Mod_openChunk 316 = .ok (.invokevirtual 905, 3) := by decide +kernel
theorem d_Mod_openChunk_319 : decode b_Mod_openChunk 319 = .ok (.ifCond .le 13, 3) := by decide +kernel
theorem d_Mod_openChunk_332 : decode b_Mod_openChunk 332 = .ok (.iload 11, 2) := by decide +kernel
theorem d_Mod_openChunk_282 : decode b_Mod_openChunk 282 = .ok (.aload_n 0, 1) := by decide +kernel
theorem d_Mod_openChunk_283 : decode b_Mod_openChunk 283 = .ok (.getfield 225, 3) := by decide +kernel
theorem d_Mod_openChunk_286 : decode b_Mod_openChunk 286 = .ok (.iload 12, 2) := by decide +kernel
theorem d_Mod_openChunk_288 : decode b_Mod_openChunk 288 = .ok (.iaload, 1) := by decide +kernel
theorem d_Mod_openChunk_289 : decode b_Mod_openChunk 289 = .ok (.goto 5, 3) := by decide +kernel
theorem d_Mod_openChunk_221 : decode b_Mod_openChunk 221 = .ok (.iload 12, 2) := by decide +kernel
theorem d_Mod_openChunk_223 : decode b_Mod_openChunk 223 = .ok (.aload_n 0, 1) := by decide +kernel
theorem d_Mod_openChunk_224 : decode b_Mod_openChunk 224 = .ok (.getfield 902, 3) := by decide +kernel
theorem d_Mod_openChunk_227 : decode b_Mod_openChunk 227 = .ok (.if_icmp .ge 115, 3) := by decide +kernel
theorem d_Mod_openChunk_342 : decode b_Mod_openChunk 342 = .ok (.aload_n 0, 1) := by decide +kernel
theorem d_Mod_openChunk_343 : decode b_Mod_openChunk 343 = .ok (.iload 9, 2) := by decide +kernel
theorem d_Mod_openChunk_345 : decode b_Mod_openChunk 345 = .ok (.aload_n 0, 1) := by decide +kernel
theorem d_Mod_openChunk_346 : decode b_Mod_openChunk 346 = .ok (.getfield 198, 3) := by decide +kernel
theorem d_Mod_openChunk_349 : decode b_Mod_openChunk 349 = .ok (.iload 4, 2) := by decide +kernel
theorem d_Mod_openChunk_351 : decode b_Mod_openChunk 351 = .ok (.iaload, 1) := by decide +kernel
theorem d_Mod_openChunk_352 : decode b_Mod_openChunk 352 = .ok (.if_icmp .eq 7, 3) := by decide +kernel
theorem d_Mod_openChunk_359 : decode b_Mod_openChunk 359 = .ok (.iconst 0, 1) := by decide +kernel
theorem d_Mod_openChunk_355 : decode b_Mod_openChunk 355 = .ok (.iconst 1, 1) := by decide +kernel
theorem d_Mod_openChunk_356 : decode b_Mod_openChunk 356 = .ok (.goto 4, 3) := by decide +kernel
theorem d_Mod_openChunk_230 : decode b_Mod_openChunk 230 = .ok (.iload 9, 2) := by decide +kernel
theorem d_Mod_openChunk_232 : decode b_Mod_openChunk 232 = .ok (.aload_n 0, 1) := by decide +kernel
theorem d_Mod_openChunk_233 : decode b_Mod_openChunk 233 = .ok (.getfield 222, 3) := by decide +kernel
theorem d_Mod_openChunk_236 : decode b_Mod_openChunk 236 = .ok (.iload 12, 2) := by decide +kernel
theorem d_Mod_openChunk_238 : decode b_Mod_openChunk 238 = .ok (.iaload, 1) := by decide +kernel
theorem d_Mod_openChunk_239 : decode b_Mod_openChunk 239 = .ok (.iadd, 1) := by decide +kernel
theorem d_Mod_openChunk_240 : decode b_Mod_openChunk 240 = .ok (.istore 9, 2) := by decide +kernel
theorem d_Mod_openChunk_242 : decode b_Mod_openChunk 242 = .ok (.aload_n 0, 1) := by decide +kernel
theorem d_Mod_openChunk_243 : decode b_Mod_openChunk 243 = .ok (.getfield 225, 3) := by decide +kernel
theorem d_Mod_openChunk_246 : decode b_Mod_openChunk 246 = .ok (.iload 12, 2) := by decide +kernel
theorem d_Mod_openChunk_248 : decode b_Mod_openChunk 248 = .ok (.iaload, 1) := by decide +kernel
theorem d_Mod_openChunk_249 : decode b_Mod_openChunk 249 = .ok (.iconst (-1), 1) := by decide +kernel
theorem d_Mod_openChunk_250 : decode b_Mod_openChunk 250 = .ok (.if_icmp .ne 6, 3) := by decide +kernel
theorem d_Mod_openChunk_256 : decode b_Mod_openChunk 256 = .ok (.iload 10, 2) := by decide +kernel
theorem d_Mod_openChunk_258 : decode b_Mod_openChunk 258 = .ok (.iconst (-1), 1) := by decide +kernel
theorem d_Mod_openChunk_259 : decode b_Mod_openChunk 259 = .ok (.if_icmp .eq 23, 3) := by decide +kernel
theorem d_Mod_openChunk_262 : decode b_Mod_openChunk 262 = .ok (.aload_n 0, 1) := by decide +kernel
theorem d_Mod_openChunk_263 : decode b_Mod_openChunk 263 = .ok (.aload_n 0, 1) := by decide +kernel
theorem d_Mod_openChunk_264 : decode b_Mod_openChunk 264 = .ok (.getfield 623, 3) := by decide +kernel
theorem d_Mod_openChunk_267 : decode b_Mod_openChunk 267 = .ok (.aload_n 0, 1) := by decide +kernel
theorem d_Mod_openChunk_268 : decode b_Mod_openChunk 268 = .ok (.getfield 225, 3) := by decide +kernel
theorem d_Mod_openChunk_271 : decode b_Mod_openChunk 271 = .ok (.iload 12, 2) := by decide +kernel
theorem d_Mod_openChunk_273 : decode b_Mod_openChunk 273 = .ok (.iaload, 1) := by decide +kernel
theorem d_Mod_openChunk_274 : decode b_Mod_openChunk 274 = .ok (.iload 10, 2) := by decide +kernel
theorem d_Mod_openChunk_276 : decode b_Mod_openChunk 276 = .ok (.invokevirtual 905, 3) := by decide +kernel
theorem d_Mod_openChunk_279 : decode b_Mod_openChunk 279 = .ok (.ifCond .ge 13, 3) := by decide +kernel
theorem d_Mod_openChunk_292 : decode b_Mod_openChunk 292 = .ok (.iload 10, 2) := by decide +kernel
theorem d_Mod_openChunk_253 : decode b_Mod_openChunk 253 = .ok (.goto 83, 3) := by decide +kernel
theorem d_Mod_openChunk_203 : decode b_Mod_openChunk 203 = .ok (.bipush 16, 2) := by decide +kernel
theorem d_Mod_openChunk_205 : decode b_Mod_openChunk 205 = .ok (.invokevirtual 841, 3) := by decide +kernel
theorem d_Mod_openChunk_208 : decode b_Mod_openChunk 208 = .ok (.iconst 0, 1) := by decide +kernel
theorem d_Mod_openChunk_209 : decode b_Mod_openChunk 209 = .ok (.istore 9, 2) := by decide +kernel
theorem d_Mod_openChunk_211 : decode b_Mod_openChunk 211 = .ok (.iconst (-1), 1) := by decide +kernel
theorem d_Mod_openChunk_212 : decode b_Mod_openChunk 212 = .ok (.istore 10, 2) := by decide +kernel
theorem d_Mod_openChunk_214 : decode b_Mod_openChunk 214 = .ok (.iconst (-1), 1) := by decide +kernel
theorem d_Mod_openChunk_215 : decode b_Mod_openChunk 215 = .ok (.istore 11, 2) := by decide +kernel
theorem d_Mod_openChunk_217 : decode b_Mod_openChunk 217 = .ok (.iload 7, 2) := by decide +kernel
theorem d_Mod_openChunk_219 : decode b_Mod_openChunk 219 = .ok (.istore 12, 2) := by decide +kernel
theorem d_Mod_openChunk_198 : decode b_Mod_openChunk 198 = .ok (.iconst 1, 1) := by decide +kernel
theorem d_Mod_openChunk_199 : decode b_Mod_openChunk 199 = .ok (.goto 4, 3) := by decide +kernel
theorem d_Mod_openChunk_164 : decode b_Mod_openChunk 164 = .ok (.bipush 6, 2) := by decide +kernel
theorem d_Mod_openChunk_166 : decode b_Mod_openChunk 166 = .ok (.invokevirtual 841, 3) := by decide +kernel
theorem d_Mod_openChunk_169 : decode b_Mod_openChunk 169 = .ok (.aload_n 0, 1) := by decide +kernel
theorem d_Mod_openChunk_170 : decode b_Mod_openChunk 170 = .ok (.aload_n 0, 1) := by decide +kernel
theorem d_Mod_openChunk_171 : decode b_Mod_openChunk 171 = .ok (.getfield 896, 3) := by decide +kernel
theorem d_Mod_openChunk_174 : decode b_Mod_openChunk 174 = .ok (.iload 6, 2) := by decide +kernel
theorem d_Mod_openChunk_176 : decode b_Mod_openChunk 176 = .ok (.isub, 1) := by decide +kernel
theorem d_Mod_openChunk_177 : decode b_Mod_openChunk 177 = .ok (.aload_n 0, 1) := by decide +kernel
theorem d_Mod_openChunk_178 : decode b_Mod_openChunk 178 = .ok (.getfield 195, 3) := by decide +kernel
theorem d_Mod_openChunk_181 : decode b_Mod_openChunk 181 = .ok (.iload 4, 2) := by decide +kernel
theorem d_Mod_openChunk_183 : decode b_Mod_openChunk 183 = .ok (.iaload, 1) := by decide +kernel
theorem d_Mod_openChunk_184 : decode b_Mod_openChunk 184 = .ok (.if_icmp .ne 14, 3) := by decide +kernel
theorem d_Mod_openChunk_187 : decode b_Mod_openChunk 187 = .ok (.iload 8, 2) := by decide +kernel
theorem d_Mod_openChunk_189 : decode b_Mod_openChunk 189 = .ok (.aload_n 0, 1) := by decide +kernel
theorem d_Mod_openChunk_190 : decode b_Mod_openChunk 190 = .ok (.getfield 169, 3) := by decide +kernel
theorem d_Mod_openChunk_193 : decode b_Mod_openChunk 193 = .ok (.iload_n 1, 1) := by decide +kernel
theorem d_Mod_openChunk_194 : decode b_Mod_openChunk 194 = .ok (.iaload, 1) := by decide +kernel
theorem d_Mod_openChunk_195 : decode b_Mod_openChunk 195 = .ok (.if_icmp .eq 7, 3) := by decide +kernel
theorem d_Mod_openChunk_202 : decode b_Mod_openChunk 202 = .ok (.iconst 0, 1) := by decide +kernel
theorem d_Mod_openChunk_134 : decode b_Mod_openChunk 134 = .ok (.aload_n 0, 1) := by decide +kernel
theorem d_Mod_openChunk_135 : decode b_Mod_openChunk 135 = .ok (.getfield 550, 3) := by decide +kernel
theorem d_Mod_openChunk_138 : decode b_Mod_openChunk 138 = .ok (.ifCond .eq 4, 3) := by decide +kernel
theorem d_Mod_openChunk_142 : decode b_Mod_openChunk 142 = .ok (.aload_n 0, 1) := by decide +kernel
theorem d_Mod_openChunk_143 : decode b_Mod_openChunk 143 = .ok (.getfield 166, 3) := by decide +kernel
theorem d_Mod_openChunk_146 : decode b_Mod_openChunk 146 = .ok (.iconst 2, 1) := by decide +kernel
theorem d_Mod_openChunk_147 : decode b_Mod_openChunk 147 = .ok (.iconst (-1), 1) := by decide +kernel
theorem d_Mod_openChunk_148 : decode b_Mod_openChunk 148 = .ok (.iastore, 1) := by decide +kernel
theorem d_Mod_openChunk_149 : decode b_Mod_openChunk 149 = .ok (.aload_n 0, 1) := by decide +kernel
theorem d_Mod_openChunk_150 : decode b_Mod_openChunk 150 = .ok (.aload_n 0, 1) := by decide +kernel
theorem d_Mod_openChunk_151 : decode b_Mod_openChunk 151 = .ok (.getfield 553, 3) := by decide +kernel
theorem d_Mod_openChunk_154 : decode b_Mod_openChunk 154 = .ok (.iload 5, 2) := by decide +kernel
theorem d_Mod_openChunk_156 : decode b_Mod_openChunk 156 = .ok (.if_icmp .ge 7, 3) := by decide +kernel
theorem d_Mod_openChunk_163 : decode b_Mod_openChunk 163 = .ok (.iconst 0, 1) := by decide +kernel
theorem d_Mod_openChunk_159 : decode b_Mod_openChunk 159 = .ok (.iconst 1, 1) := by decide +kernel
theorem d_Mod_openChunk_160 : decode b_Mod_openChunk 160 = .ok (.goto 4, 3) := by decide +kernel
theorem d_Mod_openChunk_141 : decode b_Mod_openChunk 141 = .ok (.return_, 1) := by decide +kernel
theorem d_Mod_openChunk_128 : decode b_Mod_openChunk 128 = .ok (.iinc 9 1, 3) := by decide +kernel
theorem d_Mod_openChunk_131 : decode b_Mod_openChunk 131 = .ok (.goto (-64), 3) := by decide +kernel
theorem d_Mod_openChunk_67 : decode b_Mod_openChunk 67 = .ok (.iload 9, 2) := by decide +kernel
theorem d_Mod_openChunk_69 : decode b_Mod_openChunk 69 = .ok (.aload_n 0, 1) := by decide +kernel
theorem d_Mod_openChunk_70 : decode b_Mod_openChunk 70 = .ok (.getfield 163, 3) := by decide +kernel
theorem d_Mod_openChunk_73 : decode b_Mod_openChunk 73 = .ok (.iload 4, 2) := by decide +kernel
theorem d_Mod_openChunk_75 : decode b_Mod_openChunk 75 = .ok (.iaload, 1) := by decide +kernel
theorem d_Mod_openChunk_76 : decode b_Mod_openChunk 76 = .ok (.if_icmp .ge 58, 3) := by decide +kernel
theorem d_Mod_openChunk_79 : decode b_Mod_openChunk 79 = .ok (.aload_n 0, 1) := by decide +kernel
theorem d_Mod_openChunk_80 : decode b_Mod_openChunk 80 = .ok (.getfield 550, 3) := by decide +kernel
theorem d_Mod_openChunk_83 : decode b_Mod_openChunk 83 = .ok (.ifCond .ne 51, 3) := by decide +kernel
theorem d_Mod_openChunk_86 : decode b_Mod_openChunk 86 = .ok (.aload_n 0, 1) := by decide +kernel
theorem d_Mod_openChunk_87 : decode b_Mod_openChunk 87 = .ok (.getfield 166, 3) := by decide +kernel
theorem d_Mod_openChunk_90 : decode b_Mod_openChunk 90 = .ok (.iconst 2, 1) := by decide +kernel
theorem d_Mod_openChunk_91 : decode b_Mod_openChunk 91 = .ok (.iload 9, 2) := by decide +kernel
theorem d_Mod_openChunk_93 : decode b_Mod_openChunk 93 = .ok (.iastore, 1) := by decide +kernel
theorem d_Mod_openChunk_94 : decode b_Mod_openChunk 94 = .ok (.aload_n 0, 1) := by decide +kernel
theorem d_Mod_openChunk_95 : decode b_Mod_openChunk 95 = .ok (.iload_n 2, 1) := by decide +kernel
theorem d_Mod_openChunk_96 : decode b_Mod_openChunk 96 = .ok (.iload_n 3, 1) := by decide +kernel
theorem d_Mod_openChunk_97 : decode b_Mod_openChunk 97 = .ok (.iload 8, 2) := by decide +kernel
theorem d_Mod_openChunk_99 : decode b_Mod_openChunk 99 = .ok (.iadd, 1) := by decide +kernel
theorem d_Mod_openChunk_100 : decode b_Mod_openChunk 100 = .ok (.iload 5, 2) := by decide +kernel
theorem d_Mod_openChunk_102 : decode b_Mod_openChunk 102 = .ok (.invokevirtual 908, 3) := by decide +kernel
theorem d_Mod_openChunk_105 : decode b_Mod_openChunk 105 = .ok (.aload_n 0, 1) := by decide +kernel
theorem d_Mod_openChunk_106 : decode b_Mod_openChunk 106 = .ok (.getfield 550, 3) := by decide +kernel
theorem d_Mod_openChunk_109 : decode b_Mod_openChunk 109 = .ok (.ifCond .ne 19, 3) := by decide +kernel
theorem d_Mod_openChunk_112 : decode b_Mod_openChunk 112 = .ok (.iload 8, 2) := by decide +kernel
theorem d_Mod_openChunk_114 : decode b_Mod_openChunk 114 = .ok (.aload_n 0, 1) := by decide +kernel
theorem d_Mod_openChunk_115 : decode b_Mod_openChunk 115 = .ok (.getfield 216, 3) := by decide +kernel
theorem d_Mod_openChunk_118 : decode b_Mod_openChunk 118 = .ok (.aload_n 0, 1) := by decide +kernel
theorem d_Mod_openChunk_119 : decode b_Mod_openChunk 119 = .ok (.getfield 902, 3) := by decide +kernel
theorem d_Mod_openChunk_122 : decode b_Mod_openChunk 122 = .ok (.iconst 1, 1) := by decide +kernel
theorem d_Mod_openChunk_123 : decode b_Mod_openChunk 123 = .ok (.isub, 1) := by decide +kernel
theorem d_Mod_openChunk_124 : decode b_Mod_openChunk 124 = .ok (.iaload, 1) := by decide +kernel
theorem d_Mod_openChunk_125 : decode b_Mod_openChunk 125 = .ok (.iadd, 1) := by decide +kernel
theorem d_Mod_openChunk_126 : decode b_Mod_openChunk 126 = .ok (.istore 8, 2) := by decide +kernel
theorem d_Mod_openChunk_0 : decode b_Mod_openChunk 0 = .ok (.aload_n 0, 1) := by decide +kernel
theorem d_Mod_openChunk_1 : decode b_Mod_openChunk 1 = .ok (.getfield 38, 3) := by decide +kernel
theorem d_Mod_openChunk_4 : decode b_Mod_openChunk 4 = .ok (.iconst 1, 1) := by decide +kernel
theorem d_Mod_openChunk_5 : decode b_Mod_openChunk 5 = .ok (.iaload, 1) := by decide +kernel
theorem d_Mod_openChunk_6 : decode b_Mod_openChunk 6 = .ok (.iload_n 1, 1) := by decide +kernel
theorem d_Mod_openChunk_7 : decode b_Mod_openChunk 7 = .ok (.imul, 1) := by decide +kernel
theorem d_Mod_openChunk_8 : decode b_Mod_openChunk 8 = .ok (.iload_n 2, 1) := by decide +kernel
theorem d_Mod_openChunk_9 : decode b_Mod_openChunk 9 = .ok (.iadd, 1) := by decide +kernel
theorem d_Mod_openChunk_10 : decode b_Mod_openChunk 10 = .ok (.istore 4, 2) := by decide +kernel
theorem d_Mod_openChunk_12 : decode b_Mod_openChunk 12 = .ok (.aload_n 0, 1) := by decide +kernel
theorem d_Mod_openChunk_13 : decode b_Mod_openChunk 13 = .ok (.getfield 166, 3) := by decide +kernel
theorem d_Mod_openChunk_16 : decode b_Mod_openChunk 16 = .ok (.iconst 0, 1) := by decide +kernel
theorem d_Mod_openChunk_17 : decode b_Mod_openChunk 17 = .ok (.iload_n 1, 1) := by decide +kernel
theorem d_Mod_openChunk_18 : decode b_Mod_openChunk 18 = .ok (.iastore, 1) := by decide +kernel
theorem d_Mod_openChunk_19 : decode b_Mod_openChunk 19 = .ok (.aload_n 0, 1) := by decide +kernel
theorem d_Mod_openChunk_20 : decode b_Mod_openChunk 20 = .ok (.getfield 166, 3) := by decide +kernel
theorem d_Mod_openChunk_23 : decode b_Mod_openChunk 23 = .ok (.iconst 1, 1) := by decide +kernel
theorem d_Mod_openChunk_24 : decode b_Mod_openChunk 24 = .ok (.iload_n 2, 1) := by decide +kernel
theorem d_Mod_openChunk_25 : decode b_Mod_openChunk 25 = .ok (.iastore, 1) := by decide +kernel
theorem d_Mod_openChunk_26 : decode b_Mod_openChunk 26 = .ok (.aload_n 0, 1) := by decide +kernel
theorem d_Mod_openChunk_27 : decode b_Mod_openChunk 27 = .ok (.getfield 553, 3) := by decide +kernel
theorem d_Mod_openChunk_30 : decode b_Mod_openChunk 30 = .ok (.aload_n 0, 1) := by decide +kernel
theorem d_Mod_openChunk_31 : decode b_Mod_openChunk 31 = .ok (.getfield 160, 3) := by decide +kernel
theorem d_Mod_openChunk_34 : decode b_Mod_openChunk 34 = .ok (.iload 4, 2) := by decide +kernel
theorem d_Mod_openChunk_36 : decode b_Mod_openChunk 36 = .ok (.iaload, 1) := by decide +kernel
theorem d_Mod_openChunk_37 : decode b_Mod_openChunk 37 = .ok (.iadd, 1) := by decide +kernel
theorem d_Mod_openChunk_38 : decode b_Mod_openChunk 38 = .ok (.istore 5, 2) := by decide +kernel
theorem d_Mod_openChunk_40 : decode b_Mod_openChunk 40 = .ok (.aload_n 0, 1) := by decide +kernel
theorem d_Mod_openChunk_41 : decode b_Mod_openChunk 41 = .ok (.getfield 896, 3) := by decide +kernel
theorem d_Mod_openChunk_44 : decode b_Mod_openChunk 44 = .ok (.istore 6, 2) := by decide +kernel
theorem d_Mod_openChunk_46 : decode b_Mod_openChunk 46 = .ok (.aload_n 0, 1) := by decide +kernel
theorem d_Mod_openChunk_47 : decode b_Mod_openChunk 47 = .ok (.getfield 902, 3) := by decide +kernel
theorem d_Mod_openChunk_50 : decode b_Mod_openChunk 50 = .ok (.istore 7, 2) := by decide +kernel
theorem d_Mod_openChunk_52 : decode b_Mod_openChunk 52 = .ok (.aload_n 0, 1) := by decide +kernel
theorem d_Mod_openChunk_53 : decode b_Mod_openChunk 53 = .ok (.getfield 207, 3) := by decide +kernel
theorem d_Mod_openChunk_56 : decode b_Mod_openChunk 56 = .ok (.iload 4, 2) := by decide +kernel
theorem d_Mod_openChunk_58 : decode b_Mod_openChunk 58 = .ok (.iload 6, 2) := by decide +kernel
theorem d_Mod_openChunk_60 : decode b_Mod_openChunk 60 = .ok (.iastore, 1) := by decide +kernel
theorem d_Mod_openChunk_61 : decode b_Mod_openChunk 61 = .ok (.iconst 0, 1) := by decide +kernel
theorem d_Mod_openChunk_62 : decode b_Mod_openChunk 62 = .ok (.istore 8, 2) := by decide +kernel
theorem d_Mod_openChunk_64 : decode b_Mod_openChunk 64 = .ok (.iconst 0, 1) := by decide +kernel
theorem d_Mod_openChunk_65 : decode b_Mod_openChunk 65 = .ok (.istore 9, 2) := by decide +kernel
section
variable (l : Launch) (dC : Nat → ClassId) (dI : Nat → Nat → Nat) (cI cB cJ cZ : ClassId)
set_option maxRecDepth 100000 in
set_option maxHeartbeats 4000000 in
set_option maxRecDepth 100000 in
theorem t_Mod_around_109 {p : Program} {l : Launch} {e : Env} {R : Room} {s : State} {m : MethodId} {args : Array Value} {below : List Frame} {meth : Method} {c : Code} {cells slots : Nat} {Q : State → Prop} {dC : Nat → ClassId} {dI : Nat → Nat → Nat} {cI cB cJ cZ : ClassId} {A : Nat → Prop} {ad : Nat → Nat} {post : Int32 → St → Prop} (hx : p.tables.exec = Jvm.exec) (hb : c.code = b_Mod_around) (hml : c.maxLocals = 7) (hown : s.vm.findClass R_Mod = some m.cls) (hT : ∀ w ∈ TG, w.before args s = true) (hK : va_K (dC, dI) CL (TY cI cB cJ cZ) s) (hN : NW s) (hA : ∀ q : Nat, s.heap.size ≤ q → A q) (hRc : cells ≤ R.cells) (hRs : slots ≤ R.slots) (hRf : 1 ≤ R.frames) (hRl : 21 ≤ R.locals) (hret : ∀ (r : Int32) (x : St) (H : Heap) (locs : List Loc) (pc : Nat) (ls : Array Slot), decode b_Mod_around pc = .ok (.ireturn, 1) → post r x → Wd dC dI cI cB cJ cZ ad stM kcM 115 A x H → va_S A s.heap H locs → W p l e R s m args below meth c H locs cells slots Q (F0 m pc ls [.int r]))  : ∀ (l1 : Int32) (l2 : Int32) (l3 : Int32) (l4 : Int32) (x : St) (H : Heap) (locs : List Loc) (ls : Array Slot), j_Mod_around_109 post l1 l2 l3 l4 x → Wd dC dI cI cB cJ cZ ad stM kcM 115 A x H → va_S A s.heap H locs → lv_has ls 7 [(0, .ref (ad 0)), (1, .int l1), (2, .int l2), (3, .int l3), (4, .int l4)] → W p l e R s m args below meth c H locs cells slots Q (F0 m 109 ls []) := by
  intro l1 l2 l3 l4 x H locs ls  hw hW hS hl
  unfold j_Mod_around_109 at hw
  refine lv_iload_n hx hb d_Mod_around_109 rfl (lv_at hl 3 rfl) ?_
  exact hret l3 x H locs 110 ls d_Mod_around_110 hw hW hS
set_option maxRecDepth 100000 in
set_option maxHeartbeats 4000000 in
set_option maxRecDepth 100000 in
theorem t_Mod_around_92 {p : Program} {l : Launch} {e : Env} {R : Room} {s : State} {m : MethodId} {args : Array Value} {below : List Frame} {meth : Method} {c : Code} {cells slots : Nat} {Q : State → Prop} {dC : Nat → ClassId} {dI : Nat → Nat → Nat} {cI cB cJ cZ : ClassId} {A : Nat → Prop} {ad : Nat → Nat} {post : Int32 → St → Prop} {rec14 : Int32 → Int32 → Int32 → Int32 → St → Prop} (hx : p.tables.exec = Jvm.exec) (hb : c.code = b_Mod_around) (hml : c.maxLocals = 7) (hown : s.vm.findClass R_Mod = some m.cls) (hT : ∀ w ∈ TG, w.before args s = true) (hK : va_K (dC, dI) CL (TY cI cB cJ cZ) s) (hN : NW s) (hA : ∀ q : Nat, s.heap.size ≤ q → A q) (hRc : cells ≤ R.cells) (hRs : slots ≤ R.slots) (hRf : 1 ≤ R.frames) (hRl : 21 ≤ R.locals) (hret : ∀ (r : Int32) (x : St) (H : Heap) (locs : List Loc) (pc : Nat) (ls : Array Slot), decode b_Mod_around pc = .ok (.ireturn, 1) → post r x → Wd dC dI cI cB cJ cZ ad stM kcM 115 A x H → va_S A s.heap H locs → W p l e R s m args below meth c H locs cells slots Q (F0 m pc ls [.int r])) (hrec14 : ∀ (l1 : Int32) (l2 : Int32) (l3 : Int32) (l4 : Int32) (x : St) (H : Heap) (locs : List Loc) (ls : Array Slot), rec14 l1 l2 l3 l4 x → Wd dC dI cI cB cJ cZ ad stM kcM 115 A x H → va_S A s.heap H locs → lv_has ls 7 [(0, .ref (ad 0)), (1, .int l1), (2, .int l2), (3, .int l3), (4, .int l4)] → W p l e R s m args below meth c H locs cells slots Q (F0 m 14 ls [])) : ∀ (l1 : Int32) (l2 : Int32) (l3 : Int32) (l4 : Int32) (l5 : Int32) (l6 : Int32) (s0 : Int32) (x : St) (H : Heap) (locs : List Loc) (ls : Array Slot), j_Mod_around_92 post rec14 l1 l2 l3 l4 l5 l6 s0 x → Wd dC dI cI cB cJ cZ ad stM kcM 115 A x H → va_S A s.heap H locs → lv_has ls 7 [(0, .ref (ad 0)), (1, .int l1), (2, .int l2), (3, .int l3), (4, .int l4), (5, .int l5), (6, .int l6)] → W p l e R s m args below meth c H locs cells slots Q (F0 m 92 ls [.int s0]) := by
  intro l1 l2 l3 l4 l5 l6 s0 x H locs ls  hw hW hS hl
  unfold j_Mod_around_92 at hw
  refine lv_istore_n (lv' := [(3, .int s0), (0, .ref (ad 0)), (1, .int l1), (2, .int l2), (4, .int l4), (5, .int l5), (6, .int l6)]) hx hb d_Mod_around_92 rfl hl (by decide) rfl (fun ls hl => ?_)
  refine lv_aload_n hx hb d_Mod_around_93 rfl (lv_at hl 1 rfl) ?_
  refine w_getf (q := 5) (k := 7) (t := 12) (C := R_Mod) (T := F_Mod) (N := 167) hx hb hT hown hK hW ko_0.1 ko_0.2 (by decide) in_Mod rfl rfl (by decide) rfl fr_Mod_7 w_8_183 d_Mod_around_94 rfl ?_
  refine lv_iconst (v := 1) hx hb d_Mod_around_97 (by decide) ?_
  refine lv_iload hx hb d_Mod_around_98 (lv_at hl 4 rfl) ?_
  have hF := hW.free hS hA
  refine va_calli (va_runS (As := [.int 1, .int l4]) (rest := [.ref (ad 5)]) ⟨hx, hb, hml, hown, hT⟩ (k_Mod_place l dC dI cI cB cJ cZ ad H.size 1 l4 x  hw) ⟨callB_of 2 hT (gwt_in w_11_30) rfl rfl rfl (hT _ w_1_15) (hT _ w_11_28) (by decide +kernel) ⟨Nat.le_trans (Nat.le_of_ble_eq_true rfl) hRf, Nat.le_trans (Nat.le_of_ble_eq_true rfl) hRl⟩, hT _ w_11_29⟩ ⟨PW.blind, PW.at _ hW hK hN⟩ rfl rfl hl.1 rfl (lv_room (Nat.le_of_ble_eq_true rfl)) d_Mod_around_100 ⟨hRc, hRs⟩) hS (fun q _ h => hF q h) hF (fun r1634 x1633 t H locs ht hvm hw hB hz1 hk1 hS => ?_)
  have hW := Wd.back hB ht hF
  clear hB ht hF hz1 hk1 hvm
  obtain ⟨hi, hw⟩ := hw
  refine w_iald (o := 5) hx hb hK hW ko_5.1 ko_5.2 hi d_Mod_around_103 ?_
  refine lv_topi (fun v1635 ev1635 => ?_)
  have hw := hw v1635 ev1635
  refine lv_istore (lv' := [(4, .int v1635), (3, .int s0), (0, .ref (ad 0)), (1, .int l1), (2, .int l2), (5, .int l5), (6, .int l6)]) hx hb d_Mod_around_104 hl (by decide) rfl (fun ls hl => ?_)
  refine lv_goto (tgt := 14) hx hb d_Mod_around_106 (by decide) ?_
  exact hrec14 l1 l2 s0 v1635 x1633 H locs ls  hw hW hS (lv_sub hl [2, 3, 4, 1, 0] rfl)
set_option maxRecDepth 100000 in
set_option maxHeartbeats 4000000 in
set_option maxRecDepth 100000 in
theorem t_Mod_around_63 {p : Program} {l : Launch} {e : Env} {R : Room} {s : State} {m : MethodId} {args : Array Value} {below : List Frame} {meth : Method} {c : Code} {cells slots : Nat} {Q : State → Prop} {dC : Nat → ClassId} {dI : Nat → Nat → Nat} {cI cB cJ cZ : ClassId} {A : Nat → Prop} {ad : Nat → Nat} {post : Int32 → St → Prop} {rec14 : Int32 → Int32 → Int32 → Int32 → St → Prop} {rec40 : Int32 → Int32 → Int32 → Int32 → Int32 → Int32 → St → Prop} (hx : p.tables.exec = Jvm.exec) (hb : c.code = b_Mod_around) (hml : c.maxLocals = 7) (hown : s.vm.findClass R_Mod = some m.cls) (hT : ∀ w ∈ TG, w.before args s = true) (hK : va_K (dC, dI) CL (TY cI cB cJ cZ) s) (hN : NW s) (hA : ∀ q : Nat, s.heap.size ≤ q → A q) (hRc : cells ≤ R.cells) (hRs : slots ≤ R.slots) (hRf : 1 ≤ R.frames) (hRl : 21 ≤ R.locals) (hret : ∀ (r : Int32) (x : St) (H : Heap) (locs : List Loc) (pc : Nat) (ls : Array Slot), decode b_Mod_around pc = .ok (.ireturn, 1) → post r x → Wd dC dI cI cB cJ cZ ad stM kcM 115 A x H → va_S A s.heap H locs → W p l e R s m args below meth c H locs cells slots Q (F0 m pc ls [.int r])) (hrec14 : ∀ (l1 : Int32) (l2 : Int32) (l3 : Int32) (l4 : Int32) (x : St) (H : Heap) (locs : List Loc) (ls : Array Slot), rec14 l1 l2 l3 l4 x → Wd dC dI cI cB cJ cZ ad stM kcM 115 A x H → va_S A s.heap H locs → lv_has ls 7 [(0, .ref (ad 0)), (1, .int l1), (2, .int l2), (3, .int l3), (4, .int l4)] → W p l e R s m args below meth c H locs cells slots Q (F0 m 14 ls [])) (hrec40 : ∀ (l1 : Int32) (l2 : Int32) (l3 : Int32) (l4 : Int32) (l5 : Int32) (l6 : Int32) (x : St) (H : Heap) (locs : List Loc) (ls : Array Slot), rec40 l1 l2 l3 l4 l5 l6 x → Wd dC dI cI cB cJ cZ ad stM kcM 115 A x H → va_S A s.heap H locs → lv_has ls 7 [(0, .ref (ad 0)), (1, .int l1), (2, .int l2), (3, .int l3), (4, .int l4), (5, .int l5), (6, .int l6)] → W p l e R s m args below meth c H locs cells slots Q (F0 m 40 ls [])) : ∀ (l1 : Int32) (l2 : Int32) (l3 : Int32) (l4 : Int32) (l5 : Int32) (l6 : Int32) (s0 : Int32) (x : St) (H : Heap) (locs : List Loc) (ls : Array Slot), j_Mod_around_63 post rec14 rec40 l1 l2 l3 l4 l5 l6 s0 x → Wd dC dI cI cB cJ cZ ad stM kcM 115 A x H → va_S A s.heap H locs → lv_has ls 7 [(0, .ref (ad 0)), (1, .int l1), (2, .int l2), (3, .int l3), (4, .int l4), (5, .int l5), (6, .int l6)] → W p l e R s m args below meth c H locs cells slots Q (F0 m 63 ls [.int s0]) := by
  intro l1 l2 l3 l4 l5 l6 s0 x H locs ls  hw hW hS hl
  unfold j_Mod_around_63 at hw
  refine lv_istore (lv' := [(5, .int s0), (0, .ref (ad 0)), (1, .int l1), (2, .int l2), (3, .int l3), (4, .int l4), (6, .int l6)]) hx hb d_Mod_around_63 hl (by decide) rfl (fun ls hl => ?_)
  refine lv_aload_n hx hb d_Mod_around_65 rfl (lv_at hl 1 rfl) ?_
  refine w_getf (q := 5) (k := 7) (t := 12) (C := R_Mod) (T := F_Mod) (N := 167) hx hb hT hown hK hW ko_0.1 ko_0.2 (by decide) in_Mod rfl rfl (by decide) rfl fr_Mod_7 w_8_183 d_Mod_around_66 rfl ?_
  refine lv_iconst (v := 1) hx hb d_Mod_around_69 (by decide) ?_
  refine lv_iload hx hb d_Mod_around_70 (lv_at hl 6 rfl) ?_
  have hF := hW.free hS hA
  refine va_calli (va_runS (As := [.int 1, .int l6]) (rest := [.ref (ad 5)]) ⟨hx, hb, hml, hown, hT⟩ (k_Mod_place l dC dI cI cB cJ cZ ad H.size 1 l6 x  hw) ⟨callB_of 2 hT (gwt_in w_11_30) rfl rfl rfl (hT _ w_1_15) (hT _ w_11_28) (by decide +kernel) ⟨Nat.le_trans (Nat.le_of_ble_eq_true rfl) hRf, Nat.le_trans (Nat.le_of_ble_eq_true rfl) hRl⟩, hT _ w_11_29⟩ ⟨PW.blind, PW.at _ hW hK hN⟩ rfl rfl hl.1 rfl (lv_room (Nat.le_of_ble_eq_true rfl)) d_Mod_around_72 ⟨hRc, hRs⟩) hS (fun q _ h => hF q h) hF (fun r1637 x1636 t H locs ht hvm hw hB hz1 hk1 hS => ?_)
  have hW := Wd.back hB ht hF
  clear hB ht hF hz1 hk1 hvm
  obtain ⟨hi, hw⟩ := hw
  refine w_iald (o := 5) hx hb hK hW ko_5.1 ko_5.2 hi d_Mod_around_75 ?_
  refine lv_topi (fun v1638 ev1638 => ?_)
  have hw := hw v1638 ev1638
  refine lv_istore (lv' := [(6, .int v1638), (5, .int s0), (0, .ref (ad 0)), (1, .int l1), (2, .int l2), (3, .int l3), (4, .int l4)]) hx hb d_Mod_around_76 hl (by decide) rfl (fun ls hl => ?_)
  refine lv_goto (tgt := 40) hx hb d_Mod_around_78 (by decide) ?_
  exact hrec40 l1 l2 l3 l4 s0 v1638 x1636 H locs ls  hw hW hS (lv_sub hl [2, 3, 4, 5, 6, 1, 0] rfl)
set_option maxRecDepth 100000 in
set_option maxHeartbeats 4000000 in
set_option maxRecDepth 100000 in
theorem t_Mod_around_58 {p : Program} {l : Launch} {e : Env} {R : Room} {s : State} {m : MethodId} {args : Array Value} {below : List Frame} {meth : Method} {c : Code} {cells slots : Nat} {Q : State → Prop} {dC : Nat → ClassId} {dI : Nat → Nat → Nat} {cI cB cJ cZ : ClassId} {A : Nat → Prop} {ad : Nat → Nat} {post : Int32 → St → Prop} {rec14 : Int32 → Int32 → Int32 → Int32 → St → Prop} {rec40 : Int32 → Int32 → Int32 → Int32 → Int32 → Int32 → St → Prop} (hx : p.tables.exec = Jvm.exec) (hb : c.code = b_Mod_around) (hml : c.maxLocals = 7) (hown : s.vm.findClass R_Mod = some m.cls) (hT : ∀ w ∈ TG, w.before args s = true) (hK : va_K (dC, dI) CL (TY cI cB cJ cZ) s) (hN : NW s) (hA : ∀ q : Nat, s.heap.size ≤ q → A q) (hRc : cells ≤ R.cells) (hRs : slots ≤ R.slots) (hRf : 1 ≤ R.frames) (hRl : 21 ≤ R.locals) (hret : ∀ (r : Int32) (x : St) (H : Heap) (locs : List Loc) (pc : Nat) (ls : Array Slot), decode b_Mod_around pc = .ok (.ireturn, 1) → post r x → Wd dC dI cI cB cJ cZ ad stM kcM 115 A x H → va_S A s.heap H locs → W p l e R s m args below meth c H locs cells slots Q (F0 m pc ls [.int r])) (hrec14 : ∀ (l1 : Int32) (l2 : Int32) (l3 : Int32) (l4 : Int32) (x : St) (H : Heap) (locs : List Loc) (ls : Array Slot), rec14 l1 l2 l3 l4 x → Wd dC dI cI cB cJ cZ ad stM kcM 115 A x H → va_S A s.heap H locs → lv_has ls 7 [(0, .ref (ad 0)), (1, .int l1), (2, .int l2), (3, .int l3), (4, .int l4)] → W p l e R s m args below meth c H locs cells slots Q (F0 m 14 ls [])) (hrec40 : ∀ (l1 : Int32) (l2 : Int32) (l3 : Int32) (l4 : Int32) (l5 : Int32) (l6 : Int32) (x : St) (H : Heap) (locs : List Loc) (ls : Array Slot), rec40 l1 l2 l3 l4 l5 l6 x → Wd dC dI cI cB cJ cZ ad stM kcM 115 A x H → va_S A s.heap H locs → lv_has ls 7 [(0, .ref (ad 0)), (1, .int l1), (2, .int l2), (3, .int l3), (4, .int l4), (5, .int l5), (6, .int l6)] → W p l e R s m args below meth c H locs cells slots Q (F0 m 40 ls [])) : ∀ (l1 : Int32) (l2 : Int32) (l3 : Int32) (l4 : Int32) (l5 : Int32) (l6 : Int32) (x : St) (H : Heap) (locs : List Loc) (ls : Array Slot), j_Mod_around_58 post rec14 rec40 l1 l2 l3 l4 l5 l6 x → Wd dC dI cI cB cJ cZ ad stM kcM 115 A x H → va_S A s.heap H locs → lv_has ls 7 [(0, .ref (ad 0)), (1, .int l1), (2, .int l2), (3, .int l3), (4, .int l4), (5, .int l5), (6, .int l6)] → W p l e R s m args below meth c H locs cells slots Q (F0 m 58 ls []) := by
  intro l1 l2 l3 l4 l5 l6 x H locs ls  hw hW hS hl
  unfold j_Mod_around_58 at hw
  refine lv_iconst (v := 1) hx hb d_Mod_around_58 (by decide) ?_
  refine lv_goto (tgt := 63) hx hb d_Mod_around_59 (by decide) ?_
  exact t_Mod_around_63 hx hb hml hown hT hK hN hA hRc hRs hRf hRl hret hrec14 hrec40 l1 l2 l3 l4 l5 l6 1 x H locs ls  hw hW hS (lv_sub hl [0, 1, 2, 3, 4, 5, 6] rfl)
set_option maxRecDepth 100000 in
set_option maxHeartbeats 4000000 in
set_option maxRecDepth 100000 in
theorem t_Mod_around_40 {p : Program} {l : Launch} {e : Env} {R : Room} {s : State} {m : MethodId} {args : Array Value} {below : List Frame} {meth : Method} {c : Code} {cells slots : Nat} {Q : State → Prop} {dC : Nat → ClassId} {dI : Nat → Nat → Nat} {cI cB cJ cZ : ClassId} {A : Nat → Prop} {ad : Nat → Nat} {post : Int32 → St → Prop} {rec14 : Int32 → Int32 → Int32 → Int32 → St → Prop} {rec40 : Int32 → Int32 → Int32 → Int32 → Int32 → Int32 → St → Prop} (hx : p.tables.exec = Jvm.exec) (hb : c.code = b_Mod_around) (hml : c.maxLocals = 7) (hown : s.vm.findClass R_Mod = some m.cls) (hT : ∀ w ∈ TG, w.before args s = true) (hK : va_K (dC, dI) CL (TY cI cB cJ cZ) s) (hN : NW s) (hA : ∀ q : Nat, s.heap.size ≤ q → A q) (hRc : cells ≤ R.cells) (hRs : slots ≤ R.slots) (hRf : 1 ≤ R.frames) (hRl : 21 ≤ R.locals) (hret : ∀ (r : Int32) (x : St) (H : Heap) (locs : List Loc) (pc : Nat) (ls : Array Slot), decode b_Mod_around pc = .ok (.ireturn, 1) → post r x → Wd dC dI cI cB cJ cZ ad stM kcM 115 A x H → va_S A s.heap H locs → W p l e R s m args below meth c H locs cells slots Q (F0 m pc ls [.int r])) (hrec14 : ∀ (l1 : Int32) (l2 : Int32) (l3 : Int32) (l4 : Int32) (x : St) (H : Heap) (locs : List Loc) (ls : Array Slot), rec14 l1 l2 l3 l4 x → Wd dC dI cI cB cJ cZ ad stM kcM 115 A x H → va_S A s.heap H locs → lv_has ls 7 [(0, .ref (ad 0)), (1, .int l1), (2, .int l2), (3, .int l3), (4, .int l4)] → W p l e R s m args below meth c H locs cells slots Q (F0 m 14 ls [])) (hrec40 : ∀ (l1 : Int32) (l2 : Int32) (l3 : Int32) (l4 : Int32) (l5 : Int32) (l6 : Int32) (x : St) (H : Heap) (locs : List Loc) (ls : Array Slot), rec40 l1 l2 l3 l4 l5 l6 x → Wd dC dI cI cB cJ cZ ad stM kcM 115 A x H → va_S A s.heap H locs → lv_has ls 7 [(0, .ref (ad 0)), (1, .int l1), (2, .int l2), (3, .int l3), (4, .int l4), (5, .int l5), (6, .int l6)] → W p l e R s m args below meth c H locs cells slots Q (F0 m 40 ls [])) : ∀ (l1 : Int32) (l2 : Int32) (l3 : Int32) (l4 : Int32) (l5 : Int32) (l6 : Int32) (x : St) (H : Heap) (locs : List Loc) (ls : Array Slot), j_Mod_around_40 post rec14 rec40 l1 l2 l3 l4 l5 l6 x → Wd dC dI cI cB cJ cZ ad stM kcM 115 A x H → va_S A s.heap H locs → lv_has ls 7 [(0, .ref (ad 0)), (1, .int l1), (2, .int l2), (3, .int l3), (4, .int l4), (5, .int l5), (6, .int l6)] → W p l e R s m args below meth c H locs cells slots Q (F0 m 40 ls []) := by
  intro l1 l2 l3 l4 l5 l6 x H locs ls  hw hW hS hl
  unfold j_Mod_around_40 at hw
  refine lv_iload hx hb d_Mod_around_40 (lv_at hl 6 rfl) ?_
  refine lv_iconst (v := (-1)) hx hb d_Mod_around_42 (by decide) ?_
  refine lv_icmp_eq (tgt := 81) hx hb d_Mod_around_43 (by decide) (fun c1639 => ?_) (fun c1639 => ?_)
  · have hw := hw.1 c1639
    refine lv_iload hx hb d_Mod_around_81 (lv_at hl 5 rfl) ?_
    refine lv_if_eq (tgt := 91) hx hb d_Mod_around_83 (by decide) (fun c1640 => ?_) (fun c1640 => ?_)
    · have hw := hw.1 c1640
      refine lv_iload_n hx hb d_Mod_around_91 rfl (lv_at hl 3 rfl) ?_
      exact t_Mod_around_92 hx hb hml hown hT hK hN hA hRc hRs hRf hRl hret hrec14 l1 l2 l3 l4 l5 l6 l3 x H locs ls  hw hW hS (lv_sub hl [0, 1, 2, 3, 4, 5, 6] rfl)
    · have hw := hw.2 c1640
      refine lv_iload hx hb d_Mod_around_86 (lv_at hl 4 rfl) ?_
      refine lv_goto (tgt := 92) hx hb d_Mod_around_88 (by decide) ?_
      exact t_Mod_around_92 hx hb hml hown hT hK hN hA hRc hRs hRf hRl hret hrec14 l1 l2 l3 l4 l5 l6 l4 x H locs ls  hw hW hS (lv_sub hl [0, 1, 2, 3, 4, 5, 6] rfl)
  · have hw := hw.2 c1639
    refine lv_iload hx hb d_Mod_around_46 (lv_at hl 5 rfl) ?_
    refine lv_if_ne (tgt := 58) hx hb d_Mod_around_48 (by decide) (fun c1641 => ?_) (fun c1641 => ?_)
    · have hw := hw.1 c1641
      exact t_Mod_around_58 hx hb hml hown hT hK hN hA hRc hRs hRf hRl hret hrec14 hrec40 l1 l2 l3 l4 l5 l6 x H locs ls  hw hW hS (lv_sub hl [0, 1, 2, 3, 4, 5, 6] rfl)
    · have hw := hw.2 c1641
      refine lv_iload hx hb d_Mod_around_51 (lv_at hl 6 rfl) ?_
      refine lv_iload hx hb d_Mod_around_53 (lv_at hl 4 rfl) ?_
      refine lv_icmp_ne (tgt := 62) hx hb d_Mod_around_55 (by decide) (fun c1642 => ?_) (fun c1642 => ?_)
      · have hw := hw.1 c1642
        refine lv_iconst (v := 0) hx hb d_Mod_around_62 (by decide) ?_
        exact t_Mod_around_63 hx hb hml hown hT hK hN hA hRc hRs hRf hRl hret hrec14 hrec40 l1 l2 l3 l4 l5 l6 0 x H locs ls  hw hW hS (lv_sub hl [0, 1, 2, 3, 4, 5, 6] rfl)
      · have hw := hw.2 c1642
        exact t_Mod_around_58 hx hb hml hown hT hK hN hA hRc hRs hRf hRl hret hrec14 hrec40 l1 l2 l3 l4 l5 l6 x H locs ls  hw hW hS (lv_sub hl [0, 1, 2, 3, 4, 5, 6] rfl)
set_option maxHeartbeats 4000000 in
set_option maxRecDepth 100000 in
theorem tl_Mod_around_40 {p : Program} {l : Launch} {e : Env} {R : Room} {s : State} {m : MethodId} {args : Array Value} {below : List Frame} {meth : Method} {c : Code} {cells slots : Nat} {Q : State → Prop} {dC : Nat → ClassId} {dI : Nat → Nat → Nat} {cI cB cJ cZ : ClassId} {A : Nat → Prop} {ad : Nat → Nat} {post : Int32 → St → Prop} {rec14 : Int32 → Int32 → Int32 → Int32 → St → Prop} (hx : p.tables.exec = Jvm.exec) (hb : c.code = b_Mod_around) (hml : c.maxLocals = 7) (hown : s.vm.findClass R_Mod = some m.cls) (hT : ∀ w ∈ TG, w.before args s = true) (hK : va_K (dC, dI) CL (TY cI cB cJ cZ) s) (hN : NW s) (hA : ∀ q : Nat, s.heap.size ≤ q → A q) (hRc : cells ≤ R.cells) (hRs : slots ≤ R.slots) (hRf : 1 ≤ R.frames) (hRl : 21 ≤ R.locals) (hret : ∀ (r : Int32) (x : St) (H : Heap) (locs : List Loc) (pc : Nat) (ls : Array Slot), decode b_Mod_around pc = .ok (.ireturn, 1) → post r x → Wd dC dI cI cB cJ cZ ad stM kcM 115 A x H → va_S A s.heap H locs → W p l e R s m args below meth c H locs cells slots Q (F0 m pc ls [.int r])) (hrec14 : ∀ (l1 : Int32) (l2 : Int32) (l3 : Int32) (l4 : Int32) (x : St) (H : Heap) (locs : List Loc) (ls : Array Slot), rec14 l1 l2 l3 l4 x → Wd dC dI cI cB cJ cZ ad stM kcM 115 A x H → va_S A s.heap H locs → lv_has ls 7 [(0, .ref (ad 0)), (1, .int l1), (2, .int l2), (3, .int l3), (4, .int l4)] → W p l e R s m args below meth c H locs cells slots Q (F0 m 14 ls [])) : ∀ n : Nat, ∀ (l1 : Int32) (l2 : Int32) (l3 : Int32) (l4 : Int32) (l5 : Int32) (l6 : Int32) (x : St) (H : Heap) (locs : List Loc) (ls : Array Slot), wl_Mod_around_40 post rec14 n l1 l2 l3 l4 l5 l6 x → Wd dC dI cI cB cJ cZ ad stM kcM 115 A x H → va_S A s.heap H locs → lv_has ls 7 [(0, .ref (ad 0)), (1, .int l1), (2, .int l2), (3, .int l3), (4, .int l4), (5, .int l5), (6, .int l6)] → W p l e R s m args below meth c H locs cells slots Q (F0 m 40 ls []) := by
  intro n
  induction n with
  | zero => intro l1 l2 l3 l4 l5 l6 x H locs ls  hw; exact hw.elim
  | succ n ih => intro l1 l2 l3 l4 l5 l6 x H locs ls  hw hW hS hl; exact t_Mod_around_40 hx hb hml hown hT hK hN hA hRc hRs hRf hRl hret hrec14 ih l1 l2 l3 l4 l5 l6 x H locs ls  hw hW hS hl
set_option maxRecDepth 100000 in
set_option maxHeartbeats 4000000 in
set_option maxRecDepth 100000 in
theorem t_Mod_around_14 {p : Program} {l : Launch} {e : Env} {R : Room} {s : State} {m : MethodId} {args : Array Value} {below : List Frame} {meth : Method} {c : Code} {cells slots : Nat} {Q : State → Prop} {dC : Nat → ClassId} {dI : Nat → Nat → Nat} {cI cB cJ cZ : ClassId} {A : Nat → Prop} {ad : Nat → Nat} {post : Int32 → St → Prop} {rec14 : Int32 → Int32 → Int32 → Int32 → St → Prop} (hx : p.tables.exec = Jvm.exec) (hb : c.code = b_Mod_around) (hml : c.maxLocals = 7) (hown : s.vm.findClass R_Mod = some m.cls) (hT : ∀ w ∈ TG, w.before args s = true) (hK : va_K (dC, dI) CL (TY cI cB cJ cZ) s) (hN : NW s) (hA : ∀ q : Nat, s.heap.size ≤ q → A q) (hRc : cells ≤ R.cells) (hRs : slots ≤ R.slots) (hRf : 1 ≤ R.frames) (hRl : 21 ≤ R.locals) (hret : ∀ (r : Int32) (x : St) (H : Heap) (locs : List Loc) (pc : Nat) (ls : Array Slot), decode b_Mod_around pc = .ok (.ireturn, 1) → post r x → Wd dC dI cI cB cJ cZ ad stM kcM 115 A x H → va_S A s.heap H locs → W p l e R s m args below meth c H locs cells slots Q (F0 m pc ls [.int r])) (hrec14 : ∀ (l1 : Int32) (l2 : Int32) (l3 : Int32) (l4 : Int32) (x : St) (H : Heap) (locs : List Loc) (ls : Array Slot), rec14 l1 l2 l3 l4 x → Wd dC dI cI cB cJ cZ ad stM kcM 115 A x H → va_S A s.heap H locs → lv_has ls 7 [(0, .ref (ad 0)), (1, .int l1), (2, .int l2), (3, .int l3), (4, .int l4)] → W p l e R s m args below meth c H locs cells slots Q (F0 m 14 ls [])) : ∀ (l1 : Int32) (l2 : Int32) (l3 : Int32) (l4 : Int32) (x : St) (H : Heap) (locs : List Loc) (ls : Array Slot), j_Mod_around_14 post rec14 l1 l2 l3 l4 x → Wd dC dI cI cB cJ cZ ad stM kcM 115 A x H → va_S A s.heap H locs → lv_has ls 7 [(0, .ref (ad 0)), (1, .int l1), (2, .int l2), (3, .int l3), (4, .int l4)] → W p l e R s m args below meth c H locs cells slots Q (F0 m 14 ls []) := by
  intro l1 l2 l3 l4 x H locs ls  hw hW hS hl
  unfold j_Mod_around_14 at hw
  refine lv_iload hx hb d_Mod_around_14 (lv_at hl 4 rfl) ?_
  refine lv_iconst (v := (-1)) hx hb d_Mod_around_16 (by decide) ?_
  refine lv_icmp_eq (tgt := 109) hx hb d_Mod_around_17 (by decide) (fun c1643 => ?_) (fun c1643 => ?_)
  · have hw := hw.1 c1643
    exact t_Mod_around_109 hx hb hml hown hT hK hN hA hRc hRs hRf hRl hret  l1 l2 l3 l4 x H locs ls  hw hW hS (lv_sub hl [0, 1, 2, 3, 4] rfl)
  · have hw := hw.2 c1643
    refine lv_iload_n hx hb d_Mod_around_20 rfl (lv_at hl 3 rfl) ?_
    refine lv_iconst (v := (-1)) hx hb d_Mod_around_21 (by decide) ?_
    refine lv_icmp_ne (tgt := 109) hx hb d_Mod_around_22 (by decide) (fun c1644 => ?_) (fun c1644 => ?_)
    · have hw := hw.1 c1644
      exact t_Mod_around_109 hx hb hml hown hT hK hN hA hRc hRs hRf hRl hret  l1 l2 l3 l4 x H locs ls  hw hW hS (lv_sub hl [0, 1, 2, 3, 4] rfl)
    · have hw := hw.2 c1644
      refine lv_iconst (v := 0) hx hb d_Mod_around_25 (by decide) ?_
      refine lv_istore (lv' := [(5, .int 0), (0, .ref (ad 0)), (1, .int l1), (2, .int l2), (3, .int l3), (4, .int l4)]) hx hb d_Mod_around_26 hl (by decide) rfl (fun ls hl => ?_)
      refine lv_aload_n hx hb d_Mod_around_28 rfl (lv_at hl 1 rfl) ?_
      refine w_getf (q := 5) (k := 7) (t := 12) (C := R_Mod) (T := F_Mod) (N := 167) hx hb hT hown hK hW ko_0.1 ko_0.2 (by decide) in_Mod rfl rfl (by decide) rfl fr_Mod_7 w_8_183 d_Mod_around_29 rfl ?_
      refine lv_iconst (v := 1) hx hb d_Mod_around_32 (by decide) ?_
      refine lv_iload_n hx hb d_Mod_around_33 rfl (lv_at hl 3 rfl) ?_
      have hF := hW.free hS hA
      refine va_calli (va_runS (As := [.int 1, .int l2]) (rest := [.ref (ad 5)]) ⟨hx, hb, hml, hown, hT⟩ (k_Mod_place l dC dI cI cB cJ cZ ad H.size 1 l2 x  hw) ⟨callB_of 2 hT (gwt_in w_11_30) rfl rfl rfl (hT _ w_1_15) (hT _ w_11_28) (by decide +kernel) ⟨Nat.le_trans (Nat.le_of_ble_eq_true rfl) hRf, Nat.le_trans (Nat.le_of_ble_eq_true rfl) hRl⟩, hT _ w_11_29⟩ ⟨PW.blind, PW.at _ hW hK hN⟩ rfl rfl hl.1 rfl (lv_room (Nat.le_of_ble_eq_true rfl)) d_Mod_around_34 ⟨hRc, hRs⟩) hS (fun q _ h => hF q h) hF (fun r1646 x1645 t H locs ht hvm hw hB hz1 hk1 hS => ?_)
      have hW := Wd.back hB ht hF
      clear hB ht hF hz1 hk1 hvm
      obtain ⟨hi, hw⟩ := hw
      refine w_iald (o := 5) hx hb hK hW ko_5.1 ko_5.2 hi d_Mod_around_37 ?_
      refine lv_topi (fun v1647 ev1647 => ?_)
      have hw := hw v1647 ev1647
      refine lv_istore (lv' := [(6, .int v1647), (5, .int 0), (0, .ref (ad 0)), (1, .int l1), (2, .int l2), (3, .int l3), (4, .int l4)]) hx hb d_Mod_around_38 hl (by decide) rfl (fun ls hl => ?_)
      obtain ⟨n, hw⟩ := hw
      exact tl_Mod_around_40 hx hb hml hown hT hK hN hA hRc hRs hRf hRl hret hrec14 n l1 l2 l3 l4 0 v1647 x1645 H locs ls  hw hW hS (lv_sub hl [2, 3, 4, 5, 6, 1, 0] rfl)
set_option maxHeartbeats 4000000 in
set_option maxRecDepth 100000 in
theorem tl_Mod_around_14 {p : Program} {l : Launch} {e : Env} {R : Room} {s : State} {m : MethodId} {args : Array Value} {below : List Frame} {meth : Method} {c : Code} {cells slots : Nat} {Q : State → Prop} {dC : Nat → ClassId} {dI : Nat → Nat → Nat} {cI cB cJ cZ : ClassId} {A : Nat → Prop} {ad : Nat → Nat} {post : Int32 → St → Prop} (hx : p.tables.exec = Jvm.exec) (hb : c.code = b_Mod_around) (hml : c.maxLocals = 7) (hown : s.vm.findClass R_Mod = some m.cls) (hT : ∀ w ∈ TG, w.before args s = true) (hK : va_K (dC, dI) CL (TY cI cB cJ cZ) s) (hN : NW s) (hA : ∀ q : Nat, s.heap.size ≤ q → A q) (hRc : cells ≤ R.cells) (hRs : slots ≤ R.slots) (hRf : 1 ≤ R.frames) (hRl : 21 ≤ R.locals) (hret : ∀ (r : Int32) (x : St) (H : Heap) (locs : List Loc) (pc : Nat) (ls : Array Slot), decode b_Mod_around pc = .ok (.ireturn, 1) → post r x → Wd dC dI cI cB cJ cZ ad stM kcM 115 A x H → va_S A s.heap H locs → W p l e R s m args below meth c H locs cells slots Q (F0 m pc ls [.int r]))  : ∀ n : Nat, ∀ (l1 : Int32) (l2 : Int32) (l3 : Int32) (l4 : Int32) (x : St) (H : Heap) (locs : List Loc) (ls : Array Slot), wl_Mod_around_14 post n l1 l2 l3 l4 x → Wd dC dI cI cB cJ cZ ad stM kcM 115 A x H → va_S A s.heap H locs → lv_has ls 7 [(0, .ref (ad 0)), (1, .int l1), (2, .int l2), (3, .int l3), (4, .int l4)] → W p l e R s m args below meth c H locs cells slots Q (F0 m 14 ls []) := by
  intro n
  induction n with
  | zero => intro l1 l2 l3 l4 x H locs ls  hw; exact hw.elim
  | succ n ih => intro l1 l2 l3 l4 x H locs ls  hw hW hS hl; exact t_Mod_around_14 hx hb hml hown hT hK hN hA hRc hRs hRf hRl hret  ih l1 l2 l3 l4 x H locs ls  hw hW hS hl
set_option maxRecDepth 100000 in
set_option maxHeartbeats 4000000 in
set_option maxRecDepth 100000 in
theorem t_Mod_around_e {p : Program} {l : Launch} {e : Env} {R : Room} {s : State} {m : MethodId} {args : Array Value} {below : List Frame} {meth : Method} {c : Code} {cells slots : Nat} {Q : State → Prop} {dC : Nat → ClassId} {dI : Nat → Nat → Nat} {cI cB cJ cZ : ClassId} {A : Nat → Prop} {ad : Nat → Nat} {post : Int32 → St → Prop} (hx : p.tables.exec = Jvm.exec) (hb : c.code = b_Mod_around) (hml : c.maxLocals = 7) (hown : s.vm.findClass R_Mod = some m.cls) (hT : ∀ w ∈ TG, w.before args s = true) (hK : va_K (dC, dI) CL (TY cI cB cJ cZ) s) (hN : NW s) (hA : ∀ q : Nat, s.heap.size ≤ q → A q) (hRc : cells ≤ R.cells) (hRs : slots ≤ R.slots) (hRf : 1 ≤ R.frames) (hRl : 21 ≤ R.locals) (hret : ∀ (r : Int32) (x : St) (H : Heap) (locs : List Loc) (pc : Nat) (ls : Array Slot), decode b_Mod_around pc = .ok (.ireturn, 1) → post r x → Wd dC dI cI cB cJ cZ ad stM kcM 115 A x H → va_S A s.heap H locs → W p l e R s m args below meth c H locs cells slots Q (F0 m pc ls [.int r])) : ∀ (l1 : Int32) (l2 : Int32) (x : St) (H : Heap) (locs : List Loc) (ls : Array Slot), wp_Mod_around post l1 l2 x → Wd dC dI cI cB cJ cZ ad stM kcM 115 A x H → va_S A s.heap H locs → lv_has ls 7 [(0, .ref (ad 0)), (1, .int l1), (2, .int l2)] → W p l e R s m args below meth c H locs cells slots Q (F0 m 0 ls []) := by
  intro l1 l2 x H locs ls  hw hW hS hl
  unfold wp_Mod_around at hw
  refine lv_iconst (v := (-1)) hx hb d_Mod_around_0 (by decide) ?_
  refine lv_istore_n (lv' := [(3, .int (-1)), (0, .ref (ad 0)), (1, .int l1), (2, .int l2)]) hx hb d_Mod_around_1 rfl hl (by decide) rfl (fun ls hl => ?_)
  refine lv_aload_n hx hb d_Mod_around_2 rfl (lv_at hl 1 rfl) ?_
  refine w_getf (q := 5) (k := 7) (t := 12) (C := R_Mod) (T := F_Mod) (N := 167) hx hb hT hown hK hW ko_0.1 ko_0.2 (by decide) in_Mod rfl rfl (by decide) rfl fr_Mod_7 w_8_183 d_Mod_around_3 rfl ?_
  refine lv_iconst (v := 1) hx hb d_Mod_around_6 (by decide) ?_
  refine lv_iload_n hx hb d_Mod_around_7 rfl (lv_at hl 2 rfl) ?_
  have hF := hW.free hS hA
  refine va_calli (va_runS (As := [.int 1, .int l1]) (rest := [.ref (ad 5)]) ⟨hx, hb, hml, hown, hT⟩ (k_Mod_place l dC dI cI cB cJ cZ ad H.size 1 l1 x  hw) ⟨callB_of 2 hT (gwt_in w_11_30) rfl rfl rfl (hT _ w_1_15) (hT _ w_11_28) (by decide +kernel) ⟨Nat.le_trans (Nat.le_of_ble_eq_true rfl) hRf, Nat.le_trans (Nat.le_of_ble_eq_true rfl) hRl⟩, hT _ w_11_29⟩ ⟨PW.blind, PW.at _ hW hK hN⟩ rfl rfl hl.1 rfl (lv_room (Nat.le_of_ble_eq_true rfl)) d_Mod_around_8 ⟨hRc, hRs⟩) hS (fun q _ h => hF q h) hF (fun r1649 x1648 t H locs ht hvm hw hB hz1 hk1 hS => ?_)
  have hW := Wd.back hB ht hF
  clear hB ht hF hz1 hk1 hvm
  obtain ⟨hi, hw⟩ := hw
  refine w_iald (o := 5) hx hb hK hW ko_5.1 ko_5.2 hi d_Mod_around_11 ?_
  refine lv_topi (fun v1650 ev1650 => ?_)
  have hw := hw v1650 ev1650
  refine lv_istore (lv' := [(4, .int v1650), (3, .int (-1)), (0, .ref (ad 0)), (1, .int l1), (2, .int l2)]) hx hb d_Mod_around_12 hl (by decide) rfl (fun ls hl => ?_)
  obtain ⟨n, hw⟩ := hw
  exact tl_Mod_around_14 hx hb hml hown hT hK hN hA hRc hRs hRf hRl hret  n l1 l2 (-1) v1650 x1648 H locs ls  hw hW hS (lv_sub hl [2, 3, 4, 1, 0] rfl)
set_option maxHeartbeats 4000000 in
set_option maxRecDepth 100000 in
theorem k_Mod_around (l : Launch) (dC : Nat → ClassId) (dI : Nat → Nat → Nat) (cI cB cJ cZ : ClassId) (ad : Nat → Nat) (sz : Nat) (l1 : Int32) (l2 : Int32) (x : St) {post : Int32 → St → Prop} (hw : wp_Mod_around post l1 l2 x) : Met l y_Mod_around (wsOf y_Mod_around b_Mod_around 7 (some (.int))) ({ frames := 1, cells := 0, slots := 0, locals := 21 }) (va_Pc [.ref (ad 0), .int l1, .int l2] (PW dC dI cI cB cJ cZ ad stM kcM 115 sz x)) (va_Qi (fun (r : Int32) (y : St) => post r y) (fun y t => Wd dC dI cI cB cJ cZ ad stM kcM 115 (va_A (pic ad stM kcM 115 cI cB cJ cZ x) sz) y t.heap) (va_A (pic ad stM kcM 115 cI cB cJ cZ x) sz)) 0 0 (va_A (pic ad stM kcM 115 cI cB cJ cZ x) sz) := by
  refine Met.ofW (cc := b_Mod_around) (maxL := 7) (ret := some (.int)) (by decide) rfl ?_
  intro p e s m args below meth c s₁ B hml hv
  obtain ⟨rfl, hsz, hW0, hK, hN⟩ := hv
  have hx := B.exec
  have hb := B.bytes
  have hr := B.returns
  have hts := atoms_spec B.pre
  have hT : ∀ w ∈ TG, w.before _ s = true := fun w h => hts w (List.mem_cons_of_mem _ h)
  have hown : s.vm.findClass R_Mod = some m.cls := findClass_of_methodNamed B.named
  have hlocks := B.notSynchronized
  subst hsz
  have hW : Wd dC dI cI cB cJ cZ ad stM kcM 115 (va_A (pic ad stM kcM 115 cI cB cJ cZ x) s.heap.size) x s.heap := ⟨hW0.1, hW0.2.1.self (sz := s.heap.size), hW0.2.2⟩
  generalize hAe : va_A (pic ad stM kcM 115 cI cB cJ cZ x) s.heap.size = A at hW ⊢
  have hA : ∀ q : Nat, s.heap.size ≤ q → A q := fun q h => by rw [← hAe]; exact Or.inr h
  have hS : va_S A s.heap s.heap [] := va_S.rf
  have hl := lv_entry ([.ref (ad 0), .int l1, .int l2]) (n := 7) (Nat.le_of_ble_eq_true rfl)
  rw [lg_entry_eq]
  generalize (lg_sl ([.ref (ad 0), .int l1, .int l2]) ++ List.replicate (7 - (lg_sl ([.ref (ad 0), .int l1, .int l2])).length) Slot.unset).toArray = ls at hl ⊢
  have hl : lv_has ls 7 [(0, .ref (ad 0)), (1, .int l1), (2, .int l2)] := hl
  exact t_Mod_around_e hx hb hml hown hT hK hN hA (Nat.le_refl 0) (Nat.le_refl 0) (Nat.le_refl 1) (Nat.le_refl 21) (fun r x H locs pc ls hd hp hW hS => W.iret (v := r) hx hb hr (fun t ht hM => ⟨⟨r, x, rfl, hp, Wd.back hW ht.symm (fun _ z => z)⟩, hS.F ht⟩) hS.2.2 hd hlocks)  l1 l2 x _ _ ls  hw hW hS hl
set_option maxRecDepth 100000 in
set_option maxHeartbeats 4000000 in
set_option maxRecDepth 100000 in
theorem t_Mod_apart_271 {p : Program} {l : Launch} {e : Env} {R : Room} {s : State} {m : MethodId} {args : Array Value} {below : List Frame} {meth : Method} {c : Code} {cells slots : Nat} {Q : State → Prop} {dC : Nat → ClassId} {dI : Nat → Nat → Nat} {cI cB cJ cZ : ClassId} {A : Nat → Prop} {ad : Nat → Nat} {post : St → Prop} (hx : p.tables.exec = Jvm.exec) (hb : c.code = b_Mod_apart) (hml : c.maxLocals = 9) (hown : s.vm.findClass R_Mod = some m.cls) (hT : ∀ w ∈ TG, w.before args s = true) (hK : va_K (dC, dI) CL (TY cI cB cJ cZ) s) (hN : NW s) (hA : ∀ q : Nat, s.heap.size ≤ q → A q) (hRc : cells ≤ R.cells) (hRs : slots ≤ R.slots) (hRf : 2 ≤ R.frames) (hRl : 47 ≤ R.locals) (hret : ∀ (x : St) (H : Heap) (locs : List Loc) (pc : Nat) (ls : Array Slot), decode b_Mod_apart pc = .ok (.return_, 1) → post x → Wd dC dI cI cB cJ cZ ad stM kcM 115 A x H → va_S A s.heap H locs → W p l e R s m args below meth c H locs cells slots Q (F0 m pc ls []))  : ∀ (l1 : Int32) (l2 : Int32) (l3 : Int32) (l4 : Int32) (l5 : Int32) (l6 : Int32) (l7 : Int32) (s0 : Int32) (x : St) (H : Heap) (locs : List Loc) (ls : Array Slot), j_Mod_apart_271 post l1 l2 l3 l4 l5 l6 l7 s0 x → Wd dC dI cI cB cJ cZ ad stM kcM 115 A x H → va_S A s.heap H locs → lv_has ls 9 [(0, .ref (ad 0)), (1, .int l1), (2, .int l2), (3, .int l3), (4, .int l4), (5, .int l5), (6, .int l6), (7, .int l7)] → W p l e R s m args below meth c H locs cells slots Q (F0 m 271 ls [.int s0, .ref (ad 0)]) := by
  intro l1 l2 l3 l4 l5 l6 l7 s0 x H locs ls  hw hW hS hl
  unfold j_Mod_apart_271 at hw
  refine lv_bipush (v := 21) hx hb d_Mod_apart_271 (by decide) ?_
  have hF := hW.free hS hA
  refine va_callv (va_runV (C := R_Mod) (As := [.int s0, .int 21]) (rest := []) ⟨hx, hb, hml, hown, hT⟩ (k_Mod_faults l dC dI cI cB cJ cZ ad H.size s0 21 x  hw) ⟨callB_of 2 hT (gwt_in w_12_107) rfl rfl rfl (hT _ w_1_15) (hT _ w_12_104) (by decide +kernel) ⟨Nat.le_trans (Nat.le_of_ble_eq_true rfl) hRf, Nat.le_trans (Nat.le_of_ble_eq_true rfl) hRl⟩, hT _ w_12_106, hT _ ws_183⟩ ⟨PW.blind, va_recv hK hW.1 (ci := 12) (q0 := 0) rfl (pic_obj ko_0.1 ko_0.2 (by decide)), PW.at _ hW hK hN⟩ rfl rfl hl.1 rfl (lv_room (Nat.le_of_ble_eq_true rfl)) d_Mod_apart_273 ⟨hRc, hRs⟩) hS (fun q _ h => hF q h) hF (fun  x1651 t H locs ht hvm hw hB hz1 hk1 hS => ?_)
  have hW := Wd.back hB ht hF
  clear hB ht hF hz1 hk1 hvm
  exact hret x1651 H locs 276 ls d_Mod_apart_276 hw hW hS
set_option maxRecDepth 100000 in
set_option maxHeartbeats 4000000 in
set_option maxRecDepth 100000 in
theorem t_Mod_apart_256 {p : Program} {l : Launch} {e : Env} {R : Room} {s : State} {m : MethodId} {args : Array Value} {below : List Frame} {meth : Method} {c : Code} {cells slots : Nat} {Q : State → Prop} {dC : Nat → ClassId} {dI : Nat → Nat → Nat} {cI cB cJ cZ : ClassId} {A : Nat → Prop} {ad : Nat → Nat} {post : St → Prop} (hx : p.tables.exec = Jvm.exec) (hb : c.code = b_Mod_apart) (hml : c.maxLocals = 9) (hown : s.vm.findClass R_Mod = some m.cls) (hT : ∀ w ∈ TG, w.before args s = true) (hK : va_K (dC, dI) CL (TY cI cB cJ cZ) s) (hN : NW s) (hA : ∀ q : Nat, s.heap.size ≤ q → A q) (hRc : cells ≤ R.cells) (hRs : slots ≤ R.slots) (hRf : 2 ≤ R.frames) (hRl : 47 ≤ R.locals) (hret : ∀ (x : St) (H : Heap) (locs : List Loc) (pc : Nat) (ls : Array Slot), decode b_Mod_apart pc = .ok (.return_, 1) → post x → Wd dC dI cI cB cJ cZ ad stM kcM 115 A x H → va_S A s.heap H locs → W p l e R s m args below meth c H locs cells slots Q (F0 m pc ls []))  : ∀ (l1 : Int32) (l2 : Int32) (l3 : Int32) (l4 : Int32) (l5 : Int32) (l6 : Int32) (l7 : Int32) (x : St) (H : Heap) (locs : List Loc) (ls : Array Slot), j_Mod_apart_256 post l1 l2 l3 l4 l5 l6 l7 x → Wd dC dI cI cB cJ cZ ad stM kcM 115 A x H → va_S A s.heap H locs → lv_has ls 9 [(0, .ref (ad 0)), (1, .int l1), (2, .int l2), (3, .int l3), (4, .int l4), (5, .int l5), (6, .int l6), (7, .int l7)] → W p l e R s m args below meth c H locs cells slots Q (F0 m 256 ls []) := by
  intro l1 l2 l3 l4 l5 l6 l7 x H locs ls  hw hW hS hl
  unfold j_Mod_apart_256 at hw
  refine lv_aload_n hx hb d_Mod_apart_256 rfl (lv_at hl 0 rfl) ?_
  refine lv_iload hx hb d_Mod_apart_257 (lv_at hl 6 rfl) ?_
  refine lv_aload_n hx hb d_Mod_apart_259 rfl (lv_at hl 0 rfl) ?_
  refine w_geti (k := 87) (t := 12) (C := R_Mod) (T := F_Mod) (N := 167) hx hb hT hown hK hW ko_0.1 ko_0.2 (by decide) in_Mod rfl rfl (by decide) rfl fr_Mod_87 w_9_23 d_Mod_apart_260 ?_
  refine lv_icmp_ge (tgt := 270) hx hb d_Mod_apart_263 (by decide) (fun c1652 => ?_) (fun c1652 => ?_)
  · have hw := hw.1 c1652
    refine lv_iconst (v := 0) hx hb d_Mod_apart_270 (by decide) ?_
    exact t_Mod_apart_271 hx hb hml hown hT hK hN hA hRc hRs hRf hRl hret  l1 l2 l3 l4 l5 l6 l7 0 x H locs ls  hw hW hS (lv_sub hl [0, 1, 2, 3, 4, 5, 6, 7] rfl)
  · have hw := hw.2 c1652
    refine lv_iconst (v := 1) hx hb d_Mod_apart_266 (by decide) ?_
    refine lv_goto (tgt := 271) hx hb d_Mod_apart_267 (by decide) ?_
    exact t_Mod_apart_271 hx hb hml hown hT hK hN hA hRc hRs hRf hRl hret  l1 l2 l3 l4 l5 l6 l7 1 x H locs ls  hw hW hS (lv_sub hl [0, 1, 2, 3, 4, 5, 6, 7] rfl)
set_option maxRecDepth 100000 in
set_option maxHeartbeats 4000000 in
set_option maxRecDepth 100000 in
theorem t_Mod_apart_229 {p : Program} {l : Launch} {e : Env} {R : Room} {s : State} {m : MethodId} {args : Array Value} {below : List Frame} {meth : Method} {c : Code} {cells slots : Nat} {Q : State → Prop} {dC : Nat → ClassId} {dI : Nat → Nat → Nat} {cI cB cJ cZ : ClassId} {A : Nat → Prop} {ad : Nat → Nat} {post : St → Prop} {rec229 : Int32 → Int32 → Int32 → Int32 → Int32 → Int32 → Int32 → St → Prop} (hx : p.tables.exec = Jvm.exec) (hb : c.code = b_Mod_apart) (hml : c.maxLocals = 9) (hown : s.vm.findClass R_Mod = some m.cls) (hT : ∀ w ∈ TG, w.before args s = true) (hK : va_K (dC, dI) CL (TY cI cB cJ cZ) s) (hN : NW s) (hA : ∀ q : Nat, s.heap.size ≤ q → A q) (hRc : cells ≤ R.cells) (hRs : slots ≤ R.slots) (hRf : 2 ≤ R.frames) (hRl : 47 ≤ R.locals) (hret : ∀ (x : St) (H : Heap) (locs : List Loc) (pc : Nat) (ls : Array Slot), decode b_Mod_apart pc = .ok (.return_, 1) → post x → Wd dC dI cI cB cJ cZ ad stM kcM 115 A x H → va_S A s.heap H locs → W p l e R s m args below meth c H locs cells slots Q (F0 m pc ls [])) (hrec229 : ∀ (l1 : Int32) (l2 : Int32) (l3 : Int32) (l4 : Int32) (l5 : Int32) (l6 : Int32) (l7 : Int32) (x : St) (H : Heap) (locs : List Loc) (ls : Array Slot), rec229 l1 l2 l3 l4 l5 l6 l7 x → Wd dC dI cI cB cJ cZ ad stM kcM 115 A x H → va_S A s.heap H locs → lv_has ls 9 [(0, .ref (ad 0)), (1, .int l1), (2, .int l2), (3, .int l3), (4, .int l4), (5, .int l5), (6, .int l6), (7, .int l7)] → W p l e R s m args below meth c H locs cells slots Q (F0 m 229 ls [])) : ∀ (l1 : Int32) (l2 : Int32) (l3 : Int32) (l4 : Int32) (l5 : Int32) (l6 : Int32) (l7 : Int32) (x : St) (H : Heap) (locs : List Loc) (ls : Array Slot), j_Mod_apart_229 post rec229 l1 l2 l3 l4 l5 l6 l7 x → Wd dC dI cI cB cJ cZ ad stM kcM 115 A x H → va_S A s.heap H locs → lv_has ls 9 [(0, .ref (ad 0)), (1, .int l1), (2, .int l2), (3, .int l3), (4, .int l4), (5, .int l5), (6, .int l6), (7, .int l7)] → W p l e R s m args below meth c H locs cells slots Q (F0 m 229 ls []) := by
  intro l1 l2 l3 l4 l5 l6 l7 x H locs ls  hw hW hS hl
  unfold j_Mod_apart_229 at hw
  refine lv_iload hx hb d_Mod_apart_229 (lv_at hl 6 rfl) ?_
  refine lv_aload_n hx hb d_Mod_apart_231 rfl (lv_at hl 0 rfl) ?_
  refine w_geti (k := 87) (t := 12) (C := R_Mod) (T := F_Mod) (N := 167) hx hb hT hown hK hW ko_0.1 ko_0.2 (by decide) in_Mod rfl rfl (by decide) rfl fr_Mod_87 w_9_23 d_Mod_apart_232 ?_
  refine lv_icmp_ge (tgt := 256) hx hb d_Mod_apart_235 (by decide) (fun c1653 => ?_) (fun c1653 => ?_)
  · have hw := hw.1 c1653
    exact t_Mod_apart_256 hx hb hml hown hT hK hN hA hRc hRs hRf hRl hret  l1 l2 l3 l4 l5 l6 l7 x H locs ls  hw hW hS (lv_sub hl [0, 1, 2, 3, 4, 5, 6, 7] rfl)
  · have hw := hw.2 c1653
    refine lv_aload_n hx hb d_Mod_apart_238 rfl (lv_at hl 0 rfl) ?_
    refine w_getf (q := 58) (k := 95) (t := 12) (C := R_Mod) (T := F_Mod) (N := 167) hx hb hT hown hK hW ko_0.1 ko_0.2 (by decide) in_Mod rfl rfl (by decide) rfl fr_Mod_95 w_9_31 d_Mod_apart_239 rfl ?_
    refine lv_iload hx hb d_Mod_apart_242 (lv_at hl 6 rfl) ?_
    obtain ⟨hi, hw⟩ := hw
    refine w_iald (o := 58) hx hb hK hW ko_58.1 ko_58.2 hi d_Mod_apart_244 ?_
    refine lv_iload hx hb d_Mod_apart_245 (lv_at hl 4 rfl) ?_
    refine lv_icmp_le (tgt := 256) hx hb d_Mod_apart_247 (by decide) (fun c1654 => ?_) (fun c1654 => ?_)
    · have hw := hw.1 c1654
      exact t_Mod_apart_256 hx hb hml hown hT hK hN hA hRc hRs hRf hRl hret  l1 l2 l3 l4 l5 l6 l7 x H locs ls  hw hW hS (lv_sub hl [0, 1, 2, 3, 4, 5, 6, 7] rfl)
    · have hw := hw.2 c1654
      refine lv_iinc (v := (l6 + 1)) (lv' := [(6, .int (l6 + 1)), (0, .ref (ad 0)), (1, .int l1), (2, .int l2), (3, .int l3), (4, .int l4), (5, .int l5), (7, .int l7)]) hx hb d_Mod_apart_250 hl (k := 6) rfl rfl (by decide) rfl (fun ls hl => ?_)
      refine lv_goto (tgt := 229) hx hb d_Mod_apart_253 (by decide) ?_
      exact hrec229 l1 l2 l3 l4 l5 (l6 + 1) l7 x H locs ls  hw hW hS (lv_sub hl [1, 2, 3, 4, 5, 6, 0, 7] rfl)
set_option maxHeartbeats 4000000 in
set_option maxRecDepth 100000 in
theorem tl_Mod_apart_229 {p : Program} {l : Launch} {e : Env} {R : Room} {s : State} {m : MethodId} {args : Array Value} {below : List Frame} {meth : Method} {c : Code} {cells slots : Nat} {Q : State → Prop} {dC : Nat → ClassId} {dI : Nat → Nat → Nat} {cI cB cJ cZ : ClassId} {A : Nat → Prop} {ad : Nat → Nat} {post : St → Prop} (hx : p.tables.exec = Jvm.exec) (hb : c.code = b_Mod_apart) (hml : c.maxLocals = 9) (hown : s.vm.findClass R_Mod = some m.cls) (hT : ∀ w ∈ TG, w.before args s = true) (hK : va_K (dC, dI) CL (TY cI cB cJ cZ) s) (hN : NW s) (hA : ∀ q : Nat, s.heap.size ≤ q → A q) (hRc : cells ≤ R.cells) (hRs : slots ≤ R.slots) (hRf : 2 ≤ R.frames) (hRl : 47 ≤ R.locals) (hret : ∀ (x : St) (H : Heap) (locs : List Loc) (pc : Nat) (ls : Array Slot), decode b_Mod_apart pc = .ok (.return_, 1) → post x → Wd dC dI cI cB cJ cZ ad stM kcM 115 A x H → va_S A s.heap H locs → W p l e R s m args below meth c H locs cells slots Q (F0 m pc ls []))  : ∀ n : Nat, ∀ (l1 : Int32) (l2 : Int32) (l3 : Int32) (l4 : Int32) (l5 : Int32) (l6 : Int32) (l7 : Int32) (x : St) (H : Heap) (locs : List Loc) (ls : Array Slot), wl_Mod_apart_229 post n l1 l2 l3 l4 l5 l6 l7 x → Wd dC dI cI cB cJ cZ ad stM kcM 115 A x H → va_S A s.heap H locs → lv_has ls 9 [(0, .ref (ad 0)), (1, .int l1), (2, .int l2), (3, .int l3), (4, .int l4), (5, .int l5), (6, .int l6), (7, .int l7)] → W p l e R s m args below meth c H locs cells slots Q (F0 m 229 ls []) := by
  intro n
  induction n with
  | zero => intro l1 l2 l3 l4 l5 l6 l7 x H locs ls  hw; exact hw.elim
  | succ n ih => intro l1 l2 l3 l4 l5 l6 l7 x H locs ls  hw hW hS hl; exact t_Mod_apart_229 hx hb hml hown hT hK hN hA hRc hRs hRf hRl hret  ih l1 l2 l3 l4 l5 l6 l7 x H locs ls  hw hW hS hl
set_option maxRecDepth 100000 in
set_option maxHeartbeats 4000000 in
set_option maxRecDepth 100000 in
theorem t_Mod_apart_223 {p : Program} {l : Launch} {e : Env} {R : Room} {s : State} {m : MethodId} {args : Array Value} {below : List Frame} {meth : Method} {c : Code} {cells slots : Nat} {Q : State → Prop} {dC : Nat → ClassId} {dI : Nat → Nat → Nat} {cI cB cJ cZ : ClassId} {A : Nat → Prop} {ad : Nat → Nat} {post : St → Prop} {rec67 : Int32 → Int32 → Int32 → Int32 → Int32 → Int32 → Int32 → St → Prop} (hx : p.tables.exec = Jvm.exec) (hb : c.code = b_Mod_apart) (hml : c.maxLocals = 9) (hown : s.vm.findClass R_Mod = some m.cls) (hT : ∀ w ∈ TG, w.before args s = true) (hK : va_K (dC, dI) CL (TY cI cB cJ cZ) s) (hN : NW s) (hA : ∀ q : Nat, s.heap.size ≤ q → A q) (hRc : cells ≤ R.cells) (hRs : slots ≤ R.slots) (hRf : 2 ≤ R.frames) (hRl : 47 ≤ R.locals) (hret : ∀ (x : St) (H : Heap) (locs : List Loc) (pc : Nat) (ls : Array Slot), decode b_Mod_apart pc = .ok (.return_, 1) → post x → Wd dC dI cI cB cJ cZ ad stM kcM 115 A x H → va_S A s.heap H locs → W p l e R s m args below meth c H locs cells slots Q (F0 m pc ls [])) (hrec67 : ∀ (l1 : Int32) (l2 : Int32) (l3 : Int32) (l4 : Int32) (l5 : Int32) (l6 : Int32) (l7 : Int32) (x : St) (H : Heap) (locs : List Loc) (ls : Array Slot), rec67 l1 l2 l3 l4 l5 l6 l7 x → Wd dC dI cI cB cJ cZ ad stM kcM 115 A x H → va_S A s.heap H locs → lv_has ls 9 [(0, .ref (ad 0)), (1, .int l1), (2, .int l2), (3, .int l3), (4, .int l4), (5, .int l5), (6, .int l6), (7, .int l7)] → W p l e R s m args below meth c H locs cells slots Q (F0 m 67 ls [])) : ∀ (l1 : Int32) (l2 : Int32) (l3 : Int32) (l4 : Int32) (l5 : Int32) (l6 : Int32) (l7 : Int32) (x : St) (H : Heap) (locs : List Loc) (ls : Array Slot), j_Mod_apart_223 post rec67 l1 l2 l3 l4 l5 l6 l7 x → Wd dC dI cI cB cJ cZ ad stM kcM 115 A x H → va_S A s.heap H locs → lv_has ls 9 [(0, .ref (ad 0)), (1, .int l1), (2, .int l2), (3, .int l3), (4, .int l4), (5, .int l5), (6, .int l6), (7, .int l7)] → W p l e R s m args below meth c H locs cells slots Q (F0 m 223 ls []) := by
  intro l1 l2 l3 l4 l5 l6 l7 x H locs ls  hw hW hS hl
  unfold j_Mod_apart_223 at hw
  refine lv_iinc (v := (l7 + 1)) (lv' := [(7, .int (l7 + 1)), (0, .ref (ad 0)), (1, .int l1), (2, .int l2), (3, .int l3), (4, .int l4), (5, .int l5), (6, .int l6)]) hx hb d_Mod_apart_223 hl (k := 7) rfl rfl (by decide) rfl (fun ls hl => ?_)
  refine lv_goto (tgt := 67) hx hb d_Mod_apart_226 (by decide) ?_
  exact hrec67 l1 l2 l3 l4 l5 l6 (l7 + 1) x H locs ls  hw hW hS (lv_sub hl [1, 2, 3, 4, 5, 6, 7, 0] rfl)
set_option maxRecDepth 100000 in
set_option maxHeartbeats 4000000 in
set_option maxRecDepth 100000 in
theorem t_Mod_apart_215 {p : Program} {l : Launch} {e : Env} {R : Room} {s : State} {m : MethodId} {args : Array Value} {below : List Frame} {meth : Method} {c : Code} {cells slots : Nat} {Q : State → Prop} {dC : Nat → ClassId} {dI : Nat → Nat → Nat} {cI cB cJ cZ : ClassId} {A : Nat → Prop} {ad : Nat → Nat} {post : St → Prop} {rec67 : Int32 → Int32 → Int32 → Int32 → Int32 → Int32 → Int32 → St → Prop} (hx : p.tables.exec = Jvm.exec) (hb : c.code = b_Mod_apart) (hml : c.maxLocals = 9) (hown : s.vm.findClass R_Mod = some m.cls) (hT : ∀ w ∈ TG, w.before args s = true) (hK : va_K (dC, dI) CL (TY cI cB cJ cZ) s) (hN : NW s) (hA : ∀ q : Nat, s.heap.size ≤ q → A q) (hRc : cells ≤ R.cells) (hRs : slots ≤ R.slots) (hRf : 2 ≤ R.frames) (hRl : 47 ≤ R.locals) (hret : ∀ (x : St) (H : Heap) (locs : List Loc) (pc : Nat) (ls : Array Slot), decode b_Mod_apart pc = .ok (.return_, 1) → post x → Wd dC dI cI cB cJ cZ ad stM kcM 115 A x H → va_S A s.heap H locs → W p l e R s m args below meth c H locs cells slots Q (F0 m pc ls [])) (hrec67 : ∀ (l1 : Int32) (l2 : Int32) (l3 : Int32) (l4 : Int32) (l5 : Int32) (l6 : Int32) (l7 : Int32) (x : St) (H : Heap) (locs : List Loc) (ls : Array Slot), rec67 l1 l2 l3 l4 l5 l6 l7 x → Wd dC dI cI cB cJ cZ ad stM kcM 115 A x H → va_S A s.heap H locs → lv_has ls 9 [(0, .ref (ad 0)), (1, .int l1), (2, .int l2), (3, .int l3), (4, .int l4), (5, .int l5), (6, .int l6), (7, .int l7)] → W p l e R s m args below meth c H locs cells slots Q (F0 m 67 ls [])) : ∀ (l1 : Int32) (l2 : Int32) (l3 : Int32) (l4 : Int32) (l5 : Int32) (l6 : Int32) (l7 : Int32) (l8 : Int32) (s0 : Int32) (x : St) (H : Heap) (locs : List Loc) (ls : Array Slot), j_Mod_apart_215 post rec67 l1 l2 l3 l4 l5 l6 l7 l8 s0 x → Wd dC dI cI cB cJ cZ ad stM kcM 115 A x H → va_S A s.heap H locs → lv_has ls 9 [(0, .ref (ad 0)), (1, .int l1), (2, .int l2), (3, .int l3), (4, .int l4), (5, .int l5), (6, .int l6), (7, .int l7), (8, .int l8)] → W p l e R s m args below meth c H locs cells slots Q (F0 m 215 ls [.int s0, .ref (ad 0)]) := by
  intro l1 l2 l3 l4 l5 l6 l7 l8 s0 x H locs ls  hw hW hS hl
  unfold j_Mod_apart_215 at hw
  refine lv_bipush (v := 21) hx hb d_Mod_apart_215 (by decide) ?_
  have hF := hW.free hS hA
  refine va_callv (va_runV (C := R_Mod) (As := [.int s0, .int 21]) (rest := []) ⟨hx, hb, hml, hown, hT⟩ (k_Mod_faults l dC dI cI cB cJ cZ ad H.size s0 21 x  hw) ⟨callB_of 2 hT (gwt_in w_12_107) rfl rfl rfl (hT _ w_1_15) (hT _ w_12_104) (by decide +kernel) ⟨Nat.le_trans (Nat.le_of_ble_eq_true rfl) hRf, Nat.le_trans (Nat.le_of_ble_eq_true rfl) hRl⟩, hT _ w_12_106, hT _ ws_183⟩ ⟨PW.blind, va_recv hK hW.1 (ci := 12) (q0 := 0) rfl (pic_obj ko_0.1 ko_0.2 (by decide)), PW.at _ hW hK hN⟩ rfl rfl hl.1 rfl (lv_room (Nat.le_of_ble_eq_true rfl)) d_Mod_apart_217 ⟨hRc, hRs⟩) hS (fun q _ h => hF q h) hF (fun  x1655 t H locs ht hvm hw hB hz1 hk1 hS => ?_)
  have hW := Wd.back hB ht hF
  clear hB ht hF hz1 hk1 hvm
  refine lv_iinc (v := (l6 + 1)) (lv' := [(6, .int (l6 + 1)), (0, .ref (ad 0)), (1, .int l1), (2, .int l2), (3, .int l3), (4, .int l4), (5, .int l5), (7, .int l7), (8, .int l8)]) hx hb d_Mod_apart_220 hl (k := 6) rfl rfl (by decide) rfl (fun ls hl => ?_)
  exact t_Mod_apart_223 hx hb hml hown hT hK hN hA hRc hRs hRf hRl hret hrec67 l1 l2 l3 l4 l5 (l6 + 1) l7 x1655 H locs ls  hw hW hS (lv_sub hl [1, 2, 3, 4, 5, 6, 0, 7] rfl)
set_option maxRecDepth 100000 in
set_option maxHeartbeats 4000000 in
set_option maxRecDepth 100000 in
theorem t_Mod_apart_202 {p : Program} {l : Launch} {e : Env} {R : Room} {s : State} {m : MethodId} {args : Array Value} {below : List Frame} {meth : Method} {c : Code} {cells slots : Nat} {Q : State → Prop} {dC : Nat → ClassId} {dI : Nat → Nat → Nat} {cI cB cJ cZ : ClassId} {A : Nat → Prop} {ad : Nat → Nat} {post : St → Prop} {rec67 : Int32 → Int32 → Int32 → Int32 → Int32 → Int32 → Int32 → St → Prop} (hx : p.tables.exec = Jvm.exec) (hb : c.code = b_Mod_apart) (hml : c.maxLocals = 9) (hown : s.vm.findClass R_Mod = some m.cls) (hT : ∀ w ∈ TG, w.before args s = true) (hK : va_K (dC, dI) CL (TY cI cB cJ cZ) s) (hN : NW s) (hA : ∀ q : Nat, s.heap.size ≤ q → A q) (hRc : cells ≤ R.cells) (hRs : slots ≤ R.slots) (hRf : 2 ≤ R.frames) (hRl : 47 ≤ R.locals) (hret : ∀ (x : St) (H : Heap) (locs : List Loc) (pc : Nat) (ls : Array Slot), decode b_Mod_apart pc = .ok (.return_, 1) → post x → Wd dC dI cI cB cJ cZ ad stM kcM 115 A x H → va_S A s.heap H locs → W p l e R s m args below meth c H locs cells slots Q (F0 m pc ls [])) (hrec67 : ∀ (l1 : Int32) (l2 : Int32) (l3 : Int32) (l4 : Int32) (l5 : Int32) (l6 : Int32) (l7 : Int32) (x : St) (H : Heap) (locs : List Loc) (ls : Array Slot), rec67 l1 l2 l3 l4 l5 l6 l7 x → Wd dC dI cI cB cJ cZ ad stM kcM 115 A x H → va_S A s.heap H locs → lv_has ls 9 [(0, .ref (ad 0)), (1, .int l1), (2, .int l2), (3, .int l3), (4, .int l4), (5, .int l5), (6, .int l6), (7, .int l7)] → W p l e R s m args below meth c H locs cells slots Q (F0 m 67 ls [])) : ∀ (l1 : Int32) (l2 : Int32) (l3 : Int32) (l4 : Int32) (l5 : Int32) (l6 : Int32) (l7 : Int32) (s0 : Int32) (x : St) (H : Heap) (locs : List Loc) (ls : Array Slot), j_Mod_apart_202 post rec67 l1 l2 l3 l4 l5 l6 l7 s0 x → Wd dC dI cI cB cJ cZ ad stM kcM 115 A x H → va_S A s.heap H locs → lv_has ls 9 [(0, .ref (ad 0)), (1, .int l1), (2, .int l2), (3, .int l3), (4, .int l4), (5, .int l5), (6, .int l6), (7, .int l7)] → W p l e R s m args below meth c H locs cells slots Q (F0 m 202 ls [.int s0]) := by
  intro l1 l2 l3 l4 l5 l6 l7 s0 x H locs ls  hw hW hS hl
  unfold j_Mod_apart_202 at hw
  refine lv_istore (lv' := [(8, .int s0), (0, .ref (ad 0)), (1, .int l1), (2, .int l2), (3, .int l3), (4, .int l4), (5, .int l5), (6, .int l6), (7, .int l7)]) hx hb d_Mod_apart_202 hl (by decide) rfl (fun ls hl => ?_)
  refine lv_aload_n hx hb d_Mod_apart_204 rfl (lv_at hl 1 rfl) ?_
  refine lv_iload hx hb d_Mod_apart_205 (lv_at hl 0 rfl) ?_
  refine lv_if_ne (tgt := 214) hx hb d_Mod_apart_207 (by decide) (fun c1656 => ?_) (fun c1656 => ?_)
  · have hw := hw.1 c1656
    refine lv_iconst (v := 0) hx hb d_Mod_apart_214 (by decide) ?_
    exact t_Mod_apart_215 hx hb hml hown hT hK hN hA hRc hRs hRf hRl hret hrec67 l1 l2 l3 l4 l5 l6 l7 s0 0 x H locs ls  hw hW hS (lv_sub hl [1, 2, 3, 4, 5, 6, 7, 8, 0] rfl)
  · have hw := hw.2 c1656
    refine lv_iconst (v := 1) hx hb d_Mod_apart_210 (by decide) ?_
    refine lv_goto (tgt := 215) hx hb d_Mod_apart_211 (by decide) ?_
    exact t_Mod_apart_215 hx hb hml hown hT hK hN hA hRc hRs hRf hRl hret hrec67 l1 l2 l3 l4 l5 l6 l7 s0 1 x H locs ls  hw hW hS (lv_sub hl [1, 2, 3, 4, 5, 6, 7, 8, 0] rfl)
set_option maxRecDepth 100000 in
set_option maxHeartbeats 4000000 in
set_option maxRecDepth 100000 in
theorem t_Mod_apart_201 {p : Program} {l : Launch} {e : Env} {R : Room} {s : State} {m : MethodId} {args : Array Value} {below : List Frame} {meth : Method} {c : Code} {cells slots : Nat} {Q : State → Prop} {dC : Nat → ClassId} {dI : Nat → Nat → Nat} {cI cB cJ cZ : ClassId} {A : Nat → Prop} {ad : Nat → Nat} {post : St → Prop} {rec67 : Int32 → Int32 → Int32 → Int32 → Int32 → Int32 → Int32 → St → Prop} (hx : p.tables.exec = Jvm.exec) (hb : c.code = b_Mod_apart) (hml : c.maxLocals = 9) (hown : s.vm.findClass R_Mod = some m.cls) (hT : ∀ w ∈ TG, w.before args s = true) (hK : va_K (dC, dI) CL (TY cI cB cJ cZ) s) (hN : NW s) (hA : ∀ q : Nat, s.heap.size ≤ q → A q) (hRc : cells ≤ R.cells) (hRs : slots ≤ R.slots) (hRf : 2 ≤ R.frames) (hRl : 47 ≤ R.locals) (hret : ∀ (x : St) (H : Heap) (locs : List Loc) (pc : Nat) (ls : Array Slot), decode b_Mod_apart pc = .ok (.return_, 1) → post x → Wd dC dI cI cB cJ cZ ad stM kcM 115 A x H → va_S A s.heap H locs → W p l e R s m args below meth c H locs cells slots Q (F0 m pc ls [])) (hrec67 : ∀ (l1 : Int32) (l2 : Int32) (l3 : Int32) (l4 : Int32) (l5 : Int32) (l6 : Int32) (l7 : Int32) (x : St) (H : Heap) (locs : List Loc) (ls : Array Slot), rec67 l1 l2 l3 l4 l5 l6 l7 x → Wd dC dI cI cB cJ cZ ad stM kcM 115 A x H → va_S A s.heap H locs → lv_has ls 9 [(0, .ref (ad 0)), (1, .int l1), (2, .int l2), (3, .int l3), (4, .int l4), (5, .int l5), (6, .int l6), (7, .int l7)] → W p l e R s m args below meth c H locs cells slots Q (F0 m 67 ls [])) : ∀ (l1 : Int32) (l2 : Int32) (l3 : Int32) (l4 : Int32) (l5 : Int32) (l6 : Int32) (l7 : Int32) (x : St) (H : Heap) (locs : List Loc) (ls : Array Slot), j_Mod_apart_201 post rec67 l1 l2 l3 l4 l5 l6 l7 x → Wd dC dI cI cB cJ cZ ad stM kcM 115 A x H → va_S A s.heap H locs → lv_has ls 9 [(0, .ref (ad 0)), (1, .int l1), (2, .int l2), (3, .int l3), (4, .int l4), (5, .int l5), (6, .int l6), (7, .int l7)] → W p l e R s m args below meth c H locs cells slots Q (F0 m 201 ls []) := by
  intro l1 l2 l3 l4 l5 l6 l7 x H locs ls  hw hW hS hl
  unfold j_Mod_apart_201 at hw
  refine lv_iconst (v := 0) hx hb d_Mod_apart_201 (by decide) ?_
  exact t_Mod_apart_202 hx hb hml hown hT hK hN hA hRc hRs hRf hRl hret hrec67 l1 l2 l3 l4 l5 l6 l7 0 x H locs ls  hw hW hS (lv_sub hl [0, 1, 2, 3, 4, 5, 6, 7] rfl)
set_option maxRecDepth 100000 in
set_option maxHeartbeats 4000000 in
set_option maxRecDepth 100000 in
theorem t_Mod_apart_194 {p : Program} {l : Launch} {e : Env} {R : Room} {s : State} {m : MethodId} {args : Array Value} {below : List Frame} {meth : Method} {c : Code} {cells slots : Nat} {Q : State → Prop} {dC : Nat → ClassId} {dI : Nat → Nat → Nat} {cI cB cJ cZ : ClassId} {A : Nat → Prop} {ad : Nat → Nat} {post : St → Prop} {rec67 : Int32 → Int32 → Int32 → Int32 → Int32 → Int32 → Int32 → St → Prop} (hx : p.tables.exec = Jvm.exec) (hb : c.code = b_Mod_apart) (hml : c.maxLocals = 9) (hown : s.vm.findClass R_Mod = some m.cls) (hT : ∀ w ∈ TG, w.before args s = true) (hK : va_K (dC, dI) CL (TY cI cB cJ cZ) s) (hN : NW s) (hA : ∀ q : Nat, s.heap.size ≤ q → A q) (hRc : cells ≤ R.cells) (hRs : slots ≤ R.slots) (hRf : 2 ≤ R.frames) (hRl : 47 ≤ R.locals) (hret : ∀ (x : St) (H : Heap) (locs : List Loc) (pc : Nat) (ls : Array Slot), decode b_Mod_apart pc = .ok (.return_, 1) → post x → Wd dC dI cI cB cJ cZ ad stM kcM 115 A x H → va_S A s.heap H locs → W p l e R s m args below meth c H locs cells slots Q (F0 m pc ls [])) (hrec67 : ∀ (l1 : Int32) (l2 : Int32) (l3 : Int32) (l4 : Int32) (l5 : Int32) (l6 : Int32) (l7 : Int32) (x : St) (H : Heap) (locs : List Loc) (ls : Array Slot), rec67 l1 l2 l3 l4 l5 l6 l7 x → Wd dC dI cI cB cJ cZ ad stM kcM 115 A x H → va_S A s.heap H locs → lv_has ls 9 [(0, .ref (ad 0)), (1, .int l1), (2, .int l2), (3, .int l3), (4, .int l4), (5, .int l5), (6, .int l6), (7, .int l7)] → W p l e R s m args below meth c H locs cells slots Q (F0 m 67 ls [])) : ∀ (l1 : Int32) (l2 : Int32) (l3 : Int32) (l4 : Int32) (l5 : Int32) (l6 : Int32) (l7 : Int32) (s0 : Int32) (s1 : Int32) (x : St) (H : Heap) (locs : List Loc) (ls : Array Slot), j_Mod_apart_194 post rec67 l1 l2 l3 l4 l5 l6 l7 s0 s1 x → Wd dC dI cI cB cJ cZ ad stM kcM 115 A x H → va_S A s.heap H locs → lv_has ls 9 [(0, .ref (ad 0)), (1, .int l1), (2, .int l2), (3, .int l3), (4, .int l4), (5, .int l5), (6, .int l6), (7, .int l7)] → W p l e R s m args below meth c H locs cells slots Q (F0 m 194 ls [.int s0, .int s1]) := by
  intro l1 l2 l3 l4 l5 l6 l7 s0 s1 x H locs ls  hw hW hS hl
  unfold j_Mod_apart_194 at hw
  refine lv_icmp_ne (tgt := 201) hx hb d_Mod_apart_194 (by decide) (fun c1657 => ?_) (fun c1657 => ?_)
  · have hw := hw.1 c1657
    exact t_Mod_apart_201 hx hb hml hown hT hK hN hA hRc hRs hRf hRl hret hrec67 l1 l2 l3 l4 l5 l6 l7 x H locs ls  hw hW hS (lv_sub hl [0, 1, 2, 3, 4, 5, 6, 7] rfl)
  · have hw := hw.2 c1657
    refine lv_iconst (v := 1) hx hb d_Mod_apart_197 (by decide) ?_
    refine lv_goto (tgt := 202) hx hb d_Mod_apart_198 (by decide) ?_
    exact t_Mod_apart_202 hx hb hml hown hT hK hN hA hRc hRs hRf hRl hret hrec67 l1 l2 l3 l4 l5 l6 l7 1 x H locs ls  hw hW hS (lv_sub hl [0, 1, 2, 3, 4, 5, 6, 7] rfl)
set_option maxRecDepth 100000 in
set_option maxHeartbeats 4000000 in
set_option maxRecDepth 100000 in
theorem t_Mod_apart_170 {p : Program} {l : Launch} {e : Env} {R : Room} {s : State} {m : MethodId} {args : Array Value} {below : List Frame} {meth : Method} {c : Code} {cells slots : Nat} {Q : State → Prop} {dC : Nat → ClassId} {dI : Nat → Nat → Nat} {cI cB cJ cZ : ClassId} {A : Nat → Prop} {ad : Nat → Nat} {post : St → Prop} {rec67 : Int32 → Int32 → Int32 → Int32 → Int32 → Int32 → Int32 → St → Prop} (hx : p.tables.exec = Jvm.exec) (hb : c.code = b_Mod_apart) (hml : c.maxLocals = 9) (hown : s.vm.findClass R_Mod = some m.cls) (hT : ∀ w ∈ TG, w.before args s = true) (hK : va_K (dC, dI) CL (TY cI cB cJ cZ) s) (hN : NW s) (hA : ∀ q : Nat, s.heap.size ≤ q → A q) (hRc : cells ≤ R.cells) (hRs : slots ≤ R.slots) (hRf : 2 ≤ R.frames) (hRl : 47 ≤ R.locals) (hret : ∀ (x : St) (H : Heap) (locs : List Loc) (pc : Nat) (ls : Array Slot), decode b_Mod_apart pc = .ok (.return_, 1) → post x → Wd dC dI cI cB cJ cZ ad stM kcM 115 A x H → va_S A s.heap H locs → W p l e R s m args below meth c H locs cells slots Q (F0 m pc ls [])) (hrec67 : ∀ (l1 : Int32) (l2 : Int32) (l3 : Int32) (l4 : Int32) (l5 : Int32) (l6 : Int32) (l7 : Int32) (x : St) (H : Heap) (locs : List Loc) (ls : Array Slot), rec67 l1 l2 l3 l4 l5 l6 l7 x → Wd dC dI cI cB cJ cZ ad stM kcM 115 A x H → va_S A s.heap H locs → lv_has ls 9 [(0, .ref (ad 0)), (1, .int l1), (2, .int l2), (3, .int l3), (4, .int l4), (5, .int l5), (6, .int l6), (7, .int l7)] → W p l e R s m args below meth c H locs cells slots Q (F0 m 67 ls [])) : ∀ (l1 : Int32) (l2 : Int32) (l3 : Int32) (l4 : Int32) (l5 : Int32) (l6 : Int32) (l7 : Int32) (s0 : Int32) (x : St) (H : Heap) (locs : List Loc) (ls : Array Slot), j_Mod_apart_170 post rec67 l1 l2 l3 l4 l5 l6 l7 s0 x → Wd dC dI cI cB cJ cZ ad stM kcM 115 A x H → va_S A s.heap H locs → lv_has ls 9 [(0, .ref (ad 0)), (1, .int l1), (2, .int l2), (3, .int l3), (4, .int l4), (5, .int l5), (6, .int l6), (7, .int l7)] → W p l e R s m args below meth c H locs cells slots Q (F0 m 170 ls [.int s0]) := by
  intro l1 l2 l3 l4 l5 l6 l7 s0 x H locs ls  hw hW hS hl
  unfold j_Mod_apart_170 at hw
  refine lv_aload_n hx hb d_Mod_apart_170 rfl (lv_at hl 0 rfl) ?_
  refine w_getf (q := 59) (k := 96) (t := 12) (C := R_Mod) (T := F_Mod) (N := 167) hx hb hT hown hK hW ko_0.1 ko_0.2 (by decide) in_Mod rfl rfl (by decide) rfl fr_Mod_96 w_9_32 d_Mod_apart_171 rfl ?_
  refine lv_iload hx hb d_Mod_apart_174 (lv_at hl 6 rfl) ?_
  obtain ⟨hi, hw⟩ := hw
  refine w_iald (o := 59) hx hb hK hW ko_59.1 ko_59.2 hi d_Mod_apart_176 ?_
  refine lv_iload hx hb d_Mod_apart_177 (lv_at hl 5 rfl) ?_
  refine lv_icmp_ge (tgt := 192) hx hb d_Mod_apart_179 (by decide) (fun c1658 => ?_) (fun c1658 => ?_)
  · have hw := hw.1 c1658
    refine lv_iload hx hb d_Mod_apart_192 (lv_at hl 5 rfl) ?_
    exact t_Mod_apart_194 hx hb hml hown hT hK hN hA hRc hRs hRf hRl hret hrec67 l1 l2 l3 l4 l5 l6 l7 l5 s0 x H locs ls  hw hW hS (lv_sub hl [0, 1, 2, 3, 4, 5, 6, 7] rfl)
  · have hw := hw.2 c1658
    refine lv_aload_n hx hb d_Mod_apart_182 rfl (lv_at hl 0 rfl) ?_
    refine w_getf (q := 59) (k := 96) (t := 12) (C := R_Mod) (T := F_Mod) (N := 167) hx hb hT hown hK hW ko_0.1 ko_0.2 (by decide) in_Mod rfl rfl (by decide) rfl fr_Mod_96 w_9_32 d_Mod_apart_183 rfl ?_
    refine lv_iload hx hb d_Mod_apart_186 (lv_at hl 6 rfl) ?_
    obtain ⟨hi, hw⟩ := hw
    refine w_iald (o := 59) hx hb hK hW ko_59.1 ko_59.2 hi d_Mod_apart_188 ?_
    refine lv_goto (tgt := 194) hx hb d_Mod_apart_189 (by decide) ?_
    exact t_Mod_apart_194 hx hb hml hown hT hK hN hA hRc hRs hRf hRl hret hrec67 l1 l2 l3 l4 l5 l6 l7 (rA x 59 l6) s0 x H locs ls  hw hW hS (lv_sub hl [0, 1, 2, 3, 4, 5, 6, 7] rfl)
set_option maxRecDepth 100000 in
set_option maxHeartbeats 4000000 in
set_option maxRecDepth 100000 in
theorem t_Mod_apart_120 {p : Program} {l : Launch} {e : Env} {R : Room} {s : State} {m : MethodId} {args : Array Value} {below : List Frame} {meth : Method} {c : Code} {cells slots : Nat} {Q : State → Prop} {dC : Nat → ClassId} {dI : Nat → Nat → Nat} {cI cB cJ cZ : ClassId} {A : Nat → Prop} {ad : Nat → Nat} {post : St → Prop} {rec67 : Int32 → Int32 → Int32 → Int32 → Int32 → Int32 → Int32 → St → Prop} (hx : p.tables.exec = Jvm.exec) (hb : c.code = b_Mod_apart) (hml : c.maxLocals = 9) (hown : s.vm.findClass R_Mod = some m.cls) (hT : ∀ w ∈ TG, w.before args s = true) (hK : va_K (dC, dI) CL (TY cI cB cJ cZ) s) (hN : NW s) (hA : ∀ q : Nat, s.heap.size ≤ q → A q) (hRc : cells ≤ R.cells) (hRs : slots ≤ R.slots) (hRf : 2 ≤ R.frames) (hRl : 47 ≤ R.locals) (hret : ∀ (x : St) (H : Heap) (locs : List Loc) (pc : Nat) (ls : Array Slot), decode b_Mod_apart pc = .ok (.return_, 1) → post x → Wd dC dI cI cB cJ cZ ad stM kcM 115 A x H → va_S A s.heap H locs → W p l e R s m args below meth c H locs cells slots Q (F0 m pc ls [])) (hrec67 : ∀ (l1 : Int32) (l2 : Int32) (l3 : Int32) (l4 : Int32) (l5 : Int32) (l6 : Int32) (l7 : Int32) (x : St) (H : Heap) (locs : List Loc) (ls : Array Slot), rec67 l1 l2 l3 l4 l5 l6 l7 x → Wd dC dI cI cB cJ cZ ad stM kcM 115 A x H → va_S A s.heap H locs → lv_has ls 9 [(0, .ref (ad 0)), (1, .int l1), (2, .int l2), (3, .int l3), (4, .int l4), (5, .int l5), (6, .int l6), (7, .int l7)] → W p l e R s m args below meth c H locs cells slots Q (F0 m 67 ls [])) : ∀ (l1 : Int32) (l2 : Int32) (l3 : Int32) (l4 : Int32) (l5 : Int32) (l6 : Int32) (l7 : Int32) (x : St) (H : Heap) (locs : List Loc) (ls : Array Slot), j_Mod_apart_120 post rec67 l1 l2 l3 l4 l5 l6 l7 x → Wd dC dI cI cB cJ cZ ad stM kcM 115 A x H → va_S A s.heap H locs → lv_has ls 9 [(0, .ref (ad 0)), (1, .int l1), (2, .int l2), (3, .int l3), (4, .int l4), (5, .int l5), (6, .int l6), (7, .int l7)] → W p l e R s m args below meth c H locs cells slots Q (F0 m 120 ls []) := by
  intro l1 l2 l3 l4 l5 l6 l7 x H locs ls  hw hW hS hl
  unfold j_Mod_apart_120 at hw
  refine lv_iload hx hb d_Mod_apart_120 (lv_at hl 6 rfl) ?_
  refine lv_aload_n hx hb d_Mod_apart_122 rfl (lv_at hl 0 rfl) ?_
  refine w_geti (k := 87) (t := 12) (C := R_Mod) (T := F_Mod) (N := 167) hx hb hT hown hK hW ko_0.1 ko_0.2 (by decide) in_Mod rfl rfl (by decide) rfl fr_Mod_87 w_9_23 d_Mod_apart_123 ?_
  refine lv_icmp_ge (tgt := 201) hx hb d_Mod_apart_126 (by decide) (fun c1659 => ?_) (fun c1659 => ?_)
  · have hw := hw.1 c1659
    exact t_Mod_apart_201 hx hb hml hown hT hK hN hA hRc hRs hRf hRl hret hrec67 l1 l2 l3 l4 l5 l6 l7 x H locs ls  hw hW hS (lv_sub hl [0, 1, 2, 3, 4, 5, 6, 7] rfl)
  · have hw := hw.2 c1659
    refine lv_aload_n hx hb d_Mod_apart_129 rfl (lv_at hl 0 rfl) ?_
    refine w_getf (q := 58) (k := 95) (t := 12) (C := R_Mod) (T := F_Mod) (N := 167) hx hb hT hown hK hW ko_0.1 ko_0.2 (by decide) in_Mod rfl rfl (by decide) rfl fr_Mod_95 w_9_31 d_Mod_apart_130 rfl ?_
    refine lv_iload hx hb d_Mod_apart_133 (lv_at hl 7 rfl) ?_
    obtain ⟨hi, hw⟩ := hw
    refine w_iald (o := 58) hx hb hK hW ko_58.1 ko_58.2 hi d_Mod_apart_135 ?_
    refine lv_aload_n hx hb d_Mod_apart_136 rfl (lv_at hl 0 rfl) ?_
    refine w_getf (q := 58) (k := 95) (t := 12) (C := R_Mod) (T := F_Mod) (N := 167) hx hb hT hown hK hW ko_0.1 ko_0.2 (by decide) in_Mod rfl rfl (by decide) rfl fr_Mod_95 w_9_31 d_Mod_apart_137 rfl ?_
    refine lv_iload hx hb d_Mod_apart_140 (lv_at hl 6 rfl) ?_
    obtain ⟨hi, hw⟩ := hw
    refine w_iald (o := 58) hx hb hK hW ko_58.1 ko_58.2 hi d_Mod_apart_142 ?_
    refine lv_icmp_ne (tgt := 201) hx hb d_Mod_apart_143 (by decide) (fun c1660 => ?_) (fun c1660 => ?_)
    · have hw := hw.1 c1660
      exact t_Mod_apart_201 hx hb hml hown hT hK hN hA hRc hRs hRf hRl hret hrec67 l1 l2 l3 l4 l5 l6 l7 x H locs ls  hw hW hS (lv_sub hl [0, 1, 2, 3, 4, 5, 6, 7] rfl)
    · have hw := hw.2 c1660
      refine lv_aload_n hx hb d_Mod_apart_146 rfl (lv_at hl 0 rfl) ?_
      refine w_getf (q := 59) (k := 96) (t := 12) (C := R_Mod) (T := F_Mod) (N := 167) hx hb hT hown hK hW ko_0.1 ko_0.2 (by decide) in_Mod rfl rfl (by decide) rfl fr_Mod_96 w_9_32 d_Mod_apart_147 rfl ?_
      refine lv_iload hx hb d_Mod_apart_150 (lv_at hl 7 rfl) ?_
      obtain ⟨hi, hw⟩ := hw
      refine w_iald (o := 59) hx hb hK hW ko_59.1 ko_59.2 hi d_Mod_apart_152 ?_
      refine lv_iload hx hb d_Mod_apart_153 (lv_at hl 5 rfl) ?_
      refine lv_icmp_ge (tgt := 168) hx hb d_Mod_apart_155 (by decide) (fun c1661 => ?_) (fun c1661 => ?_)
      · have hw := hw.1 c1661
        refine lv_iload hx hb d_Mod_apart_168 (lv_at hl 5 rfl) ?_
        exact t_Mod_apart_170 hx hb hml hown hT hK hN hA hRc hRs hRf hRl hret hrec67 l1 l2 l3 l4 l5 l6 l7 l5 x H locs ls  hw hW hS (lv_sub hl [0, 1, 2, 3, 4, 5, 6, 7] rfl)
      · have hw := hw.2 c1661
        refine lv_aload_n hx hb d_Mod_apart_158 rfl (lv_at hl 0 rfl) ?_
        refine w_getf (q := 59) (k := 96) (t := 12) (C := R_Mod) (T := F_Mod) (N := 167) hx hb hT hown hK hW ko_0.1 ko_0.2 (by decide) in_Mod rfl rfl (by decide) rfl fr_Mod_96 w_9_32 d_Mod_apart_159 rfl ?_
        refine lv_iload hx hb d_Mod_apart_162 (lv_at hl 7 rfl) ?_
        obtain ⟨hi, hw⟩ := hw
        refine w_iald (o := 59) hx hb hK hW ko_59.1 ko_59.2 hi d_Mod_apart_164 ?_
        refine lv_goto (tgt := 170) hx hb d_Mod_apart_165 (by decide) ?_
        exact t_Mod_apart_170 hx hb hml hown hT hK hN hA hRc hRs hRf hRl hret hrec67 l1 l2 l3 l4 l5 l6 l7 (rA x 59 l7) x H locs ls  hw hW hS (lv_sub hl [0, 1, 2, 3, 4, 5, 6, 7] rfl)
set_option maxRecDepth 100000 in
set_option maxHeartbeats 4000000 in
set_option maxRecDepth 100000 in
theorem t_Mod_apart_93 {p : Program} {l : Launch} {e : Env} {R : Room} {s : State} {m : MethodId} {args : Array Value} {below : List Frame} {meth : Method} {c : Code} {cells slots : Nat} {Q : State → Prop} {dC : Nat → ClassId} {dI : Nat → Nat → Nat} {cI cB cJ cZ : ClassId} {A : Nat → Prop} {ad : Nat → Nat} {post : St → Prop} {rec67 : Int32 → Int32 → Int32 → Int32 → Int32 → Int32 → Int32 → St → Prop} {rec93 : Int32 → Int32 → Int32 → Int32 → Int32 → Int32 → Int32 → St → Prop} (hx : p.tables.exec = Jvm.exec) (hb : c.code = b_Mod_apart) (hml : c.maxLocals = 9) (hown : s.vm.findClass R_Mod = some m.cls) (hT : ∀ w ∈ TG, w.before args s = true) (hK : va_K (dC, dI) CL (TY cI cB cJ cZ) s) (hN : NW s) (hA : ∀ q : Nat, s.heap.size ≤ q → A q) (hRc : cells ≤ R.cells) (hRs : slots ≤ R.slots) (hRf : 2 ≤ R.frames) (hRl : 47 ≤ R.locals) (hret : ∀ (x : St) (H : Heap) (locs : List Loc) (pc : Nat) (ls : Array Slot), decode b_Mod_apart pc = .ok (.return_, 1) → post x → Wd dC dI cI cB cJ cZ ad stM kcM 115 A x H → va_S A s.heap H locs → W p l e R s m args below meth c H locs cells slots Q (F0 m pc ls [])) (hrec67 : ∀ (l1 : Int32) (l2 : Int32) (l3 : Int32) (l4 : Int32) (l5 : Int32) (l6 : Int32) (l7 : Int32) (x : St) (H : Heap) (locs : List Loc) (ls : Array Slot), rec67 l1 l2 l3 l4 l5 l6 l7 x → Wd dC dI cI cB cJ cZ ad stM kcM 115 A x H → va_S A s.heap H locs → lv_has ls 9 [(0, .ref (ad 0)), (1, .int l1), (2, .int l2), (3, .int l3), (4, .int l4), (5, .int l5), (6, .int l6), (7, .int l7)] → W p l e R s m args below meth c H locs cells slots Q (F0 m 67 ls [])) (hrec93 : ∀ (l1 : Int32) (l2 : Int32) (l3 : Int32) (l4 : Int32) (l5 : Int32) (l6 : Int32) (l7 : Int32) (x : St) (H : Heap) (locs : List Loc) (ls : Array Slot), rec93 l1 l2 l3 l4 l5 l6 l7 x → Wd dC dI cI cB cJ cZ ad stM kcM 115 A x H → va_S A s.heap H locs → lv_has ls 9 [(0, .ref (ad 0)), (1, .int l1), (2, .int l2), (3, .int l3), (4, .int l4), (5, .int l5), (6, .int l6), (7, .int l7)] → W p l e R s m args below meth c H locs cells slots Q (F0 m 93 ls [])) : ∀ (l1 : Int32) (l2 : Int32) (l3 : Int32) (l4 : Int32) (l5 : Int32) (l6 : Int32) (l7 : Int32) (x : St) (H : Heap) (locs : List Loc) (ls : Array Slot), j_Mod_apart_93 post rec67 rec93 l1 l2 l3 l4 l5 l6 l7 x → Wd dC dI cI cB cJ cZ ad stM kcM 115 A x H → va_S A s.heap H locs → lv_has ls 9 [(0, .ref (ad 0)), (1, .int l1), (2, .int l2), (3, .int l3), (4, .int l4), (5, .int l5), (6, .int l6), (7, .int l7)] → W p l e R s m args below meth c H locs cells slots Q (F0 m 93 ls []) := by
  intro l1 l2 l3 l4 l5 l6 l7 x H locs ls  hw hW hS hl
  unfold j_Mod_apart_93 at hw
  refine lv_iload hx hb d_Mod_apart_93 (lv_at hl 6 rfl) ?_
  refine lv_aload_n hx hb d_Mod_apart_95 rfl (lv_at hl 0 rfl) ?_
  refine w_geti (k := 87) (t := 12) (C := R_Mod) (T := F_Mod) (N := 167) hx hb hT hown hK hW ko_0.1 ko_0.2 (by decide) in_Mod rfl rfl (by decide) rfl fr_Mod_87 w_9_23 d_Mod_apart_96 ?_
  refine lv_icmp_ge (tgt := 120) hx hb d_Mod_apart_99 (by decide) (fun c1662 => ?_) (fun c1662 => ?_)
  · have hw := hw.1 c1662
    exact t_Mod_apart_120 hx hb hml hown hT hK hN hA hRc hRs hRf hRl hret hrec67 l1 l2 l3 l4 l5 l6 l7 x H locs ls  hw hW hS (lv_sub hl [0, 1, 2, 3, 4, 5, 6, 7] rfl)
  · have hw := hw.2 c1662
    refine lv_aload_n hx hb d_Mod_apart_102 rfl (lv_at hl 0 rfl) ?_
    refine w_getf (q := 58) (k := 95) (t := 12) (C := R_Mod) (T := F_Mod) (N := 167) hx hb hT hown hK hW ko_0.1 ko_0.2 (by decide) in_Mod rfl rfl (by decide) rfl fr_Mod_95 w_9_31 d_Mod_apart_103 rfl ?_
    refine lv_iload hx hb d_Mod_apart_106 (lv_at hl 6 rfl) ?_
    obtain ⟨hi, hw⟩ := hw
    refine w_iald (o := 58) hx hb hK hW ko_58.1 ko_58.2 hi d_Mod_apart_108 ?_
    refine lv_iload hx hb d_Mod_apart_109 (lv_at hl 4 rfl) ?_
    refine lv_icmp_le (tgt := 120) hx hb d_Mod_apart_111 (by decide) (fun c1663 => ?_) (fun c1663 => ?_)
    · have hw := hw.1 c1663
      exact t_Mod_apart_120 hx hb hml hown hT hK hN hA hRc hRs hRf hRl hret hrec67 l1 l2 l3 l4 l5 l6 l7 x H locs ls  hw hW hS (lv_sub hl [0, 1, 2, 3, 4, 5, 6, 7] rfl)
    · have hw := hw.2 c1663
      refine lv_iinc (v := (l6 + 1)) (lv' := [(6, .int (l6 + 1)), (0, .ref (ad 0)), (1, .int l1), (2, .int l2), (3, .int l3), (4, .int l4), (5, .int l5), (7, .int l7)]) hx hb d_Mod_apart_114 hl (k := 6) rfl rfl (by decide) rfl (fun ls hl => ?_)
      refine lv_goto (tgt := 93) hx hb d_Mod_apart_117 (by decide) ?_
      exact hrec93 l1 l2 l3 l4 l5 (l6 + 1) l7 x H locs ls  hw hW hS (lv_sub hl [1, 2, 3, 4, 5, 6, 0, 7] rfl)
set_option maxHeartbeats 4000000 in
set_option maxRecDepth 100000 in
theorem tl_Mod_apart_93 {p : Program} {l : Launch} {e : Env} {R : Room} {s : State} {m : MethodId} {args : Array Value} {below : List Frame} {meth : Method} {c : Code} {cells slots : Nat} {Q : State → Prop} {dC : Nat → ClassId} {dI : Nat → Nat → Nat} {cI cB cJ cZ : ClassId} {A : Nat → Prop} {ad : Nat → Nat} {post : St → Prop} {rec67 : Int32 → Int32 → Int32 → Int32 → Int32 → Int32 → Int32 → St → Prop} (hx : p.tables.exec = Jvm.exec) (hb : c.code = b_Mod_apart) (hml : c.maxLocals = 9) (hown : s.vm.findClass R_Mod = some m.cls) (hT : ∀ w ∈ TG, w.before args s = true) (hK : va_K (dC, dI) CL (TY cI cB cJ cZ) s) (hN : NW s) (hA : ∀ q : Nat, s.heap.size ≤ q → A q) (hRc : cells ≤ R.cells) (hRs : slots ≤ R.slots) (hRf : 2 ≤ R.frames) (hRl : 47 ≤ R.locals) (hret : ∀ (x : St) (H : Heap) (locs : List Loc) (pc : Nat) (ls : Array Slot), decode b_Mod_apart pc = .ok (.return_, 1) → post x → Wd dC dI cI cB cJ cZ ad stM kcM 115 A x H → va_S A s.heap H locs → W p l e R s m args below meth c H locs cells slots Q (F0 m pc ls [])) (hrec67 : ∀ (l1 : Int32) (l2 : Int32) (l3 : Int32) (l4 : Int32) (l5 : Int32) (l6 : Int32) (l7 : Int32) (x : St) (H : Heap) (locs : List Loc) (ls : Array Slot), rec67 l1 l2 l3 l4 l5 l6 l7 x → Wd dC dI cI cB cJ cZ ad stM kcM 115 A x H → va_S A s.heap H locs → lv_has ls 9 [(0, .ref (ad 0)), (1, .int l1), (2, .int l2), (3, .int l3), (4, .int l4), (5, .int l5), (6, .int l6), (7, .int l7)] → W p l e R s m args below meth c H locs cells slots Q (F0 m 67 ls [])) : ∀ n : Nat, ∀ (l1 : Int32) (l2 : Int32) (l3 : Int32) (l4 : Int32) (l5 : Int32) (l6 : Int32) (l7 : Int32) (x : St) (H : Heap) (locs : List Loc) (ls : Array Slot), wl_Mod_apart_93 post rec67 n l1 l2 l3 l4 l5 l6 l7 x → Wd dC dI cI cB cJ cZ ad stM kcM 115 A x H → va_S A s.heap H locs → lv_has ls 9 [(0, .ref (ad 0)), (1, .int l1), (2, .int l2), (3, .int l3), (4, .int l4), (5, .int l5), (6, .int l6), (7, .int l7)] → W p l e R s m args below meth c H locs cells slots Q (F0 m 93 ls []) := by
  intro n
  induction n with
  | zero => intro l1 l2 l3 l4 l5 l6 l7 x H locs ls  hw; exact hw.elim
  | succ n ih => intro l1 l2 l3 l4 l5 l6 l7 x H locs ls  hw hW hS hl; exact t_Mod_apart_93 hx hb hml hown hT hK hN hA hRc hRs hRf hRl hret hrec67 ih l1 l2 l3 l4 l5 l6 l7 x H locs ls  hw hW hS hl
set_option maxRecDepth 100000 in
set_option maxHeartbeats 4000000 in
set_option maxRecDepth 100000 in
theorem t_Mod_apart_67 {p : Program} {l : Launch} {e : Env} {R : Room} {s : State} {m : MethodId} {args : Array Value} {below : List Frame} {meth : Method} {c : Code} {cells slots : Nat} {Q : State → Prop} {dC : Nat → ClassId} {dI : Nat → Nat → Nat} {cI cB cJ cZ : ClassId} {A : Nat → Prop} {ad : Nat → Nat} {post : St → Prop} {rec67 : Int32 → Int32 → Int32 → Int32 → Int32 → Int32 → Int32 → St → Prop} (hx : p.tables.exec = Jvm.exec) (hb : c.code = b_Mod_apart) (hml : c.maxLocals = 9) (hown : s.vm.findClass R_Mod = some m.cls) (hT : ∀ w ∈ TG, w.before args s = true) (hK : va_K (dC, dI) CL (TY cI cB cJ cZ) s) (hN : NW s) (hA : ∀ q : Nat, s.heap.size ≤ q → A q) (hRc : cells ≤ R.cells) (hRs : slots ≤ R.slots) (hRf : 2 ≤ R.frames) (hRl : 47 ≤ R.locals) (hret : ∀ (x : St) (H : Heap) (locs : List Loc) (pc : Nat) (ls : Array Slot), decode b_Mod_apart pc = .ok (.return_, 1) → post x → Wd dC dI cI cB cJ cZ ad stM kcM 115 A x H → va_S A s.heap H locs → W p l e R s m args below meth c H locs cells slots Q (F0 m pc ls [])) (hrec67 : ∀ (l1 : Int32) (l2 : Int32) (l3 : Int32) (l4 : Int32) (l5 : Int32) (l6 : Int32) (l7 : Int32) (x : St) (H : Heap) (locs : List Loc) (ls : Array Slot), rec67 l1 l2 l3 l4 l5 l6 l7 x → Wd dC dI cI cB cJ cZ ad stM kcM 115 A x H → va_S A s.heap H locs → lv_has ls 9 [(0, .ref (ad 0)), (1, .int l1), (2, .int l2), (3, .int l3), (4, .int l4), (5, .int l5), (6, .int l6), (7, .int l7)] → W p l e R s m args below meth c H locs cells slots Q (F0 m 67 ls [])) : ∀ (l1 : Int32) (l2 : Int32) (l3 : Int32) (l4 : Int32) (l5 : Int32) (l6 : Int32) (l7 : Int32) (x : St) (H : Heap) (locs : List Loc) (ls : Array Slot), j_Mod_apart_67 post rec67 l1 l2 l3 l4 l5 l6 l7 x → Wd dC dI cI cB cJ cZ ad stM kcM 115 A x H → va_S A s.heap H locs → lv_has ls 9 [(0, .ref (ad 0)), (1, .int l1), (2, .int l2), (3, .int l3), (4, .int l4), (5, .int l5), (6, .int l6), (7, .int l7)] → W p l e R s m args below meth c H locs cells slots Q (F0 m 67 ls []) := by
  intro l1 l2 l3 l4 l5 l6 l7 x H locs ls  hw hW hS hl
  unfold j_Mod_apart_67 at hw
  refine lv_iload hx hb d_Mod_apart_67 (lv_at hl 7 rfl) ?_
  refine lv_aload_n hx hb d_Mod_apart_69 rfl (lv_at hl 0 rfl) ?_
  refine w_getf (q := 65) (k := 102) (t := 12) (C := R_Mod) (T := F_Mod) (N := 167) hx hb hT hown hK hW ko_0.1 ko_0.2 (by decide) in_Mod rfl rfl (by decide) rfl fr_Mod_102 w_9_38 d_Mod_apart_70 rfl ?_
  refine lv_iload_n hx hb d_Mod_apart_73 rfl (lv_at hl 1 rfl) ?_
  obtain ⟨hi, hw⟩ := hw
  refine w_iald (o := 65) hx hb hK hW ko_65.1 ko_65.2 hi d_Mod_apart_74 ?_
  refine lv_icmp_ge (tgt := 229) hx hb d_Mod_apart_75 (by decide) (fun c1664 => ?_) (fun c1664 => ?_)
  · have hw := hw.1 c1664
    obtain ⟨n, hw⟩ := hw
    exact tl_Mod_apart_229 hx hb hml hown hT hK hN hA hRc hRs hRf hRl hret  n l1 l2 l3 l4 l5 l6 l7 x H locs ls  hw hW hS (lv_sub hl [0, 1, 2, 3, 4, 5, 6, 7] rfl)
  · have hw := hw.2 c1664
    refine lv_aload_n hx hb d_Mod_apart_78 rfl (lv_at hl 0 rfl) ?_
    refine w_getf (q := 58) (k := 95) (t := 12) (C := R_Mod) (T := F_Mod) (N := 167) hx hb hT hown hK hW ko_0.1 ko_0.2 (by decide) in_Mod rfl rfl (by decide) rfl fr_Mod_95 w_9_31 d_Mod_apart_79 rfl ?_
    refine lv_iload hx hb d_Mod_apart_82 (lv_at hl 7 rfl) ?_
    obtain ⟨hi, hw⟩ := hw
    refine w_iald (o := 58) hx hb hK hW ko_58.1 ko_58.2 hi d_Mod_apart_84 ?_
    refine lv_iload hx hb d_Mod_apart_85 (lv_at hl 4 rfl) ?_
    refine lv_icmp_le (tgt := 93) hx hb d_Mod_apart_87 (by decide) (fun c1665 => ?_) (fun c1665 => ?_)
    · have hw := hw.1 c1665
      obtain ⟨n, hw⟩ := hw
      exact tl_Mod_apart_93 hx hb hml hown hT hK hN hA hRc hRs hRf hRl hret hrec67 n l1 l2 l3 l4 l5 l6 l7 x H locs ls  hw hW hS (lv_sub hl [0, 1, 2, 3, 4, 5, 6, 7] rfl)
    · have hw := hw.2 c1665
      refine lv_goto (tgt := 223) hx hb d_Mod_apart_90 (by decide) ?_
      exact t_Mod_apart_223 hx hb hml hown hT hK hN hA hRc hRs hRf hRl hret hrec67 l1 l2 l3 l4 l5 l6 l7 x H locs ls  hw hW hS (lv_sub hl [0, 1, 2, 3, 4, 5, 6, 7] rfl)
set_option maxHeartbeats 4000000 in
set_option maxRecDepth 100000 in
theorem tl_Mod_apart_67 {p : Program} {l : Launch} {e : Env} {R : Room} {s : State} {m : MethodId} {args : Array Value} {below : List Frame} {meth : Method} {c : Code} {cells slots : Nat} {Q : State → Prop} {dC : Nat → ClassId} {dI : Nat → Nat → Nat} {cI cB cJ cZ : ClassId} {A : Nat → Prop} {ad : Nat → Nat} {post : St → Prop} (hx : p.tables.exec = Jvm.exec) (hb : c.code = b_Mod_apart) (hml : c.maxLocals = 9) (hown : s.vm.findClass R_Mod = some m.cls) (hT : ∀ w ∈ TG, w.before args s = true) (hK : va_K (dC, dI) CL (TY cI cB cJ cZ) s) (hN : NW s) (hA : ∀ q : Nat, s.heap.size ≤ q → A q) (hRc : cells ≤ R.cells) (hRs : slots ≤ R.slots) (hRf : 2 ≤ R.frames) (hRl : 47 ≤ R.locals) (hret : ∀ (x : St) (H : Heap) (locs : List Loc) (pc : Nat) (ls : Array Slot), decode b_Mod_apart pc = .ok (.return_, 1) → post x → Wd dC dI cI cB cJ cZ ad stM kcM 115 A x H → va_S A s.heap H locs → W p l e R s m args below meth c H locs cells slots Q (F0 m pc ls []))  : ∀ n : Nat, ∀ (l1 : Int32) (l2 : Int32) (l3 : Int32) (l4 : Int32) (l5 : Int32) (l6 : Int32) (l7 : Int32) (x : St) (H : Heap) (locs : List Loc) (ls : Array Slot), wl_Mod_apart_67 post n l1 l2 l3 l4 l5 l6 l7 x → Wd dC dI cI cB cJ cZ ad stM kcM 115 A x H → va_S A s.heap H locs → lv_has ls 9 [(0, .ref (ad 0)), (1, .int l1), (2, .int l2), (3, .int l3), (4, .int l4), (5, .int l5), (6, .int l6), (7, .int l7)] → W p l e R s m args below meth c H locs cells slots Q (F0 m 67 ls []) := by
  intro n
  induction n with
  | zero => intro l1 l2 l3 l4 l5 l6 l7 x H locs ls  hw; exact hw.elim
  | succ n ih => intro l1 l2 l3 l4 l5 l6 l7 x H locs ls  hw hW hS hl; exact t_Mod_apart_67 hx hb hml hown hT hK hN hA hRc hRs hRf hRl hret  ih l1 l2 l3 l4 l5 l6 l7 x H locs ls  hw hW hS hl
set_option maxRecDepth 100000 in
set_option maxHeartbeats 4000000 in
set_option maxRecDepth 100000 in
theorem t_Mod_apart_e {p : Program} {l : Launch} {e : Env} {R : Room} {s : State} {m : MethodId} {args : Array Value} {below : List Frame} {meth : Method} {c : Code} {cells slots : Nat} {Q : State → Prop} {dC : Nat → ClassId} {dI : Nat → Nat → Nat} {cI cB cJ cZ : ClassId} {A : Nat → Prop} {ad : Nat → Nat} {post : St → Prop} (hx : p.tables.exec = Jvm.exec) (hb : c.code = b_Mod_apart) (hml : c.maxLocals = 9) (hown : s.vm.findClass R_Mod = some m.cls) (hT : ∀ w ∈ TG, w.before args s = true) (hK : va_K (dC, dI) CL (TY cI cB cJ cZ) s) (hN : NW s) (hA : ∀ q : Nat, s.heap.size ≤ q → A q) (hRc : cells ≤ R.cells) (hRs : slots ≤ R.slots) (hRf : 2 ≤ R.frames) (hRl : 47 ≤ R.locals) (hret : ∀ (x : St) (H : Heap) (locs : List Loc) (pc : Nat) (ls : Array Slot), decode b_Mod_apart pc = .ok (.return_, 1) → post x → Wd dC dI cI cB cJ cZ ad stM kcM 115 A x H → va_S A s.heap H locs → W p l e R s m args below meth c H locs cells slots Q (F0 m pc ls [])) : ∀ (l1 : Int32) (l2 : Int32) (x : St) (H : Heap) (locs : List Loc) (ls : Array Slot), wp_Mod_apart post l1 l2 x → Wd dC dI cI cB cJ cZ ad stM kcM 115 A x H → va_S A s.heap H locs → lv_has ls 9 [(0, .ref (ad 0)), (1, .int l1), (2, .int l2)] → W p l e R s m args below meth c H locs cells slots Q (F0 m 0 ls []) := by
  intro l1 l2 x H locs ls  hw hW hS hl
  unfold wp_Mod_apart at hw
  refine lv_aload_n hx hb d_Mod_apart_0 rfl (lv_at hl 0 rfl) ?_
  refine lv_aload_n hx hb d_Mod_apart_1 rfl (lv_at hl 0 rfl) ?_
  refine w_getf (q := 11) (k := 13) (t := 12) (C := R_Mod) (T := F_Mod) (N := 167) hx hb hT hown hK hW ko_0.1 ko_0.2 (by decide) in_Mod rfl rfl (by decide) rfl fr_Mod_13 w_8_189 d_Mod_apart_2 rfl ?_
  refine lv_bipush (v := 64) hx hb d_Mod_apart_5 (by decide) ?_
  refine lv_iload_n hx hb d_Mod_apart_7 rfl (lv_at hl 2 rfl) ?_
  refine lv_iadd hx hb d_Mod_apart_8 ?_
  refine lv_iconst (v := 1) hx hb d_Mod_apart_9 (by decide) ?_
  refine lv_isub hx hb d_Mod_apart_10 ?_
  obtain ⟨hi, hw⟩ := hw
  refine w_iald (o := 11) hx hb hK hW ko_11.1 ko_11.2 hi d_Mod_apart_11 ?_
  refine lv_aload_n hx hb d_Mod_apart_12 rfl (lv_at hl 0 rfl) ?_
  refine w_getf (q := 11) (k := 13) (t := 12) (C := R_Mod) (T := F_Mod) (N := 167) hx hb hT hown hK hW ko_0.1 ko_0.2 (by decide) in_Mod rfl rfl (by decide) rfl fr_Mod_13 w_8_189 d_Mod_apart_13 rfl ?_
  refine lv_bipush (v := 64) hx hb d_Mod_apart_16 (by decide) ?_
  refine lv_iload_n hx hb d_Mod_apart_18 rfl (lv_at hl 2 rfl) ?_
  refine lv_iadd hx hb d_Mod_apart_19 ?_
  obtain ⟨hi, hw⟩ := hw
  refine w_iald (o := 11) hx hb hK hW ko_11.1 ko_11.2 hi d_Mod_apart_20 ?_
  have hF := hW.free hS hA
  refine va_calli (va_runV (C := R_Mod) (As := [.int (rA x 11 ((64 + l2) - 1)), .int (rA x 11 (64 + l2))]) (rest := []) ⟨hx, hb, hml, hown, hT⟩ (k_Mod_around l dC dI cI cB cJ cZ ad H.size (rA x 11 ((64 + l2) - 1)) (rA x 11 (64 + l2)) x  hw) ⟨callB_of 2 hT (gwt_in w_13_34) rfl rfl rfl (hT _ w_1_15) (hT _ w_13_31) (by decide +kernel) ⟨Nat.le_trans (Nat.le_of_ble_eq_true rfl) hRf, Nat.le_trans (Nat.le_of_ble_eq_true rfl) hRl⟩, hT _ w_13_33, hT _ ws_221⟩ ⟨PW.blind, va_recv hK hW.1 (ci := 12) (q0 := 0) rfl (pic_obj ko_0.1 ko_0.2 (by decide)), PW.at _ hW hK hN⟩ rfl rfl hl.1 rfl (lv_room (Nat.le_of_ble_eq_true rfl)) d_Mod_apart_21 ⟨hRc, hRs⟩) hS (fun q _ h => hF q h) hF (fun r1667 x1666 t H locs ht hvm hw hB hz1 hk1 hS => ?_)
  have hW := Wd.back hB ht hF
  clear hB ht hF hz1 hk1 hvm
  refine lv_istore_n (lv' := [(3, .int r1667), (0, .ref (ad 0)), (1, .int l1), (2, .int l2)]) hx hb d_Mod_apart_24 rfl hl (by decide) rfl (fun ls hl => ?_)
  refine lv_iload_n hx hb d_Mod_apart_25 rfl (lv_at hl 0 rfl) ?_
  refine lv_iconst (v := (-1)) hx hb d_Mod_apart_26 (by decide) ?_
  refine lv_icmp_ne (tgt := 31) hx hb d_Mod_apart_27 (by decide) (fun c1668 => ?_) (fun c1668 => ?_)
  · have hw := hw.1 c1668
    refine lv_aload_n hx hb d_Mod_apart_31 rfl (lv_at hl 1 rfl) ?_
    refine lv_iconst (v := 1) hx hb d_Mod_apart_32 (by decide) ?_
    refine lv_iload_n hx hb d_Mod_apart_33 rfl (lv_at hl 0 rfl) ?_
    refine lv_iconst (v := 1) hx hb d_Mod_apart_34 (by decide) ?_
    have hF := hW.free hS hA
    refine va_calli (va_runV (C := R_Mod) (As := [.int 1, .int r1667, .int 1]) (rest := []) ⟨hx, hb, hml, hown, hT⟩ (k_Mod_level l dC dI cI cB cJ cZ ad H.size 1 r1667 1 x1666  hw) ⟨callB_of 3 hT (gwt_in w_11_114) rfl rfl rfl (hT _ w_1_15) (hT _ w_11_111) (by decide +kernel) ⟨Nat.le_trans (Nat.le_of_ble_eq_true rfl) hRf, Nat.le_trans (Nat.le_of_ble_eq_true rfl) hRl⟩, hT _ w_11_113, hT _ ws_136⟩ ⟨PW.blind, va_recv hK hW.1 (ci := 12) (q0 := 0) rfl (pic_obj ko_0.1 ko_0.2 (by decide)), PW.at _ hW hK hN⟩ rfl rfl hl.1 rfl (lv_room (Nat.le_of_ble_eq_true rfl)) d_Mod_apart_35 ⟨hRc, hRs⟩) hS (fun q _ h => hF q h) hF (fun r1670 x1669 t H locs ht hvm hw hB hz1 hk1 hS => ?_)
    have hW := Wd.back hB ht hF
    clear hB ht hF hz1 hk1 hvm
    refine lv_istore (lv' := [(4, .int r1670), (3, .int r1667), (0, .ref (ad 0)), (1, .int l1), (2, .int l2)]) hx hb d_Mod_apart_38 hl (by decide) rfl (fun ls hl => ?_)
    refine lv_aload_n hx hb d_Mod_apart_40 rfl (lv_at hl 2 rfl) ?_
    refine lv_iconst (v := 1) hx hb d_Mod_apart_41 (by decide) ?_
    refine lv_iload_n hx hb d_Mod_apart_42 rfl (lv_at hl 1 rfl) ?_
    refine lv_iconst (v := 0) hx hb d_Mod_apart_43 (by decide) ?_
    have hF := hW.free hS hA
    refine va_calli (va_runV (C := R_Mod) (As := [.int 1, .int r1667, .int 0]) (rest := []) ⟨hx, hb, hml, hown, hT⟩ (k_Mod_level l dC dI cI cB cJ cZ ad H.size 1 r1667 0 x1669  hw) ⟨callB_of 3 hT (gwt_in w_11_114) rfl rfl rfl (hT _ w_1_15) (hT _ w_11_111) (by decide +kernel) ⟨Nat.le_trans (Nat.le_of_ble_eq_true rfl) hRf, Nat.le_trans (Nat.le_of_ble_eq_true rfl) hRl⟩, hT _ w_11_113, hT _ ws_136⟩ ⟨PW.blind, va_recv hK hW.1 (ci := 12) (q0 := 0) rfl (pic_obj ko_0.1 ko_0.2 (by decide)), PW.at _ hW hK hN⟩ rfl rfl hl.1 rfl (lv_room (Nat.le_of_ble_eq_true rfl)) d_Mod_apart_44 ⟨hRc, hRs⟩) hS (fun q _ h => hF q h) hF (fun r1672 x1671 t H locs ht hvm hw hB hz1 hk1 hS => ?_)
    have hW := Wd.back hB ht hF
    clear hB ht hF hz1 hk1 hvm
    refine lv_istore (lv' := [(5, .int r1672), (4, .int r1670), (3, .int r1667), (0, .ref (ad 0)), (1, .int l1), (2, .int l2)]) hx hb d_Mod_apart_47 hl (by decide) rfl (fun ls hl => ?_)
    refine lv_aload_n hx hb d_Mod_apart_49 rfl (lv_at hl 3 rfl) ?_
    refine w_getf (q := 65) (k := 102) (t := 12) (C := R_Mod) (T := F_Mod) (N := 167) hx hb hT hown hK hW ko_0.1 ko_0.2 (by decide) in_Mod rfl rfl (by decide) rfl fr_Mod_102 w_9_38 d_Mod_apart_50 rfl ?_
    refine lv_iload_n hx hb d_Mod_apart_53 rfl (lv_at hl 4 rfl) ?_
    obtain ⟨hi, hw⟩ := hw
    refine w_iald (o := 65) hx hb hK hW ko_65.1 ko_65.2 hi d_Mod_apart_54 ?_
    refine lv_topi (fun v1673 ev1673 => ?_)
    have hw := hw v1673 ev1673
    refine lv_istore (lv' := [(6, .int v1673), (5, .int r1672), (4, .int r1670), (3, .int r1667), (0, .ref (ad 0)), (1, .int l1), (2, .int l2)]) hx hb d_Mod_apart_55 hl (by decide) rfl (fun ls hl => ?_)
    refine lv_aload_n hx hb d_Mod_apart_57 rfl (lv_at hl 4 rfl) ?_
    refine w_getf (q := 65) (k := 102) (t := 12) (C := R_Mod) (T := F_Mod) (N := 167) hx hb hT hown hK hW ko_0.1 ko_0.2 (by decide) in_Mod rfl rfl (by decide) rfl fr_Mod_102 w_9_38 d_Mod_apart_58 rfl ?_
    refine lv_iload_n hx hb d_Mod_apart_61 rfl (lv_at hl 5 rfl) ?_
    refine lv_iconst (v := 1) hx hb d_Mod_apart_62 (by decide) ?_
    refine lv_isub hx hb d_Mod_apart_63 ?_
    obtain ⟨hi, hw⟩ := hw
    refine w_iald (o := 65) hx hb hK hW ko_65.1 ko_65.2 hi d_Mod_apart_64 ?_
    refine lv_topi (fun v1674 ev1674 => ?_)
    have hw := hw v1674 ev1674
    refine lv_istore (lv' := [(7, .int v1674), (6, .int v1673), (5, .int r1672), (4, .int r1670), (3, .int r1667), (0, .ref (ad 0)), (1, .int l1), (2, .int l2)]) hx hb d_Mod_apart_65 hl (by decide) rfl (fun ls hl => ?_)
    obtain ⟨n, hw⟩ := hw
    exact tl_Mod_apart_67 hx hb hml hown hT hK hN hA hRc hRs hRf hRl hret  n l1 l2 r1667 r1670 r1672 v1673 v1674 x1671 H locs ls  hw hW hS (lv_sub hl [5, 6, 7, 4, 3, 2, 1, 0] rfl)
  · have hw := hw.2 c1668
    exact hret x1666 H locs 30 ls d_Mod_apart_30 hw hW hS
set_option maxHeartbeats 4000000 in
set_option maxRecDepth 100000 in
theorem k_Mod_apart (l : Launch) (dC : Nat → ClassId) (dI : Nat → Nat → Nat) (cI cB cJ cZ : ClassId) (ad : Nat → Nat) (sz : Nat) (l1 : Int32) (l2 : Int32) (x : St) {post : St → Prop} (hw : wp_Mod_apart post l1 l2 x) : Met l y_Mod_apart (wsOf y_Mod_apart b_Mod_apart 9 (none)) ({ frames := 2, cells := 0, slots := 0, locals := 47 }) (va_Pc [.ref (ad 0), .int l1, .int l2] (PW dC dI cI cB cJ cZ ad stM kcM 115 sz x)) (va_Qv (fun (y : St) => post y) (fun y t => Wd dC dI cI cB cJ cZ ad stM kcM 115 (va_A (pic ad stM kcM 115 cI cB cJ cZ x) sz) y t.heap) (va_A (pic ad stM kcM 115 cI cB cJ cZ x) sz)) 0 0 (va_A (pic ad stM kcM 115 cI cB cJ cZ x) sz) := by
  refine Met.ofW (cc := b_Mod_apart) (maxL := 9) (ret := none) (by decide) rfl ?_
  intro p e s m args below meth c s₁ B hml hv
  obtain ⟨rfl, hsz, hW0, hK, hN⟩ := hv
  have hx := B.exec
  have hb := B.bytes
  have hr := B.returns
  have hts := atoms_spec B.pre
  have hT : ∀ w ∈ TG, w.before _ s = true := fun w h => hts w (List.mem_cons_of_mem _ h)
  have hown : s.vm.findClass R_Mod = some m.cls := findClass_of_methodNamed B.named
  have hlocks := B.notSynchronized
  subst hsz
  have hW : Wd dC dI cI cB cJ cZ ad stM kcM 115 (va_A (pic ad stM kcM 115 cI cB cJ cZ x) s.heap.size) x s.heap := ⟨hW0.1, hW0.2.1.self (sz := s.heap.size), hW0.2.2⟩
  generalize hAe : va_A (pic ad stM kcM 115 cI cB cJ cZ x) s.heap.size = A at hW ⊢
  have hA : ∀ q : Nat, s.heap.size ≤ q → A q := fun q h => by rw [← hAe]; exact Or.inr h
  have hS : va_S A s.heap s.heap [] := va_S.rf
  have hl := lv_entry ([.ref (ad 0), .int l1, .int l2]) (n := 9) (Nat.le_of_ble_eq_true rfl)
  rw [lg_entry_eq]
  generalize (lg_sl ([.ref (ad 0), .int l1, .int l2]) ++ List.replicate (9 - (lg_sl ([.ref (ad 0), .int l1, .int l2])).length) Slot.unset).toArray = ls at hl ⊢
  have hl : lv_has ls 9 [(0, .ref (ad 0)), (1, .int l1), (2, .int l2)] := hl
  exact t_Mod_apart_e hx hb hml hown hT hK hN hA (Nat.le_refl 0) (Nat.le_refl 0) (Nat.le_refl 2) (Nat.le_refl 47) (fun x H locs pc ls hd hp hW hS => W.vret hx hb hr (fun t ht hM => ⟨⟨x, rfl, hp, Wd.back hW ht.symm (fun _ z => z)⟩, hS.F ht⟩) hS.2.2 hd hlocks)  l1 l2 x _ _ ls  hw hW hS hl
set_option maxRecDepth 100000 in
set_option maxHeartbeats 4000000 in
set_option maxRecDepth 100000 in
theorem t_Mod_openChunk_453 {p : Program} {l : Launch} {e : Env} {R : Room} {s : State} {m : MethodId} {args : Array Value} {below : List Frame} {meth : Method} {c : Code} {cells slots : Nat} {Q : State → Prop} {dC : Nat → ClassId} {dI : Nat → Nat → Nat} {cI cB cJ cZ : ClassId} {A : Nat → Prop} {ad : Nat → Nat} {post : St → Prop} (hx : p.tables.exec = Jvm.exec) (hb : c.code = b_Mod_openChunk) (hml : c.maxLocals = 13) (hown : s.vm.findClass R_Mod = some m.cls) (hT : ∀ w ∈ TG, w.before args s = true) (hK : va_K (dC, dI) CL (TY cI cB cJ cZ) s) (hN : NW s) (hA : ∀ q : Nat, s.heap.size ≤ q → A q) (hRc : cells ≤ R.cells) (hRs : slots ≤ R.slots) (hRf : 9 ≤ R.frames) (hRl : 231 ≤ R.locals) (hret : ∀ (x : St) (H : Heap) (locs : List Loc) (pc : Nat) (ls : Array Slot), decode b_Mod_openChunk pc = .ok (.return_, 1) → post x → Wd dC dI cI cB cJ cZ ad stM kcM 115 A x H → va_S A s.heap H locs → W p l e R s m args below meth c H locs cells slots Q (F0 m pc ls []))  : ∀ (l1 : Int32) (l2 : Int32) (l3 : Int32) (l4 : Int32) (l5 : Int32) (l6 : Int32) (l7 : Int32) (l8 : Int32) (l9 : Int32) (l10 : Int32) (l11 : Int32) (l12 : Int32) (x : St) (H : Heap) (locs : List Loc) (ls : Array Slot), j_Mod_openChunk_453 post l1 l2 l3 l4 l5 l6 l7 l8 l9 l10 l11 l12 x → Wd dC dI cI cB cJ cZ ad stM kcM 115 A x H → va_S A s.heap H locs → lv_has ls 13 [(0, .ref (ad 0)), (1, .int l1), (2, .int l2), (3, .int l3), (4, .int l4), (5, .int l5), (6, .int l6), (7, .int l7), (8, .int l8), (9, .int l9), (10, .int l10), (11, .int l11), (12, .int l12)] → W p l e R s m args below meth c H locs cells slots Q (F0 m 453 ls []) := by
  intro l1 l2 l3 l4 l5 l6 l7 l8 l9 l10 l11 l12 x H locs ls  hw hW hS hl
  unfold j_Mod_openChunk_453 at hw
  refine lv_aload_n hx hb d_Mod_openChunk_453 rfl (lv_at hl 0 rfl) ?_
  refine w_getf (q := 65) (k := 102) (t := 12) (C := R_Mod) (T := F_Mod) (N := 167) hx hb hT hown hK hW ko_0.1 ko_0.2 (by decide) in_Mod rfl rfl (by decide) rfl fr_Mod_102 w_9_38 d_Mod_openChunk_454 rfl ?_
  refine lv_iload hx hb d_Mod_openChunk_457 (lv_at hl 4 rfl) ?_
  refine lv_iconst (v := 1) hx hb d_Mod_openChunk_459 (by decide) ?_
  refine lv_iadd hx hb d_Mod_openChunk_460 ?_
  refine lv_aload_n hx hb d_Mod_openChunk_461 rfl (lv_at hl 0 rfl) ?_
  refine w_geti (k := 87) (t := 12) (C := R_Mod) (T := F_Mod) (N := 167) hx hb hT hown hK hW ko_0.1 ko_0.2 (by decide) in_Mod rfl rfl (by decide) rfl fr_Mod_87 w_9_23 d_Mod_openChunk_462 ?_
  obtain ⟨hi, hw⟩ := hw
  refine w_iast (o := 65) hx hb hK hW hS ko_65.1 ko_65.2 hi d_Mod_openChunk_465 (fun H locs hW hS => ?_)
  obtain ⟨x1675, ex1675⟩ : ∃ y : St, y = setA x 65 (l4 + 1) (fI x 0 87) := ⟨_, rfl⟩
  rw [← ex1675] at hW
  have hw := hw x1675 ex1675
  refine lv_aload_n hx hb d_Mod_openChunk_466 rfl (lv_at hl 0 rfl) ?_
  refine w_geti (k := 69) (t := 12) (C := R_Mod) (T := F_Mod) (N := 167) hx hb hT hown hK hW ko_0.1 ko_0.2 (by decide) in_Mod rfl rfl (by decide) rfl fr_Mod_69 w_9_5 d_Mod_openChunk_467 ?_
  refine lv_if_ne (tgt := 484) hx hb d_Mod_openChunk_470 (by decide) (fun c1676 => ?_) (fun c1676 => ?_)
  · have hw := hw.1 c1676
    exact hret x1675 H locs 484 ls d_Mod_openChunk_484 hw hW hS
  · have hw := hw.2 c1676
    refine lv_iload_n hx hb d_Mod_openChunk_473 rfl (lv_at hl 2 rfl) ?_
    refine lv_if_le (tgt := 484) hx hb d_Mod_openChunk_474 (by decide) (fun c1677 => ?_) (fun c1677 => ?_)
    · have hw := hw.1 c1677
      exact hret x1675 H locs 484 ls d_Mod_openChunk_484 hw hW hS
    · have hw := hw.2 c1677
      refine lv_aload_n hx hb d_Mod_openChunk_477 rfl (lv_at hl 0 rfl) ?_
      refine lv_iload hx hb d_Mod_openChunk_478 (lv_at hl 4 rfl) ?_
      refine lv_iload_n hx hb d_Mod_openChunk_480 rfl (lv_at hl 2 rfl) ?_
      have hF := hW.free hS hA
      refine va_callv (va_runV (C := R_Mod) (As := [.int l4, .int l2]) (rest := []) ⟨hx, hb, hml, hown, hT⟩ (k_Mod_apart l dC dI cI cB cJ cZ ad H.size l4 l2 x1675  hw) ⟨callB_of 2 hT (gwt_in w_13_30) rfl rfl rfl (hT _ w_1_15) (hT _ w_13_27) (by decide +kernel) ⟨Nat.le_trans (Nat.le_of_ble_eq_true rfl) hRf, Nat.le_trans (Nat.le_of_ble_eq_true rfl) hRl⟩, hT _ w_13_29, hT _ ws_220⟩ ⟨PW.blind, va_recv hK hW.1 (ci := 12) (q0 := 0) rfl (pic_obj ko_0.1 ko_0.2 (by decide)), PW.at _ hW hK hN⟩ rfl rfl hl.1 rfl (lv_room (Nat.le_of_ble_eq_true rfl)) d_Mod_openChunk_481 ⟨hRc, hRs⟩) hS (fun q _ h => hF q h) hF (fun  x1678 t H locs ht hvm hw hB hz1 hk1 hS => ?_)
      have hW := Wd.back hB ht hF
      clear hB ht hF hz1 hk1 hvm
      exact hret x1678 H locs 484 ls d_Mod_openChunk_484 hw hW hS
set_option maxRecDepth 100000 in
set_option maxHeartbeats 4000000 in
set_option maxRecDepth 100000 in
theorem t_Mod_openChunk_448 {p : Program} {l : Launch} {e : Env} {R : Room} {s : State} {m : MethodId} {args : Array Value} {below : List Frame} {meth : Method} {c : Code} {cells slots : Nat} {Q : State → Prop} {dC : Nat → ClassId} {dI : Nat → Nat → Nat} {cI cB cJ cZ : ClassId} {A : Nat → Prop} {ad : Nat → Nat} {post : St → Prop} (hx : p.tables.exec = Jvm.exec) (hb : c.code = b_Mod_openChunk) (hml : c.maxLocals = 13) (hown : s.vm.findClass R_Mod = some m.cls) (hT : ∀ w ∈ TG, w.before args s = true) (hK : va_K (dC, dI) CL (TY cI cB cJ cZ) s) (hN : NW s) (hA : ∀ q : Nat, s.heap.size ≤ q → A q) (hRc : cells ≤ R.cells) (hRs : slots ≤ R.slots) (hRf : 9 ≤ R.frames) (hRl : 231 ≤ R.locals) (hret : ∀ (x : St) (H : Heap) (locs : List Loc) (pc : Nat) (ls : Array Slot), decode b_Mod_openChunk pc = .ok (.return_, 1) → post x → Wd dC dI cI cB cJ cZ ad stM kcM 115 A x H → va_S A s.heap H locs → W p l e R s m args below meth c H locs cells slots Q (F0 m pc ls []))  : ∀ (l1 : Int32) (l2 : Int32) (l3 : Int32) (l4 : Int32) (l5 : Int32) (l6 : Int32) (l7 : Int32) (l8 : Int32) (l9 : Int32) (l10 : Int32) (l11 : Int32) (l12 : Int32) (s0 : Int32) (x : St) (H : Heap) (locs : List Loc) (ls : Array Slot), j_Mod_openChunk_448 post l1 l2 l3 l4 l5 l6 l7 l8 l9 l10 l11 l12 s0 x → Wd dC dI cI cB cJ cZ ad stM kcM 115 A x H → va_S A s.heap H locs → lv_has ls 13 [(0, .ref (ad 0)), (1, .int l1), (2, .int l2), (3, .int l3), (4, .int l4), (5, .int l5), (6, .int l6), (7, .int l7), (8, .int l8), (9, .int l9), (10, .int l10), (11, .int l11), (12, .int l12)] → W p l e R s m args below meth c H locs cells slots Q (F0 m 448 ls [.int s0, .ref (ad 0)]) := by
  intro l1 l2 l3 l4 l5 l6 l7 l8 l9 l10 l11 l12 s0 x H locs ls  hw hW hS hl
  unfold j_Mod_openChunk_448 at hw
  refine lv_bipush (v := 12) hx hb d_Mod_openChunk_448 (by decide) ?_
  have hF := hW.free hS hA
  refine va_callv (va_runV (C := R_Mod) (As := [.int s0, .int 12]) (rest := []) ⟨hx, hb, hml, hown, hT⟩ (k_Mod_faults l dC dI cI cB cJ cZ ad H.size s0 12 x  hw) ⟨callB_of 2 hT (gwt_in w_12_107) rfl rfl rfl (hT _ w_1_15) (hT _ w_12_104) (by decide +kernel) ⟨Nat.le_trans (Nat.le_of_ble_eq_true rfl) hRf, Nat.le_trans (Nat.le_of_ble_eq_true rfl) hRl⟩, hT _ w_12_106, hT _ ws_183⟩ ⟨PW.blind, va_recv hK hW.1 (ci := 12) (q0 := 0) rfl (pic_obj ko_0.1 ko_0.2 (by decide)), PW.at _ hW hK hN⟩ rfl rfl hl.1 rfl (lv_room (Nat.le_of_ble_eq_true rfl)) d_Mod_openChunk_450 ⟨hRc, hRs⟩) hS (fun q _ h => hF q h) hF (fun  x1679 t H locs ht hvm hw hB hz1 hk1 hS => ?_)
  have hW := Wd.back hB ht hF
  clear hB ht hF hz1 hk1 hvm
  exact t_Mod_openChunk_453 hx hb hml hown hT hK hN hA hRc hRs hRf hRl hret  l1 l2 l3 l4 l5 l6 l7 l8 l9 l10 l11 l12 x1679 H locs ls  hw hW hS (lv_sub hl [0, 1, 2, 3, 4, 5, 6, 7, 8, 9, 10, 11, 12] rfl)
set_option maxRecDepth 100000 in
set_option maxHeartbeats 4000000 in
set_option maxRecDepth 100000 in
theorem t_Mod_openChunk_409 {p : Program} {l : Launch} {e : Env} {R : Room} {s : State} {m : MethodId} {args : Array Value} {below : List Frame} {meth : Method} {c : Code} {cells slots : Nat} {Q : State → Prop} {dC : Nat → ClassId} {dI : Nat → Nat → Nat} {cI cB cJ cZ : ClassId} {A : Nat → Prop} {ad : Nat → Nat} {post : St → Prop} (hx : p.tables.exec = Jvm.exec) (hb : c.code = b_Mod_openChunk) (hml : c.maxLocals = 13) (hown : s.vm.findClass R_Mod = some m.cls) (hT : ∀ w ∈ TG, w.before args s = true) (hK : va_K (dC, dI) CL (TY cI cB cJ cZ) s) (hN : NW s) (hA : ∀ q : Nat, s.heap.size ≤ q → A q) (hRc : cells ≤ R.cells) (hRs : slots ≤ R.slots) (hRf : 9 ≤ R.frames) (hRl : 231 ≤ R.locals) (hret : ∀ (x : St) (H : Heap) (locs : List Loc) (pc : Nat) (ls : Array Slot), decode b_Mod_openChunk pc = .ok (.return_, 1) → post x → Wd dC dI cI cB cJ cZ ad stM kcM 115 A x H → va_S A s.heap H locs → W p l e R s m args below meth c H locs cells slots Q (F0 m pc ls []))  : ∀ (l1 : Int32) (l2 : Int32) (l3 : Int32) (l4 : Int32) (l5 : Int32) (l6 : Int32) (l7 : Int32) (l8 : Int32) (l9 : Int32) (l10 : Int32) (l11 : Int32) (l12 : Int32) (x : St) (H : Heap) (locs : List Loc) (ls : Array Slot), j_Mod_openChunk_409 post l1 l2 l3 l4 l5 l6 l7 l8 l9 l10 l11 l12 x → Wd dC dI cI cB cJ cZ ad stM kcM 115 A x H → va_S A s.heap H locs → lv_has ls 13 [(0, .ref (ad 0)), (1, .int l1), (2, .int l2), (3, .int l3), (4, .int l4), (5, .int l5), (6, .int l6), (7, .int l7), (8, .int l8), (9, .int l9), (10, .int l10), (11, .int l11), (12, .int l12)] → W p l e R s m args below meth c H locs cells slots Q (F0 m 409 ls []) := by
  intro l1 l2 l3 l4 l5 l6 l7 l8 l9 l10 l11 l12 x H locs ls  hw hW hS hl
  unfold j_Mod_openChunk_409 at hw
  refine lv_aload_n hx hb d_Mod_openChunk_409 rfl (lv_at hl 0 rfl) ?_
  refine w_geti (k := 69) (t := 12) (C := R_Mod) (T := F_Mod) (N := 167) hx hb hT hown hK hW ko_0.1 ko_0.2 (by decide) in_Mod rfl rfl (by decide) rfl fr_Mod_69 w_9_5 d_Mod_openChunk_410 ?_
  refine lv_if_ne (tgt := 453) hx hb d_Mod_openChunk_413 (by decide) (fun c1680 => ?_) (fun c1680 => ?_)
  · have hw := hw.1 c1680
    exact t_Mod_openChunk_453 hx hb hml hown hT hK hN hA hRc hRs hRf hRl hret  l1 l2 l3 l4 l5 l6 l7 l8 l9 l10 l11 l12 x H locs ls  hw hW hS (lv_sub hl [0, 1, 2, 3, 4, 5, 6, 7, 8, 9, 10, 11, 12] rfl)
  · have hw := hw.2 c1680
    refine lv_iload hx hb d_Mod_openChunk_416 (lv_at hl 10 rfl) ?_
    refine lv_iconst (v := (-1)) hx hb d_Mod_openChunk_418 (by decide) ?_
    refine lv_icmp_eq (tgt := 453) hx hb d_Mod_openChunk_419 (by decide) (fun c1681 => ?_) (fun c1681 => ?_)
    · have hw := hw.1 c1681
      exact t_Mod_openChunk_453 hx hb hml hown hT hK hN hA hRc hRs hRf hRl hret  l1 l2 l3 l4 l5 l6 l7 l8 l9 l10 l11 l12 x H locs ls  hw hW hS (lv_sub hl [0, 1, 2, 3, 4, 5, 6, 7, 8, 9, 10, 11, 12] rfl)
    · have hw := hw.2 c1681
      refine lv_aload_n hx hb d_Mod_openChunk_422 rfl (lv_at hl 0 rfl) ?_
      refine lv_aload_n hx hb d_Mod_openChunk_423 rfl (lv_at hl 0 rfl) ?_
      refine lv_aload_n hx hb d_Mod_openChunk_424 rfl (lv_at hl 0 rfl) ?_
      refine w_geti (k := 38) (t := 12) (C := R_Mod) (T := F_Mod) (N := 167) hx hb hT hown hK hW ko_0.1 ko_0.2 (by decide) in_Mod rfl rfl (by decide) rfl fr_Mod_38 w_8_214 d_Mod_openChunk_425 ?_
      refine lv_iload hx hb d_Mod_openChunk_428 (lv_at hl 11 rfl) ?_
      refine lv_aload_n hx hb d_Mod_openChunk_430 rfl (lv_at hl 0 rfl) ?_
      refine w_getf (q := 64) (k := 101) (t := 12) (C := R_Mod) (T := F_Mod) (N := 167) hx hb hT hown hK hW ko_0.1 ko_0.2 (by decide) in_Mod rfl rfl (by decide) rfl fr_Mod_101 w_9_37 d_Mod_openChunk_431 rfl ?_
      refine lv_iload hx hb d_Mod_openChunk_434 (lv_at hl 4 rfl) ?_
      obtain ⟨hi, hw⟩ := hw
      refine w_iald (o := 64) hx hb hK hW ko_64.1 ko_64.2 hi d_Mod_openChunk_436 ?_
      have hF := hW.free hS hA
      refine va_calli (va_runV (C := R_Mod) (As := [.int (fI x 0 38), .int l11, .int (rA x 64 l4)]) (rest := [.ref (ad 0)]) ⟨hx, hb, hml, hown, hT⟩ (k_Mod_compare l dC dI cI cB cJ cZ ad H.size (fI x 0 38) l11 (rA x 64 l4) x  hw) ⟨callB_of 3 hT (gwt_in w_13_26) rfl rfl rfl (hT _ w_1_15) (hT _ w_13_23) (by decide +kernel) ⟨Nat.le_trans (Nat.le_of_ble_eq_true rfl) hRf, Nat.le_trans (Nat.le_of_ble_eq_true rfl) hRl⟩, hT _ w_13_25, hT _ ws_219⟩ ⟨PW.blind, va_recv hK hW.1 (ci := 12) (q0 := 0) rfl (pic_obj ko_0.1 ko_0.2 (by decide)), PW.at _ hW hK hN⟩ rfl rfl hl.1 rfl (lv_room (Nat.le_of_ble_eq_true rfl)) d_Mod_openChunk_437 ⟨hRc, hRs⟩) hS (fun q _ h => hF q h) hF (fun r1683 x1682 t H locs ht hvm hw hB hz1 hk1 hS => ?_)
      have hW := Wd.back hB ht hF
      clear hB ht hF hz1 hk1 hvm
      refine lv_if_eq (tgt := 447) hx hb d_Mod_openChunk_440 (by decide) (fun c1684 => ?_) (fun c1684 => ?_)
      · have hw := hw.1 c1684
        refine lv_iconst (v := 0) hx hb d_Mod_openChunk_447 (by decide) ?_
        exact t_Mod_openChunk_448 hx hb hml hown hT hK hN hA hRc hRs hRf hRl hret  l1 l2 l3 l4 l5 l6 l7 l8 l9 l10 l11 l12 0 x1682 H locs ls  hw hW hS (lv_sub hl [0, 1, 2, 3, 4, 5, 6, 7, 8, 9, 10, 11, 12] rfl)
      · have hw := hw.2 c1684
        refine lv_iconst (v := 1) hx hb d_Mod_openChunk_443 (by decide) ?_
        refine lv_goto (tgt := 448) hx hb d_Mod_openChunk_444 (by decide) ?_
        exact t_Mod_openChunk_448 hx hb hml hown hT hK hN hA hRc hRs hRf hRl hret  l1 l2 l3 l4 l5 l6 l7 l8 l9 l10 l11 l12 1 x1682 H locs ls  hw hW hS (lv_sub hl [0, 1, 2, 3, 4, 5, 6, 7, 8, 9, 10, 11, 12] rfl)
set_option maxRecDepth 100000 in
set_option maxHeartbeats 4000000 in
set_option maxRecDepth 100000 in
theorem t_Mod_openChunk_404 {p : Program} {l : Launch} {e : Env} {R : Room} {s : State} {m : MethodId} {args : Array Value} {below : List Frame} {meth : Method} {c : Code} {cells slots : Nat} {Q : State → Prop} {dC : Nat → ClassId} {dI : Nat → Nat → Nat} {cI cB cJ cZ : ClassId} {A : Nat → Prop} {ad : Nat → Nat} {post : St → Prop} (hx : p.tables.exec = Jvm.exec) (hb : c.code = b_Mod_openChunk) (hml : c.maxLocals = 13) (hown : s.vm.findClass R_Mod = some m.cls) (hT : ∀ w ∈ TG, w.before args s = true) (hK : va_K (dC, dI) CL (TY cI cB cJ cZ) s) (hN : NW s) (hA : ∀ q : Nat, s.heap.size ≤ q → A q) (hRc : cells ≤ R.cells) (hRs : slots ≤ R.slots) (hRf : 9 ≤ R.frames) (hRl : 231 ≤ R.locals) (hret : ∀ (x : St) (H : Heap) (locs : List Loc) (pc : Nat) (ls : Array Slot), decode b_Mod_openChunk pc = .ok (.return_, 1) → post x → Wd dC dI cI cB cJ cZ ad stM kcM 115 A x H → va_S A s.heap H locs → W p l e R s m args below meth c H locs cells slots Q (F0 m pc ls []))  : ∀ (l1 : Int32) (l2 : Int32) (l3 : Int32) (l4 : Int32) (l5 : Int32) (l6 : Int32) (l7 : Int32) (l8 : Int32) (l9 : Int32) (l10 : Int32) (l11 : Int32) (l12 : Int32) (s0 : Int32) (x : St) (H : Heap) (locs : List Loc) (ls : Array Slot), j_Mod_openChunk_404 post l1 l2 l3 l4 l5 l6 l7 l8 l9 l10 l11 l12 s0 x → Wd dC dI cI cB cJ cZ ad stM kcM 115 A x H → va_S A s.heap H locs → lv_has ls 13 [(0, .ref (ad 0)), (1, .int l1), (2, .int l2), (3, .int l3), (4, .int l4), (5, .int l5), (6, .int l6), (7, .int l7), (8, .int l8), (9, .int l9), (10, .int l10), (11, .int l11), (12, .int l12)] → W p l e R s m args below meth c H locs cells slots Q (F0 m 404 ls [.int s0, .ref (ad 0)]) := by
  intro l1 l2 l3 l4 l5 l6 l7 l8 l9 l10 l11 l12 s0 x H locs ls  hw hW hS hl
  unfold j_Mod_openChunk_404 at hw
  refine lv_bipush (v := 11) hx hb d_Mod_openChunk_404 (by decide) ?_
  have hF := hW.free hS hA
  refine va_callv (va_runV (C := R_Mod) (As := [.int s0, .int 11]) (rest := []) ⟨hx, hb, hml, hown, hT⟩ (k_Mod_faults l dC dI cI cB cJ cZ ad H.size s0 11 x  hw) ⟨callB_of 2 hT (gwt_in w_12_107) rfl rfl rfl (hT _ w_1_15) (hT _ w_12_104) (by decide +kernel) ⟨Nat.le_trans (Nat.le_of_ble_eq_true rfl) hRf, Nat.le_trans (Nat.le_of_ble_eq_true rfl) hRl⟩, hT _ w_12_106, hT _ ws_183⟩ ⟨PW.blind, va_recv hK hW.1 (ci := 12) (q0 := 0) rfl (pic_obj ko_0.1 ko_0.2 (by decide)), PW.at _ hW hK hN⟩ rfl rfl hl.1 rfl (lv_room (Nat.le_of_ble_eq_true rfl)) d_Mod_openChunk_406 ⟨hRc, hRs⟩) hS (fun q _ h => hF q h) hF (fun  x1685 t H locs ht hvm hw hB hz1 hk1 hS => ?_)
  have hW := Wd.back hB ht hF
  clear hB ht hF hz1 hk1 hvm
  exact t_Mod_openChunk_409 hx hb hml hown hT hK hN hA hRc hRs hRf hRl hret  l1 l2 l3 l4 l5 l6 l7 l8 l9 l10 l11 l12 x1685 H locs ls  hw hW hS (lv_sub hl [0, 1, 2, 3, 4, 5, 6, 7, 8, 9, 10, 11, 12] rfl)
set_option maxRecDepth 100000 in
set_option maxHeartbeats 4000000 in
set_option maxRecDepth 100000 in
theorem t_Mod_openChunk_360 {p : Program} {l : Launch} {e : Env} {R : Room} {s : State} {m : MethodId} {args : Array Value} {below : List Frame} {meth : Method} {c : Code} {cells slots : Nat} {Q : State → Prop} {dC : Nat → ClassId} {dI : Nat → Nat → Nat} {cI cB cJ cZ : ClassId} {A : Nat → Prop} {ad : Nat → Nat} {post : St → Prop} (hx : p.tables.exec = Jvm.exec) (hb : c.code = b_Mod_openChunk) (hml : c.maxLocals = 13) (hown : s.vm.findClass R_Mod = some m.cls) (hT : ∀ w ∈ TG, w.before args s = true) (hK : va_K (dC, dI) CL (TY cI cB cJ cZ) s) (hN : NW s) (hA : ∀ q : Nat, s.heap.size ≤ q → A q) (hRc : cells ≤ R.cells) (hRs : slots ≤ R.slots) (hRf : 9 ≤ R.frames) (hRl : 231 ≤ R.locals) (hret : ∀ (x : St) (H : Heap) (locs : List Loc) (pc : Nat) (ls : Array Slot), decode b_Mod_openChunk pc = .ok (.return_, 1) → post x → Wd dC dI cI cB cJ cZ ad stM kcM 115 A x H → va_S A s.heap H locs → W p l e R s m args below meth c H locs cells slots Q (F0 m pc ls []))  : ∀ (l1 : Int32) (l2 : Int32) (l3 : Int32) (l4 : Int32) (l5 : Int32) (l6 : Int32) (l7 : Int32) (l8 : Int32) (l9 : Int32) (l10 : Int32) (l11 : Int32) (l12 : Int32) (s0 : Int32) (x : St) (H : Heap) (locs : List Loc) (ls : Array Slot), j_Mod_openChunk_360 post l1 l2 l3 l4 l5 l6 l7 l8 l9 l10 l11 l12 s0 x → Wd dC dI cI cB cJ cZ ad stM kcM 115 A x H → va_S A s.heap H locs → lv_has ls 13 [(0, .ref (ad 0)), (1, .int l1), (2, .int l2), (3, .int l3), (4, .int l4), (5, .int l5), (6, .int l6), (7, .int l7), (8, .int l8), (9, .int l9), (10, .int l10), (11, .int l11), (12, .int l12)] → W p l e R s m args below meth c H locs cells slots Q (F0 m 360 ls [.int s0, .ref (ad 0)]) := by
  intro l1 l2 l3 l4 l5 l6 l7 l8 l9 l10 l11 l12 s0 x H locs ls  hw hW hS hl
  unfold j_Mod_openChunk_360 at hw
  refine lv_bipush (v := 10) hx hb d_Mod_openChunk_360 (by decide) ?_
  have hF := hW.free hS hA
  refine va_callv (va_runV (C := R_Mod) (As := [.int s0, .int 10]) (rest := []) ⟨hx, hb, hml, hown, hT⟩ (k_Mod_faults l dC dI cI cB cJ cZ ad H.size s0 10 x  hw) ⟨callB_of 2 hT (gwt_in w_12_107) rfl rfl rfl (hT _ w_1_15) (hT _ w_12_104) (by decide +kernel) ⟨Nat.le_trans (Nat.le_of_ble_eq_true rfl) hRf, Nat.le_trans (Nat.le_of_ble_eq_true rfl) hRl⟩, hT _ w_12_106, hT _ ws_183⟩ ⟨PW.blind, va_recv hK hW.1 (ci := 12) (q0 := 0) rfl (pic_obj ko_0.1 ko_0.2 (by decide)), PW.at _ hW hK hN⟩ rfl rfl hl.1 rfl (lv_room (Nat.le_of_ble_eq_true rfl)) d_Mod_openChunk_362 ⟨hRc, hRs⟩) hS (fun q _ h => hF q h) hF (fun  x1686 t H locs ht hvm hw hB hz1 hk1 hS => ?_)
  have hW := Wd.back hB ht hF
  clear hB ht hF hz1 hk1 hvm
  refine lv_aload_n hx hb d_Mod_openChunk_365 rfl (lv_at hl 0 rfl) ?_
  refine w_geti (k := 69) (t := 12) (C := R_Mod) (T := F_Mod) (N := 167) hx hb hT hown hK hW ko_0.1 ko_0.2 (by decide) in_Mod rfl rfl (by decide) rfl fr_Mod_69 w_9_5 d_Mod_openChunk_366 ?_
  refine lv_if_ne (tgt := 409) hx hb d_Mod_openChunk_369 (by decide) (fun c1687 => ?_) (fun c1687 => ?_)
  · have hw := hw.1 c1687
    exact t_Mod_openChunk_409 hx hb hml hown hT hK hN hA hRc hRs hRf hRl hret  l1 l2 l3 l4 l5 l6 l7 l8 l9 l10 l11 l12 x1686 H locs ls  hw hW hS (lv_sub hl [0, 1, 2, 3, 4, 5, 6, 7, 8, 9, 10, 11, 12] rfl)
  · have hw := hw.2 c1687
    refine lv_iload hx hb d_Mod_openChunk_372 (lv_at hl 10 rfl) ?_
    refine lv_iconst (v := (-1)) hx hb d_Mod_openChunk_374 (by decide) ?_
    refine lv_icmp_eq (tgt := 409) hx hb d_Mod_openChunk_375 (by decide) (fun c1688 => ?_) (fun c1688 => ?_)
    · have hw := hw.1 c1688
      exact t_Mod_openChunk_409 hx hb hml hown hT hK hN hA hRc hRs hRf hRl hret  l1 l2 l3 l4 l5 l6 l7 l8 l9 l10 l11 l12 x1686 H locs ls  hw hW hS (lv_sub hl [0, 1, 2, 3, 4, 5, 6, 7, 8, 9, 10, 11, 12] rfl)
    · have hw := hw.2 c1688
      refine lv_aload_n hx hb d_Mod_openChunk_378 rfl (lv_at hl 0 rfl) ?_
      refine lv_aload_n hx hb d_Mod_openChunk_379 rfl (lv_at hl 0 rfl) ?_
      refine lv_aload_n hx hb d_Mod_openChunk_380 rfl (lv_at hl 0 rfl) ?_
      refine w_geti (k := 38) (t := 12) (C := R_Mod) (T := F_Mod) (N := 167) hx hb hT hown hK hW ko_0.1 ko_0.2 (by decide) in_Mod rfl rfl (by decide) rfl fr_Mod_38 w_8_214 d_Mod_openChunk_381 ?_
      refine lv_iload hx hb d_Mod_openChunk_384 (lv_at hl 10 rfl) ?_
      refine lv_aload_n hx hb d_Mod_openChunk_386 rfl (lv_at hl 0 rfl) ?_
      refine w_getf (q := 63) (k := 100) (t := 12) (C := R_Mod) (T := F_Mod) (N := 167) hx hb hT hown hK hW ko_0.1 ko_0.2 (by decide) in_Mod rfl rfl (by decide) rfl fr_Mod_100 w_9_36 d_Mod_openChunk_387 rfl ?_
      refine lv_iload hx hb d_Mod_openChunk_390 (lv_at hl 4 rfl) ?_
      obtain ⟨hi, hw⟩ := hw
      refine w_iald (o := 63) hx hb hK hW ko_63.1 ko_63.2 hi d_Mod_openChunk_392 ?_
      have hF := hW.free hS hA
      refine va_calli (va_runV (C := R_Mod) (As := [.int (fI x1686 0 38), .int l10, .int (rA x1686 63 l4)]) (rest := [.ref (ad 0)]) ⟨hx, hb, hml, hown, hT⟩ (k_Mod_compare l dC dI cI cB cJ cZ ad H.size (fI x1686 0 38) l10 (rA x1686 63 l4) x1686  hw) ⟨callB_of 3 hT (gwt_in w_13_26) rfl rfl rfl (hT _ w_1_15) (hT _ w_13_23) (by decide +kernel) ⟨Nat.le_trans (Nat.le_of_ble_eq_true rfl) hRf, Nat.le_trans (Nat.le_of_ble_eq_true rfl) hRl⟩, hT _ w_13_25, hT _ ws_219⟩ ⟨PW.blind, va_recv hK hW.1 (ci := 12) (q0 := 0) rfl (pic_obj ko_0.1 ko_0.2 (by decide)), PW.at _ hW hK hN⟩ rfl rfl hl.1 rfl (lv_room (Nat.le_of_ble_eq_true rfl)) d_Mod_openChunk_393 ⟨hRc, hRs⟩) hS (fun q _ h => hF q h) hF (fun r1690 x1689 t H locs ht hvm hw hB hz1 hk1 hS => ?_)
      have hW := Wd.back hB ht hF
      clear hB ht hF hz1 hk1 hvm
      refine lv_if_eq (tgt := 403) hx hb d_Mod_openChunk_396 (by decide) (fun c1691 => ?_) (fun c1691 => ?_)
      · have hw := hw.1 c1691
        refine lv_iconst (v := 0) hx hb d_Mod_openChunk_403 (by decide) ?_
        exact t_Mod_openChunk_404 hx hb hml hown hT hK hN hA hRc hRs hRf hRl hret  l1 l2 l3 l4 l5 l6 l7 l8 l9 l10 l11 l12 0 x1689 H locs ls  hw hW hS (lv_sub hl [0, 1, 2, 3, 4, 5, 6, 7, 8, 9, 10, 11, 12] rfl)
      · have hw := hw.2 c1691
        refine lv_iconst (v := 1) hx hb d_Mod_openChunk_399 (by decide) ?_
        refine lv_goto (tgt := 404) hx hb d_Mod_openChunk_400 (by decide) ?_
        exact t_Mod_openChunk_404 hx hb hml hown hT hK hN hA hRc hRs hRf hRl hret  l1 l2 l3 l4 l5 l6 l7 l8 l9 l10 l11 l12 1 x1689 H locs ls  hw hW hS (lv_sub hl [0, 1, 2, 3, 4, 5, 6, 7, 8, 9, 10, 11, 12] rfl)
set_option maxRecDepth 100000 in
set_option maxHeartbeats 4000000 in
set_option maxRecDepth 100000 in
theorem t_Mod_openChunk_336 {p : Program} {l : Launch} {e : Env} {R : Room} {s : State} {m : MethodId} {args : Array Value} {below : List Frame} {meth : Method} {c : Code} {cells slots : Nat} {Q : State → Prop} {dC : Nat → ClassId} {dI : Nat → Nat → Nat} {cI cB cJ cZ : ClassId} {A : Nat → Prop} {ad : Nat → Nat} {post : St → Prop} {rec221 : Int32 → Int32 → Int32 → Int32 → Int32 → Int32 → Int32 → Int32 → Int32 → Int32 → Int32 → Int32 → St → Prop} (hx : p.tables.exec = Jvm.exec) (hb : c.code = b_Mod_openChunk) (hml : c.maxLocals = 13) (hown : s.vm.findClass R_Mod = some m.cls) (hT : ∀ w ∈ TG, w.before args s = true) (hK : va_K (dC, dI) CL (TY cI cB cJ cZ) s) (hN : NW s) (hA : ∀ q : Nat, s.heap.size ≤ q → A q) (hRc : cells ≤ R.cells) (hRs : slots ≤ R.slots) (hRf : 9 ≤ R.frames) (hRl : 231 ≤ R.locals) (hret : ∀ (x : St) (H : Heap) (locs : List Loc) (pc : Nat) (ls : Array Slot), decode b_Mod_openChunk pc = .ok (.return_, 1) → post x → Wd dC dI cI cB cJ cZ ad stM kcM 115 A x H → va_S A s.heap H locs → W p l e R s m args below meth c H locs cells slots Q (F0 m pc ls [])) (hrec221 : ∀ (l1 : Int32) (l2 : Int32) (l3 : Int32) (l4 : Int32) (l5 : Int32) (l6 : Int32) (l7 : Int32) (l8 : Int32) (l9 : Int32) (l10 : Int32) (l11 : Int32) (l12 : Int32) (x : St) (H : Heap) (locs : List Loc) (ls : Array Slot), rec221 l1 l2 l3 l4 l5 l6 l7 l8 l9 l10 l11 l12 x → Wd dC dI cI cB cJ cZ ad stM kcM 115 A x H → va_S A s.heap H locs → lv_has ls 13 [(0, .ref (ad 0)), (1, .int l1), (2, .int l2), (3, .int l3), (4, .int l4), (5, .int l5), (6, .int l6), (7, .int l7), (8, .int l8), (9, .int l9), (10, .int l10), (11, .int l11), (12, .int l12)] → W p l e R s m args below meth c H locs cells slots Q (F0 m 221 ls [])) : ∀ (l1 : Int32) (l2 : Int32) (l3 : Int32) (l4 : Int32) (l5 : Int32) (l6 : Int32) (l7 : Int32) (l8 : Int32) (l9 : Int32) (l10 : Int32) (l11 : Int32) (l12 : Int32) (x : St) (H : Heap) (locs : List Loc) (ls : Array Slot), j_Mod_openChunk_336 post rec221 l1 l2 l3 l4 l5 l6 l7 l8 l9 l10 l11 l12 x → Wd dC dI cI cB cJ cZ ad stM kcM 115 A x H → va_S A s.heap H locs → lv_has ls 13 [(0, .ref (ad 0)), (1, .int l1), (2, .int l2), (3, .int l3), (4, .int l4), (5, .int l5), (6, .int l6), (7, .int l7), (8, .int l8), (9, .int l9), (10, .int l10), (11, .int l11), (12, .int l12)] → W p l e R s m args below meth c H locs cells slots Q (F0 m 336 ls []) := by
  intro l1 l2 l3 l4 l5 l6 l7 l8 l9 l10 l11 l12 x H locs ls  hw hW hS hl
  unfold j_Mod_openChunk_336 at hw
  refine lv_iinc (v := (l12 + 1)) (lv' := [(12, .int (l12 + 1)), (0, .ref (ad 0)), (1, .int l1), (2, .int l2), (3, .int l3), (4, .int l4), (5, .int l5), (6, .int l6), (7, .int l7), (8, .int l8), (9, .int l9), (10, .int l10), (11, .int l11)]) hx hb d_Mod_openChunk_336 hl (k := 12) rfl rfl (by decide) rfl (fun ls hl => ?_)
  refine lv_goto (tgt := 221) hx hb d_Mod_openChunk_339 (by decide) ?_
  exact hrec221 l1 l2 l3 l4 l5 l6 l7 l8 l9 l10 l11 (l12 + 1) x H locs ls  hw hW hS (lv_sub hl [1, 2, 3, 4, 5, 6, 7, 8, 9, 10, 11, 12, 0] rfl)
set_option maxRecDepth 100000 in
set_option maxHeartbeats 4000000 in
set_option maxRecDepth 100000 in
theorem t_Mod_openChunk_334 {p : Program} {l : Launch} {e : Env} {R : Room} {s : State} {m : MethodId} {args : Array Value} {below : List Frame} {meth : Method} {c : Code} {cells slots : Nat} {Q : State → Prop} {dC : Nat → ClassId} {dI : Nat → Nat → Nat} {cI cB cJ cZ : ClassId} {A : Nat → Prop} {ad : Nat → Nat} {post : St → Prop} {rec221 : Int32 → Int32 → Int32 → Int32 → Int32 → Int32 → Int32 → Int32 → Int32 → Int32 → Int32 → Int32 → St → Prop} (hx : p.tables.exec = Jvm.exec) (hb : c.code = b_Mod_openChunk) (hml : c.maxLocals = 13) (hown : s.vm.findClass R_Mod = some m.cls) (hT : ∀ w ∈ TG, w.before args s = true) (hK : va_K (dC, dI) CL (TY cI cB cJ cZ) s) (hN : NW s) (hA : ∀ q : Nat, s.heap.size ≤ q → A q) (hRc : cells ≤ R.cells) (hRs : slots ≤ R.slots) (hRf : 9 ≤ R.frames) (hRl : 231 ≤ R.locals) (hret : ∀ (x : St) (H : Heap) (locs : List Loc) (pc : Nat) (ls : Array Slot), decode b_Mod_openChunk pc = .ok (.return_, 1) → post x → Wd dC dI cI cB cJ cZ ad stM kcM 115 A x H → va_S A s.heap H locs → W p l e R s m args below meth c H locs cells slots Q (F0 m pc ls [])) (hrec221 : ∀ (l1 : Int32) (l2 : Int32) (l3 : Int32) (l4 : Int32) (l5 : Int32) (l6 : Int32) (l7 : Int32) (l8 : Int32) (l9 : Int32) (l10 : Int32) (l11 : Int32) (l12 : Int32) (x : St) (H : Heap) (locs : List Loc) (ls : Array Slot), rec221 l1 l2 l3 l4 l5 l6 l7 l8 l9 l10 l11 l12 x → Wd dC dI cI cB cJ cZ ad stM kcM 115 A x H → va_S A s.heap H locs → lv_has ls 13 [(0, .ref (ad 0)), (1, .int l1), (2, .int l2), (3, .int l3), (4, .int l4), (5, .int l5), (6, .int l6), (7, .int l7), (8, .int l8), (9, .int l9), (10, .int l10), (11, .int l11), (12, .int l12)] → W p l e R s m args below meth c H locs cells slots Q (F0 m 221 ls [])) : ∀ (l1 : Int32) (l2 : Int32) (l3 : Int32) (l4 : Int32) (l5 : Int32) (l6 : Int32) (l7 : Int32) (l8 : Int32) (l9 : Int32) (l10 : Int32) (l11 : Int32) (l12 : Int32) (s0 : Int32) (x : St) (H : Heap) (locs : List Loc) (ls : Array Slot), j_Mod_openChunk_334 post rec221 l1 l2 l3 l4 l5 l6 l7 l8 l9 l10 l11 l12 s0 x → Wd dC dI cI cB cJ cZ ad stM kcM 115 A x H → va_S A s.heap H locs → lv_has ls 13 [(0, .ref (ad 0)), (1, .int l1), (2, .int l2), (3, .int l3), (4, .int l4), (5, .int l5), (6, .int l6), (7, .int l7), (8, .int l8), (9, .int l9), (10, .int l10), (11, .int l11), (12, .int l12)] → W p l e R s m args below meth c H locs cells slots Q (F0 m 334 ls [.int s0]) := by
  intro l1 l2 l3 l4 l5 l6 l7 l8 l9 l10 l11 l12 s0 x H locs ls  hw hW hS hl
  unfold j_Mod_openChunk_334 at hw
  refine lv_istore (lv' := [(11, .int s0), (0, .ref (ad 0)), (1, .int l1), (2, .int l2), (3, .int l3), (4, .int l4), (5, .int l5), (6, .int l6), (7, .int l7), (8, .int l8), (9, .int l9), (10, .int l10), (12, .int l12)]) hx hb d_Mod_openChunk_334 hl (by decide) rfl (fun ls hl => ?_)
  exact t_Mod_openChunk_336 hx hb hml hown hT hK hN hA hRc hRs hRf hRl hret hrec221 l1 l2 l3 l4 l5 l6 l7 l8 l9 l10 s0 l12 x H locs ls  hw hW hS (lv_sub hl [1, 2, 3, 4, 5, 6, 7, 8, 9, 10, 11, 0, 12] rfl)
set_option maxRecDepth 100000 in
set_option maxHeartbeats 4000000 in
set_option maxRecDepth 100000 in
theorem t_Mod_openChunk_322 {p : Program} {l : Launch} {e : Env} {R : Room} {s : State} {m : MethodId} {args : Array Value} {below : List Frame} {meth : Method} {c : Code} {cells slots : Nat} {Q : State → Prop} {dC : Nat → ClassId} {dI : Nat → Nat → Nat} {cI cB cJ cZ : ClassId} {A : Nat → Prop} {ad : Nat → Nat} {post : St → Prop} {rec221 : Int32 → Int32 → Int32 → Int32 → Int32 → Int32 → Int32 → Int32 → Int32 → Int32 → Int32 → Int32 → St → Prop} (hx : p.tables.exec = Jvm.exec) (hb : c.code = b_Mod_openChunk) (hml : c.maxLocals = 13) (hown : s.vm.findClass R_Mod = some m.cls) (hT : ∀ w ∈ TG, w.before args s = true) (hK : va_K (dC, dI) CL (TY cI cB cJ cZ) s) (hN : NW s) (hA : ∀ q : Nat, s.heap.size ≤ q → A q) (hRc : cells ≤ R.cells) (hRs : slots ≤ R.slots) (hRf : 9 ≤ R.frames) (hRl : 231 ≤ R.locals) (hret : ∀ (x : St) (H : Heap) (locs : List Loc) (pc : Nat) (ls : Array Slot), decode b_Mod_openChunk pc = .ok (.return_, 1) → post x → Wd dC dI cI cB cJ cZ ad stM kcM 115 A x H → va_S A s.heap H locs → W p l e R s m args below meth c H locs cells slots Q (F0 m pc ls [])) (hrec221 : ∀ (l1 : Int32) (l2 : Int32) (l3 : Int32) (l4 : Int32) (l5 : Int32) (l6 : Int32) (l7 : Int32) (l8 : Int32) (l9 : Int32) (l10 : Int32) (l11 : Int32) (l12 : Int32) (x : St) (H : Heap) (locs : List Loc) (ls : Array Slot), rec221 l1 l2 l3 l4 l5 l6 l7 l8 l9 l10 l11 l12 x → Wd dC dI cI cB cJ cZ ad stM kcM 115 A x H → va_S A s.heap H locs → lv_has ls 13 [(0, .ref (ad 0)), (1, .int l1), (2, .int l2), (3, .int l3), (4, .int l4), (5, .int l5), (6, .int l6), (7, .int l7), (8, .int l8), (9, .int l9), (10, .int l10), (11, .int l11), (12, .int l12)] → W p l e R s m args below meth c H locs cells slots Q (F0 m 221 ls [])) : ∀ (l1 : Int32) (l2 : Int32) (l3 : Int32) (l4 : Int32) (l5 : Int32) (l6 : Int32) (l7 : Int32) (l8 : Int32) (l9 : Int32) (l10 : Int32) (l11 : Int32) (l12 : Int32) (x : St) (H : Heap) (locs : List Loc) (ls : Array Slot), j_Mod_openChunk_322 post rec221 l1 l2 l3 l4 l5 l6 l7 l8 l9 l10 l11 l12 x → Wd dC dI cI cB cJ cZ ad stM kcM 115 A x H → va_S A s.heap H locs → lv_has ls 13 [(0, .ref (ad 0)), (1, .int l1), (2, .int l2), (3, .int l3), (4, .int l4), (5, .int l5), (6, .int l6), (7, .int l7), (8, .int l8), (9, .int l9), (10, .int l10), (11, .int l11), (12, .int l12)] → W p l e R s m args below meth c H locs cells slots Q (F0 m 322 ls []) := by
  intro l1 l2 l3 l4 l5 l6 l7 l8 l9 l10 l11 l12 x H locs ls  hw hW hS hl
  unfold j_Mod_openChunk_322 at hw
  refine lv_aload_n hx hb d_Mod_openChunk_322 rfl (lv_at hl 0 rfl) ?_
  refine w_getf (q := 72) (k := 109) (t := 12) (C := R_Mod) (T := F_Mod) (N := 167) hx hb hT hown hK hW ko_0.1 ko_0.2 (by decide) in_Mod rfl rfl (by decide) rfl fr_Mod_109 w_9_45 d_Mod_openChunk_323 rfl ?_
  refine lv_iload hx hb d_Mod_openChunk_326 (lv_at hl 12 rfl) ?_
  obtain ⟨hi, hw⟩ := hw
  refine w_iald (o := 72) hx hb hK hW ko_72.1 ko_72.2 hi d_Mod_openChunk_328 ?_
  refine lv_goto (tgt := 334) hx hb d_Mod_openChunk_329 (by decide) ?_
  exact t_Mod_openChunk_334 hx hb hml hown hT hK hN hA hRc hRs hRf hRl hret hrec221 l1 l2 l3 l4 l5 l6 l7 l8 l9 l10 l11 l12 (rA x 72 l12) x H locs ls  hw hW hS (lv_sub hl [0, 1, 2, 3, 4, 5, 6, 7, 8, 9, 10, 11, 12] rfl)
set_option maxRecDepth 100000 in
set_option maxHeartbeats 4000000 in
set_option maxRecDepth 100000 in
theorem t_Mod_openChunk_294 {p : Program} {l : Launch} {e : Env} {R : Room} {s : State} {m : MethodId} {args : Array Value} {below : List Frame} {meth : Method} {c : Code} {cells slots : Nat} {Q : State → Prop} {dC : Nat → ClassId} {dI : Nat → Nat → Nat} {cI cB cJ cZ : ClassId} {A : Nat → Prop} {ad : Nat → Nat} {post : St → Prop} {rec221 : Int32 → Int32 → Int32 → Int32 → Int32 → Int32 → Int32 → Int32 → Int32 → Int32 → Int32 → Int32 → St → Prop} (hx : p.tables.exec = Jvm.exec) (hb : c.code = b_Mod_openChunk) (hml : c.maxLocals = 13) (hown : s.vm.findClass R_Mod = some m.cls) (hT : ∀ w ∈ TG, w.before args s = true) (hK : va_K (dC, dI) CL (TY cI cB cJ cZ) s) (hN : NW s) (hA : ∀ q : Nat, s.heap.size ≤ q → A q) (hRc : cells ≤ R.cells) (hRs : slots ≤ R.slots) (hRf : 9 ≤ R.frames) (hRl : 231 ≤ R.locals) (hret : ∀ (x : St) (H : Heap) (locs : List Loc) (pc : Nat) (ls : Array Slot), decode b_Mod_openChunk pc = .ok (.return_, 1) → post x → Wd dC dI cI cB cJ cZ ad stM kcM 115 A x H → va_S A s.heap H locs → W p l e R s m args below meth c H locs cells slots Q (F0 m pc ls [])) (hrec221 : ∀ (l1 : Int32) (l2 : Int32) (l3 : Int32) (l4 : Int32) (l5 : Int32) (l6 : Int32) (l7 : Int32) (l8 : Int32) (l9 : Int32) (l10 : Int32) (l11 : Int32) (l12 : Int32) (x : St) (H : Heap) (locs : List Loc) (ls : Array Slot), rec221 l1 l2 l3 l4 l5 l6 l7 l8 l9 l10 l11 l12 x → Wd dC dI cI cB cJ cZ ad stM kcM 115 A x H → va_S A s.heap H locs → lv_has ls 13 [(0, .ref (ad 0)), (1, .int l1), (2, .int l2), (3, .int l3), (4, .int l4), (5, .int l5), (6, .int l6), (7, .int l7), (8, .int l8), (9, .int l9), (10, .int l10), (11, .int l11), (12, .int l12)] → W p l e R s m args below meth c H locs cells slots Q (F0 m 221 ls [])) : ∀ (l1 : Int32) (l2 : Int32) (l3 : Int32) (l4 : Int32) (l5 : Int32) (l6 : Int32) (l7 : Int32) (l8 : Int32) (l9 : Int32) (l10 : Int32) (l11 : Int32) (l12 : Int32) (s0 : Int32) (x : St) (H : Heap) (locs : List Loc) (ls : Array Slot), j_Mod_openChunk_294 post rec221 l1 l2 l3 l4 l5 l6 l7 l8 l9 l10 l11 l12 s0 x → Wd dC dI cI cB cJ cZ ad stM kcM 115 A x H → va_S A s.heap H locs → lv_has ls 13 [(0, .ref (ad 0)), (1, .int l1), (2, .int l2), (3, .int l3), (4, .int l4), (5, .int l5), (6, .int l6), (7, .int l7), (8, .int l8), (9, .int l9), (10, .int l10), (11, .int l11), (12, .int l12)] → W p l e R s m args below meth c H locs cells slots Q (F0 m 294 ls [.int s0]) := by
  intro l1 l2 l3 l4 l5 l6 l7 l8 l9 l10 l11 l12 s0 x H locs ls  hw hW hS hl
  unfold j_Mod_openChunk_294 at hw
  refine lv_istore (lv' := [(10, .int s0), (0, .ref (ad 0)), (1, .int l1), (2, .int l2), (3, .int l3), (4, .int l4), (5, .int l5), (6, .int l6), (7, .int l7), (8, .int l8), (9, .int l9), (11, .int l11), (12, .int l12)]) hx hb d_Mod_openChunk_294 hl (by decide) rfl (fun ls hl => ?_)
  refine lv_iload hx hb d_Mod_openChunk_296 (lv_at hl 11 rfl) ?_
  refine lv_iconst (v := (-1)) hx hb d_Mod_openChunk_298 (by decide) ?_
  refine lv_icmp_eq (tgt := 322) hx hb d_Mod_openChunk_299 (by decide) (fun c1692 => ?_) (fun c1692 => ?_)
  · have hw := hw.1 c1692
    exact t_Mod_openChunk_322 hx hb hml hown hT hK hN hA hRc hRs hRf hRl hret hrec221 l1 l2 l3 l4 l5 l6 l7 l8 l9 s0 l11 l12 x H locs ls  hw hW hS (lv_sub hl [1, 2, 3, 4, 5, 6, 7, 8, 9, 10, 0, 11, 12] rfl)
  · have hw := hw.2 c1692
    refine lv_aload_n hx hb d_Mod_openChunk_302 rfl (lv_at hl 1 rfl) ?_
    refine lv_aload_n hx hb d_Mod_openChunk_303 rfl (lv_at hl 1 rfl) ?_
    refine w_geti (k := 38) (t := 12) (C := R_Mod) (T := F_Mod) (N := 167) hx hb hT hown hK hW ko_0.1 ko_0.2 (by decide) in_Mod rfl rfl (by decide) rfl fr_Mod_38 w_8_214 d_Mod_openChunk_304 ?_
    refine lv_aload_n hx hb d_Mod_openChunk_307 rfl (lv_at hl 1 rfl) ?_
    refine w_getf (q := 72) (k := 109) (t := 12) (C := R_Mod) (T := F_Mod) (N := 167) hx hb hT hown hK hW ko_0.1 ko_0.2 (by decide) in_Mod rfl rfl (by decide) rfl fr_Mod_109 w_9_45 d_Mod_openChunk_308 rfl ?_
    refine lv_iload hx hb d_Mod_openChunk_311 (lv_at hl 12 rfl) ?_
    obtain ⟨hi, hw⟩ := hw
    refine w_iald (o := 72) hx hb hK hW ko_72.1 ko_72.2 hi d_Mod_openChunk_313 ?_
    refine lv_iload hx hb d_Mod_openChunk_314 (lv_at hl 11 rfl) ?_
    have hF := hW.free hS hA
    refine va_calli (va_runV (C := R_Mod) (As := [.int (fI x 0 38), .int (rA x 72 l12), .int l11]) (rest := []) ⟨hx, hb, hml, hown, hT⟩ (k_Mod_compare l dC dI cI cB cJ cZ ad H.size (fI x 0 38) (rA x 72 l12) l11 x  hw) ⟨callB_of 3 hT (gwt_in w_13_26) rfl rfl rfl (hT _ w_1_15) (hT _ w_13_23) (by decide +kernel) ⟨Nat.le_trans (Nat.le_of_ble_eq_true rfl) hRf, Nat.le_trans (Nat.le_of_ble_eq_true rfl) hRl⟩, hT _ w_13_25, hT _ ws_219⟩ ⟨PW.blind, va_recv hK hW.1 (ci := 12) (q0 := 0) rfl (pic_obj ko_0.1 ko_0.2 (by decide)), PW.at _ hW hK hN⟩ rfl rfl hl.1 rfl (lv_room (Nat.le_of_ble_eq_true rfl)) d_Mod_openChunk_316 ⟨hRc, hRs⟩) hS (fun q _ h => hF q h) hF (fun r1694 x1693 t H locs ht hvm hw hB hz1 hk1 hS => ?_)
    have hW := Wd.back hB ht hF
    clear hB ht hF hz1 hk1 hvm
    refine lv_if_le (tgt := 332) hx hb d_Mod_openChunk_319 (by decide) (fun c1695 => ?_) (fun c1695 => ?_)
    · have hw := hw.1 c1695
      refine lv_iload hx hb d_Mod_openChunk_332 (lv_at hl 11 rfl) ?_
      exact t_Mod_openChunk_334 hx hb hml hown hT hK hN hA hRc hRs hRf hRl hret hrec221 l1 l2 l3 l4 l5 l6 l7 l8 l9 s0 l11 l12 l11 x1693 H locs ls  hw hW hS (lv_sub hl [1, 2, 3, 4, 5, 6, 7, 8, 9, 10, 0, 11, 12] rfl)
    · have hw := hw.2 c1695
      exact t_Mod_openChunk_322 hx hb hml hown hT hK hN hA hRc hRs hRf hRl hret hrec221 l1 l2 l3 l4 l5 l6 l7 l8 l9 s0 l11 l12 x1693 H locs ls  hw hW hS (lv_sub hl [1, 2, 3, 4, 5, 6, 7, 8, 9, 10, 0, 11, 12] rfl)
set_option maxRecDepth 100000 in
set_option maxHeartbeats 4000000 in
set_option maxRecDepth 100000 in
theorem t_Mod_openChunk_282 {p : Program} {l : Launch} {e : Env} {R : Room} {s : State} {m : MethodId} {args : Array Value} {below : List Frame} {meth : Method} {c : Code} {cells slots : Nat} {Q : State → Prop} {dC : Nat → ClassId} {dI : Nat → Nat → Nat} {cI cB cJ cZ : ClassId} {A : Nat → Prop} {ad : Nat → Nat} {post : St → Prop} {rec221 : Int32 → Int32 → Int32 → Int32 → Int32 → Int32 → Int32 → Int32 → Int32 → Int32 → Int32 → Int32 → St → Prop} (hx : p.tables.exec = Jvm.exec) (hb : c.code = b_Mod_openChunk) (hml : c.maxLocals = 13) (hown : s.vm.findClass R_Mod = some m.cls) (hT : ∀ w ∈ TG, w.before args s = true) (hK : va_K (dC, dI) CL (TY cI cB cJ cZ) s) (hN : NW s) (hA : ∀ q : Nat, s.heap.size ≤ q → A q) (hRc : cells ≤ R.cells) (hRs : slots ≤ R.slots) (hRf : 9 ≤ R.frames) (hRl : 231 ≤ R.locals) (hret : ∀ (x : St) (H : Heap) (locs : List Loc) (pc : Nat) (ls : Array Slot), decode b_Mod_openChunk pc = .ok (.return_, 1) → post x → Wd dC dI cI cB cJ cZ ad stM kcM 115 A x H → va_S A s.heap H locs → W p l e R s m args below meth c H locs cells slots Q (F0 m pc ls [])) (hrec221 : ∀ (l1 : Int32) (l2 : Int32) (l3 : Int32) (l4 : Int32) (l5 : Int32) (l6 : Int32) (l7 : Int32) (l8 : Int32) (l9 : Int32) (l10 : Int32) (l11 : Int32) (l12 : Int32) (x : St) (H : Heap) (locs : List Loc) (ls : Array Slot), rec221 l1 l2 l3 l4 l5 l6 l7 l8 l9 l10 l11 l12 x → Wd dC dI cI cB cJ cZ ad stM kcM 115 A x H → va_S A s.heap H locs → lv_has ls 13 [(0, .ref (ad 0)), (1, .int l1), (2, .int l2), (3, .int l3), (4, .int l4), (5, .int l5), (6, .int l6), (7, .int l7), (8, .int l8), (9, .int l9), (10, .int l10), (11, .int l11), (12, .int l12)] → W p l e R s m args below meth c H locs cells slots Q (F0 m 221 ls [])) : ∀ (l1 : Int32) (l2 : Int32) (l3 : Int32) (l4 : Int32) (l5 : Int32) (l6 : Int32) (l7 : Int32) (l8 : Int32) (l9 : Int32) (l10 : Int32) (l11 : Int32) (l12 : Int32) (x : St) (H : Heap) (locs : List Loc) (ls : Array Slot), j_Mod_openChunk_282 post rec221 l1 l2 l3 l4 l5 l6 l7 l8 l9 l10 l11 l12 x → Wd dC dI cI cB cJ cZ ad stM kcM 115 A x H → va_S A s.heap H locs → lv_has ls 13 [(0, .ref (ad 0)), (1, .int l1), (2, .int l2), (3, .int l3), (4, .int l4), (5, .int l5), (6, .int l6), (7, .int l7), (8, .int l8), (9, .int l9), (10, .int l10), (11, .int l11), (12, .int l12)] → W p l e R s m args below meth c H locs cells slots Q (F0 m 282 ls []) := by
  intro l1 l2 l3 l4 l5 l6 l7 l8 l9 l10 l11 l12 x H locs ls  hw hW hS hl
  unfold j_Mod_openChunk_282 at hw
  refine lv_aload_n hx hb d_Mod_openChunk_282 rfl (lv_at hl 0 rfl) ?_
  refine w_getf (q := 71) (k := 108) (t := 12) (C := R_Mod) (T := F_Mod) (N := 167) hx hb hT hown hK hW ko_0.1 ko_0.2 (by decide) in_Mod rfl rfl (by decide) rfl fr_Mod_108 w_9_44 d_Mod_openChunk_283 rfl ?_
  refine lv_iload hx hb d_Mod_openChunk_286 (lv_at hl 12 rfl) ?_
  obtain ⟨hi, hw⟩ := hw
  refine w_iald (o := 71) hx hb hK hW ko_71.1 ko_71.2 hi d_Mod_openChunk_288 ?_
  refine lv_goto (tgt := 294) hx hb d_Mod_openChunk_289 (by decide) ?_
  exact t_Mod_openChunk_294 hx hb hml hown hT hK hN hA hRc hRs hRf hRl hret hrec221 l1 l2 l3 l4 l5 l6 l7 l8 l9 l10 l11 l12 (rA x 71 l12) x H locs ls  hw hW hS (lv_sub hl [0, 1, 2, 3, 4, 5, 6, 7, 8, 9, 10, 11, 12] rfl)
set_option maxRecDepth 100000 in
set_option maxHeartbeats 4000000 in
set_option maxRecDepth 100000 in
theorem t_Mod_openChunk_221 {p : Program} {l : Launch} {e : Env} {R : Room} {s : State} {m : MethodId} {args : Array Value} {below : List Frame} {meth : Method} {c : Code} {cells slots : Nat} {Q : State → Prop} {dC : Nat → ClassId} {dI : Nat → Nat → Nat} {cI cB cJ cZ : ClassId} {A : Nat → Prop} {ad : Nat → Nat} {post : St → Prop} {rec221 : Int32 → Int32 → Int32 → Int32 → Int32 → Int32 → Int32 → Int32 → Int32 → Int32 → Int32 → Int32 → St → Prop} (hx : p.tables.exec = Jvm.exec) (hb : c.code = b_Mod_openChunk) (hml : c.maxLocals = 13) (hown : s.vm.findClass R_Mod = some m.cls) (hT : ∀ w ∈ TG, w.before args s = true) (hK : va_K (dC, dI) CL (TY cI cB cJ cZ) s) (hN : NW s) (hA : ∀ q : Nat, s.heap.size ≤ q → A q) (hRc : cells ≤ R.cells) (hRs : slots ≤ R.slots) (hRf : 9 ≤ R.frames) (hRl : 231 ≤ R.locals) (hret : ∀ (x : St) (H : Heap) (locs : List Loc) (pc : Nat) (ls : Array Slot), decode b_Mod_openChunk pc = .ok (.return_, 1) → post x → Wd dC dI cI cB cJ cZ ad stM kcM 115 A x H → va_S A s.heap H locs → W p l e R s m args below meth c H locs cells slots Q (F0 m pc ls [])) (hrec221 : ∀ (l1 : Int32) (l2 : Int32) (l3 : Int32) (l4 : Int32) (l5 : Int32) (l6 : Int32) (l7 : Int32) (l8 : Int32) (l9 : Int32) (l10 : Int32) (l11 : Int32) (l12 : Int32) (x : St) (H : Heap) (locs : List Loc) (ls : Array Slot), rec221 l1 l2 l3 l4 l5 l6 l7 l8 l9 l10 l11 l12 x → Wd dC dI cI cB cJ cZ ad stM kcM 115 A x H → va_S A s.heap H locs → lv_has ls 13 [(0, .ref (ad 0)), (1, .int l1), (2, .int l2), (3, .int l3), (4, .int l4), (5, .int l5), (6, .int l6), (7, .int l7), (8, .int l8), (9, .int l9), (10, .int l10), (11, .int l11), (12, .int l12)] → W p l e R s m args below meth c H locs cells slots Q (F0 m 221 ls [])) : ∀ (l1 : Int32) (l2 : Int32) (l3 : Int32) (l4 : Int32) (l5 : Int32) (l6 : Int32) (l7 : Int32) (l8 : Int32) (l9 : Int32) (l10 : Int32) (l11 : Int32) (l12 : Int32) (x : St) (H : Heap) (locs : List Loc) (ls : Array Slot), j_Mod_openChunk_221 post rec221 l1 l2 l3 l4 l5 l6 l7 l8 l9 l10 l11 l12 x → Wd dC dI cI cB cJ cZ ad stM kcM 115 A x H → va_S A s.heap H locs → lv_has ls 13 [(0, .ref (ad 0)), (1, .int l1), (2, .int l2), (3, .int l3), (4, .int l4), (5, .int l5), (6, .int l6), (7, .int l7), (8, .int l8), (9, .int l9), (10, .int l10), (11, .int l11), (12, .int l12)] → W p l e R s m args below meth c H locs cells slots Q (F0 m 221 ls []) := by
  intro l1 l2 l3 l4 l5 l6 l7 l8 l9 l10 l11 l12 x H locs ls  hw hW hS hl
  unfold j_Mod_openChunk_221 at hw
  refine lv_iload hx hb d_Mod_openChunk_221 (lv_at hl 12 rfl) ?_
  refine lv_aload_n hx hb d_Mod_openChunk_223 rfl (lv_at hl 0 rfl) ?_
  refine w_geti (k := 86) (t := 12) (C := R_Mod) (T := F_Mod) (N := 167) hx hb hT hown hK hW ko_0.1 ko_0.2 (by decide) in_Mod rfl rfl (by decide) rfl fr_Mod_86 w_9_22 d_Mod_openChunk_224 ?_
  refine lv_icmp_ge (tgt := 342) hx hb d_Mod_openChunk_227 (by decide) (fun c1696 => ?_) (fun c1696 => ?_)
  · have hw := hw.1 c1696
    refine lv_aload_n hx hb d_Mod_openChunk_342 rfl (lv_at hl 0 rfl) ?_
    refine lv_iload hx hb d_Mod_openChunk_343 (lv_at hl 9 rfl) ?_
    refine lv_aload_n hx hb d_Mod_openChunk_345 rfl (lv_at hl 0 rfl) ?_
    refine w_getf (q := 62) (k := 99) (t := 12) (C := R_Mod) (T := F_Mod) (N := 167) hx hb hT hown hK hW ko_0.1 ko_0.2 (by decide) in_Mod rfl rfl (by decide) rfl fr_Mod_99 w_9_35 d_Mod_openChunk_346 rfl ?_
    refine lv_iload hx hb d_Mod_openChunk_349 (lv_at hl 4 rfl) ?_
    obtain ⟨hi, hw⟩ := hw
    refine w_iald (o := 62) hx hb hK hW ko_62.1 ko_62.2 hi d_Mod_openChunk_351 ?_
    refine lv_icmp_eq (tgt := 359) hx hb d_Mod_openChunk_352 (by decide) (fun c1697 => ?_) (fun c1697 => ?_)
    · have hw := hw.1 c1697
      refine lv_iconst (v := 0) hx hb d_Mod_openChunk_359 (by decide) ?_
      exact t_Mod_openChunk_360 hx hb hml hown hT hK hN hA hRc hRs hRf hRl hret  l1 l2 l3 l4 l5 l6 l7 l8 l9 l10 l11 l12 0 x H locs ls  hw hW hS (lv_sub hl [0, 1, 2, 3, 4, 5, 6, 7, 8, 9, 10, 11, 12] rfl)
    · have hw := hw.2 c1697
      refine lv_iconst (v := 1) hx hb d_Mod_openChunk_355 (by decide) ?_
      refine lv_goto (tgt := 360) hx hb d_Mod_openChunk_356 (by decide) ?_
      exact t_Mod_openChunk_360 hx hb hml hown hT hK hN hA hRc hRs hRf hRl hret  l1 l2 l3 l4 l5 l6 l7 l8 l9 l10 l11 l12 1 x H locs ls  hw hW hS (lv_sub hl [0, 1, 2, 3, 4, 5, 6, 7, 8, 9, 10, 11, 12] rfl)
  · have hw := hw.2 c1696
    refine lv_iload hx hb d_Mod_openChunk_230 (lv_at hl 9 rfl) ?_
    refine lv_aload_n hx hb d_Mod_openChunk_232 rfl (lv_at hl 0 rfl) ?_
    refine w_getf (q := 70) (k := 107) (t := 12) (C := R_Mod) (T := F_Mod) (N := 167) hx hb hT hown hK hW ko_0.1 ko_0.2 (by decide) in_Mod rfl rfl (by decide) rfl fr_Mod_107 w_9_43 d_Mod_openChunk_233 rfl ?_
    refine lv_iload hx hb d_Mod_openChunk_236 (lv_at hl 12 rfl) ?_
    obtain ⟨hi, hw⟩ := hw
    refine w_iald (o := 70) hx hb hK hW ko_70.1 ko_70.2 hi d_Mod_openChunk_238 ?_
    refine lv_iadd hx hb d_Mod_openChunk_239 ?_
    refine lv_topi (fun v1698 ev1698 => ?_)
    have hw := hw v1698 ev1698
    refine lv_istore (lv' := [(9, .int v1698), (0, .ref (ad 0)), (1, .int l1), (2, .int l2), (3, .int l3), (4, .int l4), (5, .int l5), (6, .int l6), (7, .int l7), (8, .int l8), (10, .int l10), (11, .int l11), (12, .int l12)]) hx hb d_Mod_openChunk_240 hl (by decide) rfl (fun ls hl => ?_)
    refine lv_aload_n hx hb d_Mod_openChunk_242 rfl (lv_at hl 1 rfl) ?_
    refine w_getf (q := 71) (k := 108) (t := 12) (C := R_Mod) (T := F_Mod) (N := 167) hx hb hT hown hK hW ko_0.1 ko_0.2 (by decide) in_Mod rfl rfl (by decide) rfl fr_Mod_108 w_9_44 d_Mod_openChunk_243 rfl ?_
    refine lv_iload hx hb d_Mod_openChunk_246 (lv_at hl 12 rfl) ?_
    obtain ⟨hi, hw⟩ := hw
    refine w_iald (o := 71) hx hb hK hW ko_71.1 ko_71.2 hi d_Mod_openChunk_248 ?_
    refine lv_iconst (v := (-1)) hx hb d_Mod_openChunk_249 (by decide) ?_
    refine lv_icmp_ne (tgt := 256) hx hb d_Mod_openChunk_250 (by decide) (fun c1699 => ?_) (fun c1699 => ?_)
    · have hw := hw.1 c1699
      refine lv_iload hx hb d_Mod_openChunk_256 (lv_at hl 10 rfl) ?_
      refine lv_iconst (v := (-1)) hx hb d_Mod_openChunk_258 (by decide) ?_
      refine lv_icmp_eq (tgt := 282) hx hb d_Mod_openChunk_259 (by decide) (fun c1700 => ?_) (fun c1700 => ?_)
      · have hw := hw.1 c1700
        exact t_Mod_openChunk_282 hx hb hml hown hT hK hN hA hRc hRs hRf hRl hret hrec221 l1 l2 l3 l4 l5 l6 l7 l8 v1698 l10 l11 l12 x H locs ls  hw hW hS (lv_sub hl [1, 2, 3, 4, 5, 6, 7, 8, 9, 0, 10, 11, 12] rfl)
      · have hw := hw.2 c1700
        refine lv_aload_n hx hb d_Mod_openChunk_262 rfl (lv_at hl 1 rfl) ?_
        refine lv_aload_n hx hb d_Mod_openChunk_263 rfl (lv_at hl 1 rfl) ?_
        refine w_geti (k := 38) (t := 12) (C := R_Mod) (T := F_Mod) (N := 167) hx hb hT hown hK hW ko_0.1 ko_0.2 (by decide) in_Mod rfl rfl (by decide) rfl fr_Mod_38 w_8_214 d_Mod_openChunk_264 ?_
        refine lv_aload_n hx hb d_Mod_openChunk_267 rfl (lv_at hl 1 rfl) ?_
        refine w_getf (q := 71) (k := 108) (t := 12) (C := R_Mod) (T := F_Mod) (N := 167) hx hb hT hown hK hW ko_0.1 ko_0.2 (by decide) in_Mod rfl rfl (by decide) rfl fr_Mod_108 w_9_44 d_Mod_openChunk_268 rfl ?_
        refine lv_iload hx hb d_Mod_openChunk_271 (lv_at hl 12 rfl) ?_
        obtain ⟨hi, hw⟩ := hw
        refine w_iald (o := 71) hx hb hK hW ko_71.1 ko_71.2 hi d_Mod_openChunk_273 ?_
        refine lv_iload hx hb d_Mod_openChunk_274 (lv_at hl 10 rfl) ?_
        have hF := hW.free hS hA
        refine va_calli (va_runV (C := R_Mod) (As := [.int (fI x 0 38), .int (rA x 71 l12), .int l10]) (rest := []) ⟨hx, hb, hml, hown, hT⟩ (k_Mod_compare l dC dI cI cB cJ cZ ad H.size (fI x 0 38) (rA x 71 l12) l10 x  hw) ⟨callB_of 3 hT (gwt_in w_13_26) rfl rfl rfl (hT _ w_1_15) (hT _ w_13_23) (by decide +kernel) ⟨Nat.le_trans (Nat.le_of_ble_eq_true rfl) hRf, Nat.le_trans (Nat.le_of_ble_eq_true rfl) hRl⟩, hT _ w_13_25, hT _ ws_219⟩ ⟨PW.blind, va_recv hK hW.1 (ci := 12) (q0 := 0) rfl (pic_obj ko_0.1 ko_0.2 (by decide)), PW.at _ hW hK hN⟩ rfl rfl hl.1 rfl (lv_room (Nat.le_of_ble_eq_true rfl)) d_Mod_openChunk_276 ⟨hRc, hRs⟩) hS (fun q _ h => hF q h) hF (fun r1702 x1701 t H locs ht hvm hw hB hz1 hk1 hS => ?_)
        have hW := Wd.back hB ht hF
        clear hB ht hF hz1 hk1 hvm
        refine lv_if_ge (tgt := 292) hx hb d_Mod_openChunk_279 (by decide) (fun c1703 => ?_) (fun c1703 => ?_)
        · have hw := hw.1 c1703
          refine lv_iload hx hb d_Mod_openChunk_292 (lv_at hl 10 rfl) ?_
          exact t_Mod_openChunk_294 hx hb hml hown hT hK hN hA hRc hRs hRf hRl hret hrec221 l1 l2 l3 l4 l5 l6 l7 l8 v1698 l10 l11 l12 l10 x1701 H locs ls  hw hW hS (lv_sub hl [1, 2, 3, 4, 5, 6, 7, 8, 9, 0, 10, 11, 12] rfl)
        · have hw := hw.2 c1703
          exact t_Mod_openChunk_282 hx hb hml hown hT hK hN hA hRc hRs hRf hRl hret hrec221 l1 l2 l3 l4 l5 l6 l7 l8 v1698 l10 l11 l12 x1701 H locs ls  hw hW hS (lv_sub hl [1, 2, 3, 4, 5, 6, 7, 8, 9, 0, 10, 11, 12] rfl)
    · have hw := hw.2 c1699
      refine lv_goto (tgt := 336) hx hb d_Mod_openChunk_253 (by decide) ?_
      exact t_Mod_openChunk_336 hx hb hml hown hT hK hN hA hRc hRs hRf hRl hret hrec221 l1 l2 l3 l4 l5 l6 l7 l8 v1698 l10 l11 l12 x H locs ls  hw hW hS (lv_sub hl [1, 2, 3, 4, 5, 6, 7, 8, 9, 0, 10, 11, 12] rfl)
set_option maxHeartbeats 4000000 in
set_option maxRecDepth 100000 in
theorem tl_Mod_openChunk_221 {p : Program} {l : Launch} {e : Env} {R : Room} {s : State} {m : MethodId} {args : Array Value} {below : List Frame} {meth : Method} {c : Code} {cells slots : Nat} {Q : State → Prop} {dC : Nat → ClassId} {dI : Nat → Nat → Nat} {cI cB cJ cZ : ClassId} {A : Nat → Prop} {ad : Nat → Nat} {post : St → Prop} (hx : p.tables.exec = Jvm.exec) (hb : c.code = b_Mod_openChunk) (hml : c.maxLocals = 13) (hown : s.vm.findClass R_Mod = some m.cls) (hT : ∀ w ∈ TG, w.before args s = true) (hK : va_K (dC, dI) CL (TY cI cB cJ cZ) s) (hN : NW s) (hA : ∀ q : Nat, s.heap.size ≤ q → A q) (hRc : cells ≤ R.cells) (hRs : slots ≤ R.slots) (hRf : 9 ≤ R.frames) (hRl : 231 ≤ R.locals) (hret : ∀ (x : St) (H : Heap) (locs : List Loc) (pc : Nat) (ls : Array Slot), decode b_Mod_openChunk pc = .ok (.return_, 1) → post x → Wd dC dI cI cB cJ cZ ad stM kcM 115 A x H → va_S A s.heap H locs → W p l e R s m args below meth c H locs cells slots Q (F0 m pc ls []))  : ∀ n : Nat, ∀ (l1 : Int32) (l2 : Int32) (l3 : Int32) (l4 : Int32) (l5 : Int32) (l6 : Int32) (l7 : Int32) (l8 : Int32) (l9 : Int32) (l10 : Int32) (l11 : Int32) (l12 : Int32) (x : St) (H : Heap) (locs : List Loc) (ls : Array Slot), wl_Mod_openChunk_221 post n l1 l2 l3 l4 l5 l6 l7 l8 l9 l10 l11 l12 x → Wd dC dI cI cB cJ cZ ad stM kcM 115 A x H → va_S A s.heap H locs → lv_has ls 13 [(0, .ref (ad 0)), (1, .int l1), (2, .int l2), (3, .int l3), (4, .int l4), (5, .int l5), (6, .int l6), (7, .int l7), (8, .int l8), (9, .int l9), (10, .int l10), (11, .int l11), (12, .int l12)] → W p l e R s m args below meth c H locs cells slots Q (F0 m 221 ls []) := by
  intro n
  induction n with
  | zero => intro l1 l2 l3 l4 l5 l6 l7 l8 l9 l10 l11 l12 x H locs ls  hw; exact hw.elim
  | succ n ih => intro l1 l2 l3 l4 l5 l6 l7 l8 l9 l10 l11 l12 x H locs ls  hw hW hS hl; exact t_Mod_openChunk_221 hx hb hml hown hT hK hN hA hRc hRs hRf hRl hret  ih l1 l2 l3 l4 l5 l6 l7 l8 l9 l10 l11 l12 x H locs ls  hw hW hS hl
set_option maxRecDepth 100000 in
set_option maxHeartbeats 4000000 in
set_option maxRecDepth 100000 in
theorem t_Mod_openChunk_203 {p : Program} {l : Launch} {e : Env} {R : Room} {s : State} {m : MethodId} {args : Array Value} {below : List Frame} {meth : Method} {c : Code} {cells slots : Nat} {Q : State → Prop} {dC : Nat → ClassId} {dI : Nat → Nat → Nat} {cI cB cJ cZ : ClassId} {A : Nat → Prop} {ad : Nat → Nat} {post : St → Prop} (hx : p.tables.exec = Jvm.exec) (hb : c.code = b_Mod_openChunk) (hml : c.maxLocals = 13) (hown : s.vm.findClass R_Mod = some m.cls) (hT : ∀ w ∈ TG, w.before args s = true) (hK : va_K (dC, dI) CL (TY cI cB cJ cZ) s) (hN : NW s) (hA : ∀ q : Nat, s.heap.size ≤ q → A q) (hRc : cells ≤ R.cells) (hRs : slots ≤ R.slots) (hRf : 9 ≤ R.frames) (hRl : 231 ≤ R.locals) (hret : ∀ (x : St) (H : Heap) (locs : List Loc) (pc : Nat) (ls : Array Slot), decode b_Mod_openChunk pc = .ok (.return_, 1) → post x → Wd dC dI cI cB cJ cZ ad stM kcM 115 A x H → va_S A s.heap H locs → W p l e R s m args below meth c H locs cells slots Q (F0 m pc ls []))  : ∀ (l1 : Int32) (l2 : Int32) (l3 : Int32) (l4 : Int32) (l5 : Int32) (l6 : Int32) (l7 : Int32) (l8 : Int32) (l9 : Int32) (s0 : Int32) (x : St) (H : Heap) (locs : List Loc) (ls : Array Slot), j_Mod_openChunk_203 post l1 l2 l3 l4 l5 l6 l7 l8 l9 s0 x → Wd dC dI cI cB cJ cZ ad stM kcM 115 A x H → va_S A s.heap H locs → lv_has ls 13 [(0, .ref (ad 0)), (1, .int l1), (2, .int l2), (3, .int l3), (4, .int l4), (5, .int l5), (6, .int l6), (7, .int l7), (8, .int l8), (9, .int l9)] → W p l e R s m args below meth c H locs cells slots Q (F0 m 203 ls [.int s0, .ref (ad 0)]) := by
  intro l1 l2 l3 l4 l5 l6 l7 l8 l9 s0 x H locs ls  hw hW hS hl
  unfold j_Mod_openChunk_203 at hw
  refine lv_bipush (v := 16) hx hb d_Mod_openChunk_203 (by decide) ?_
  have hF := hW.free hS hA
  refine va_callv (va_runV (C := R_Mod) (As := [.int s0, .int 16]) (rest := []) ⟨hx, hb, hml, hown, hT⟩ (k_Mod_faults l dC dI cI cB cJ cZ ad H.size s0 16 x  hw) ⟨callB_of 2 hT (gwt_in w_12_107) rfl rfl rfl (hT _ w_1_15) (hT _ w_12_104) (by decide +kernel) ⟨Nat.le_trans (Nat.le_of_ble_eq_true rfl) hRf, Nat.le_trans (Nat.le_of_ble_eq_true rfl) hRl⟩, hT _ w_12_106, hT _ ws_183⟩ ⟨PW.blind, va_recv hK hW.1 (ci := 12) (q0 := 0) rfl (pic_obj ko_0.1 ko_0.2 (by decide)), PW.at _ hW hK hN⟩ rfl rfl hl.1 rfl (lv_room (Nat.le_of_ble_eq_true rfl)) d_Mod_openChunk_205 ⟨hRc, hRs⟩) hS (fun q _ h => hF q h) hF (fun  x1704 t H locs ht hvm hw hB hz1 hk1 hS => ?_)
  have hW := Wd.back hB ht hF
  clear hB ht hF hz1 hk1 hvm
  refine lv_iconst (v := 0) hx hb d_Mod_openChunk_208 (by decide) ?_
  refine lv_istore (lv' := [(9, .int 0), (0, .ref (ad 0)), (1, .int l1), (2, .int l2), (3, .int l3), (4, .int l4), (5, .int l5), (6, .int l6), (7, .int l7), (8, .int l8)]) hx hb d_Mod_openChunk_209 hl (by decide) rfl (fun ls hl => ?_)
  refine lv_iconst (v := (-1)) hx hb d_Mod_openChunk_211 (by decide) ?_
  refine lv_istore (lv' := [(10, .int (-1)), (9, .int 0), (0, .ref (ad 0)), (1, .int l1), (2, .int l2), (3, .int l3), (4, .int l4), (5, .int l5), (6, .int l6), (7, .int l7), (8, .int l8)]) hx hb d_Mod_openChunk_212 hl (by decide) rfl (fun ls hl => ?_)
  refine lv_iconst (v := (-1)) hx hb d_Mod_openChunk_214 (by decide) ?_
  refine lv_istore (lv' := [(11, .int (-1)), (10, .int (-1)), (9, .int 0), (0, .ref (ad 0)), (1, .int l1), (2, .int l2), (3, .int l3), (4, .int l4), (5, .int l5), (6, .int l6), (7, .int l7), (8, .int l8)]) hx hb d_Mod_openChunk_215 hl (by decide) rfl (fun ls hl => ?_)
  refine lv_iload hx hb d_Mod_openChunk_217 (lv_at hl 10 rfl) ?_
  refine lv_istore (lv' := [(12, .int l7), (11, .int (-1)), (10, .int (-1)), (9, .int 0), (0, .ref (ad 0)), (1, .int l1), (2, .int l2), (3, .int l3), (4, .int l4), (5, .int l5), (6, .int l6), (7, .int l7), (8, .int l8)]) hx hb d_Mod_openChunk_219 hl (by decide) rfl (fun ls hl => ?_)
  obtain ⟨n, hw⟩ := hw
  exact tl_Mod_openChunk_221 hx hb hml hown hT hK hN hA hRc hRs hRf hRl hret  n l1 l2 l3 l4 l5 l6 l7 l8 0 (-1) (-1) l7 x1704 H locs ls  hw hW hS (lv_sub hl [4, 5, 6, 7, 8, 9, 10, 11, 12, 3, 2, 1, 0] rfl)
set_option maxRecDepth 100000 in
set_option maxHeartbeats 4000000 in
set_option maxRecDepth 100000 in
theorem t_Mod_openChunk_198 {p : Program} {l : Launch} {e : Env} {R : Room} {s : State} {m : MethodId} {args : Array Value} {below : List Frame} {meth : Method} {c : Code} {cells slots : Nat} {Q : State → Prop} {dC : Nat → ClassId} {dI : Nat → Nat → Nat} {cI cB cJ cZ : ClassId} {A : Nat → Prop} {ad : Nat → Nat} {post : St → Prop} (hx : p.tables.exec = Jvm.exec) (hb : c.code = b_Mod_openChunk) (hml : c.maxLocals = 13) (hown : s.vm.findClass R_Mod = some m.cls) (hT : ∀ w ∈ TG, w.before args s = true) (hK : va_K (dC, dI) CL (TY cI cB cJ cZ) s) (hN : NW s) (hA : ∀ q : Nat, s.heap.size ≤ q → A q) (hRc : cells ≤ R.cells) (hRs : slots ≤ R.slots) (hRf : 9 ≤ R.frames) (hRl : 231 ≤ R.locals) (hret : ∀ (x : St) (H : Heap) (locs : List Loc) (pc : Nat) (ls : Array Slot), decode b_Mod_openChunk pc = .ok (.return_, 1) → post x → Wd dC dI cI cB cJ cZ ad stM kcM 115 A x H → va_S A s.heap H locs → W p l e R s m args below meth c H locs cells slots Q (F0 m pc ls []))  : ∀ (l1 : Int32) (l2 : Int32) (l3 : Int32) (l4 : Int32) (l5 : Int32) (l6 : Int32) (l7 : Int32) (l8 : Int32) (l9 : Int32) (x : St) (H : Heap) (locs : List Loc) (ls : Array Slot), j_Mod_openChunk_198 post l1 l2 l3 l4 l5 l6 l7 l8 l9 x → Wd dC dI cI cB cJ cZ ad stM kcM 115 A x H → va_S A s.heap H locs → lv_has ls 13 [(0, .ref (ad 0)), (1, .int l1), (2, .int l2), (3, .int l3), (4, .int l4), (5, .int l5), (6, .int l6), (7, .int l7), (8, .int l8), (9, .int l9)] → W p l e R s m args below meth c H locs cells slots Q (F0 m 198 ls [.ref (ad 0)]) := by
  intro l1 l2 l3 l4 l5 l6 l7 l8 l9 x H locs ls  hw hW hS hl
  unfold j_Mod_openChunk_198 at hw
  refine lv_iconst (v := 1) hx hb d_Mod_openChunk_198 (by decide) ?_
  refine lv_goto (tgt := 203) hx hb d_Mod_openChunk_199 (by decide) ?_
  exact t_Mod_openChunk_203 hx hb hml hown hT hK hN hA hRc hRs hRf hRl hret  l1 l2 l3 l4 l5 l6 l7 l8 l9 1 x H locs ls  hw hW hS (lv_sub hl [0, 1, 2, 3, 4, 5, 6, 7, 8, 9] rfl)
set_option maxRecDepth 100000 in
set_option maxHeartbeats 4000000 in
set_option maxRecDepth 100000 in
theorem t_Mod_openChunk_164 {p : Program} {l : Launch} {e : Env} {R : Room} {s : State} {m : MethodId} {args : Array Value} {below : List Frame} {meth : Method} {c : Code} {cells slots : Nat} {Q : State → Prop} {dC : Nat → ClassId} {dI : Nat → Nat → Nat} {cI cB cJ cZ : ClassId} {A : Nat → Prop} {ad : Nat → Nat} {post : St → Prop} (hx : p.tables.exec = Jvm.exec) (hb : c.code = b_Mod_openChunk) (hml : c.maxLocals = 13) (hown : s.vm.findClass R_Mod = some m.cls) (hT : ∀ w ∈ TG, w.before args s = true) (hK : va_K (dC, dI) CL (TY cI cB cJ cZ) s) (hN : NW s) (hA : ∀ q : Nat, s.heap.size ≤ q → A q) (hRc : cells ≤ R.cells) (hRs : slots ≤ R.slots) (hRf : 9 ≤ R.frames) (hRl : 231 ≤ R.locals) (hret : ∀ (x : St) (H : Heap) (locs : List Loc) (pc : Nat) (ls : Array Slot), decode b_Mod_openChunk pc = .ok (.return_, 1) → post x → Wd dC dI cI cB cJ cZ ad stM kcM 115 A x H → va_S A s.heap H locs → W p l e R s m args below meth c H locs cells slots Q (F0 m pc ls []))  : ∀ (l1 : Int32) (l2 : Int32) (l3 : Int32) (l4 : Int32) (l5 : Int32) (l6 : Int32) (l7 : Int32) (l8 : Int32) (l9 : Int32) (s0 : Int32) (x : St) (H : Heap) (locs : List Loc) (ls : Array Slot), j_Mod_openChunk_164 post l1 l2 l3 l4 l5 l6 l7 l8 l9 s0 x → Wd dC dI cI cB cJ cZ ad stM kcM 115 A x H → va_S A s.heap H locs → lv_has ls 13 [(0, .ref (ad 0)), (1, .int l1), (2, .int l2), (3, .int l3), (4, .int l4), (5, .int l5), (6, .int l6), (7, .int l7), (8, .int l8), (9, .int l9)] → W p l e R s m args below meth c H locs cells slots Q (F0 m 164 ls [.int s0, .ref (ad 0)]) := by
  intro l1 l2 l3 l4 l5 l6 l7 l8 l9 s0 x H locs ls  hw hW hS hl
  unfold j_Mod_openChunk_164 at hw
  refine lv_bipush (v := 6) hx hb d_Mod_openChunk_164 (by decide) ?_
  have hF := hW.free hS hA
  refine va_callv (va_runV (C := R_Mod) (As := [.int s0, .int 6]) (rest := []) ⟨hx, hb, hml, hown, hT⟩ (k_Mod_faults l dC dI cI cB cJ cZ ad H.size s0 6 x  hw) ⟨callB_of 2 hT (gwt_in w_12_107) rfl rfl rfl (hT _ w_1_15) (hT _ w_12_104) (by decide +kernel) ⟨Nat.le_trans (Nat.le_of_ble_eq_true rfl) hRf, Nat.le_trans (Nat.le_of_ble_eq_true rfl) hRl⟩, hT _ w_12_106, hT _ ws_183⟩ ⟨PW.blind, va_recv hK hW.1 (ci := 12) (q0 := 0) rfl (pic_obj ko_0.1 ko_0.2 (by decide)), PW.at _ hW hK hN⟩ rfl rfl hl.1 rfl (lv_room (Nat.le_of_ble_eq_true rfl)) d_Mod_openChunk_166 ⟨hRc, hRs⟩) hS (fun q _ h => hF q h) hF (fun  x1705 t H locs ht hvm hw hB hz1 hk1 hS => ?_)
  have hW := Wd.back hB ht hF
  clear hB ht hF hz1 hk1 hvm
  refine lv_aload_n hx hb d_Mod_openChunk_169 rfl (lv_at hl 0 rfl) ?_
  refine lv_aload_n hx hb d_Mod_openChunk_170 rfl (lv_at hl 0 rfl) ?_
  refine w_geti (k := 87) (t := 12) (C := R_Mod) (T := F_Mod) (N := 167) hx hb hT hown hK hW ko_0.1 ko_0.2 (by decide) in_Mod rfl rfl (by decide) rfl fr_Mod_87 w_9_23 d_Mod_openChunk_171 ?_
  refine lv_iload hx hb d_Mod_openChunk_174 (lv_at hl 6 rfl) ?_
  refine lv_isub hx hb d_Mod_openChunk_176 ?_
  refine lv_aload_n hx hb d_Mod_openChunk_177 rfl (lv_at hl 0 rfl) ?_
  refine w_getf (q := 61) (k := 98) (t := 12) (C := R_Mod) (T := F_Mod) (N := 167) hx hb hT hown hK hW ko_0.1 ko_0.2 (by decide) in_Mod rfl rfl (by decide) rfl fr_Mod_98 w_9_34 d_Mod_openChunk_178 rfl ?_
  refine lv_iload hx hb d_Mod_openChunk_181 (lv_at hl 4 rfl) ?_
  obtain ⟨hi, hw⟩ := hw
  refine w_iald (o := 61) hx hb hK hW ko_61.1 ko_61.2 hi d_Mod_openChunk_183 ?_
  refine lv_icmp_ne (tgt := 198) hx hb d_Mod_openChunk_184 (by decide) (fun c1706 => ?_) (fun c1706 => ?_)
  · have hw := hw.1 c1706
    exact t_Mod_openChunk_198 hx hb hml hown hT hK hN hA hRc hRs hRf hRl hret  l1 l2 l3 l4 l5 l6 l7 l8 l9 x1705 H locs ls  hw hW hS (lv_sub hl [0, 1, 2, 3, 4, 5, 6, 7, 8, 9] rfl)
  · have hw := hw.2 c1706
    refine lv_iload hx hb d_Mod_openChunk_187 (lv_at hl 8 rfl) ?_
    refine lv_aload_n hx hb d_Mod_openChunk_189 rfl (lv_at hl 0 rfl) ?_
    refine w_getf (q := 53) (k := 81) (t := 12) (C := R_Mod) (T := F_Mod) (N := 167) hx hb hT hown hK hW ko_0.1 ko_0.2 (by decide) in_Mod rfl rfl (by decide) rfl fr_Mod_81 w_9_17 d_Mod_openChunk_190 rfl ?_
    refine lv_iload_n hx hb d_Mod_openChunk_193 rfl (lv_at hl 1 rfl) ?_
    obtain ⟨hi, hw⟩ := hw
    refine w_iald (o := 53) hx hb hK hW ko_53.1 ko_53.2 hi d_Mod_openChunk_194 ?_
    refine lv_icmp_eq (tgt := 202) hx hb d_Mod_openChunk_195 (by decide) (fun c1707 => ?_) (fun c1707 => ?_)
    · have hw := hw.1 c1707
      refine lv_iconst (v := 0) hx hb d_Mod_openChunk_202 (by decide) ?_
      exact t_Mod_openChunk_203 hx hb hml hown hT hK hN hA hRc hRs hRf hRl hret  l1 l2 l3 l4 l5 l6 l7 l8 l9 0 x1705 H locs ls  hw hW hS (lv_sub hl [0, 1, 2, 3, 4, 5, 6, 7, 8, 9] rfl)
    · have hw := hw.2 c1707
      exact t_Mod_openChunk_198 hx hb hml hown hT hK hN hA hRc hRs hRf hRl hret  l1 l2 l3 l4 l5 l6 l7 l8 l9 x1705 H locs ls  hw hW hS (lv_sub hl [0, 1, 2, 3, 4, 5, 6, 7, 8, 9] rfl)
set_option maxRecDepth 100000 in
set_option maxHeartbeats 4000000 in
set_option maxRecDepth 100000 in
theorem t_Mod_openChunk_134 {p : Program} {l : Launch} {e : Env} {R : Room} {s : State} {m : MethodId} {args : Array Value} {below : List Frame} {meth : Method} {c : Code} {cells slots : Nat} {Q : State → Prop} {dC : Nat → ClassId} {dI : Nat → Nat → Nat} {cI cB cJ cZ : ClassId} {A : Nat → Prop} {ad : Nat → Nat} {post : St → Prop} (hx : p.tables.exec = Jvm.exec) (hb : c.code = b_Mod_openChunk) (hml : c.maxLocals = 13) (hown : s.vm.findClass R_Mod = some m.cls) (hT : ∀ w ∈ TG, w.before args s = true) (hK : va_K (dC, dI) CL (TY cI cB cJ cZ) s) (hN : NW s) (hA : ∀ q : Nat, s.heap.size ≤ q → A q) (hRc : cells ≤ R.cells) (hRs : slots ≤ R.slots) (hRf : 9 ≤ R.frames) (hRl : 231 ≤ R.locals) (hret : ∀ (x : St) (H : Heap) (locs : List Loc) (pc : Nat) (ls : Array Slot), decode b_Mod_openChunk pc = .ok (.return_, 1) → post x → Wd dC dI cI cB cJ cZ ad stM kcM 115 A x H → va_S A s.heap H locs → W p l e R s m args below meth c H locs cells slots Q (F0 m pc ls []))  : ∀ (l1 : Int32) (l2 : Int32) (l3 : Int32) (l4 : Int32) (l5 : Int32) (l6 : Int32) (l7 : Int32) (l8 : Int32) (l9 : Int32) (x : St) (H : Heap) (locs : List Loc) (ls : Array Slot), j_Mod_openChunk_134 post l1 l2 l3 l4 l5 l6 l7 l8 l9 x → Wd dC dI cI cB cJ cZ ad stM kcM 115 A x H → va_S A s.heap H locs → lv_has ls 13 [(0, .ref (ad 0)), (1, .int l1), (2, .int l2), (3, .int l3), (4, .int l4), (5, .int l5), (6, .int l6), (7, .int l7), (8, .int l8), (9, .int l9)] → W p l e R s m args below meth c H locs cells slots Q (F0 m 134 ls []) := by
  intro l1 l2 l3 l4 l5 l6 l7 l8 l9 x H locs ls  hw hW hS hl
  unfold j_Mod_openChunk_134 at hw
  refine lv_aload_n hx hb d_Mod_openChunk_134 rfl (lv_at hl 0 rfl) ?_
  refine w_geti (k := 69) (t := 12) (C := R_Mod) (T := F_Mod) (N := 167) hx hb hT hown hK hW ko_0.1 ko_0.2 (by decide) in_Mod rfl rfl (by decide) rfl fr_Mod_69 w_9_5 d_Mod_openChunk_135 ?_
  refine lv_if_eq (tgt := 142) hx hb d_Mod_openChunk_138 (by decide) (fun c1708 => ?_) (fun c1708 => ?_)
  · have hw := hw.1 c1708
    refine lv_aload_n hx hb d_Mod_openChunk_142 rfl (lv_at hl 0 rfl) ?_
    refine w_getf (q := 52) (k := 80) (t := 12) (C := R_Mod) (T := F_Mod) (N := 167) hx hb hT hown hK hW ko_0.1 ko_0.2 (by decide) in_Mod rfl rfl (by decide) rfl fr_Mod_80 w_9_16 d_Mod_openChunk_143 rfl ?_
    refine lv_iconst (v := 2) hx hb d_Mod_openChunk_146 (by decide) ?_
    refine lv_iconst (v := (-1)) hx hb d_Mod_openChunk_147 (by decide) ?_
    obtain ⟨hi, hw⟩ := hw
    refine w_iast (o := 52) hx hb hK hW hS ko_52.1 ko_52.2 hi d_Mod_openChunk_148 (fun H locs hW hS => ?_)
    obtain ⟨x1709, ex1709⟩ : ∃ y : St, y = setA x 52 2 (-1) := ⟨_, rfl⟩
    rw [← ex1709] at hW
    have hw := hw x1709 ex1709
    refine lv_aload_n hx hb d_Mod_openChunk_149 rfl (lv_at hl 0 rfl) ?_
    refine lv_aload_n hx hb d_Mod_openChunk_150 rfl (lv_at hl 0 rfl) ?_
    refine w_geti (k := 67) (t := 12) (C := R_Mod) (T := F_Mod) (N := 167) hx hb hT hown hK hW ko_0.1 ko_0.2 (by decide) in_Mod rfl rfl (by decide) rfl fr_Mod_67 w_9_3 d_Mod_openChunk_151 ?_
    refine lv_iload hx hb d_Mod_openChunk_154 (lv_at hl 5 rfl) ?_
    refine lv_icmp_ge (tgt := 163) hx hb d_Mod_openChunk_156 (by decide) (fun c1710 => ?_) (fun c1710 => ?_)
    · have hw := hw.1 c1710
      refine lv_iconst (v := 0) hx hb d_Mod_openChunk_163 (by decide) ?_
      exact t_Mod_openChunk_164 hx hb hml hown hT hK hN hA hRc hRs hRf hRl hret  l1 l2 l3 l4 l5 l6 l7 l8 l9 0 x1709 H locs ls  hw hW hS (lv_sub hl [0, 1, 2, 3, 4, 5, 6, 7, 8, 9] rfl)
    · have hw := hw.2 c1710
      refine lv_iconst (v := 1) hx hb d_Mod_openChunk_159 (by decide) ?_
      refine lv_goto (tgt := 164) hx hb d_Mod_openChunk_160 (by decide) ?_
      exact t_Mod_openChunk_164 hx hb hml hown hT hK hN hA hRc hRs hRf hRl hret  l1 l2 l3 l4 l5 l6 l7 l8 l9 1 x1709 H locs ls  hw hW hS (lv_sub hl [0, 1, 2, 3, 4, 5, 6, 7, 8, 9] rfl)
  · have hw := hw.2 c1708
    exact hret x H locs 141 ls d_Mod_openChunk_141 hw hW hS
set_option maxRecDepth 100000 in
set_option maxHeartbeats 4000000 in
set_option maxRecDepth 100000 in
theorem t_Mod_openChunk_128 {p : Program} {l : Launch} {e : Env} {R : Room} {s : State} {m : MethodId} {args : Array Value} {below : List Frame} {meth : Method} {c : Code} {cells slots : Nat} {Q : State → Prop} {dC : Nat → ClassId} {dI : Nat → Nat → Nat} {cI cB cJ cZ : ClassId} {A : Nat → Prop} {ad : Nat → Nat} {post : St → Prop} {rec67 : Int32 → Int32 → Int32 → Int32 → Int32 → Int32 → Int32 → Int32 → Int32 → St → Prop} (hx : p.tables.exec = Jvm.exec) (hb : c.code = b_Mod_openChunk) (hml : c.maxLocals = 13) (hown : s.vm.findClass R_Mod = some m.cls) (hT : ∀ w ∈ TG, w.before args s = true) (hK : va_K (dC, dI) CL (TY cI cB cJ cZ) s) (hN : NW s) (hA : ∀ q : Nat, s.heap.size ≤ q → A q) (hRc : cells ≤ R.cells) (hRs : slots ≤ R.slots) (hRf : 9 ≤ R.frames) (hRl : 231 ≤ R.locals) (hret : ∀ (x : St) (H : Heap) (locs : List Loc) (pc : Nat) (ls : Array Slot), decode b_Mod_openChunk pc = .ok (.return_, 1) → post x → Wd dC dI cI cB cJ cZ ad stM kcM 115 A x H → va_S A s.heap H locs → W p l e R s m args below meth c H locs cells slots Q (F0 m pc ls [])) (hrec67 : ∀ (l1 : Int32) (l2 : Int32) (l3 : Int32) (l4 : Int32) (l5 : Int32) (l6 : Int32) (l7 : Int32) (l8 : Int32) (l9 : Int32) (x : St) (H : Heap) (locs : List Loc) (ls : Array Slot), rec67 l1 l2 l3 l4 l5 l6 l7 l8 l9 x → Wd dC dI cI cB cJ cZ ad stM kcM 115 A x H → va_S A s.heap H locs → lv_has ls 13 [(0, .ref (ad 0)), (1, .int l1), (2, .int l2), (3, .int l3), (4, .int l4), (5, .int l5), (6, .int l6), (7, .int l7), (8, .int l8), (9, .int l9)] → W p l e R s m args below meth c H locs cells slots Q (F0 m 67 ls [])) : ∀ (l1 : Int32) (l2 : Int32) (l3 : Int32) (l4 : Int32) (l5 : Int32) (l6 : Int32) (l7 : Int32) (l8 : Int32) (l9 : Int32) (x : St) (H : Heap) (locs : List Loc) (ls : Array Slot), j_Mod_openChunk_128 post rec67 l1 l2 l3 l4 l5 l6 l7 l8 l9 x → Wd dC dI cI cB cJ cZ ad stM kcM 115 A x H → va_S A s.heap H locs → lv_has ls 13 [(0, .ref (ad 0)), (1, .int l1), (2, .int l2), (3, .int l3), (4, .int l4), (5, .int l5), (6, .int l6), (7, .int l7), (8, .int l8), (9, .int l9)] → W p l e R s m args below meth c H locs cells slots Q (F0 m 128 ls []) := by
  intro l1 l2 l3 l4 l5 l6 l7 l8 l9 x H locs ls  hw hW hS hl
  unfold j_Mod_openChunk_128 at hw
  refine lv_iinc (v := (l9 + 1)) (lv' := [(9, .int (l9 + 1)), (0, .ref (ad 0)), (1, .int l1), (2, .int l2), (3, .int l3), (4, .int l4), (5, .int l5), (6, .int l6), (7, .int l7), (8, .int l8)]) hx hb d_Mod_openChunk_128 hl (k := 9) rfl rfl (by decide) rfl (fun ls hl => ?_)
  refine lv_goto (tgt := 67) hx hb d_Mod_openChunk_131 (by decide) ?_
  exact hrec67 l1 l2 l3 l4 l5 l6 l7 l8 (l9 + 1) x H locs ls  hw hW hS (lv_sub hl [1, 2, 3, 4, 5, 6, 7, 8, 9, 0] rfl)
set_option maxRecDepth 100000 in
set_option maxHeartbeats 4000000 in
set_option maxRecDepth 100000 in
theorem t_Mod_openChunk_67 {p : Program} {l : Launch} {e : Env} {R : Room} {s : State} {m : MethodId} {args : Array Value} {below : List Frame} {meth : Method} {c : Code} {cells slots : Nat} {Q : State → Prop} {dC : Nat → ClassId} {dI : Nat → Nat → Nat} {cI cB cJ cZ : ClassId} {A : Nat → Prop} {ad : Nat → Nat} {post : St → Prop} {rec67 : Int32 → Int32 → Int32 → Int32 → Int32 → Int32 → Int32 → Int32 → Int32 → St → Prop} (hx : p.tables.exec = Jvm.exec) (hb : c.code = b_Mod_openChunk) (hml : c.maxLocals = 13) (hown : s.vm.findClass R_Mod = some m.cls) (hT : ∀ w ∈ TG, w.before args s = true) (hK : va_K (dC, dI) CL (TY cI cB cJ cZ) s) (hN : NW s) (hA : ∀ q : Nat, s.heap.size ≤ q → A q) (hRc : cells ≤ R.cells) (hRs : slots ≤ R.slots) (hRf : 9 ≤ R.frames) (hRl : 231 ≤ R.locals) (hret : ∀ (x : St) (H : Heap) (locs : List Loc) (pc : Nat) (ls : Array Slot), decode b_Mod_openChunk pc = .ok (.return_, 1) → post x → Wd dC dI cI cB cJ cZ ad stM kcM 115 A x H → va_S A s.heap H locs → W p l e R s m args below meth c H locs cells slots Q (F0 m pc ls [])) (hrec67 : ∀ (l1 : Int32) (l2 : Int32) (l3 : Int32) (l4 : Int32) (l5 : Int32) (l6 : Int32) (l7 : Int32) (l8 : Int32) (l9 : Int32) (x : St) (H : Heap) (locs : List Loc) (ls : Array Slot), rec67 l1 l2 l3 l4 l5 l6 l7 l8 l9 x → Wd dC dI cI cB cJ cZ ad stM kcM 115 A x H → va_S A s.heap H locs → lv_has ls 13 [(0, .ref (ad 0)), (1, .int l1), (2, .int l2), (3, .int l3), (4, .int l4), (5, .int l5), (6, .int l6), (7, .int l7), (8, .int l8), (9, .int l9)] → W p l e R s m args below meth c H locs cells slots Q (F0 m 67 ls [])) : ∀ (l1 : Int32) (l2 : Int32) (l3 : Int32) (l4 : Int32) (l5 : Int32) (l6 : Int32) (l7 : Int32) (l8 : Int32) (l9 : Int32) (x : St) (H : Heap) (locs : List Loc) (ls : Array Slot), j_Mod_openChunk_67 post rec67 l1 l2 l3 l4 l5 l6 l7 l8 l9 x → Wd dC dI cI cB cJ cZ ad stM kcM 115 A x H → va_S A s.heap H locs → lv_has ls 13 [(0, .ref (ad 0)), (1, .int l1), (2, .int l2), (3, .int l3), (4, .int l4), (5, .int l5), (6, .int l6), (7, .int l7), (8, .int l8), (9, .int l9)] → W p l e R s m args below meth c H locs cells slots Q (F0 m 67 ls []) := by
  intro l1 l2 l3 l4 l5 l6 l7 l8 l9 x H locs ls  hw hW hS hl
  unfold j_Mod_openChunk_67 at hw
  refine lv_iload hx hb d_Mod_openChunk_67 (lv_at hl 9 rfl) ?_
  refine lv_aload_n hx hb d_Mod_openChunk_69 rfl (lv_at hl 0 rfl) ?_
  refine w_getf (q := 51) (k := 79) (t := 12) (C := R_Mod) (T := F_Mod) (N := 167) hx hb hT hown hK hW ko_0.1 ko_0.2 (by decide) in_Mod rfl rfl (by decide) rfl fr_Mod_79 w_9_15 d_Mod_openChunk_70 rfl ?_
  refine lv_iload hx hb d_Mod_openChunk_73 (lv_at hl 4 rfl) ?_
  obtain ⟨hi, hw⟩ := hw
  refine w_iald (o := 51) hx hb hK hW ko_51.1 ko_51.2 hi d_Mod_openChunk_75 ?_
  refine lv_icmp_ge (tgt := 134) hx hb d_Mod_openChunk_76 (by decide) (fun c1711 => ?_) (fun c1711 => ?_)
  · have hw := hw.1 c1711
    exact t_Mod_openChunk_134 hx hb hml hown hT hK hN hA hRc hRs hRf hRl hret  l1 l2 l3 l4 l5 l6 l7 l8 l9 x H locs ls  hw hW hS (lv_sub hl [0, 1, 2, 3, 4, 5, 6, 7, 8, 9] rfl)
  · have hw := hw.2 c1711
    refine lv_aload_n hx hb d_Mod_openChunk_79 rfl (lv_at hl 0 rfl) ?_
    refine w_geti (k := 69) (t := 12) (C := R_Mod) (T := F_Mod) (N := 167) hx hb hT hown hK hW ko_0.1 ko_0.2 (by decide) in_Mod rfl rfl (by decide) rfl fr_Mod_69 w_9_5 d_Mod_openChunk_80 ?_
    refine lv_if_ne (tgt := 134) hx hb d_Mod_openChunk_83 (by decide) (fun c1712 => ?_) (fun c1712 => ?_)
    · have hw := hw.1 c1712
      exact t_Mod_openChunk_134 hx hb hml hown hT hK hN hA hRc hRs hRf hRl hret  l1 l2 l3 l4 l5 l6 l7 l8 l9 x H locs ls  hw hW hS (lv_sub hl [0, 1, 2, 3, 4, 5, 6, 7, 8, 9] rfl)
    · have hw := hw.2 c1712
      refine lv_aload_n hx hb d_Mod_openChunk_86 rfl (lv_at hl 0 rfl) ?_
      refine w_getf (q := 52) (k := 80) (t := 12) (C := R_Mod) (T := F_Mod) (N := 167) hx hb hT hown hK hW ko_0.1 ko_0.2 (by decide) in_Mod rfl rfl (by decide) rfl fr_Mod_80 w_9_16 d_Mod_openChunk_87 rfl ?_
      refine lv_iconst (v := 2) hx hb d_Mod_openChunk_90 (by decide) ?_
      refine lv_iload hx hb d_Mod_openChunk_91 (lv_at hl 9 rfl) ?_
      obtain ⟨hi, hw⟩ := hw
      refine w_iast (o := 52) hx hb hK hW hS ko_52.1 ko_52.2 hi d_Mod_openChunk_93 (fun H locs hW hS => ?_)
      obtain ⟨x1713, ex1713⟩ : ∃ y : St, y = setA x 52 2 l9 := ⟨_, rfl⟩
      rw [← ex1713] at hW
      have hw := hw x1713 ex1713
      refine lv_aload_n hx hb d_Mod_openChunk_94 rfl (lv_at hl 0 rfl) ?_
      refine lv_iload_n hx hb d_Mod_openChunk_95 rfl (lv_at hl 2 rfl) ?_
      refine lv_iload_n hx hb d_Mod_openChunk_96 rfl (lv_at hl 3 rfl) ?_
      refine lv_iload hx hb d_Mod_openChunk_97 (lv_at hl 8 rfl) ?_
      refine lv_iadd hx hb d_Mod_openChunk_99 ?_
      refine lv_iload hx hb d_Mod_openChunk_100 (lv_at hl 5 rfl) ?_
      have hF := hW.free hS hA
      refine va_callv (va_runV (C := R_Mod) (As := [.int l2, .int (l3 + l8), .int l5]) (rest := []) ⟨hx, hb, hml, hown, hT⟩ (k_Mod_openPage l dC dI cI cB cJ cZ ad H.size l2 (l3 + l8) l5 x1713  hw) ⟨callB_of 3 hT (gwt_in w_12_164) rfl rfl rfl (hT _ w_1_15) (hT _ w_12_161) (by decide +kernel) ⟨Nat.le_trans (Nat.le_of_ble_eq_true rfl) hRf, Nat.le_trans (Nat.le_of_ble_eq_true rfl) hRl⟩, hT _ w_12_163, hT _ ws_195⟩ ⟨PW.blind, va_recv hK hW.1 (ci := 12) (q0 := 0) rfl (pic_obj ko_0.1 ko_0.2 (by decide)), PW.at _ hW hK hN⟩ rfl rfl hl.1 rfl (lv_room (Nat.le_of_ble_eq_true rfl)) d_Mod_openChunk_102 ⟨hRc, hRs⟩) hS (fun q _ h => hF q h) hF (fun  x1714 t H locs ht hvm hw hB hz1 hk1 hS => ?_)
      have hW := Wd.back hB ht hF
      clear hB ht hF hz1 hk1 hvm
      refine lv_aload_n hx hb d_Mod_openChunk_105 rfl (lv_at hl 0 rfl) ?_
      refine w_geti (k := 69) (t := 12) (C := R_Mod) (T := F_Mod) (N := 167) hx hb hT hown hK hW ko_0.1 ko_0.2 (by decide) in_Mod rfl rfl (by decide) rfl fr_Mod_69 w_9_5 d_Mod_openChunk_106 ?_
      refine lv_if_ne (tgt := 128) hx hb d_Mod_openChunk_109 (by decide) (fun c1715 => ?_) (fun c1715 => ?_)
      · have hw := hw.1 c1715
        exact t_Mod_openChunk_128 hx hb hml hown hT hK hN hA hRc hRs hRf hRl hret hrec67 l1 l2 l3 l4 l5 l6 l7 l8 l9 x1714 H locs ls  hw hW hS (lv_sub hl [0, 1, 2, 3, 4, 5, 6, 7, 8, 9] rfl)
      · have hw := hw.2 c1715
        refine lv_iload hx hb d_Mod_openChunk_112 (lv_at hl 8 rfl) ?_
        refine lv_aload_n hx hb d_Mod_openChunk_114 rfl (lv_at hl 0 rfl) ?_
        refine w_getf (q := 68) (k := 105) (t := 12) (C := R_Mod) (T := F_Mod) (N := 167) hx hb hT hown hK hW ko_0.1 ko_0.2 (by decide) in_Mod rfl rfl (by decide) rfl fr_Mod_105 w_9_41 d_Mod_openChunk_115 rfl ?_
        refine lv_aload_n hx hb d_Mod_openChunk_118 rfl (lv_at hl 0 rfl) ?_
        refine w_geti (k := 86) (t := 12) (C := R_Mod) (T := F_Mod) (N := 167) hx hb hT hown hK hW ko_0.1 ko_0.2 (by decide) in_Mod rfl rfl (by decide) rfl fr_Mod_86 w_9_22 d_Mod_openChunk_119 ?_
        refine lv_iconst (v := 1) hx hb d_Mod_openChunk_122 (by decide) ?_
        refine lv_isub hx hb d_Mod_openChunk_123 ?_
        obtain ⟨hi, hw⟩ := hw
        refine w_iald (o := 68) hx hb hK hW ko_68.1 ko_68.2 hi d_Mod_openChunk_124 ?_
        refine lv_iadd hx hb d_Mod_openChunk_125 ?_
        refine lv_topi (fun v1716 ev1716 => ?_)
        have hw := hw v1716 ev1716
        refine lv_istore (lv' := [(8, .int v1716), (0, .ref (ad 0)), (1, .int l1), (2, .int l2), (3, .int l3), (4, .int l4), (5, .int l5), (6, .int l6), (7, .int l7), (9, .int l9)]) hx hb d_Mod_openChunk_126 hl (by decide) rfl (fun ls hl => ?_)
        exact t_Mod_openChunk_128 hx hb hml hown hT hK hN hA hRc hRs hRf hRl hret hrec67 l1 l2 l3 l4 l5 l6 l7 v1716 l9 x1714 H locs ls  hw hW hS (lv_sub hl [1, 2, 3, 4, 5, 6, 7, 8, 0, 9] rfl)
set_option maxHeartbeats 4000000 in
set_option maxRecDepth 100000 in
theorem tl_Mod_openChunk_67 {p : Program} {l : Launch} {e : Env} {R : Room} {s : State} {m : MethodId} {args : Array Value} {below : List Frame} {meth : Method} {c : Code} {cells slots : Nat} {Q : State → Prop} {dC : Nat → ClassId} {dI : Nat → Nat → Nat} {cI cB cJ cZ : ClassId} {A : Nat → Prop} {ad : Nat → Nat} {post : St → Prop} (hx : p.tables.exec = Jvm.exec) (hb : c.code = b_Mod_openChunk) (hml : c.maxLocals = 13) (hown : s.vm.findClass R_Mod = some m.cls) (hT : ∀ w ∈ TG, w.before args s = true) (hK : va_K (dC, dI) CL (TY cI cB cJ cZ) s) (hN : NW s) (hA : ∀ q : Nat, s.heap.size ≤ q → A q) (hRc : cells ≤ R.cells) (hRs : slots ≤ R.slots) (hRf : 9 ≤ R.frames) (hRl : 231 ≤ R.locals) (hret : ∀ (x : St) (H : Heap) (locs : List Loc) (pc : Nat) (ls : Array Slot), decode b_Mod_openChunk pc = .ok (.return_, 1) → post x → Wd dC dI cI cB cJ cZ ad stM kcM 115 A x H → va_S A s.heap H locs → W p l e R s m args below meth c H locs cells slots Q (F0 m pc ls []))  : ∀ n : Nat, ∀ (l1 : Int32) (l2 : Int32) (l3 : Int32) (l4 : Int32) (l5 : Int32) (l6 : Int32) (l7 : Int32) (l8 : Int32) (l9 : Int32) (x : St) (H : Heap) (locs : List Loc) (ls : Array Slot), wl_Mod_openChunk_67 post n l1 l2 l3 l4 l5 l6 l7 l8 l9 x → Wd dC dI cI cB cJ cZ ad stM kcM 115 A x H → va_S A s.heap H locs → lv_has ls 13 [(0, .ref (ad 0)), (1, .int l1), (2, .int l2), (3, .int l3), (4, .int l4), (5, .int l5), (6, .int l6), (7, .int l7), (8, .int l8), (9, .int l9)] → W p l e R s m args below meth c H locs cells slots Q (F0 m 67 ls []) := by
  intro n
  induction n with
  | zero => intro l1 l2 l3 l4 l5 l6 l7 l8 l9 x H locs ls  hw; exact hw.elim
  | succ n ih => intro l1 l2 l3 l4 l5 l6 l7 l8 l9 x H locs ls  hw hW hS hl; exact t_Mod_openChunk_67 hx hb hml hown hT hK hN hA hRc hRs hRf hRl hret  ih l1 l2 l3 l4 l5 l6 l7 l8 l9 x H locs ls  hw hW hS hl
set_option maxRecDepth 100000 in
set_option maxHeartbeats 4000000 in
set_option maxRecDepth 100000 in
theorem t_Mod_openChunk_e {p : Program} {l : Launch} {e : Env} {R : Room} {s : State} {m : MethodId} {args : Array Value} {below : List Frame} {meth : Method} {c : Code} {cells slots : Nat} {Q : State → Prop} {dC : Nat → ClassId} {dI : Nat → Nat → Nat} {cI cB cJ cZ : ClassId} {A : Nat → Prop} {ad : Nat → Nat} {post : St → Prop} (hx : p.tables.exec = Jvm.exec) (hb : c.code = b_Mod_openChunk) (hml : c.maxLocals = 13) (hown : s.vm.findClass R_Mod = some m.cls) (hT : ∀ w ∈ TG, w.before args s = true) (hK : va_K (dC, dI) CL (TY cI cB cJ cZ) s) (hN : NW s) (hA : ∀ q : Nat, s.heap.size ≤ q → A q) (hRc : cells ≤ R.cells) (hRs : slots ≤ R.slots) (hRf : 9 ≤ R.frames) (hRl : 231 ≤ R.locals) (hret : ∀ (x : St) (H : Heap) (locs : List Loc) (pc : Nat) (ls : Array Slot), decode b_Mod_openChunk pc = .ok (.return_, 1) → post x → Wd dC dI cI cB cJ cZ ad stM kcM 115 A x H → va_S A s.heap H locs → W p l e R s m args below meth c H locs cells slots Q (F0 m pc ls [])) : ∀ (l1 : Int32) (l2 : Int32) (l3 : Int32) (x : St) (H : Heap) (locs : List Loc) (ls : Array Slot), wp_Mod_openChunk post l1 l2 l3 x → Wd dC dI cI cB cJ cZ ad stM kcM 115 A x H → va_S A s.heap H locs → lv_has ls 13 [(0, .ref (ad 0)), (1, .int l1), (2, .int l2), (3, .int l3)] → W p l e R s m args below meth c H locs cells slots Q (F0 m 0 ls []) := by
  intro l1 l2 l3 x H locs ls  hw hW hS hl
  unfold wp_Mod_openChunk at hw
  refine lv_aload_n hx hb d_Mod_openChunk_0 rfl (lv_at hl 0 rfl) ?_
  refine w_getf (q := 10) (k := 12) (t := 12) (C := R_Mod) (T := F_Mod) (N := 167) hx hb hT hown hK hW ko_0.1 ko_0.2 (by decide) in_Mod rfl rfl (by decide) rfl fr_Mod_12 w_8_188 d_Mod_openChunk_1 rfl ?_
  refine lv_iconst (v := 1) hx hb d_Mod_openChunk_4 (by decide) ?_
  obtain ⟨hi, hw⟩ := hw
  refine w_iald (o := 10) hx hb hK hW ko_10.1 ko_10.2 hi d_Mod_openChunk_5 ?_
  refine lv_iload_n hx hb d_Mod_openChunk_6 rfl (lv_at hl 1 rfl) ?_
  refine lv_imul hx hb d_Mod_openChunk_7 ?_
  refine lv_iload_n hx hb d_Mod_openChunk_8 rfl (lv_at hl 2 rfl) ?_
  refine lv_iadd hx hb d_Mod_openChunk_9 ?_
  refine lv_topi (fun v1717 ev1717 => ?_)
  have hw := hw v1717 ev1717
  refine lv_istore (lv' := [(4, .int v1717), (0, .ref (ad 0)), (1, .int l1), (2, .int l2), (3, .int l3)]) hx hb d_Mod_openChunk_10 hl (by decide) rfl (fun ls hl => ?_)
  refine lv_aload_n hx hb d_Mod_openChunk_12 rfl (lv_at hl 1 rfl) ?_
  refine w_getf (q := 52) (k := 80) (t := 12) (C := R_Mod) (T := F_Mod) (N := 167) hx hb hT hown hK hW ko_0.1 ko_0.2 (by decide) in_Mod rfl rfl (by decide) rfl fr_Mod_80 w_9_16 d_Mod_openChunk_13 rfl ?_
  refine lv_iconst (v := 0) hx hb d_Mod_openChunk_16 (by decide) ?_
  refine lv_iload_n hx hb d_Mod_openChunk_17 rfl (lv_at hl 2 rfl) ?_
  obtain ⟨hi, hw⟩ := hw
  refine w_iast (o := 52) hx hb hK hW hS ko_52.1 ko_52.2 hi d_Mod_openChunk_18 (fun H locs hW hS => ?_)
  obtain ⟨x1718, ex1718⟩ : ∃ y : St, y = setA x 52 0 l1 := ⟨_, rfl⟩
  rw [← ex1718] at hW
  have hw := hw x1718 ex1718
  refine lv_aload_n hx hb d_Mod_openChunk_19 rfl (lv_at hl 1 rfl) ?_
  refine w_getf (q := 52) (k := 80) (t := 12) (C := R_Mod) (T := F_Mod) (N := 167) hx hb hT hown hK hW ko_0.1 ko_0.2 (by decide) in_Mod rfl rfl (by decide) rfl fr_Mod_80 w_9_16 d_Mod_openChunk_20 rfl ?_
  refine lv_iconst (v := 1) hx hb d_Mod_openChunk_23 (by decide) ?_
  refine lv_iload_n hx hb d_Mod_openChunk_24 rfl (lv_at hl 3 rfl) ?_
  obtain ⟨hi, hw⟩ := hw
  refine w_iast (o := 52) hx hb hK hW hS ko_52.1 ko_52.2 hi d_Mod_openChunk_25 (fun H locs hW hS => ?_)
  obtain ⟨x1719, ex1719⟩ : ∃ y : St, y = setA x1718 52 1 l2 := ⟨_, rfl⟩
  rw [← ex1719] at hW
  have hw := hw x1719 ex1719
  refine lv_aload_n hx hb d_Mod_openChunk_26 rfl (lv_at hl 1 rfl) ?_
  refine w_geti (k := 67) (t := 12) (C := R_Mod) (T := F_Mod) (N := 167) hx hb hT hown hK hW ko_0.1 ko_0.2 (by decide) in_Mod rfl rfl (by decide) rfl fr_Mod_67 w_9_3 d_Mod_openChunk_27 ?_
  refine lv_aload_n hx hb d_Mod_openChunk_30 rfl (lv_at hl 1 rfl) ?_
  refine w_getf (q := 50) (k := 78) (t := 12) (C := R_Mod) (T := F_Mod) (N := 167) hx hb hT hown hK hW ko_0.1 ko_0.2 (by decide) in_Mod rfl rfl (by decide) rfl fr_Mod_78 w_9_14 d_Mod_openChunk_31 rfl ?_
  refine lv_iload hx hb d_Mod_openChunk_34 (lv_at hl 0 rfl) ?_
  obtain ⟨hi, hw⟩ := hw
  refine w_iald (o := 50) hx hb hK hW ko_50.1 ko_50.2 hi d_Mod_openChunk_36 ?_
  refine lv_iadd hx hb d_Mod_openChunk_37 ?_
  refine lv_topi (fun v1720 ev1720 => ?_)
  have hw := hw v1720 ev1720
  refine lv_istore (lv' := [(5, .int v1720), (4, .int v1717), (0, .ref (ad 0)), (1, .int l1), (2, .int l2), (3, .int l3)]) hx hb d_Mod_openChunk_38 hl (by decide) rfl (fun ls hl => ?_)
  refine lv_aload_n hx hb d_Mod_openChunk_40 rfl (lv_at hl 2 rfl) ?_
  refine w_geti (k := 87) (t := 12) (C := R_Mod) (T := F_Mod) (N := 167) hx hb hT hown hK hW ko_0.1 ko_0.2 (by decide) in_Mod rfl rfl (by decide) rfl fr_Mod_87 w_9_23 d_Mod_openChunk_41 ?_
  refine lv_topi (fun v1721 ev1721 => ?_)
  have hw := hw v1721 ev1721
  refine lv_istore (lv' := [(6, .int v1721), (5, .int v1720), (4, .int v1717), (0, .ref (ad 0)), (1, .int l1), (2, .int l2), (3, .int l3)]) hx hb d_Mod_openChunk_44 hl (by decide) rfl (fun ls hl => ?_)
  refine lv_aload_n hx hb d_Mod_openChunk_46 rfl (lv_at hl 3 rfl) ?_
  refine w_geti (k := 86) (t := 12) (C := R_Mod) (T := F_Mod) (N := 167) hx hb hT hown hK hW ko_0.1 ko_0.2 (by decide) in_Mod rfl rfl (by decide) rfl fr_Mod_86 w_9_22 d_Mod_openChunk_47 ?_
  refine lv_topi (fun v1722 ev1722 => ?_)
  have hw := hw v1722 ev1722
  refine lv_istore (lv' := [(7, .int v1722), (6, .int v1721), (5, .int v1720), (4, .int v1717), (0, .ref (ad 0)), (1, .int l1), (2, .int l2), (3, .int l3)]) hx hb d_Mod_openChunk_50 hl (by decide) rfl (fun ls hl => ?_)
  refine lv_aload_n hx hb d_Mod_openChunk_52 rfl (lv_at hl 4 rfl) ?_
  refine w_getf (q := 65) (k := 102) (t := 12) (C := R_Mod) (T := F_Mod) (N := 167) hx hb hT hown hK hW ko_0.1 ko_0.2 (by decide) in_Mod rfl rfl (by decide) rfl fr_Mod_102 w_9_38 d_Mod_openChunk_53 rfl ?_
  refine lv_iload hx hb d_Mod_openChunk_56 (lv_at hl 3 rfl) ?_
  refine lv_iload hx hb d_Mod_openChunk_58 (lv_at hl 1 rfl) ?_
  obtain ⟨hi, hw⟩ := hw
  refine w_iast (o := 65) hx hb hK hW hS ko_65.1 ko_65.2 hi d_Mod_openChunk_60 (fun H locs hW hS => ?_)
  obtain ⟨x1723, ex1723⟩ : ∃ y : St, y = setA x1719 65 v1717 v1721 := ⟨_, rfl⟩
  rw [← ex1723] at hW
  have hw := hw x1723 ex1723
  refine lv_iconst (v := 0) hx hb d_Mod_openChunk_61 (by decide) ?_
  refine lv_istore (lv' := [(8, .int 0), (7, .int v1722), (6, .int v1721), (5, .int v1720), (4, .int v1717), (0, .ref (ad 0)), (1, .int l1), (2, .int l2), (3, .int l3)]) hx hb d_Mod_openChunk_62 hl (by decide) rfl (fun ls hl => ?_)
  refine lv_iconst (v := 0) hx hb d_Mod_openChunk_64 (by decide) ?_
  refine lv_istore (lv' := [(9, .int 0), (8, .int 0), (7, .int v1722), (6, .int v1721), (5, .int v1720), (4, .int v1717), (0, .ref (ad 0)), (1, .int l1), (2, .int l2), (3, .int l3)]) hx hb d_Mod_openChunk_65 hl (by decide) rfl (fun ls hl => ?_)
  obtain ⟨n, hw⟩ := hw
  exact tl_Mod_openChunk_67 hx hb hml hown hT hK hN hA hRc hRs hRf hRl hret  n l1 l2 l3 v1717 v1720 v1721 v1722 0 0 x1723 H locs ls  hw hW hS (lv_sub hl [6, 7, 8, 9, 5, 4, 3, 2, 1, 0] rfl)
set_option maxHeartbeats 4000000 in
set_option maxRecDepth 100000 in
theorem k_Mod_openChunk (l : Launch) (dC : Nat → ClassId) (dI : Nat → Nat → Nat) (cI cB cJ cZ : ClassId) (ad : Nat → Nat) (sz : Nat) (l1 : Int32) (l2 : Int32) (l3 : Int32) (x : St) {post : St → Prop} (hw : wp_Mod_openChunk post l1 l2 l3 x) : Met l y_Mod_openChunk (wsOf y_Mod_openChunk b_Mod_openChunk 13 (none)) ({ frames := 9, cells := 0, slots := 0, locals := 231 }) (va_Pc [.ref (ad 0), .int l1, .int l2, .int l3] (PW dC dI cI cB cJ cZ ad stM kcM 115 sz x)) (va_Qv (fun (y : St) => post y) (fun y t => Wd dC dI cI cB cJ cZ ad stM kcM 115 (va_A (pic ad stM kcM 115 cI cB cJ cZ x) sz) y t.heap) (va_A (pic ad stM kcM 115 cI cB cJ cZ x) sz)) 0 0 (va_A (pic ad stM kcM 115 cI cB cJ cZ x) sz) := by
  refine Met.ofW (cc := b_Mod_openChunk) (maxL := 13) (ret := none) (by decide) rfl ?_
  intro p e s m args below meth c s₁ B hml hv
  obtain ⟨rfl, hsz, hW0, hK, hN⟩ := hv
  have hx := B.exec
  have hb := B.bytes
  have hr := B.returns
  have hts := atoms_spec B.pre
  have hT : ∀ w ∈ TG, w.before _ s = true := fun w h => hts w (List.mem_cons_of_mem _ h)
  have hown : s.vm.findClass R_Mod = some m.cls := findClass_of_methodNamed B.named
  have hlocks := B.notSynchronized
  subst hsz
  have hW : Wd dC dI cI cB cJ cZ ad stM kcM 115 (va_A (pic ad stM kcM 115 cI cB cJ cZ x) s.heap.size) x s.heap := ⟨hW0.1, hW0.2.1.self (sz := s.heap.size), hW0.2.2⟩
  generalize hAe : va_A (pic ad stM kcM 115 cI cB cJ cZ x) s.heap.size = A at hW ⊢
  have hA : ∀ q : Nat, s.heap.size ≤ q → A q := fun q h => by rw [← hAe]; exact Or.inr h
  have hS : va_S A s.heap s.heap [] := va_S.rf
  have hl := lv_entry ([.ref (ad 0), .int l1, .int l2, .int l3]) (n := 13) (Nat.le_of_ble_eq_true rfl)
  rw [lg_entry_eq]
  generalize (lg_sl ([.ref (ad 0), .int l1, .int l2, .int l3]) ++ List.replicate (13 - (lg_sl ([.ref (ad 0), .int l1, .int l2, .int l3])).length) Slot.unset).toArray = ls at hl ⊢
  have hl : lv_has ls 13 [(0, .ref (ad 0)), (1, .int l1), (2, .int l2), (3, .int l3)] := hl
  exact t_Mod_openChunk_e hx hb hml hown hT hK hN hA (Nat.le_refl 0) (Nat.le_refl 0) (Nat.le_refl 9) (Nat.le_refl 231) (fun x H locs pc ls hd hp hW hS => W.vret hx hb hr (fun t ht hM => ⟨⟨x, rfl, hp, Wd.back hW ht.symm (fun _ z => z)⟩, hS.F ht⟩) hS.2.2 hd hlocks)  l1 l2 l3 x _ _ ls  hw hW hS hl
end
