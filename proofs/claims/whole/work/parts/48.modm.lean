theorem fr_Mod_66 : F_Mod 66 = (R_Mod, "workSize", "I", false) := rfl
theorem w_11_135 : (Jvm.Cond.methodLink "StripedVaultModel" (783 : Nat) ({ cls := "StripedVaultModel", name := "addByte", desc := "(I)V" } : Jvm.MethodName)) ∈ TG := tw_11 135 (by decide +kernel) (by decide +kernel)
theorem w_11_137 : (Jvm.Cond.instanceMethod ({ cls := "StripedVaultModel", name := "addByte", desc := "(I)V" } : Jvm.MethodName)) ∈ TG := tw_11 137 (by decide +kernel) (by decide +kernel)
theorem w_11_138 : (Jvm.Cond.code ({ cls := "StripedVaultModel", name := "addByte", desc := "(I)V" } : Jvm.MethodName) prog_14_method_104_code (2 : Nat) (Option.none : Option Jvm.ClassFile.FieldType)) ∈ TG := tw_11 138 (by decide +kernel) (by decide +kernel)
theorem w_9_2 : (Jvm.Cond.fieldLink "StripedVaultModel" (780 : Nat) "StripedVaultModel" "workSize" "I") ∈ TG := tw_9 2 (by decide +kernel) (by decide +kernel)
theorem ws_139 : Cond.selects R_Mod y_Mod_addByte y_Mod_addByte ∈ TG := tw_s 139 (by decide +kernel) (by decide +kernel)
theorem d_Mod_record_137 : decode b_Mod_record 137 = .ok (.iload_n 3, 1) := by decide +kernel
theorem d_Mod_record_138 : decode b_Mod_record 138 = .ok (.aload_n 0, 1) := by decide +kernel
theorem d_Mod_record_139 : decode b_Mod_record 139 = .ok (.getfield 38, 3) := by decide +kernel
theorem d_Mod_record_142 : decode b_Mod_record 142 = .ok (.iconst 0, 1) := by decide +kernel
theorem d_Mod_record_143 : decode b_Mod_record 143 = .ok (.iaload, 1) := by decide +kernel
theorem d_Mod_record_144 : decode b_Mod_record 144 = .ok (.if_icmp .ge 18, 3) := by decide +kernel
theorem d_Mod_record_162 : decode b_Mod_record 162 = .ok (.aload_n 0, 1) := by decide +kernel
theorem d_Mod_record_163 : decode b_Mod_record 163 = .ok (.getfield 532, 3) := by decide +kernel
theorem d_Mod_record_166 : decode b_Mod_record 166 = .ok (.ifCond .eq 16, 3) := by decide +kernel
theorem d_Mod_record_182 : decode b_Mod_record 182 = .ok (.aload_n 0, 1) := by decide +kernel
theorem d_Mod_record_183 : decode b_Mod_record 183 = .ok (.dup, 1) := by decide +kernel
theorem d_Mod_record_184 : decode b_Mod_record 184 = .ok (.getfield 523, 3) := by decide +kernel
theorem d_Mod_record_187 : decode b_Mod_record 187 = .ok (.iconst 1, 1) := by decide +kernel
theorem d_Mod_record_188 : decode b_Mod_record 188 = .ok (.iadd, 1) := by decide +kernel
theorem d_Mod_record_189 : decode b_Mod_record 189 = .ok (.putfield 523, 3) := by decide +kernel
theorem d_Mod_record_192 : decode b_Mod_record 192 = .ok (.aload_n 0, 1) := by decide +kernel
theorem d_Mod_record_193 : decode b_Mod_record 193 = .ok (.getfield 78, 3) := by decide +kernel
theorem d_Mod_record_196 : decode b_Mod_record 196 = .ok (.aload_n 0, 1) := by decide +kernel
theorem d_Mod_record_197 : decode b_Mod_record 197 = .ok (.getfield 523, 3) := by decide +kernel
theorem d_Mod_record_200 : decode b_Mod_record 200 = .ok (.aload_n 0, 1) := by decide +kernel
theorem d_Mod_record_201 : decode b_Mod_record 201 = .ok (.getfield 526, 3) := by decide +kernel
theorem d_Mod_record_204 : decode b_Mod_record 204 = .ok (.iastore, 1) := by decide +kernel
theorem d_Mod_record_205 : decode b_Mod_record 205 = .ok (.iconst (-1), 1) := by decide +kernel
theorem d_Mod_record_206 : decode b_Mod_record 206 = .ok (.ireturn, 1) := by decide +kernel
theorem d_Mod_record_169 : decode b_Mod_record 169 = .ok (.aload_n 0, 1) := by decide +kernel
theorem d_Mod_record_170 : decode b_Mod_record 170 = .ok (.iload_n 1, 1) := by decide +kernel
theorem d_Mod_record_171 : decode b_Mod_record 171 = .ok (.putfield 526, 3) := by decide +kernel
theorem d_Mod_record_174 : decode b_Mod_record 174 = .ok (.aload_n 0, 1) := by decide +kernel
theorem d_Mod_record_175 : decode b_Mod_record 175 = .ok (.iload_n 2, 1) := by decide +kernel
theorem d_Mod_record_176 : decode b_Mod_record 176 = .ok (.putfield 529, 3) := by decide +kernel
theorem d_Mod_record_179 : decode b_Mod_record 179 = .ok (.bipush (-2), 2) := by decide +kernel
theorem d_Mod_record_181 : decode b_Mod_record 181 = .ok (.ireturn, 1) := by decide +kernel
theorem d_Mod_record_147 : decode b_Mod_record 147 = .ok (.aload_n 0, 1) := by decide +kernel
theorem d_Mod_record_148 : decode b_Mod_record 148 = .ok (.iload_n 3, 1) := by decide +kernel
theorem d_Mod_record_149 : decode b_Mod_record 149 = .ok (.iconst 0, 1) := by decide +kernel
theorem d_Mod_record_150 : decode b_Mod_record 150 = .ok (.iconst 0, 1) := by decide +kernel
theorem d_Mod_record_151 : decode b_Mod_record 151 = .ok (.iconst 0, 1) := by decide +kernel
theorem d_Mod_record_152 : decode b_Mod_record 152 = .ok (.iconst 0, 1) := by decide +kernel
theorem d_Mod_record_153 : decode b_Mod_record 153 = .ok (.invokevirtual 543, 3) := by decide +kernel
theorem d_Mod_record_156 : decode b_Mod_record 156 = .ok (.iinc 3 1, 3) := by decide +kernel
theorem d_Mod_record_159 : decode b_Mod_record 159 = .ok (.goto (-22), 3) := by decide +kernel
theorem d_Mod_record_94 : decode b_Mod_record 94 = .ok (.aload_n 0, 1) := by decide +kernel
theorem d_Mod_record_95 : decode b_Mod_record 95 = .ok (.getfield 376, 3) := by decide +kernel
theorem d_Mod_record_98 : decode b_Mod_record 98 = .ok (.iconst (-1), 1) := by decide +kernel
theorem d_Mod_record_99 : decode b_Mod_record 99 = .ok (.if_icmp .eq 8, 3) := by decide +kernel
theorem d_Mod_record_107 : decode b_Mod_record 107 = .ok (.aload_n 0, 1) := by decide +kernel
theorem d_Mod_record_108 : decode b_Mod_record 108 = .ok (.getfield 523, 3) := by decide +kernel
theorem d_Mod_record_111 : decode b_Mod_record 111 = .ok (.sipush 2000, 3) := by decide +kernel
theorem d_Mod_record_114 : decode b_Mod_record 114 = .ok (.if_icmp .ne 6, 3) := by decide +kernel
theorem d_Mod_record_120 : decode b_Mod_record 120 = .ok (.aload_n 0, 1) := by decide +kernel
theorem d_Mod_record_121 : decode b_Mod_record 121 = .ok (.getfield 526, 3) := by decide +kernel
theorem d_Mod_record_124 : decode b_Mod_record 124 = .ok (.istore_n 1, 1) := by decide +kernel
theorem d_Mod_record_125 : decode b_Mod_record 125 = .ok (.aload_n 0, 1) := by decide +kernel
theorem d_Mod_record_126 : decode b_Mod_record 126 = .ok (.getfield 529, 3) := by decide +kernel
theorem d_Mod_record_129 : decode b_Mod_record 129 = .ok (.istore_n 2, 1) := by decide +kernel
theorem d_Mod_record_130 : decode b_Mod_record 130 = .ok (.aload_n 0, 1) := by decide +kernel
theorem d_Mod_record_131 : decode b_Mod_record 131 = .ok (.iconst 0, 1) := by decide +kernel
theorem d_Mod_record_132 : decode b_Mod_record 132 = .ok (.putfield 532, 3) := by decide +kernel
theorem d_Mod_record_135 : decode b_Mod_record 135 = .ok (.iconst 0, 1) := by decide +kernel
theorem d_Mod_record_136 : decode b_Mod_record 136 = .ok (.istore_n 3, 1) := by decide +kernel
theorem d_Mod_record_117 : decode b_Mod_record 117 = .ok (.bipush (-2), 2) := by decide +kernel
theorem d_Mod_record_119 : decode b_Mod_record 119 = .ok (.ireturn, 1) := by decide +kernel
theorem d_Mod_record_102 : decode b_Mod_record 102 = .ok (.aload_n 0, 1) := by decide +kernel
theorem d_Mod_record_103 : decode b_Mod_record 103 = .ok (.getfield 376, 3) := by decide +kernel
theorem d_Mod_record_106 : decode b_Mod_record 106 = .ok (.ireturn, 1) := by decide +kernel
theorem d_Mod_record_0 : decode b_Mod_record 0 = .ok (.aload_n 0, 1) := by decide +kernel
theorem d_Mod_record_1 : decode b_Mod_record 1 = .ok (.iconst 0, 1) := by decide +kernel
theorem d_Mod_record_2 : decode b_Mod_record 2 = .ok (.putfield 360, 3) := by decide +kernel
theorem d_Mod_record_5 : decode b_Mod_record 5 = .ok (.aload_n 0, 1) := by decide +kernel
theorem d_Mod_record_6 : decode b_Mod_record 6 = .ok (.invokevirtual 460, 3) := by decide +kernel
theorem d_Mod_record_9 : decode b_Mod_record 9 = .ok (.aload_n 0, 1) := by decide +kernel
theorem d_Mod_record_10 : decode b_Mod_record 10 = .ok (.getfield 466, 3) := by decide +kernel
theorem d_Mod_record_13 : decode b_Mod_record 13 = .ok (.ifCond .ne 6, 3) := by decide +kernel
theorem d_Mod_record_19 : decode b_Mod_record 19 = .ok (.aload_n 0, 1) := by decide +kernel
theorem d_Mod_record_20 : decode b_Mod_record 20 = .ok (.getfield 370, 3) := by decide +kernel
theorem d_Mod_record_23 : decode b_Mod_record 23 = .ok (.sipush 4000, 3) := by decide +kernel
theorem d_Mod_record_26 : decode b_Mod_record 26 = .ok (.if_icmp .le 7, 3) := by decide +kernel
theorem d_Mod_record_33 : decode b_Mod_record 33 = .ok (.aload_n 0, 1) := by decide +kernel
theorem d_Mod_record_34 : decode b_Mod_record 34 = .ok (.iconst 1, 1) := by decide +kernel
theorem d_Mod_record_35 : decode b_Mod_record 35 = .ok (.putfield 473, 3) := by decide +kernel
theorem d_Mod_record_38 : decode b_Mod_record 38 = .ok (.aload_n 0, 1) := by decide +kernel
theorem d_Mod_record_39 : decode b_Mod_record 39 = .ok (.iconst 0, 1) := by decide +kernel
theorem d_Mod_record_40 : decode b_Mod_record 40 = .ok (.putfield 476, 3) := by decide +kernel
theorem d_Mod_record_43 : decode b_Mod_record 43 = .ok (.aload_n 0, 1) := by decide +kernel
theorem d_Mod_record_44 : decode b_Mod_record 44 = .ok (.getfield 44, 3) := by decide +kernel
theorem d_Mod_record_47 : decode b_Mod_record 47 = .ok (.iconst 0, 1) := by decide +kernel
theorem d_Mod_record_48 : decode b_Mod_record 48 = .ok (.iconst (-1), 1) := by decide +kernel
theorem d_Mod_record_49 : decode b_Mod_record 49 = .ok (.iastore, 1) := by decide +kernel
theorem d_Mod_record_50 : decode b_Mod_record 50 = .ok (.aload_n 0, 1) := by decide +kernel
theorem d_Mod_record_51 : decode b_Mod_record 51 = .ok (.getfield 47, 3) := by decide +kernel
theorem d_Mod_record_54 : decode b_Mod_record 54 = .ok (.iconst 0, 1) := by decide +kernel
theorem d_Mod_record_55 : decode b_Mod_record 55 = .ok (.iconst (-1), 1) := by decide +kernel
theorem d_Mod_record_56 : decode b_Mod_record 56 = .ok (.iastore, 1) := by decide +kernel
theorem d_Mod_record_57 : decode b_Mod_record 57 = .ok (.aload_n 0, 1) := by decide +kernel
theorem d_Mod_record_58 : decode b_Mod_record 58 = .ok (.iconst 0, 1) := by decide +kernel
theorem d_Mod_record_59 : decode b_Mod_record 59 = .ok (.iconst (-1), 1) := by decide +kernel
theorem d_Mod_record_60 : decode b_Mod_record 60 = .ok (.invokevirtual 495, 3) := by decide +kernel
theorem d_Mod_record_63 : decode b_Mod_record 63 = .ok (.aload_n 0, 1) := by decide +kernel
theorem d_Mod_record_64 : decode b_Mod_record 64 = .ok (.invokevirtual 394, 3) := by decide +kernel
theorem d_Mod_record_67 : decode b_Mod_record 67 = .ok (.aload_n 0, 1) := by decide +kernel
theorem d_Mod_record_68 : decode b_Mod_record 68 = .ok (.getfield 376, 3) := by decide +kernel
theorem d_Mod_record_71 : decode b_Mod_record 71 = .ok (.iconst (-1), 1) := by decide +kernel
theorem d_Mod_record_72 : decode b_Mod_record 72 = .ok (.if_icmp .ne 22, 3) := by decide +kernel
theorem d_Mod_record_75 : decode b_Mod_record 75 = .ok (.aload_n 0, 1) := by decide +kernel
theorem d_Mod_record_76 : decode b_Mod_record 76 = .ok (.getfield 373, 3) := by decide +kernel
theorem d_Mod_record_79 : decode b_Mod_record 79 = .ok (.aload_n 0, 1) := by decide +kernel
theorem d_Mod_record_80 : decode b_Mod_record 80 = .ok (.getfield 370, 3) := by decide +kernel
theorem d_Mod_record_83 : decode b_Mod_record 83 = .ok (.if_icmp .ge 11, 3) := by decide +kernel
theorem d_Mod_record_86 : decode b_Mod_record 86 = .ok (.aload_n 0, 1) := by decide +kernel
theorem d_Mod_record_87 : decode b_Mod_record 87 = .ok (.aload_n 0, 1) := by decide +kernel
theorem d_Mod_record_88 : decode b_Mod_record 88 = .ok (.getfield 373, 3) := by decide +kernel
theorem d_Mod_record_91 : decode b_Mod_record 91 = .ok (.invokevirtual 408, 3) := by decide +kernel
theorem d_Mod_record_29 : decode b_Mod_record 29 = .ok (.sipush 4000, 3) := by decide +kernel
theorem d_Mod_record_32 : decode b_Mod_record 32 = .ok (.ireturn, 1) := by decide +kernel
theorem d_Mod_record_16 : decode b_Mod_record 16 = .ok (.bipush (-2), 2) := by decide +kernel
theorem d_Mod_record_18 : decode b_Mod_record 18 = .ok (.ireturn, 1) := by decide +kernel
theorem d_Mod_records_0 : decode b_Mod_records 0 = .ok (.aload_n 0, 1) := by decide +kernel
theorem d_Mod_records_1 : decode b_Mod_records 1 = .ok (.iconst 0, 1) := by decide +kernel
theorem d_Mod_records_2 : decode b_Mod_records 2 = .ok (.putfield 360, 3) := by decide +kernel
theorem d_Mod_records_5 : decode b_Mod_records 5 = .ok (.aload_n 0, 1) := by decide +kernel
theorem d_Mod_records_6 : decode b_Mod_records 6 = .ok (.getfield 523, 3) := by decide +kernel
theorem d_Mod_records_9 : decode b_Mod_records 9 = .ok (.ireturn, 1) := by decide +kernel
theorem d_Mod_clear_0 : decode b_Mod_clear 0 = .ok (.aload_n 0, 1) := by decide +kernel
theorem d_Mod_clear_1 : decode b_Mod_clear 1 = .ok (.iconst 0, 1) := by decide +kernel
theorem d_Mod_clear_2 : decode b_Mod_clear 2 = .ok (.putfield 360, 3) := by decide +kernel
theorem d_Mod_clear_5 : decode b_Mod_clear 5 = .ok (.aload_n 0, 1) := by decide +kernel
theorem d_Mod_clear_6 : decode b_Mod_clear 6 = .ok (.invokevirtual 470, 3) := by decide +kernel
theorem d_Mod_clear_9 : decode b_Mod_clear 9 = .ok (.return_, 1) := by decide +kernel
theorem d_Mod_addByte_19 : decode b_Mod_addByte 19 = .ok (.aload_n 0, 1) := by decide +kernel
theorem d_Mod_addByte_20 : decode b_Mod_addByte 20 = .ok (.dup, 1) := by decide +kernel
theorem d_Mod_addByte_21 : decode b_Mod_addByte 21 = .ok (.getfield 780, 3) := by decide +kernel
theorem d_Mod_addByte_24 : decode b_Mod_addByte 24 = .ok (.iconst 1, 1) := by decide +kernel
theorem d_Mod_addByte_25 : decode b_Mod_addByte 25 = .ok (.iadd, 1) := by decide +kernel
theorem d_Mod_addByte_26 : decode b_Mod_addByte 26 = .ok (.putfield 780, 3) := by decide +kernel
theorem d_Mod_addByte_29 : decode b_Mod_addByte 29 = .ok (.return_, 1) := by decide +kernel
theorem d_Mod_addByte_0 : decode b_Mod_addByte 0 = .ok (.aload_n 0, 1) := by decide +kernel
theorem d_Mod_addByte_1 : decode b_Mod_addByte 1 = .ok (.getfield 780, 3) := by decide +kernel
theorem d_Mod_addByte_4 : decode b_Mod_addByte 4 = .ok (.ldc 7, 2) := by decide +kernel
theorem d_Mod_addByte_6 : decode b_Mod_addByte 6 = .ok (.if_icmp .ge 13, 3) := by decide +kernel
theorem d_Mod_addByte_9 : decode b_Mod_addByte 9 = .ok (.aload_n 0, 1) := by decide +kernel
theorem d_Mod_addByte_10 : decode b_Mod_addByte 10 = .ok (.getfield 136, 3) := by decide +kernel
theorem d_Mod_addByte_13 : decode b_Mod_addByte 13 = .ok (.aload_n 0, 1) := by decide +kernel
theorem d_Mod_addByte_14 : decode b_Mod_addByte 14 = .ok (.getfield 780, 3) := by decide +kernel
theorem d_Mod_addByte_17 : decode b_Mod_addByte 17 = .ok (.iload_n 1, 1) := by decide +kernel
theorem d_Mod_addByte_18 : decode b_Mod_addByte 18 = .ok (.iastore, 1) := by decide +kernel
theorem d_Mod_addFrame_0 : decode b_Mod_addFrame 0 = .ok (.aload_n 0, 1) := by decide +kernel
theorem d_Mod_addFrame_1 : decode b_Mod_addFrame 1 = .ok (.bipush 83, 2) := by decide +kernel
theorem d_Mod_addFrame_3 : decode b_Mod_addFrame 3 = .ok (.invokevirtual 783, 3) := by decide +kernel
theorem d_Mod_addFrame_6 : decode b_Mod_addFrame 6 = .ok (.aload_n 0, 1) := by decide +kernel
theorem d_Mod_addFrame_7 : decode b_Mod_addFrame 7 = .ok (.bipush 84, 2) := by decide +kernel
theorem d_Mod_addFrame_9 : decode b_Mod_addFrame 9 = .ok (.invokevirtual 783, 3) := by decide +kernel
theorem d_Mod_addFrame_12 : decode b_Mod_addFrame 12 = .ok (.aload_n 0, 1) := by decide +kernel
theorem d_Mod_addFrame_13 : decode b_Mod_addFrame 13 = .ok (.bipush 82, 2) := by decide +kernel
theorem d_Mod_addFrame_15 : decode b_Mod_addFrame 15 = .ok (.invokevirtual 783, 3) := by decide +kernel
theorem d_Mod_addFrame_18 : decode b_Mod_addFrame 18 = .ok (.aload_n 0, 1) := by decide +kernel
theorem d_Mod_addFrame_19 : decode b_Mod_addFrame 19 = .ok (.bipush 66, 2) := by decide +kernel
theorem d_Mod_addFrame_21 : decode b_Mod_addFrame 21 = .ok (.invokevirtual 783, 3) := by decide +kernel
theorem d_Mod_addFrame_24 : decode b_Mod_addFrame 24 = .ok (.return_, 1) := by decide +kernel
theorem d_Mod_many_40 : decode b_Mod_many 40 = .ok (.iadd, 1) := by decide +kernel
theorem d_Mod_many_41 : decode b_Mod_many 41 = .ok (.istore 4, 2) := by decide +kernel
theorem d_Mod_many_43 : decode b_Mod_many 43 = .ok (.iinc 5 1, 3) := by decide +kernel
theorem d_Mod_many_46 : decode b_Mod_many 46 = .ok (.goto (-35), 3) := by decide +kernel
theorem d_Mod_many_11 : decode b_Mod_many 11 = .ok (.iload 5, 2) := by decide +kernel
theorem d_Mod_many_13 : decode b_Mod_many 13 = .ok (.aload_n 0, 1) := by decide +kernel
theorem d_Mod_many_14 : decode b_Mod_many 14 = .ok (.getfield 78, 3) := by decide +kernel
theorem d_Mod_many_17 : decode b_Mod_many 17 = .ok (.iload_n 3, 1) := by decide +kernel
theorem d_Mod_many_18 : decode b_Mod_many 18 = .ok (.iaload, 1) := by decide +kernel
theorem d_Mod_many_19 : decode b_Mod_many 19 = .ok (.if_icmp .ge 30, 3) := by decide +kernel
theorem d_Mod_many_49 : decode b_Mod_many 49 = .ok (.iload 4, 2) := by decide +kernel
theorem d_Mod_many_51 : decode b_Mod_many 51 = .ok (.ireturn, 1) := by decide +kernel
theorem d_Mod_many_22 : decode b_Mod_many 22 = .ok (.iload 4, 2) := by decide +kernel
theorem d_Mod_many_24 : decode b_Mod_many 24 = .ok (.aload_n 0, 1) := by decide +kernel
theorem d_Mod_many_25 : decode b_Mod_many 25 = .ok (.getfield 69, 3) := by decide +kernel
theorem d_Mod_many_28 : decode b_Mod_many 28 = .ok (.iload 5, 2) := by decide +kernel
theorem d_Mod_many_30 : decode b_Mod_many 30 = .ok (.iaload, 1) := by decide +kernel
theorem d_Mod_many_31 : decode b_Mod_many 31 = .ok (.iload_n 1, 1) := by decide +kernel
theorem d_Mod_many_32 : decode b_Mod_many 32 = .ok (.if_icmp .ne 7, 3) := by decide +kernel
theorem d_Mod_many_39 : decode b_Mod_many 39 = .ok (.iconst 0, 1) := by decide +kernel
theorem d_Mod_many_35 : decode b_Mod_many 35 = .ok (.iconst 1, 1) := by decide +kernel
theorem d_Mod_many_36 : decode b_Mod_many 36 = .ok (.goto 4, 3) := by decide +kernel
theorem d_Mod_many_0 : decode b_Mod_many 0 = .ok (.iconst 0, 1) := by decide +kernel
theorem d_Mod_many_1 : decode b_Mod_many 1 = .ok (.istore 4, 2) := by decide +kernel
theorem d_Mod_many_3 : decode b_Mod_many 3 = .ok (.aload_n 0, 1) := by decide +kernel
theorem d_Mod_many_4 : decode b_Mod_many 4 = .ok (.getfield 78, 3) := by decide +kernel
theorem d_Mod_many_7 : decode b_Mod_many 7 = .ok (.iload_n 2, 1) := by decide +kernel
theorem d_Mod_many_8 : decode b_Mod_many 8 = .ok (.iaload, 1) := by decide +kernel
theorem d_Mod_many_9 : decode b_Mod_many 9 = .ok (.istore 5, 2) := by decide +kernel
theorem d_Mod_textsOf_46 : decode b_Mod_textsOf 46 = .ok (.iadd, 1) := by decide +kernel
theorem d_Mod_textsOf_47 : decode b_Mod_textsOf 47 = .ok (.istore 4, 2) := by decide +kernel
theorem d_Mod_textsOf_49 : decode b_Mod_textsOf 49 = .ok (.iinc 5 1, 3) := by decide +kernel
theorem d_Mod_textsOf_52 : decode b_Mod_textsOf 52 = .ok (.goto (-41), 3) := by decide +kernel
theorem d_Mod_textsOf_11 : decode b_Mod_textsOf 11 = .ok (.iload 5, 2) := by decide +kernel
theorem d_Mod_textsOf_13 : decode b_Mod_textsOf 13 = .ok (.aload_n 0, 1) := by decide +kernel
theorem d_Mod_textsOf_14 : decode b_Mod_textsOf 14 = .ok (.getfield 78, 3) := by decide +kernel
theorem d_Mod_textsOf_17 : decode b_Mod_textsOf 17 = .ok (.iload_n 3, 1) := by decide +kernel
theorem d_Mod_textsOf_18 : decode b_Mod_textsOf 18 = .ok (.iaload, 1) := by decide +kernel
theorem d_Mod_textsOf_19 : decode b_Mod_textsOf 19 = .ok (.if_icmp .ge 36, 3) := by decide +kernel
theorem d_Mod_textsOf_55 : decode b_Mod_textsOf 55 = .ok (.iload 4, 2) := by decide +kernel
theorem d_Mod_textsOf_57 : decode b_Mod_textsOf 57 = .ok (.ireturn, 1) := by decide +kernel
theorem d_Mod_textsOf_22 : decode b_Mod_textsOf 22 = .ok (.iload 4, 2) := by decide +kernel
theorem d_Mod_textsOf_24 : decode b_Mod_textsOf 24 = .ok (.aload_n 0, 1) := by decide +kernel
theorem d_Mod_textsOf_25 : decode b_Mod_textsOf 25 = .ok (.getfield 69, 3) := by decide +kernel
theorem d_Mod_textsOf_28 : decode b_Mod_textsOf 28 = .ok (.iload 5, 2) := by decide +kernel
theorem d_Mod_textsOf_30 : decode b_Mod_textsOf 30 = .ok (.iaload, 1) := by decide +kernel
theorem d_Mod_textsOf_31 : decode b_Mod_textsOf 31 = .ok (.iload_n 1, 1) := by decide +kernel
theorem d_Mod_textsOf_32 : decode b_Mod_textsOf 32 = .ok (.if_icmp .ne 13, 3) := by decide +kernel
theorem d_Mod_textsOf_45 : decode b_Mod_textsOf 45 = .ok (.iconst 0, 1) := by decide +kernel
theorem d_Mod_textsOf_35 : decode b_Mod_textsOf 35 = .ok (.aload_n 0, 1) := by decide +kernel
theorem d_Mod_textsOf_36 : decode b_Mod_textsOf 36 = .ok (.getfield 75, 3) := by decide +kernel
theorem d_Mod_textsOf_39 : decode b_Mod_textsOf 39 = .ok (.iload 5, 2) := by decide +kernel
theorem d_Mod_textsOf_41 : decode b_Mod_textsOf 41 = .ok (.iaload, 1) := by decide +kernel
theorem d_Mod_textsOf_42 : decode b_Mod_textsOf 42 = .ok (.goto 4, 3) := by decide +kernel
theorem d_Mod_textsOf_0 : decode b_Mod_textsOf 0 = .ok (.iconst 0, 1) := by decide +kernel
theorem d_Mod_textsOf_1 : decode b_Mod_textsOf 1 = .ok (.istore 4, 2) := by decide +kernel
theorem d_Mod_textsOf_3 : decode b_Mod_textsOf 3 = .ok (.aload_n 0, 1) := by decide +kernel
theorem d_Mod_textsOf_4 : decode b_Mod_textsOf 4 = .ok (.getfield 78, 3) := by decide +kernel
theorem d_Mod_textsOf_7 : decode b_Mod_textsOf 7 = .ok (.iload_n 2, 1) := by decide +kernel
theorem d_Mod_textsOf_8 : decode b_Mod_textsOf 8 = .ok (.iaload, 1) := by decide +kernel
theorem d_Mod_textsOf_9 : decode b_Mod_textsOf 9 = .ok (.istore 5, 2) := by decide +kernel
theorem d_Mod_typeOf_0 : decode b_Mod_typeOf 0 = .ok (.aload_n 0, 1) := by decide +kernel
theorem d_Mod_typeOf_1 : decode b_Mod_typeOf 1 = .ok (.getfield 20, 3) := by decide +kernel
theorem d_Mod_typeOf_4 : decode b_Mod_typeOf 4 = .ok (.iload_n 1, 1) := by decide +kernel
theorem d_Mod_typeOf_5 : decode b_Mod_typeOf 5 = .ok (.aload_n 0, 1) := by decide +kernel
theorem d_Mod_typeOf_6 : decode b_Mod_typeOf 6 = .ok (.getfield 41, 3) := by decide +kernel
theorem d_Mod_typeOf_9 : decode b_Mod_typeOf 9 = .ok (.bipush 64, 2) := by decide +kernel
theorem d_Mod_typeOf_11 : decode b_Mod_typeOf 11 = .ok (.iload_n 1, 1) := by decide +kernel
theorem d_Mod_typeOf_12 : decode b_Mod_typeOf 12 = .ok (.imul, 1) := by decide +kernel
theorem d_Mod_typeOf_13 : decode b_Mod_typeOf 13 = .ok (.iload_n 2, 1) := by decide +kernel
theorem d_Mod_typeOf_14 : decode b_Mod_typeOf 14 = .ok (.iadd, 1) := by decide +kernel
theorem d_Mod_typeOf_15 : decode b_Mod_typeOf 15 = .ok (.iaload, 1) := by decide +kernel
theorem d_Mod_typeOf_16 : decode b_Mod_typeOf 16 = .ok (.invokestatic 412, 3) := by decide +kernel
theorem d_Mod_typeOf_19 : decode b_Mod_typeOf 19 = .ok (.iaload, 1) := by decide +kernel
theorem d_Mod_typeOf_20 : decode b_Mod_typeOf 20 = .ok (.ireturn, 1) := by decide +kernel
theorem d_Mod_mostR_0 : decode b_Mod_mostR 0 = .ok (.aload_n 0, 1) := by decide +kernel
theorem d_Mod_mostR_1 : decode b_Mod_mostR 1 = .ok (.iload_n 1, 1) := by decide +kernel
theorem d_Mod_mostR_2 : decode b_Mod_mostR 2 = .ok (.aload_n 0, 1) := by decide +kernel
theorem d_Mod_mostR_3 : decode b_Mod_mostR 3 = .ok (.getfield 41, 3) := by decide +kernel
theorem d_Mod_mostR_6 : decode b_Mod_mostR 6 = .ok (.bipush 64, 2) := by decide +kernel
theorem d_Mod_mostR_8 : decode b_Mod_mostR 8 = .ok (.iload_n 1, 1) := by decide +kernel
theorem d_Mod_mostR_9 : decode b_Mod_mostR 9 = .ok (.imul, 1) := by decide +kernel
theorem d_Mod_mostR_10 : decode b_Mod_mostR 10 = .ok (.iload_n 2, 1) := by decide +kernel
theorem d_Mod_mostR_11 : decode b_Mod_mostR 11 = .ok (.iadd, 1) := by decide +kernel
theorem d_Mod_mostR_12 : decode b_Mod_mostR 12 = .ok (.iaload, 1) := by decide +kernel
theorem d_Mod_mostR_13 : decode b_Mod_mostR 13 = .ok (.iconst 1, 1) := by decide +kernel
theorem d_Mod_mostR_14 : decode b_Mod_mostR 14 = .ok (.invokevirtual 416, 3) := by decide +kernel
theorem d_Mod_mostR_17 : decode b_Mod_mostR 17 = .ok (.ireturn, 1) := by decide +kernel
theorem d_Mod_mostD_0 : decode b_Mod_mostD 0 = .ok (.aload_n 0, 1) := by decide +kernel
theorem d_Mod_mostD_1 : decode b_Mod_mostD 1 = .ok (.iload_n 1, 1) := by decide +kernel
theorem d_Mod_mostD_2 : decode b_Mod_mostD 2 = .ok (.aload_n 0, 1) := by decide +kernel
theorem d_Mod_mostD_3 : decode b_Mod_mostD 3 = .ok (.getfield 41, 3) := by decide +kernel
theorem d_Mod_mostD_6 : decode b_Mod_mostD 6 = .ok (.bipush 64, 2) := by decide +kernel
theorem d_Mod_mostD_8 : decode b_Mod_mostD 8 = .ok (.iload_n 1, 1) := by decide +kernel
theorem d_Mod_mostD_9 : decode b_Mod_mostD 9 = .ok (.imul, 1) := by decide +kernel
theorem d_Mod_mostD_10 : decode b_Mod_mostD 10 = .ok (.iload_n 2, 1) := by decide +kernel
theorem d_Mod_mostD_11 : decode b_Mod_mostD 11 = .ok (.iadd, 1) := by decide +kernel
theorem d_Mod_mostD_12 : decode b_Mod_mostD 12 = .ok (.iaload, 1) := by decide +kernel
theorem d_Mod_mostD_13 : decode b_Mod_mostD 13 = .ok (.iconst 0, 1) := by decide +kernel
theorem d_Mod_mostD_14 : decode b_Mod_mostD 14 = .ok (.invokevirtual 416, 3) := by decide +kernel
theorem d_Mod_mostD_17 : decode b_Mod_mostD 17 = .ok (.ireturn, 1) := by decide +kernel
section
variable (l : Launch) (dC : Nat → ClassId) (dI : Nat → Nat → Nat) (cI cB cJ cZ : ClassId)
set_option maxRecDepth 100000 in
set_option maxHeartbeats 4000000 in
set_option maxRecDepth 100000 in
theorem t_Mod_record_137 {p : Program} {l : Launch} {e : Env} {R : Room} {s : State} {m : MethodId} {args : Array Value} {below : List Frame} {meth : Method} {c : Code} {cells slots : Nat} {Q : State → Prop} {dC : Nat → ClassId} {dI : Nat → Nat → Nat} {cI cB cJ cZ : ClassId} {A : Nat → Prop} {ad : Nat → Nat} {post : Int32 → St → Prop} {rec137 : Int32 → Int32 → Int32 → St → Prop} (hx : p.tables.exec = Jvm.exec) (hb : c.code = b_Mod_record) (hml : c.maxLocals = 4) (hown : s.vm.findClass R_Mod = some m.cls) (hT : ∀ w ∈ TG, w.before args s = true) (hK : va_K (dC, dI) CL (TY cI cB cJ cZ) s) (hN : NW s) (hA : ∀ q : Nat, s.heap.size ≤ q → A q) (hRc : cells ≤ R.cells) (hRs : slots ≤ R.slots) (hRf : 206 ≤ R.frames) (hRl : 6100 ≤ R.locals) (hret : ∀ (r : Int32) (x : St) (H : Heap) (locs : List Loc) (pc : Nat) (ls : Array Slot), decode b_Mod_record pc = .ok (.ireturn, 1) → post r x → Wd dC dI cI cB cJ cZ ad stM kcM 115 A x H → va_S A s.heap H locs → W p l e R s m args below meth c H locs cells slots Q (F0 m pc ls [.int r])) (hrec137 : ∀ (l1 : Int32) (l2 : Int32) (l3 : Int32) (x : St) (H : Heap) (locs : List Loc) (ls : Array Slot), rec137 l1 l2 l3 x → Wd dC dI cI cB cJ cZ ad stM kcM 115 A x H → va_S A s.heap H locs → lv_has ls 4 [(0, .ref (ad 0)), (1, .int l1), (2, .int l2), (3, .int l3)] → W p l e R s m args below meth c H locs cells slots Q (F0 m 137 ls [])) : ∀ (l1 : Int32) (l2 : Int32) (l3 : Int32) (x : St) (H : Heap) (locs : List Loc) (ls : Array Slot), j_Mod_record_137 post rec137 l1 l2 l3 x → Wd dC dI cI cB cJ cZ ad stM kcM 115 A x H → va_S A s.heap H locs → lv_has ls 4 [(0, .ref (ad 0)), (1, .int l1), (2, .int l2), (3, .int l3)] → W p l e R s m args below meth c H locs cells slots Q (F0 m 137 ls []) := by
  intro l1 l2 l3 x H locs ls  hw hW hS hl
  unfold j_Mod_record_137 at hw
  refine lv_iload_n hx hb d_Mod_record_137 rfl (lv_at hl 3 rfl) ?_
  refine lv_aload_n hx hb d_Mod_record_138 rfl (lv_at hl 0 rfl) ?_
  refine w_getf (q := 10) (k := 12) (t := 12) (C := R_Mod) (T := F_Mod) (N := 167) hx hb hT hown hK hW ko_0.1 ko_0.2 (by decide) in_Mod rfl rfl (by decide) rfl fr_Mod_12 w_8_188 d_Mod_record_139 rfl ?_
  refine lv_iconst (v := 0) hx hb d_Mod_record_142 (by decide) ?_
  obtain ⟨hi, hw⟩ := hw
  refine w_iald (o := 10) hx hb hK hW ko_10.1 ko_10.2 hi d_Mod_record_143 ?_
  refine lv_icmp_ge (tgt := 162) hx hb d_Mod_record_144 (by decide) (fun c424 => ?_) (fun c424 => ?_)
  · have hw := hw.1 c424
    refine lv_aload_n hx hb d_Mod_record_162 rfl (lv_at hl 0 rfl) ?_
    refine w_geti (k := 37) (t := 12) (C := R_Mod) (T := F_Mod) (N := 167) hx hb hT hown hK hW ko_0.1 ko_0.2 (by decide) in_Mod rfl rfl (by decide) rfl fr_Mod_37 w_8_213 d_Mod_record_163 ?_
    refine lv_if_eq (tgt := 182) hx hb d_Mod_record_166 (by decide) (fun c425 => ?_) (fun c425 => ?_)
    · have hw := hw.1 c425
      refine lv_aload_n hx hb d_Mod_record_182 rfl (lv_at hl 0 rfl) ?_
      refine lv_dup hx hb d_Mod_record_183 rfl ?_
      refine w_geti (k := 34) (t := 12) (C := R_Mod) (T := F_Mod) (N := 167) hx hb hT hown hK hW ko_0.1 ko_0.2 (by decide) in_Mod rfl rfl (by decide) rfl fr_Mod_34 w_8_210 d_Mod_record_184 ?_
      refine lv_iconst (v := 1) hx hb d_Mod_record_187 (by decide) ?_
      refine lv_iadd hx hb d_Mod_record_188 ?_
      refine w_puti (ty := .int) (k := 34) (t := 12) (C := R_Mod) (T := F_Mod) (N := 167) hx hb hT hown hK hW hS ko_0.1 ko_0.2 (by decide) in_Mod t_Mod t_Mod_ok n_Mod rfl rfl (by decide) rfl fr_Mod_34 w_8_210 (by decide +kernel) rfl rfl d_Mod_record_189 (fun H locs hW hS => ?_)
      obtain ⟨x426, ex426⟩ : ∃ y : St, y = setI x 0 34 ((fI x 0 34) + 1) := ⟨_, rfl⟩
      rw [← ex426] at hW
      have hw := hw x426 ex426
      refine lv_aload_n hx hb d_Mod_record_192 rfl (lv_at hl 0 rfl) ?_
      refine w_getf (q := 23) (k := 31) (t := 12) (C := R_Mod) (T := F_Mod) (N := 167) hx hb hT hown hK hW ko_0.1 ko_0.2 (by decide) in_Mod rfl rfl (by decide) rfl fr_Mod_31 w_8_207 d_Mod_record_193 rfl ?_
      refine lv_aload_n hx hb d_Mod_record_196 rfl (lv_at hl 0 rfl) ?_
      refine w_geti (k := 34) (t := 12) (C := R_Mod) (T := F_Mod) (N := 167) hx hb hT hown hK hW ko_0.1 ko_0.2 (by decide) in_Mod rfl rfl (by decide) rfl fr_Mod_34 w_8_210 d_Mod_record_197 ?_
      refine lv_aload_n hx hb d_Mod_record_200 rfl (lv_at hl 0 rfl) ?_
      refine w_geti (k := 35) (t := 12) (C := R_Mod) (T := F_Mod) (N := 167) hx hb hT hown hK hW ko_0.1 ko_0.2 (by decide) in_Mod rfl rfl (by decide) rfl fr_Mod_35 w_8_211 d_Mod_record_201 ?_
      obtain ⟨hi, hw⟩ := hw
      refine w_iast (o := 23) hx hb hK hW hS ko_23.1 ko_23.2 hi d_Mod_record_204 (fun H locs hW hS => ?_)
      obtain ⟨x427, ex427⟩ : ∃ y : St, y = setA x426 23 (fI x426 0 34) (fI x426 0 35) := ⟨_, rfl⟩
      rw [← ex427] at hW
      have hw := hw x427 ex427
      refine lv_iconst (v := (-1)) hx hb d_Mod_record_205 (by decide) ?_
      exact hret (-1) x427 H locs 206 ls d_Mod_record_206 hw hW hS
    · have hw := hw.2 c425
      refine lv_aload_n hx hb d_Mod_record_169 rfl (lv_at hl 0 rfl) ?_
      refine lv_iload_n hx hb d_Mod_record_170 rfl (lv_at hl 1 rfl) ?_
      refine w_puti (ty := .int) (k := 35) (t := 12) (C := R_Mod) (T := F_Mod) (N := 167) hx hb hT hown hK hW hS ko_0.1 ko_0.2 (by decide) in_Mod t_Mod t_Mod_ok n_Mod rfl rfl (by decide) rfl fr_Mod_35 w_8_211 (by decide +kernel) rfl rfl d_Mod_record_171 (fun H locs hW hS => ?_)
      obtain ⟨x428, ex428⟩ : ∃ y : St, y = setI x 0 35 l1 := ⟨_, rfl⟩
      rw [← ex428] at hW
      have hw := hw x428 ex428
      refine lv_aload_n hx hb d_Mod_record_174 rfl (lv_at hl 0 rfl) ?_
      refine lv_iload_n hx hb d_Mod_record_175 rfl (lv_at hl 2 rfl) ?_
      refine w_puti (ty := .int) (k := 36) (t := 12) (C := R_Mod) (T := F_Mod) (N := 167) hx hb hT hown hK hW hS ko_0.1 ko_0.2 (by decide) in_Mod t_Mod t_Mod_ok n_Mod rfl rfl (by decide) rfl fr_Mod_36 w_8_212 (by decide +kernel) rfl rfl d_Mod_record_176 (fun H locs hW hS => ?_)
      obtain ⟨x429, ex429⟩ : ∃ y : St, y = setI x428 0 36 l2 := ⟨_, rfl⟩
      rw [← ex429] at hW
      have hw := hw x429 ex429
      refine lv_bipush (v := (-2)) hx hb d_Mod_record_179 (by decide) ?_
      exact hret (-2) x429 H locs 181 ls d_Mod_record_181 hw hW hS
  · have hw := hw.2 c424
    refine lv_aload_n hx hb d_Mod_record_147 rfl (lv_at hl 0 rfl) ?_
    refine lv_iload_n hx hb d_Mod_record_148 rfl (lv_at hl 3 rfl) ?_
    refine lv_iconst (v := 0) hx hb d_Mod_record_149 (by decide) ?_
    refine lv_iconst (v := 0) hx hb d_Mod_record_150 (by decide) ?_
    refine lv_iconst (v := 0) hx hb d_Mod_record_151 (by decide) ?_
    refine lv_iconst (v := 0) hx hb d_Mod_record_152 (by decide) ?_
    have hF := hW.free hS hA
    refine va_callv (va_runV (C := R_Mod) (As := [.int l3, .int 0, .int 0, .int 0, .int 0]) (rest := []) ⟨hx, hb, hml, hown, hT⟩ (k_Mod_stripe l dC dI cI cB cJ cZ ad H.size l3 0 0 0 0 x  hw) ⟨callB_of 5 hT (gwt_in w_11_106) rfl rfl rfl (hT _ w_1_15) (hT _ w_11_103) (by decide +kernel) ⟨Nat.le_trans (Nat.le_of_ble_eq_true rfl) hRf, Nat.le_trans (Nat.le_of_ble_eq_true rfl) hRl⟩, hT _ w_11_105, hT _ ws_134⟩ ⟨PW.blind, va_recv hK hW.1 (ci := 12) (q0 := 0) rfl (pic_obj ko_0.1 ko_0.2 (by decide)), PW.at _ hW hK hN⟩ rfl rfl hl.1 rfl (lv_room (Nat.le_of_ble_eq_true rfl)) d_Mod_record_153 ⟨hRc, hRs⟩) hS (fun q _ h => hF q h) hF (fun  x430 t H locs ht hvm hw hB hz1 hk1 hS => ?_)
    have hW := Wd.back hB ht hF
    clear hB ht hF hz1 hk1 hvm
    refine lv_iinc (v := (l3 + 1)) (lv' := [(3, .int (l3 + 1)), (0, .ref (ad 0)), (1, .int l1), (2, .int l2)]) hx hb d_Mod_record_156 hl (k := 3) rfl rfl (by decide) rfl (fun ls hl => ?_)
    refine lv_goto (tgt := 137) hx hb d_Mod_record_159 (by decide) ?_
    exact hrec137 l1 l2 (l3 + 1) x430 H locs ls  hw hW hS (lv_sub hl [1, 2, 3, 0] rfl)
set_option maxHeartbeats 4000000 in
set_option maxRecDepth 100000 in
theorem tl_Mod_record_137 {p : Program} {l : Launch} {e : Env} {R : Room} {s : State} {m : MethodId} {args : Array Value} {below : List Frame} {meth : Method} {c : Code} {cells slots : Nat} {Q : State → Prop} {dC : Nat → ClassId} {dI : Nat → Nat → Nat} {cI cB cJ cZ : ClassId} {A : Nat → Prop} {ad : Nat → Nat} {post : Int32 → St → Prop} (hx : p.tables.exec = Jvm.exec) (hb : c.code = b_Mod_record) (hml : c.maxLocals = 4) (hown : s.vm.findClass R_Mod = some m.cls) (hT : ∀ w ∈ TG, w.before args s = true) (hK : va_K (dC, dI) CL (TY cI cB cJ cZ) s) (hN : NW s) (hA : ∀ q : Nat, s.heap.size ≤ q → A q) (hRc : cells ≤ R.cells) (hRs : slots ≤ R.slots) (hRf : 206 ≤ R.frames) (hRl : 6100 ≤ R.locals) (hret : ∀ (r : Int32) (x : St) (H : Heap) (locs : List Loc) (pc : Nat) (ls : Array Slot), decode b_Mod_record pc = .ok (.ireturn, 1) → post r x → Wd dC dI cI cB cJ cZ ad stM kcM 115 A x H → va_S A s.heap H locs → W p l e R s m args below meth c H locs cells slots Q (F0 m pc ls [.int r]))  : ∀ n : Nat, ∀ (l1 : Int32) (l2 : Int32) (l3 : Int32) (x : St) (H : Heap) (locs : List Loc) (ls : Array Slot), wl_Mod_record_137 post n l1 l2 l3 x → Wd dC dI cI cB cJ cZ ad stM kcM 115 A x H → va_S A s.heap H locs → lv_has ls 4 [(0, .ref (ad 0)), (1, .int l1), (2, .int l2), (3, .int l3)] → W p l e R s m args below meth c H locs cells slots Q (F0 m 137 ls []) := by
  intro n
  induction n with
  | zero => intro l1 l2 l3 x H locs ls  hw; exact hw.elim
  | succ n ih => intro l1 l2 l3 x H locs ls  hw hW hS hl; exact t_Mod_record_137 hx hb hml hown hT hK hN hA hRc hRs hRf hRl hret  ih l1 l2 l3 x H locs ls  hw hW hS hl
set_option maxRecDepth 100000 in
set_option maxHeartbeats 4000000 in
set_option maxRecDepth 100000 in
theorem t_Mod_record_94 {p : Program} {l : Launch} {e : Env} {R : Room} {s : State} {m : MethodId} {args : Array Value} {below : List Frame} {meth : Method} {c : Code} {cells slots : Nat} {Q : State → Prop} {dC : Nat → ClassId} {dI : Nat → Nat → Nat} {cI cB cJ cZ : ClassId} {A : Nat → Prop} {ad : Nat → Nat} {post : Int32 → St → Prop} (hx : p.tables.exec = Jvm.exec) (hb : c.code = b_Mod_record) (hml : c.maxLocals = 4) (hown : s.vm.findClass R_Mod = some m.cls) (hT : ∀ w ∈ TG, w.before args s = true) (hK : va_K (dC, dI) CL (TY cI cB cJ cZ) s) (hN : NW s) (hA : ∀ q : Nat, s.heap.size ≤ q → A q) (hRc : cells ≤ R.cells) (hRs : slots ≤ R.slots) (hRf : 206 ≤ R.frames) (hRl : 6100 ≤ R.locals) (hret : ∀ (r : Int32) (x : St) (H : Heap) (locs : List Loc) (pc : Nat) (ls : Array Slot), decode b_Mod_record pc = .ok (.ireturn, 1) → post r x → Wd dC dI cI cB cJ cZ ad stM kcM 115 A x H → va_S A s.heap H locs → W p l e R s m args below meth c H locs cells slots Q (F0 m pc ls [.int r]))  : ∀  (x : St) (H : Heap) (locs : List Loc) (ls : Array Slot), j_Mod_record_94 post  x → Wd dC dI cI cB cJ cZ ad stM kcM 115 A x H → va_S A s.heap H locs → lv_has ls 4 [(0, .ref (ad 0))] → W p l e R s m args below meth c H locs cells slots Q (F0 m 94 ls []) := by
  intro  x H locs ls  hw hW hS hl
  unfold j_Mod_record_94 at hw
  refine lv_aload_n hx hb d_Mod_record_94 rfl (lv_at hl 0 rfl) ?_
  refine w_geti (k := 17) (t := 12) (C := R_Mod) (T := F_Mod) (N := 167) hx hb hT hown hK hW ko_0.1 ko_0.2 (by decide) in_Mod rfl rfl (by decide) rfl fr_Mod_17 w_8_193 d_Mod_record_95 ?_
  refine lv_iconst (v := (-1)) hx hb d_Mod_record_98 (by decide) ?_
  refine lv_icmp_eq (tgt := 107) hx hb d_Mod_record_99 (by decide) (fun c431 => ?_) (fun c431 => ?_)
  · have hw := hw.1 c431
    refine lv_aload_n hx hb d_Mod_record_107 rfl (lv_at hl 0 rfl) ?_
    refine w_geti (k := 34) (t := 12) (C := R_Mod) (T := F_Mod) (N := 167) hx hb hT hown hK hW ko_0.1 ko_0.2 (by decide) in_Mod rfl rfl (by decide) rfl fr_Mod_34 w_8_210 d_Mod_record_108 ?_
    refine lv_sipush (v := 2000) hx hb d_Mod_record_111 (by decide) ?_
    refine lv_icmp_ne (tgt := 120) hx hb d_Mod_record_114 (by decide) (fun c432 => ?_) (fun c432 => ?_)
    · have hw := hw.1 c432
      refine lv_aload_n hx hb d_Mod_record_120 rfl (lv_at hl 0 rfl) ?_
      refine w_geti (k := 35) (t := 12) (C := R_Mod) (T := F_Mod) (N := 167) hx hb hT hown hK hW ko_0.1 ko_0.2 (by decide) in_Mod rfl rfl (by decide) rfl fr_Mod_35 w_8_211 d_Mod_record_121 ?_
      refine lv_topi (fun v433 ev433 => ?_)
      have hw := hw v433 ev433
      refine lv_istore_n (lv' := [(1, .int v433), (0, .ref (ad 0))]) hx hb d_Mod_record_124 rfl hl (by decide) rfl (fun ls hl => ?_)
      refine lv_aload_n hx hb d_Mod_record_125 rfl (lv_at hl 1 rfl) ?_
      refine w_geti (k := 36) (t := 12) (C := R_Mod) (T := F_Mod) (N := 167) hx hb hT hown hK hW ko_0.1 ko_0.2 (by decide) in_Mod rfl rfl (by decide) rfl fr_Mod_36 w_8_212 d_Mod_record_126 ?_
      refine lv_topi (fun v434 ev434 => ?_)
      have hw := hw v434 ev434
      refine lv_istore_n (lv' := [(2, .int v434), (1, .int v433), (0, .ref (ad 0))]) hx hb d_Mod_record_129 rfl hl (by decide) rfl (fun ls hl => ?_)
      refine lv_aload_n hx hb d_Mod_record_130 rfl (lv_at hl 2 rfl) ?_
      refine lv_iconst (v := 0) hx hb d_Mod_record_131 (by decide) ?_
      refine w_puti (ty := .boolean) (k := 37) (t := 12) (C := R_Mod) (T := F_Mod) (N := 167) hx hb hT hown hK hW hS ko_0.1 ko_0.2 (by decide) in_Mod t_Mod t_Mod_ok n_Mod rfl rfl (by decide) rfl fr_Mod_37 w_8_213 (by decide +kernel) rfl rfl d_Mod_record_132 (fun H locs hW hS => ?_)
      obtain ⟨x435, ex435⟩ : ∃ y : St, y = setI x 0 37 0 := ⟨_, rfl⟩
      rw [← ex435] at hW
      have hw := hw x435 ex435
      refine lv_iconst (v := 0) hx hb d_Mod_record_135 (by decide) ?_
      refine lv_istore_n (lv' := [(3, .int 0), (2, .int v434), (1, .int v433), (0, .ref (ad 0))]) hx hb d_Mod_record_136 rfl hl (by decide) rfl (fun ls hl => ?_)
      obtain ⟨n, hw⟩ := hw
      exact tl_Mod_record_137 hx hb hml hown hT hK hN hA hRc hRs hRf hRl hret  n v433 v434 0 x435 H locs ls  hw hW hS (lv_sub hl [3, 2, 1, 0] rfl)
    · have hw := hw.2 c432
      refine lv_bipush (v := (-2)) hx hb d_Mod_record_117 (by decide) ?_
      exact hret (-2) x H locs 119 ls d_Mod_record_119 hw hW hS
  · have hw := hw.2 c431
    refine lv_aload_n hx hb d_Mod_record_102 rfl (lv_at hl 0 rfl) ?_
    refine w_geti (k := 17) (t := 12) (C := R_Mod) (T := F_Mod) (N := 167) hx hb hT hown hK hW ko_0.1 ko_0.2 (by decide) in_Mod rfl rfl (by decide) rfl fr_Mod_17 w_8_193 d_Mod_record_103 ?_
    exact hret (fI x 0 17) x H locs 106 ls d_Mod_record_106 hw hW hS
set_option maxRecDepth 100000 in
set_option maxHeartbeats 4000000 in
set_option maxRecDepth 100000 in
theorem t_Mod_record_e {p : Program} {l : Launch} {e : Env} {R : Room} {s : State} {m : MethodId} {args : Array Value} {below : List Frame} {meth : Method} {c : Code} {cells slots : Nat} {Q : State → Prop} {dC : Nat → ClassId} {dI : Nat → Nat → Nat} {cI cB cJ cZ : ClassId} {A : Nat → Prop} {ad : Nat → Nat} {post : Int32 → St → Prop} (hx : p.tables.exec = Jvm.exec) (hb : c.code = b_Mod_record) (hml : c.maxLocals = 4) (hown : s.vm.findClass R_Mod = some m.cls) (hT : ∀ w ∈ TG, w.before args s = true) (hK : va_K (dC, dI) CL (TY cI cB cJ cZ) s) (hN : NW s) (hA : ∀ q : Nat, s.heap.size ≤ q → A q) (hRc : cells ≤ R.cells) (hRs : slots ≤ R.slots) (hRf : 206 ≤ R.frames) (hRl : 6100 ≤ R.locals) (hret : ∀ (r : Int32) (x : St) (H : Heap) (locs : List Loc) (pc : Nat) (ls : Array Slot), decode b_Mod_record pc = .ok (.ireturn, 1) → post r x → Wd dC dI cI cB cJ cZ ad stM kcM 115 A x H → va_S A s.heap H locs → W p l e R s m args below meth c H locs cells slots Q (F0 m pc ls [.int r])) : ∀  (x : St) (H : Heap) (locs : List Loc) (ls : Array Slot), wp_Mod_record post  x → Wd dC dI cI cB cJ cZ ad stM kcM 115 A x H → va_S A s.heap H locs → lv_has ls 4 [(0, .ref (ad 0))] → W p l e R s m args below meth c H locs cells slots Q (F0 m 0 ls []) := by
  intro  x H locs ls  hw hW hS hl
  unfold wp_Mod_record at hw
  refine lv_aload_n hx hb d_Mod_record_0 rfl (lv_at hl 0 rfl) ?_
  refine lv_iconst (v := 0) hx hb d_Mod_record_1 (by decide) ?_
  refine w_puti (ty := .int) (k := 0) (t := 12) (C := R_Mod) (T := F_Mod) (N := 167) hx hb hT hown hK hW hS ko_0.1 ko_0.2 (by decide) in_Mod t_Mod t_Mod_ok n_Mod rfl rfl (by decide) rfl fr_Mod_0 w_8_176 (by decide +kernel) rfl rfl d_Mod_record_2 (fun H locs hW hS => ?_)
  obtain ⟨x436, ex436⟩ : ∃ y : St, y = setI x 0 0 0 := ⟨_, rfl⟩
  rw [← ex436] at hW
  have hw := hw x436 ex436
  refine lv_aload_n hx hb d_Mod_record_5 rfl (lv_at hl 0 rfl) ?_
  have hF := hW.free hS hA
  refine va_callv (va_runV (C := R_Mod) (As := []) (rest := []) ⟨hx, hb, hml, hown, hT⟩ (k_Mod_begins l dC dI cI cB cJ cZ ad H.size  x436  hw) ⟨callB_of 0 hT (gwt_in w_10_213) rfl rfl rfl (hT _ w_1_15) (hT _ w_10_210) (by decide +kernel) ⟨Nat.le_trans (Nat.le_of_ble_eq_true rfl) hRf, Nat.le_trans (Nat.le_of_ble_eq_true rfl) hRl⟩, hT _ w_10_212, hT _ ws_107⟩ ⟨PW.blind, va_recv hK hW.1 (ci := 12) (q0 := 0) rfl (pic_obj ko_0.1 ko_0.2 (by decide)), PW.at _ hW hK hN⟩ rfl rfl hl.1 rfl (lv_room (Nat.le_of_ble_eq_true rfl)) d_Mod_record_6 ⟨hRc, hRs⟩) hS (fun q _ h => hF q h) hF (fun  x437 t H locs ht hvm hw hB hz1 hk1 hS => ?_)
  have hW := Wd.back hB ht hF
  clear hB ht hF hz1 hk1 hvm
  refine lv_aload_n hx hb d_Mod_record_9 rfl (lv_at hl 0 rfl) ?_
  refine w_geti (k := 14) (t := 12) (C := R_Mod) (T := F_Mod) (N := 167) hx hb hT hown hK hW ko_0.1 ko_0.2 (by decide) in_Mod rfl rfl (by decide) rfl fr_Mod_14 w_8_190 d_Mod_record_10 ?_
  refine lv_if_ne (tgt := 19) hx hb d_Mod_record_13 (by decide) (fun c438 => ?_) (fun c438 => ?_)
  · have hw := hw.1 c438
    refine lv_aload_n hx hb d_Mod_record_19 rfl (lv_at hl 0 rfl) ?_
    refine w_geti (k := 15) (t := 12) (C := R_Mod) (T := F_Mod) (N := 167) hx hb hT hown hK hW ko_0.1 ko_0.2 (by decide) in_Mod rfl rfl (by decide) rfl fr_Mod_15 w_8_191 d_Mod_record_20 ?_
    refine lv_sipush (v := 4000) hx hb d_Mod_record_23 (by decide) ?_
    refine lv_icmp_le (tgt := 33) hx hb d_Mod_record_26 (by decide) (fun c439 => ?_) (fun c439 => ?_)
    · have hw := hw.1 c439
      refine lv_aload_n hx hb d_Mod_record_33 rfl (lv_at hl 0 rfl) ?_
      refine lv_iconst (v := 1) hx hb d_Mod_record_34 (by decide) ?_
      refine w_puti (ty := .int) (k := 24) (t := 12) (C := R_Mod) (T := F_Mod) (N := 167) hx hb hT hown hK hW hS ko_0.1 ko_0.2 (by decide) in_Mod t_Mod t_Mod_ok n_Mod rfl rfl (by decide) rfl fr_Mod_24 w_8_200 (by decide +kernel) rfl rfl d_Mod_record_35 (fun H locs hW hS => ?_)
      obtain ⟨x440, ex440⟩ : ∃ y : St, y = setI x437 0 24 1 := ⟨_, rfl⟩
      rw [← ex440] at hW
      have hw := hw x440 ex440
      refine lv_aload_n hx hb d_Mod_record_38 rfl (lv_at hl 0 rfl) ?_
      refine lv_iconst (v := 0) hx hb d_Mod_record_39 (by decide) ?_
      refine w_puti (ty := .int) (k := 25) (t := 12) (C := R_Mod) (T := F_Mod) (N := 167) hx hb hT hown hK hW hS ko_0.1 ko_0.2 (by decide) in_Mod t_Mod t_Mod_ok n_Mod rfl rfl (by decide) rfl fr_Mod_25 w_8_201 (by decide +kernel) rfl rfl d_Mod_record_40 (fun H locs hW hS => ?_)
      obtain ⟨x441, ex441⟩ : ∃ y : St, y = setI x440 0 25 0 := ⟨_, rfl⟩
      rw [← ex441] at hW
      have hw := hw x441 ex441
      refine lv_aload_n hx hb d_Mod_record_43 rfl (lv_at hl 0 rfl) ?_
      refine w_getf (q := 12) (k := 18) (t := 12) (C := R_Mod) (T := F_Mod) (N := 167) hx hb hT hown hK hW ko_0.1 ko_0.2 (by decide) in_Mod rfl rfl (by decide) rfl fr_Mod_18 w_8_194 d_Mod_record_44 rfl ?_
      refine lv_iconst (v := 0) hx hb d_Mod_record_47 (by decide) ?_
      refine lv_iconst (v := (-1)) hx hb d_Mod_record_48 (by decide) ?_
      obtain ⟨hi, hw⟩ := hw
      refine w_iast (o := 12) hx hb hK hW hS ko_12.1 ko_12.2 hi d_Mod_record_49 (fun H locs hW hS => ?_)
      obtain ⟨x442, ex442⟩ : ∃ y : St, y = setA x441 12 0 (-1) := ⟨_, rfl⟩
      rw [← ex442] at hW
      have hw := hw x442 ex442
      refine lv_aload_n hx hb d_Mod_record_50 rfl (lv_at hl 0 rfl) ?_
      refine w_getf (q := 13) (k := 19) (t := 12) (C := R_Mod) (T := F_Mod) (N := 167) hx hb hT hown hK hW ko_0.1 ko_0.2 (by decide) in_Mod rfl rfl (by decide) rfl fr_Mod_19 w_8_195 d_Mod_record_51 rfl ?_
      refine lv_iconst (v := 0) hx hb d_Mod_record_54 (by decide) ?_
      refine lv_iconst (v := (-1)) hx hb d_Mod_record_55 (by decide) ?_
      obtain ⟨hi, hw⟩ := hw
      refine w_iast (o := 13) hx hb hK hW hS ko_13.1 ko_13.2 hi d_Mod_record_56 (fun H locs hW hS => ?_)
      obtain ⟨x443, ex443⟩ : ∃ y : St, y = setA x442 13 0 (-1) := ⟨_, rfl⟩
      rw [← ex443] at hW
      have hw := hw x443 ex443
      refine lv_aload_n hx hb d_Mod_record_57 rfl (lv_at hl 0 rfl) ?_
      refine lv_iconst (v := 0) hx hb d_Mod_record_58 (by decide) ?_
      refine lv_iconst (v := (-1)) hx hb d_Mod_record_59 (by decide) ?_
      have hF := hW.free hS hA
      refine va_callv (va_runV (C := R_Mod) (As := [.int 0, .int (-1)]) (rest := []) ⟨hx, hb, hml, hown, hT⟩ (k_Mod_readGroup l dC dI cI cB cJ cZ ad H.size 0 (-1) x443  hw) ⟨callB_of 2 hT (gwt_in w_11_62) rfl rfl rfl (hT _ w_1_15) (hT _ w_11_59) (by decide +kernel) ⟨Nat.le_trans (Nat.le_of_ble_eq_true rfl) hRf, Nat.le_trans (Nat.le_of_ble_eq_true rfl) hRl⟩, hT _ w_11_61, hT _ ws_124⟩ ⟨PW.blind, va_recv hK hW.1 (ci := 12) (q0 := 0) rfl (pic_obj ko_0.1 ko_0.2 (by decide)), PW.at _ hW hK hN⟩ rfl rfl hl.1 rfl (lv_room (Nat.le_of_ble_eq_true rfl)) d_Mod_record_60 ⟨hRc, hRs⟩) hS (fun q _ h => hF q h) hF (fun  x444 t H locs ht hvm hw hB hz1 hk1 hS => ?_)
      have hW := Wd.back hB ht hF
      clear hB ht hF hz1 hk1 hvm
      refine lv_aload_n hx hb d_Mod_record_63 rfl (lv_at hl 0 rfl) ?_
      have hF := hW.free hS hA
      refine va_callv (va_runV (C := R_Mod) (As := []) (rest := []) ⟨hx, hb, hml, hown, hT⟩ (k_Mod_blanks l dC dI cI cB cJ cZ ad H.size  x444  hw) ⟨callB_of 0 hT (gwt_in w_10_230) rfl rfl rfl (hT _ w_1_15) (hT _ w_10_227) (by decide +kernel) ⟨Nat.le_trans (Nat.le_of_ble_eq_true rfl) hRf, Nat.le_trans (Nat.le_of_ble_eq_true rfl) hRl⟩, hT _ w_10_229, hT _ ws_111⟩ ⟨PW.blind, va_recv hK hW.1 (ci := 12) (q0 := 0) rfl (pic_obj ko_0.1 ko_0.2 (by decide)), PW.at _ hW hK hN⟩ rfl rfl hl.1 rfl (lv_room (Nat.le_of_ble_eq_true rfl)) d_Mod_record_64 ⟨hRc, hRs⟩) hS (fun q _ h => hF q h) hF (fun  x445 t H locs ht hvm hw hB hz1 hk1 hS => ?_)
      have hW := Wd.back hB ht hF
      clear hB ht hF hz1 hk1 hvm
      refine lv_aload_n hx hb d_Mod_record_67 rfl (lv_at hl 0 rfl) ?_
      refine w_geti (k := 17) (t := 12) (C := R_Mod) (T := F_Mod) (N := 167) hx hb hT hown hK hW ko_0.1 ko_0.2 (by decide) in_Mod rfl rfl (by decide) rfl fr_Mod_17 w_8_193 d_Mod_record_68 ?_
      refine lv_iconst (v := (-1)) hx hb d_Mod_record_71 (by decide) ?_
      refine lv_icmp_ne (tgt := 94) hx hb d_Mod_record_72 (by decide) (fun c446 => ?_) (fun c446 => ?_)
      · have hw := hw.1 c446
        exact t_Mod_record_94 hx hb hml hown hT hK hN hA hRc hRs hRf hRl hret   x445 H locs ls  hw hW hS (lv_sub hl [0] rfl)
      · have hw := hw.2 c446
        refine lv_aload_n hx hb d_Mod_record_75 rfl (lv_at hl 0 rfl) ?_
        refine w_geti (k := 16) (t := 12) (C := R_Mod) (T := F_Mod) (N := 167) hx hb hT hown hK hW ko_0.1 ko_0.2 (by decide) in_Mod rfl rfl (by decide) rfl fr_Mod_16 w_8_192 d_Mod_record_76 ?_
        refine lv_aload_n hx hb d_Mod_record_79 rfl (lv_at hl 0 rfl) ?_
        refine w_geti (k := 15) (t := 12) (C := R_Mod) (T := F_Mod) (N := 167) hx hb hT hown hK hW ko_0.1 ko_0.2 (by decide) in_Mod rfl rfl (by decide) rfl fr_Mod_15 w_8_191 d_Mod_record_80 ?_
        refine lv_icmp_ge (tgt := 94) hx hb d_Mod_record_83 (by decide) (fun c447 => ?_) (fun c447 => ?_)
        · have hw := hw.1 c447
          exact t_Mod_record_94 hx hb hml hown hT hK hN hA hRc hRs hRf hRl hret   x445 H locs ls  hw hW hS (lv_sub hl [0] rfl)
        · have hw := hw.2 c447
          refine lv_aload_n hx hb d_Mod_record_86 rfl (lv_at hl 0 rfl) ?_
          refine lv_aload_n hx hb d_Mod_record_87 rfl (lv_at hl 0 rfl) ?_
          refine w_geti (k := 16) (t := 12) (C := R_Mod) (T := F_Mod) (N := 167) hx hb hT hown hK hW ko_0.1 ko_0.2 (by decide) in_Mod rfl rfl (by decide) rfl fr_Mod_16 w_8_192 d_Mod_record_88 ?_
          have hF := hW.free hS hA
          refine va_callv (va_runV (C := R_Mod) (As := [.int (fI x445 0 16)]) (rest := []) ⟨hx, hb, hml, hown, hT⟩ (k_Mod_fail l dC dI cI cB cJ cZ ad H.size (fI x445 0 16) x445  hw) ⟨callB_of 1 hT (gwt_in w_11_14) rfl rfl rfl (hT _ w_1_15) (hT _ w_11_11) (by decide +kernel) ⟨Nat.le_trans (Nat.le_of_ble_eq_true rfl) hRf, Nat.le_trans (Nat.le_of_ble_eq_true rfl) hRl⟩, hT _ w_11_13, hT _ ws_115⟩ ⟨PW.blind, va_recv hK hW.1 (ci := 12) (q0 := 0) rfl (pic_obj ko_0.1 ko_0.2 (by decide)), PW.at _ hW hK hN⟩ rfl rfl hl.1 rfl (lv_room (Nat.le_of_ble_eq_true rfl)) d_Mod_record_91 ⟨hRc, hRs⟩) hS (fun q _ h => hF q h) hF (fun  x448 t H locs ht hvm hw hB hz1 hk1 hS => ?_)
          have hW := Wd.back hB ht hF
          clear hB ht hF hz1 hk1 hvm
          exact t_Mod_record_94 hx hb hml hown hT hK hN hA hRc hRs hRf hRl hret   x448 H locs ls  hw hW hS (lv_sub hl [0] rfl)
    · have hw := hw.2 c439
      refine lv_sipush (v := 4000) hx hb d_Mod_record_29 (by decide) ?_
      exact hret 4000 x437 H locs 32 ls d_Mod_record_32 hw hW hS
  · have hw := hw.2 c438
    refine lv_bipush (v := (-2)) hx hb d_Mod_record_16 (by decide) ?_
    exact hret (-2) x437 H locs 18 ls d_Mod_record_18 hw hW hS
set_option maxHeartbeats 4000000 in
set_option maxRecDepth 100000 in
theorem k_Mod_record (l : Launch) (dC : Nat → ClassId) (dI : Nat → Nat → Nat) (cI cB cJ cZ : ClassId) (ad : Nat → Nat) (sz : Nat)  (x : St) {post : Int32 → St → Prop} (hw : wp_Mod_record post  x) : Met l y_Mod_record (wsOf y_Mod_record b_Mod_record 4 (some (.int))) ({ frames := 206, cells := 0, slots := 0, locals := 6100 }) (va_Pc [.ref (ad 0)] (PW dC dI cI cB cJ cZ ad stM kcM 115 sz x)) (va_Qi (fun (r : Int32) (y : St) => post r y) (fun y t => Wd dC dI cI cB cJ cZ ad stM kcM 115 (va_A (pic ad stM kcM 115 cI cB cJ cZ x) sz) y t.heap) (va_A (pic ad stM kcM 115 cI cB cJ cZ x) sz)) 0 0 (va_A (pic ad stM kcM 115 cI cB cJ cZ x) sz) := by
  refine Met.ofW (cc := b_Mod_record) (maxL := 4) (ret := some (.int)) (by decide) rfl ?_
  intro p e s m args below meth c s₁ B hml hv
  obtain ⟨rfl, hsz, hW0, hK, hN⟩ := hv
  have hx := B.exec
  have hb := B.bytes
  have hr := B.returns
  have hts := atoms_spec B.pre
  have hT : ∀ w ∈ TG, w.before _ s = true := fun w h => hts w (List.mem_cons_of_mem _ h)
  have hown : s.vm.findClass R_Mod = some m.cls := findClass_of_methodNamed B.named
  have hlocks := B.notSynchronized
  subst hsz
  have hW : Wd dC dI cI cB cJ cZ ad stM kcM 115 (va_A (pic ad stM kcM 115 cI cB cJ cZ x) s.heap.size) x s.heap := ⟨hW0.1, hW0.2.1.self (sz := s.heap.size), hW0.2.2⟩
  generalize hAe : va_A (pic ad stM kcM 115 cI cB cJ cZ x) s.heap.size = A at hW ⊢
  have hA : ∀ q : Nat, s.heap.size ≤ q → A q := fun q h => by rw [← hAe]; exact Or.inr h
  have hS : va_S A s.heap s.heap [] := va_S.rf
  have hl := lv_entry ([.ref (ad 0)]) (n := 4) (Nat.le_of_ble_eq_true rfl)
  rw [lg_entry_eq]
  generalize (lg_sl ([.ref (ad 0)]) ++ List.replicate (4 - (lg_sl ([.ref (ad 0)])).length) Slot.unset).toArray = ls at hl ⊢
  have hl : lv_has ls 4 [(0, .ref (ad 0))] := hl
  exact t_Mod_record_e hx hb hml hown hT hK hN hA (Nat.le_refl 0) (Nat.le_refl 0) (Nat.le_refl 206) (Nat.le_refl 6100) (fun r x H locs pc ls hd hp hW hS => W.iret (v := r) hx hb hr (fun t ht hM => ⟨⟨r, x, rfl, hp, Wd.back hW ht.symm (fun _ z => z)⟩, hS.F ht⟩) hS.2.2 hd hlocks)   x _ _ ls  hw hW hS hl
set_option maxRecDepth 100000 in
set_option maxHeartbeats 4000000 in
set_option maxRecDepth 100000 in
theorem t_Mod_records_e {p : Program} {l : Launch} {e : Env} {R : Room} {s : State} {m : MethodId} {args : Array Value} {below : List Frame} {meth : Method} {c : Code} {cells slots : Nat} {Q : State → Prop} {dC : Nat → ClassId} {dI : Nat → Nat → Nat} {cI cB cJ cZ : ClassId} {A : Nat → Prop} {ad : Nat → Nat} {post : Int32 → St → Prop} (hx : p.tables.exec = Jvm.exec) (hb : c.code = b_Mod_records) (hml : c.maxLocals = 1) (hown : s.vm.findClass R_Mod = some m.cls) (hT : ∀ w ∈ TG, w.before args s = true) (hK : va_K (dC, dI) CL (TY cI cB cJ cZ) s) (hN : NW s) (hA : ∀ q : Nat, s.heap.size ≤ q → A q) (hRc : cells ≤ R.cells) (hRs : slots ≤ R.slots) (hRf : 0 ≤ R.frames) (hRl : 0 ≤ R.locals) (hret : ∀ (r : Int32) (x : St) (H : Heap) (locs : List Loc) (pc : Nat) (ls : Array Slot), decode b_Mod_records pc = .ok (.ireturn, 1) → post r x → Wd dC dI cI cB cJ cZ ad stM kcM 115 A x H → va_S A s.heap H locs → W p l e R s m args below meth c H locs cells slots Q (F0 m pc ls [.int r])) : ∀  (x : St) (H : Heap) (locs : List Loc) (ls : Array Slot), wp_Mod_records post  x → Wd dC dI cI cB cJ cZ ad stM kcM 115 A x H → va_S A s.heap H locs → lv_has ls 1 [(0, .ref (ad 0))] → W p l e R s m args below meth c H locs cells slots Q (F0 m 0 ls []) := by
  intro  x H locs ls  hw hW hS hl
  unfold wp_Mod_records at hw
  refine lv_aload_n hx hb d_Mod_records_0 rfl (lv_at hl 0 rfl) ?_
  refine lv_iconst (v := 0) hx hb d_Mod_records_1 (by decide) ?_
  refine w_puti (ty := .int) (k := 0) (t := 12) (C := R_Mod) (T := F_Mod) (N := 167) hx hb hT hown hK hW hS ko_0.1 ko_0.2 (by decide) in_Mod t_Mod t_Mod_ok n_Mod rfl rfl (by decide) rfl fr_Mod_0 w_8_176 (by decide +kernel) rfl rfl d_Mod_records_2 (fun H locs hW hS => ?_)
  obtain ⟨x449, ex449⟩ : ∃ y : St, y = setI x 0 0 0 := ⟨_, rfl⟩
  rw [← ex449] at hW
  have hw := hw x449 ex449
  refine lv_aload_n hx hb d_Mod_records_5 rfl (lv_at hl 0 rfl) ?_
  refine w_geti (k := 34) (t := 12) (C := R_Mod) (T := F_Mod) (N := 167) hx hb hT hown hK hW ko_0.1 ko_0.2 (by decide) in_Mod rfl rfl (by decide) rfl fr_Mod_34 w_8_210 d_Mod_records_6 ?_
  exact hret (fI x449 0 34) x449 H locs 9 ls d_Mod_records_9 hw hW hS
set_option maxHeartbeats 4000000 in
set_option maxRecDepth 100000 in
theorem k_Mod_records (l : Launch) (dC : Nat → ClassId) (dI : Nat → Nat → Nat) (cI cB cJ cZ : ClassId) (ad : Nat → Nat) (sz : Nat)  (x : St) {post : Int32 → St → Prop} (hw : wp_Mod_records post  x) : Met l y_Mod_records (wsOf y_Mod_records b_Mod_records 1 (some (.int))) ({ frames := 0, cells := 0, slots := 0, locals := 0 }) (va_Pc [.ref (ad 0)] (PW dC dI cI cB cJ cZ ad stM kcM 115 sz x)) (va_Qi (fun (r : Int32) (y : St) => post r y) (fun y t => Wd dC dI cI cB cJ cZ ad stM kcM 115 (va_A (pic ad stM kcM 115 cI cB cJ cZ x) sz) y t.heap) (va_A (pic ad stM kcM 115 cI cB cJ cZ x) sz)) 0 0 (va_A (pic ad stM kcM 115 cI cB cJ cZ x) sz) := by
  refine Met.ofW (cc := b_Mod_records) (maxL := 1) (ret := some (.int)) (by decide) rfl ?_
  intro p e s m args below meth c s₁ B hml hv
  obtain ⟨rfl, hsz, hW0, hK, hN⟩ := hv
  have hx := B.exec
  have hb := B.bytes
  have hr := B.returns
  have hts := atoms_spec B.pre
  have hT : ∀ w ∈ TG, w.before _ s = true := fun w h => hts w (List.mem_cons_of_mem _ h)
  have hown : s.vm.findClass R_Mod = some m.cls := findClass_of_methodNamed B.named
  have hlocks := B.notSynchronized
  subst hsz
  have hW : Wd dC dI cI cB cJ cZ ad stM kcM 115 (va_A (pic ad stM kcM 115 cI cB cJ cZ x) s.heap.size) x s.heap := ⟨hW0.1, hW0.2.1.self (sz := s.heap.size), hW0.2.2⟩
  generalize hAe : va_A (pic ad stM kcM 115 cI cB cJ cZ x) s.heap.size = A at hW ⊢
  have hA : ∀ q : Nat, s.heap.size ≤ q → A q := fun q h => by rw [← hAe]; exact Or.inr h
  have hS : va_S A s.heap s.heap [] := va_S.rf
  have hl := lv_entry ([.ref (ad 0)]) (n := 1) (Nat.le_of_ble_eq_true rfl)
  rw [lg_entry_eq]
  generalize (lg_sl ([.ref (ad 0)]) ++ List.replicate (1 - (lg_sl ([.ref (ad 0)])).length) Slot.unset).toArray = ls at hl ⊢
  have hl : lv_has ls 1 [(0, .ref (ad 0))] := hl
  exact t_Mod_records_e hx hb hml hown hT hK hN hA (Nat.le_refl 0) (Nat.le_refl 0) (Nat.le_refl 0) (Nat.le_refl 0) (fun r x H locs pc ls hd hp hW hS => W.iret (v := r) hx hb hr (fun t ht hM => ⟨⟨r, x, rfl, hp, Wd.back hW ht.symm (fun _ z => z)⟩, hS.F ht⟩) hS.2.2 hd hlocks)   x _ _ ls  hw hW hS hl
set_option maxRecDepth 100000 in
set_option maxHeartbeats 4000000 in
set_option maxRecDepth 100000 in
theorem t_Mod_clear_e {p : Program} {l : Launch} {e : Env} {R : Room} {s : State} {m : MethodId} {args : Array Value} {below : List Frame} {meth : Method} {c : Code} {cells slots : Nat} {Q : State → Prop} {dC : Nat → ClassId} {dI : Nat → Nat → Nat} {cI cB cJ cZ : ClassId} {A : Nat → Prop} {ad : Nat → Nat} {post : St → Prop} (hx : p.tables.exec = Jvm.exec) (hb : c.code = b_Mod_clear) (hml : c.maxLocals = 1) (hown : s.vm.findClass R_Mod = some m.cls) (hT : ∀ w ∈ TG, w.before args s = true) (hK : va_K (dC, dI) CL (TY cI cB cJ cZ) s) (hN : NW s) (hA : ∀ q : Nat, s.heap.size ≤ q → A q) (hRc : cells ≤ R.cells) (hRs : slots ≤ R.slots) (hRf : 1 ≤ R.frames) (hRl : 20 ≤ R.locals) (hret : ∀ (x : St) (H : Heap) (locs : List Loc) (pc : Nat) (ls : Array Slot), decode b_Mod_clear pc = .ok (.return_, 1) → post x → Wd dC dI cI cB cJ cZ ad stM kcM 115 A x H → va_S A s.heap H locs → W p l e R s m args below meth c H locs cells slots Q (F0 m pc ls [])) : ∀  (x : St) (H : Heap) (locs : List Loc) (ls : Array Slot), wp_Mod_clear post  x → Wd dC dI cI cB cJ cZ ad stM kcM 115 A x H → va_S A s.heap H locs → lv_has ls 1 [(0, .ref (ad 0))] → W p l e R s m args below meth c H locs cells slots Q (F0 m 0 ls []) := by
  intro  x H locs ls  hw hW hS hl
  unfold wp_Mod_clear at hw
  refine lv_aload_n hx hb d_Mod_clear_0 rfl (lv_at hl 0 rfl) ?_
  refine lv_iconst (v := 0) hx hb d_Mod_clear_1 (by decide) ?_
  refine w_puti (ty := .int) (k := 0) (t := 12) (C := R_Mod) (T := F_Mod) (N := 167) hx hb hT hown hK hW hS ko_0.1 ko_0.2 (by decide) in_Mod t_Mod t_Mod_ok n_Mod rfl rfl (by decide) rfl fr_Mod_0 w_8_176 (by decide +kernel) rfl rfl d_Mod_clear_2 (fun H locs hW hS => ?_)
  obtain ⟨x450, ex450⟩ : ∃ y : St, y = setI x 0 0 0 := ⟨_, rfl⟩
  rw [← ex450] at hW
  have hw := hw x450 ex450
  refine lv_aload_n hx hb d_Mod_clear_5 rfl (lv_at hl 0 rfl) ?_
  have hF := hW.free hS hA
  refine va_callv (va_runV (C := R_Mod) (As := []) (rest := []) ⟨hx, hb, hml, hown, hT⟩ (k_Mod_empty l dC dI cI cB cJ cZ ad H.size  x450  hw) ⟨callB_of 0 hT (gwt_in w_11_54) rfl rfl rfl (hT _ w_1_15) (hT _ w_11_51) (by decide +kernel) ⟨Nat.le_trans (Nat.le_of_ble_eq_true rfl) hRf, Nat.le_trans (Nat.le_of_ble_eq_true rfl) hRl⟩, hT _ w_11_53, hT _ ws_123⟩ ⟨PW.blind, va_recv hK hW.1 (ci := 12) (q0 := 0) rfl (pic_obj ko_0.1 ko_0.2 (by decide)), PW.at _ hW hK hN⟩ rfl rfl hl.1 rfl (lv_room (Nat.le_of_ble_eq_true rfl)) d_Mod_clear_6 ⟨hRc, hRs⟩) hS (fun q _ h => hF q h) hF (fun  x451 t H locs ht hvm hw hB hz1 hk1 hS => ?_)
  have hW := Wd.back hB ht hF
  clear hB ht hF hz1 hk1 hvm
  exact hret x451 H locs 9 ls d_Mod_clear_9 hw hW hS
set_option maxHeartbeats 4000000 in
set_option maxRecDepth 100000 in
theorem k_Mod_clear (l : Launch) (dC : Nat → ClassId) (dI : Nat → Nat → Nat) (cI cB cJ cZ : ClassId) (ad : Nat → Nat) (sz : Nat)  (x : St) {post : St → Prop} (hw : wp_Mod_clear post  x) : Met l y_Mod_clear (wsOf y_Mod_clear b_Mod_clear 1 (none)) ({ frames := 1, cells := 0, slots := 0, locals := 20 }) (va_Pc [.ref (ad 0)] (PW dC dI cI cB cJ cZ ad stM kcM 115 sz x)) (va_Qv (fun (y : St) => post y) (fun y t => Wd dC dI cI cB cJ cZ ad stM kcM 115 (va_A (pic ad stM kcM 115 cI cB cJ cZ x) sz) y t.heap) (va_A (pic ad stM kcM 115 cI cB cJ cZ x) sz)) 0 0 (va_A (pic ad stM kcM 115 cI cB cJ cZ x) sz) := by
  refine Met.ofW (cc := b_Mod_clear) (maxL := 1) (ret := none) (by decide) rfl ?_
  intro p e s m args below meth c s₁ B hml hv
  obtain ⟨rfl, hsz, hW0, hK, hN⟩ := hv
  have hx := B.exec
  have hb := B.bytes
  have hr := B.returns
  have hts := atoms_spec B.pre
  have hT : ∀ w ∈ TG, w.before _ s = true := fun w h => hts w (List.mem_cons_of_mem _ h)
  have hown : s.vm.findClass R_Mod = some m.cls := findClass_of_methodNamed B.named
  have hlocks := B.notSynchronized
  subst hsz
  have hW : Wd dC dI cI cB cJ cZ ad stM kcM 115 (va_A (pic ad stM kcM 115 cI cB cJ cZ x) s.heap.size) x s.heap := ⟨hW0.1, hW0.2.1.self (sz := s.heap.size), hW0.2.2⟩
  generalize hAe : va_A (pic ad stM kcM 115 cI cB cJ cZ x) s.heap.size = A at hW ⊢
  have hA : ∀ q : Nat, s.heap.size ≤ q → A q := fun q h => by rw [← hAe]; exact Or.inr h
  have hS : va_S A s.heap s.heap [] := va_S.rf
  have hl := lv_entry ([.ref (ad 0)]) (n := 1) (Nat.le_of_ble_eq_true rfl)
  rw [lg_entry_eq]
  generalize (lg_sl ([.ref (ad 0)]) ++ List.replicate (1 - (lg_sl ([.ref (ad 0)])).length) Slot.unset).toArray = ls at hl ⊢
  have hl : lv_has ls 1 [(0, .ref (ad 0))] := hl
  exact t_Mod_clear_e hx hb hml hown hT hK hN hA (Nat.le_refl 0) (Nat.le_refl 0) (Nat.le_refl 1) (Nat.le_refl 20) (fun x H locs pc ls hd hp hW hS => W.vret hx hb hr (fun t ht hM => ⟨⟨x, rfl, hp, Wd.back hW ht.symm (fun _ z => z)⟩, hS.F ht⟩) hS.2.2 hd hlocks)   x _ _ ls  hw hW hS hl
set_option maxRecDepth 100000 in
set_option maxHeartbeats 4000000 in
set_option maxRecDepth 100000 in
theorem t_Mod_addByte_19 {p : Program} {l : Launch} {e : Env} {R : Room} {s : State} {m : MethodId} {args : Array Value} {below : List Frame} {meth : Method} {c : Code} {cells slots : Nat} {Q : State → Prop} {dC : Nat → ClassId} {dI : Nat → Nat → Nat} {cI cB cJ cZ : ClassId} {A : Nat → Prop} {ad : Nat → Nat} {post : St → Prop} (hx : p.tables.exec = Jvm.exec) (hb : c.code = b_Mod_addByte) (hml : c.maxLocals = 2) (hown : s.vm.findClass R_Mod = some m.cls) (hT : ∀ w ∈ TG, w.before args s = true) (hK : va_K (dC, dI) CL (TY cI cB cJ cZ) s) (hN : NW s) (hA : ∀ q : Nat, s.heap.size ≤ q → A q) (hRc : cells ≤ R.cells) (hRs : slots ≤ R.slots) (hRf : 0 ≤ R.frames) (hRl : 0 ≤ R.locals) (hret : ∀ (x : St) (H : Heap) (locs : List Loc) (pc : Nat) (ls : Array Slot), decode b_Mod_addByte pc = .ok (.return_, 1) → post x → Wd dC dI cI cB cJ cZ ad stM kcM 115 A x H → va_S A s.heap H locs → W p l e R s m args below meth c H locs cells slots Q (F0 m pc ls []))  : ∀ (l1 : Int32) (x : St) (H : Heap) (locs : List Loc) (ls : Array Slot), j_Mod_addByte_19 post l1 x → Wd dC dI cI cB cJ cZ ad stM kcM 115 A x H → va_S A s.heap H locs → lv_has ls 2 [(0, .ref (ad 0)), (1, .int l1)] → W p l e R s m args below meth c H locs cells slots Q (F0 m 19 ls []) := by
  intro l1 x H locs ls  hw hW hS hl
  unfold j_Mod_addByte_19 at hw
  refine lv_aload_n hx hb d_Mod_addByte_19 rfl (lv_at hl 0 rfl) ?_
  refine lv_dup hx hb d_Mod_addByte_20 rfl ?_
  refine w_geti (k := 66) (t := 12) (C := R_Mod) (T := F_Mod) (N := 167) hx hb hT hown hK hW ko_0.1 ko_0.2 (by decide) in_Mod rfl rfl (by decide) rfl fr_Mod_66 w_9_2 d_Mod_addByte_21 ?_
  refine lv_iconst (v := 1) hx hb d_Mod_addByte_24 (by decide) ?_
  refine lv_iadd hx hb d_Mod_addByte_25 ?_
  refine w_puti (ty := .int) (k := 66) (t := 12) (C := R_Mod) (T := F_Mod) (N := 167) hx hb hT hown hK hW hS ko_0.1 ko_0.2 (by decide) in_Mod t_Mod t_Mod_ok n_Mod rfl rfl (by decide) rfl fr_Mod_66 w_9_2 (by decide +kernel) rfl rfl d_Mod_addByte_26 (fun H locs hW hS => ?_)
  obtain ⟨x452, ex452⟩ : ∃ y : St, y = setI x 0 66 ((fI x 0 66) + 1) := ⟨_, rfl⟩
  rw [← ex452] at hW
  have hw := hw x452 ex452
  exact hret x452 H locs 29 ls d_Mod_addByte_29 hw hW hS
set_option maxRecDepth 100000 in
set_option maxHeartbeats 4000000 in
set_option maxRecDepth 100000 in
theorem t_Mod_addByte_e {p : Program} {l : Launch} {e : Env} {R : Room} {s : State} {m : MethodId} {args : Array Value} {below : List Frame} {meth : Method} {c : Code} {cells slots : Nat} {Q : State → Prop} {dC : Nat → ClassId} {dI : Nat → Nat → Nat} {cI cB cJ cZ : ClassId} {A : Nat → Prop} {ad : Nat → Nat} {post : St → Prop} (hx : p.tables.exec = Jvm.exec) (hb : c.code = b_Mod_addByte) (hml : c.maxLocals = 2) (hown : s.vm.findClass R_Mod = some m.cls) (hT : ∀ w ∈ TG, w.before args s = true) (hK : va_K (dC, dI) CL (TY cI cB cJ cZ) s) (hN : NW s) (hA : ∀ q : Nat, s.heap.size ≤ q → A q) (hRc : cells ≤ R.cells) (hRs : slots ≤ R.slots) (hRf : 0 ≤ R.frames) (hRl : 0 ≤ R.locals) (hret : ∀ (x : St) (H : Heap) (locs : List Loc) (pc : Nat) (ls : Array Slot), decode b_Mod_addByte pc = .ok (.return_, 1) → post x → Wd dC dI cI cB cJ cZ ad stM kcM 115 A x H → va_S A s.heap H locs → W p l e R s m args below meth c H locs cells slots Q (F0 m pc ls [])) : ∀ (l1 : Int32) (x : St) (H : Heap) (locs : List Loc) (ls : Array Slot), wp_Mod_addByte post l1 x → Wd dC dI cI cB cJ cZ ad stM kcM 115 A x H → va_S A s.heap H locs → lv_has ls 2 [(0, .ref (ad 0)), (1, .int l1)] → W p l e R s m args below meth c H locs cells slots Q (F0 m 0 ls []) := by
  intro l1 x H locs ls  hw hW hS hl
  unfold wp_Mod_addByte at hw
  refine lv_aload_n hx hb d_Mod_addByte_0 rfl (lv_at hl 0 rfl) ?_
  refine w_geti (k := 66) (t := 12) (C := R_Mod) (T := F_Mod) (N := 167) hx hb hT hown hK hW ko_0.1 ko_0.2 (by decide) in_Mod rfl rfl (by decide) rfl fr_Mod_66 w_9_2 d_Mod_addByte_1 ?_
  refine lv_ldc hx hb hown (hT _ w_8_171) d_Mod_addByte_4 ?_
  refine lv_icmp_ge (tgt := 19) hx hb d_Mod_addByte_6 (by decide) (fun c453 => ?_) (fun c453 => ?_)
  · have hw := hw.1 c453
    exact t_Mod_addByte_19 hx hb hml hown hT hK hN hA hRc hRs hRf hRl hret  l1 x H locs ls  hw hW hS (lv_sub hl [0, 1] rfl)
  · have hw := hw.2 c453
    refine lv_aload_n hx hb d_Mod_addByte_9 rfl (lv_at hl 0 rfl) ?_
    refine w_getf (q := 42) (k := 63) (t := 12) (C := R_Mod) (T := F_Mod) (N := 167) hx hb hT hown hK hW ko_0.1 ko_0.2 (by decide) in_Mod rfl rfl (by decide) rfl fr_Mod_63 w_8_239 d_Mod_addByte_10 rfl ?_
    refine lv_aload_n hx hb d_Mod_addByte_13 rfl (lv_at hl 0 rfl) ?_
    refine w_geti (k := 66) (t := 12) (C := R_Mod) (T := F_Mod) (N := 167) hx hb hT hown hK hW ko_0.1 ko_0.2 (by decide) in_Mod rfl rfl (by decide) rfl fr_Mod_66 w_9_2 d_Mod_addByte_14 ?_
    refine lv_iload_n hx hb d_Mod_addByte_17 rfl (lv_at hl 1 rfl) ?_
    obtain ⟨hi, hw⟩ := hw
    refine w_iast (o := 42) hx hb hK hW hS ko_42.1 ko_42.2 hi d_Mod_addByte_18 (fun H locs hW hS => ?_)
    obtain ⟨x454, ex454⟩ : ∃ y : St, y = setA x 42 (fI x 0 66) l1 := ⟨_, rfl⟩
    rw [← ex454] at hW
    have hw := hw x454 ex454
    exact t_Mod_addByte_19 hx hb hml hown hT hK hN hA hRc hRs hRf hRl hret  l1 x454 H locs ls  hw hW hS (lv_sub hl [0, 1] rfl)
set_option maxHeartbeats 4000000 in
set_option maxRecDepth 100000 in
theorem k_Mod_addByte (l : Launch) (dC : Nat → ClassId) (dI : Nat → Nat → Nat) (cI cB cJ cZ : ClassId) (ad : Nat → Nat) (sz : Nat) (l1 : Int32) (x : St) {post : St → Prop} (hw : wp_Mod_addByte post l1 x) : Met l y_Mod_addByte (wsOf y_Mod_addByte b_Mod_addByte 2 (none)) ({ frames := 0, cells := 0, slots := 0, locals := 0 }) (va_Pc [.ref (ad 0), .int l1] (PW dC dI cI cB cJ cZ ad stM kcM 115 sz x)) (va_Qv (fun (y : St) => post y) (fun y t => Wd dC dI cI cB cJ cZ ad stM kcM 115 (va_A (pic ad stM kcM 115 cI cB cJ cZ x) sz) y t.heap) (va_A (pic ad stM kcM 115 cI cB cJ cZ x) sz)) 0 0 (va_A (pic ad stM kcM 115 cI cB cJ cZ x) sz) := by
  refine Met.ofW (cc := b_Mod_addByte) (maxL := 2) (ret := none) (by decide) rfl ?_
  intro p e s m args below meth c s₁ B hml hv
  obtain ⟨rfl, hsz, hW0, hK, hN⟩ := hv
  have hx := B.exec
  have hb := B.bytes
  have hr := B.returns
  have hts := atoms_spec B.pre
  have hT : ∀ w ∈ TG, w.before _ s = true := fun w h => hts w (List.mem_cons_of_mem _ h)
  have hown : s.vm.findClass R_Mod = some m.cls := findClass_of_methodNamed B.named
  have hlocks := B.notSynchronized
  subst hsz
  have hW : Wd dC dI cI cB cJ cZ ad stM kcM 115 (va_A (pic ad stM kcM 115 cI cB cJ cZ x) s.heap.size) x s.heap := ⟨hW0.1, hW0.2.1.self (sz := s.heap.size), hW0.2.2⟩
  generalize hAe : va_A (pic ad stM kcM 115 cI cB cJ cZ x) s.heap.size = A at hW ⊢
  have hA : ∀ q : Nat, s.heap.size ≤ q → A q := fun q h => by rw [← hAe]; exact Or.inr h
  have hS : va_S A s.heap s.heap [] := va_S.rf
  have hl := lv_entry ([.ref (ad 0), .int l1]) (n := 2) (Nat.le_of_ble_eq_true rfl)
  rw [lg_entry_eq]
  generalize (lg_sl ([.ref (ad 0), .int l1]) ++ List.replicate (2 - (lg_sl ([.ref (ad 0), .int l1])).length) Slot.unset).toArray = ls at hl ⊢
  have hl : lv_has ls 2 [(0, .ref (ad 0)), (1, .int l1)] := hl
  exact t_Mod_addByte_e hx hb hml hown hT hK hN hA (Nat.le_refl 0) (Nat.le_refl 0) (Nat.le_refl 0) (Nat.le_refl 0) (fun x H locs pc ls hd hp hW hS => W.vret hx hb hr (fun t ht hM => ⟨⟨x, rfl, hp, Wd.back hW ht.symm (fun _ z => z)⟩, hS.F ht⟩) hS.2.2 hd hlocks)  l1 x _ _ ls  hw hW hS hl
set_option maxRecDepth 100000 in
set_option maxHeartbeats 4000000 in
set_option maxRecDepth 100000 in
theorem t_Mod_addFrame_e {p : Program} {l : Launch} {e : Env} {R : Room} {s : State} {m : MethodId} {args : Array Value} {below : List Frame} {meth : Method} {c : Code} {cells slots : Nat} {Q : State → Prop} {dC : Nat → ClassId} {dI : Nat → Nat → Nat} {cI cB cJ cZ : ClassId} {A : Nat → Prop} {ad : Nat → Nat} {post : St → Prop} (hx : p.tables.exec = Jvm.exec) (hb : c.code = b_Mod_addFrame) (hml : c.maxLocals = 1) (hown : s.vm.findClass R_Mod = some m.cls) (hT : ∀ w ∈ TG, w.before args s = true) (hK : va_K (dC, dI) CL (TY cI cB cJ cZ) s) (hN : NW s) (hA : ∀ q : Nat, s.heap.size ≤ q → A q) (hRc : cells ≤ R.cells) (hRs : slots ≤ R.slots) (hRf : 1 ≤ R.frames) (hRl : 21 ≤ R.locals) (hret : ∀ (x : St) (H : Heap) (locs : List Loc) (pc : Nat) (ls : Array Slot), decode b_Mod_addFrame pc = .ok (.return_, 1) → post x → Wd dC dI cI cB cJ cZ ad stM kcM 115 A x H → va_S A s.heap H locs → W p l e R s m args below meth c H locs cells slots Q (F0 m pc ls [])) : ∀  (x : St) (H : Heap) (locs : List Loc) (ls : Array Slot), wp_Mod_addFrame post  x → Wd dC dI cI cB cJ cZ ad stM kcM 115 A x H → va_S A s.heap H locs → lv_has ls 1 [(0, .ref (ad 0))] → W p l e R s m args below meth c H locs cells slots Q (F0 m 0 ls []) := by
  intro  x H locs ls  hw hW hS hl
  unfold wp_Mod_addFrame at hw
  refine lv_aload_n hx hb d_Mod_addFrame_0 rfl (lv_at hl 0 rfl) ?_
  refine lv_bipush (v := 83) hx hb d_Mod_addFrame_1 (by decide) ?_
  have hF := hW.free hS hA
  refine va_callv (va_runV (C := R_Mod) (As := [.int 83]) (rest := []) ⟨hx, hb, hml, hown, hT⟩ (k_Mod_addByte l dC dI cI cB cJ cZ ad H.size 83 x  hw) ⟨callB_of 1 hT (gwt_in w_11_138) rfl rfl rfl (hT _ w_1_15) (hT _ w_11_135) (by decide +kernel) ⟨Nat.le_trans (Nat.le_of_ble_eq_true rfl) hRf, Nat.le_trans (Nat.le_of_ble_eq_true rfl) hRl⟩, hT _ w_11_137, hT _ ws_139⟩ ⟨PW.blind, va_recv hK hW.1 (ci := 12) (q0 := 0) rfl (pic_obj ko_0.1 ko_0.2 (by decide)), PW.at _ hW hK hN⟩ rfl rfl hl.1 rfl (lv_room (Nat.le_of_ble_eq_true rfl)) d_Mod_addFrame_3 ⟨hRc, hRs⟩) hS (fun q _ h => hF q h) hF (fun  x455 t H locs ht hvm hw hB hz1 hk1 hS => ?_)
  have hW := Wd.back hB ht hF
  clear hB ht hF hz1 hk1 hvm
  refine lv_aload_n hx hb d_Mod_addFrame_6 rfl (lv_at hl 0 rfl) ?_
  refine lv_bipush (v := 84) hx hb d_Mod_addFrame_7 (by decide) ?_
  have hF := hW.free hS hA
  refine va_callv (va_runV (C := R_Mod) (As := [.int 84]) (rest := []) ⟨hx, hb, hml, hown, hT⟩ (k_Mod_addByte l dC dI cI cB cJ cZ ad H.size 84 x455  hw) ⟨callB_of 1 hT (gwt_in w_11_138) rfl rfl rfl (hT _ w_1_15) (hT _ w_11_135) (by decide +kernel) ⟨Nat.le_trans (Nat.le_of_ble_eq_true rfl) hRf, Nat.le_trans (Nat.le_of_ble_eq_true rfl) hRl⟩, hT _ w_11_137, hT _ ws_139⟩ ⟨PW.blind, va_recv hK hW.1 (ci := 12) (q0 := 0) rfl (pic_obj ko_0.1 ko_0.2 (by decide)), PW.at _ hW hK hN⟩ rfl rfl hl.1 rfl (lv_room (Nat.le_of_ble_eq_true rfl)) d_Mod_addFrame_9 ⟨hRc, hRs⟩) hS (fun q _ h => hF q h) hF (fun  x456 t H locs ht hvm hw hB hz1 hk1 hS => ?_)
  have hW := Wd.back hB ht hF
  clear hB ht hF hz1 hk1 hvm
  refine lv_aload_n hx hb d_Mod_addFrame_12 rfl (lv_at hl 0 rfl) ?_
  refine lv_bipush (v := 82) hx hb d_Mod_addFrame_13 (by decide) ?_
  have hF := hW.free hS hA
  refine va_callv (va_runV (C := R_Mod) (As := [.int 82]) (rest := []) ⟨hx, hb, hml, hown, hT⟩ (k_Mod_addByte l dC dI cI cB cJ cZ ad H.size 82 x456  hw) ⟨callB_of 1 hT (gwt_in w_11_138) rfl rfl rfl (hT _ w_1_15) (hT _ w_11_135) (by decide +kernel) ⟨Nat.le_trans (Nat.le_of_ble_eq_true rfl) hRf, Nat.le_trans (Nat.le_of_ble_eq_true rfl) hRl⟩, hT _ w_11_137, hT _ ws_139⟩ ⟨PW.blind, va_recv hK hW.1 (ci := 12) (q0 := 0) rfl (pic_obj ko_0.1 ko_0.2 (by decide)), PW.at _ hW hK hN⟩ rfl rfl hl.1 rfl (lv_room (Nat.le_of_ble_eq_true rfl)) d_Mod_addFrame_15 ⟨hRc, hRs⟩) hS (fun q _ h => hF q h) hF (fun  x457 t H locs ht hvm hw hB hz1 hk1 hS => ?_)
  have hW := Wd.back hB ht hF
  clear hB ht hF hz1 hk1 hvm
  refine lv_aload_n hx hb d_Mod_addFrame_18 rfl (lv_at hl 0 rfl) ?_
  refine lv_bipush (v := 66) hx hb d_Mod_addFrame_19 (by decide) ?_
  have hF := hW.free hS hA
  refine va_callv (va_runV (C := R_Mod) (As := [.int 66]) (rest := []) ⟨hx, hb, hml, hown, hT⟩ (k_Mod_addByte l dC dI cI cB cJ cZ ad H.size 66 x457  hw) ⟨callB_of 1 hT (gwt_in w_11_138) rfl rfl rfl (hT _ w_1_15) (hT _ w_11_135) (by decide +kernel) ⟨Nat.le_trans (Nat.le_of_ble_eq_true rfl) hRf, Nat.le_trans (Nat.le_of_ble_eq_true rfl) hRl⟩, hT _ w_11_137, hT _ ws_139⟩ ⟨PW.blind, va_recv hK hW.1 (ci := 12) (q0 := 0) rfl (pic_obj ko_0.1 ko_0.2 (by decide)), PW.at _ hW hK hN⟩ rfl rfl hl.1 rfl (lv_room (Nat.le_of_ble_eq_true rfl)) d_Mod_addFrame_21 ⟨hRc, hRs⟩) hS (fun q _ h => hF q h) hF (fun  x458 t H locs ht hvm hw hB hz1 hk1 hS => ?_)
  have hW := Wd.back hB ht hF
  clear hB ht hF hz1 hk1 hvm
  exact hret x458 H locs 24 ls d_Mod_addFrame_24 hw hW hS
set_option maxHeartbeats 4000000 in
set_option maxRecDepth 100000 in
theorem k_Mod_addFrame (l : Launch) (dC : Nat → ClassId) (dI : Nat → Nat → Nat) (cI cB cJ cZ : ClassId) (ad : Nat → Nat) (sz : Nat)  (x : St) {post : St → Prop} (hw : wp_Mod_addFrame post  x) : Met l y_Mod_addFrame (wsOf y_Mod_addFrame b_Mod_addFrame 1 (none)) ({ frames := 1, cells := 0, slots := 0, locals := 21 }) (va_Pc [.ref (ad 0)] (PW dC dI cI cB cJ cZ ad stM kcM 115 sz x)) (va_Qv (fun (y : St) => post y) (fun y t => Wd dC dI cI cB cJ cZ ad stM kcM 115 (va_A (pic ad stM kcM 115 cI cB cJ cZ x) sz) y t.heap) (va_A (pic ad stM kcM 115 cI cB cJ cZ x) sz)) 0 0 (va_A (pic ad stM kcM 115 cI cB cJ cZ x) sz) := by
  refine Met.ofW (cc := b_Mod_addFrame) (maxL := 1) (ret := none) (by decide) rfl ?_
  intro p e s m args below meth c s₁ B hml hv
  obtain ⟨rfl, hsz, hW0, hK, hN⟩ := hv
  have hx := B.exec
  have hb := B.bytes
  have hr := B.returns
  have hts := atoms_spec B.pre
  have hT : ∀ w ∈ TG, w.before _ s = true := fun w h => hts w (List.mem_cons_of_mem _ h)
  have hown : s.vm.findClass R_Mod = some m.cls := findClass_of_methodNamed B.named
  have hlocks := B.notSynchronized
  subst hsz
  have hW : Wd dC dI cI cB cJ cZ ad stM kcM 115 (va_A (pic ad stM kcM 115 cI cB cJ cZ x) s.heap.size) x s.heap := ⟨hW0.1, hW0.2.1.self (sz := s.heap.size), hW0.2.2⟩
  generalize hAe : va_A (pic ad stM kcM 115 cI cB cJ cZ x) s.heap.size = A at hW ⊢
  have hA : ∀ q : Nat, s.heap.size ≤ q → A q := fun q h => by rw [← hAe]; exact Or.inr h
  have hS : va_S A s.heap s.heap [] := va_S.rf
  have hl := lv_entry ([.ref (ad 0)]) (n := 1) (Nat.le_of_ble_eq_true rfl)
  rw [lg_entry_eq]
  generalize (lg_sl ([.ref (ad 0)]) ++ List.replicate (1 - (lg_sl ([.ref (ad 0)])).length) Slot.unset).toArray = ls at hl ⊢
  have hl : lv_has ls 1 [(0, .ref (ad 0))] := hl
  exact t_Mod_addFrame_e hx hb hml hown hT hK hN hA (Nat.le_refl 0) (Nat.le_refl 0) (Nat.le_refl 1) (Nat.le_refl 21) (fun x H locs pc ls hd hp hW hS => W.vret hx hb hr (fun t ht hM => ⟨⟨x, rfl, hp, Wd.back hW ht.symm (fun _ z => z)⟩, hS.F ht⟩) hS.2.2 hd hlocks)   x _ _ ls  hw hW hS hl
set_option maxRecDepth 100000 in
set_option maxHeartbeats 4000000 in
set_option maxRecDepth 100000 in
theorem t_Mod_many_40 {p : Program} {l : Launch} {e : Env} {R : Room} {s : State} {m : MethodId} {args : Array Value} {below : List Frame} {meth : Method} {c : Code} {cells slots : Nat} {Q : State → Prop} {dC : Nat → ClassId} {dI : Nat → Nat → Nat} {cI cB cJ cZ : ClassId} {A : Nat → Prop} {ad : Nat → Nat} {post : Int32 → St → Prop} {rec11 : Int32 → Int32 → Int32 → Int32 → Int32 → St → Prop} (hx : p.tables.exec = Jvm.exec) (hb : c.code = b_Mod_many) (hml : c.maxLocals = 6) (hown : s.vm.findClass R_Mod = some m.cls) (hT : ∀ w ∈ TG, w.before args s = true) (hK : va_K (dC, dI) CL (TY cI cB cJ cZ) s) (hN : NW s) (hA : ∀ q : Nat, s.heap.size ≤ q → A q) (hRc : cells ≤ R.cells) (hRs : slots ≤ R.slots) (hRf : 0 ≤ R.frames) (hRl : 0 ≤ R.locals) (hret : ∀ (r : Int32) (x : St) (H : Heap) (locs : List Loc) (pc : Nat) (ls : Array Slot), decode b_Mod_many pc = .ok (.ireturn, 1) → post r x → Wd dC dI cI cB cJ cZ ad stM kcM 115 A x H → va_S A s.heap H locs → W p l e R s m args below meth c H locs cells slots Q (F0 m pc ls [.int r])) (hrec11 : ∀ (l1 : Int32) (l2 : Int32) (l3 : Int32) (l4 : Int32) (l5 : Int32) (x : St) (H : Heap) (locs : List Loc) (ls : Array Slot), rec11 l1 l2 l3 l4 l5 x → Wd dC dI cI cB cJ cZ ad stM kcM 115 A x H → va_S A s.heap H locs → lv_has ls 6 [(0, .ref (ad 0)), (1, .int l1), (2, .int l2), (3, .int l3), (4, .int l4), (5, .int l5)] → W p l e R s m args below meth c H locs cells slots Q (F0 m 11 ls [])) : ∀ (l1 : Int32) (l2 : Int32) (l3 : Int32) (l4 : Int32) (l5 : Int32) (s0 : Int32) (s1 : Int32) (x : St) (H : Heap) (locs : List Loc) (ls : Array Slot), j_Mod_many_40 post rec11 l1 l2 l3 l4 l5 s0 s1 x → Wd dC dI cI cB cJ cZ ad stM kcM 115 A x H → va_S A s.heap H locs → lv_has ls 6 [(0, .ref (ad 0)), (1, .int l1), (2, .int l2), (3, .int l3), (4, .int l4), (5, .int l5)] → W p l e R s m args below meth c H locs cells slots Q (F0 m 40 ls [.int s0, .int s1]) := by
  intro l1 l2 l3 l4 l5 s0 s1 x H locs ls  hw hW hS hl
  unfold j_Mod_many_40 at hw
  refine lv_iadd hx hb d_Mod_many_40 ?_
  refine lv_topi (fun v459 ev459 => ?_)
  have hw := hw v459 ev459
  refine lv_istore (lv' := [(4, .int v459), (0, .ref (ad 0)), (1, .int l1), (2, .int l2), (3, .int l3), (5, .int l5)]) hx hb d_Mod_many_41 hl (by decide) rfl (fun ls hl => ?_)
  refine lv_iinc (v := (l5 + 1)) (lv' := [(5, .int (l5 + 1)), (4, .int v459), (0, .ref (ad 0)), (1, .int l1), (2, .int l2), (3, .int l3)]) hx hb d_Mod_many_43 hl (k := 5) rfl rfl (by decide) rfl (fun ls hl => ?_)
  refine lv_goto (tgt := 11) hx hb d_Mod_many_46 (by decide) ?_
  exact hrec11 l1 l2 l3 v459 (l5 + 1) x H locs ls  hw hW hS (lv_sub hl [2, 3, 4, 5, 1, 0] rfl)
set_option maxRecDepth 100000 in
set_option maxHeartbeats 4000000 in
set_option maxRecDepth 100000 in
theorem t_Mod_many_11 {p : Program} {l : Launch} {e : Env} {R : Room} {s : State} {m : MethodId} {args : Array Value} {below : List Frame} {meth : Method} {c : Code} {cells slots : Nat} {Q : State → Prop} {dC : Nat → ClassId} {dI : Nat → Nat → Nat} {cI cB cJ cZ : ClassId} {A : Nat → Prop} {ad : Nat → Nat} {post : Int32 → St → Prop} {rec11 : Int32 → Int32 → Int32 → Int32 → Int32 → St → Prop} (hx : p.tables.exec = Jvm.exec) (hb : c.code = b_Mod_many) (hml : c.maxLocals = 6) (hown : s.vm.findClass R_Mod = some m.cls) (hT : ∀ w ∈ TG, w.before args s = true) (hK : va_K (dC, dI) CL (TY cI cB cJ cZ) s) (hN : NW s) (hA : ∀ q : Nat, s.heap.size ≤ q → A q) (hRc : cells ≤ R.cells) (hRs : slots ≤ R.slots) (hRf : 0 ≤ R.frames) (hRl : 0 ≤ R.locals) (hret : ∀ (r : Int32) (x : St) (H : Heap) (locs : List Loc) (pc : Nat) (ls : Array Slot), decode b_Mod_many pc = .ok (.ireturn, 1) → post r x → Wd dC dI cI cB cJ cZ ad stM kcM 115 A x H → va_S A s.heap H locs → W p l e R s m args below meth c H locs cells slots Q (F0 m pc ls [.int r])) (hrec11 : ∀ (l1 : Int32) (l2 : Int32) (l3 : Int32) (l4 : Int32) (l5 : Int32) (x : St) (H : Heap) (locs : List Loc) (ls : Array Slot), rec11 l1 l2 l3 l4 l5 x → Wd dC dI cI cB cJ cZ ad stM kcM 115 A x H → va_S A s.heap H locs → lv_has ls 6 [(0, .ref (ad 0)), (1, .int l1), (2, .int l2), (3, .int l3), (4, .int l4), (5, .int l5)] → W p l e R s m args below meth c H locs cells slots Q (F0 m 11 ls [])) : ∀ (l1 : Int32) (l2 : Int32) (l3 : Int32) (l4 : Int32) (l5 : Int32) (x : St) (H : Heap) (locs : List Loc) (ls : Array Slot), j_Mod_many_11 post rec11 l1 l2 l3 l4 l5 x → Wd dC dI cI cB cJ cZ ad stM kcM 115 A x H → va_S A s.heap H locs → lv_has ls 6 [(0, .ref (ad 0)), (1, .int l1), (2, .int l2), (3, .int l3), (4, .int l4), (5, .int l5)] → W p l e R s m args below meth c H locs cells slots Q (F0 m 11 ls []) := by
  intro l1 l2 l3 l4 l5 x H locs ls  hw hW hS hl
  unfold j_Mod_many_11 at hw
  refine lv_iload hx hb d_Mod_many_11 (lv_at hl 5 rfl) ?_
  refine lv_aload_n hx hb d_Mod_many_13 rfl (lv_at hl 0 rfl) ?_
  refine w_getf (q := 23) (k := 31) (t := 12) (C := R_Mod) (T := F_Mod) (N := 167) hx hb hT hown hK hW ko_0.1 ko_0.2 (by decide) in_Mod rfl rfl (by decide) rfl fr_Mod_31 w_8_207 d_Mod_many_14 rfl ?_
  refine lv_iload_n hx hb d_Mod_many_17 rfl (lv_at hl 3 rfl) ?_
  obtain ⟨hi, hw⟩ := hw
  refine w_iald (o := 23) hx hb hK hW ko_23.1 ko_23.2 hi d_Mod_many_18 ?_
  refine lv_icmp_ge (tgt := 49) hx hb d_Mod_many_19 (by decide) (fun c460 => ?_) (fun c460 => ?_)
  · have hw := hw.1 c460
    refine lv_iload hx hb d_Mod_many_49 (lv_at hl 4 rfl) ?_
    exact hret l4 x H locs 51 ls d_Mod_many_51 hw hW hS
  · have hw := hw.2 c460
    refine lv_iload hx hb d_Mod_many_22 (lv_at hl 4 rfl) ?_
    refine lv_aload_n hx hb d_Mod_many_24 rfl (lv_at hl 0 rfl) ?_
    refine w_getf (q := 20) (k := 28) (t := 12) (C := R_Mod) (T := F_Mod) (N := 167) hx hb hT hown hK hW ko_0.1 ko_0.2 (by decide) in_Mod rfl rfl (by decide) rfl fr_Mod_28 w_8_204 d_Mod_many_25 rfl ?_
    refine lv_iload hx hb d_Mod_many_28 (lv_at hl 5 rfl) ?_
    obtain ⟨hi, hw⟩ := hw
    refine w_iald (o := 20) hx hb hK hW ko_20.1 ko_20.2 hi d_Mod_many_30 ?_
    refine lv_iload_n hx hb d_Mod_many_31 rfl (lv_at hl 1 rfl) ?_
    refine lv_icmp_ne (tgt := 39) hx hb d_Mod_many_32 (by decide) (fun c461 => ?_) (fun c461 => ?_)
    · have hw := hw.1 c461
      refine lv_iconst (v := 0) hx hb d_Mod_many_39 (by decide) ?_
      exact t_Mod_many_40 hx hb hml hown hT hK hN hA hRc hRs hRf hRl hret hrec11 l1 l2 l3 l4 l5 0 l4 x H locs ls  hw hW hS (lv_sub hl [0, 1, 2, 3, 4, 5] rfl)
    · have hw := hw.2 c461
      refine lv_iconst (v := 1) hx hb d_Mod_many_35 (by decide) ?_
      refine lv_goto (tgt := 40) hx hb d_Mod_many_36 (by decide) ?_
      exact t_Mod_many_40 hx hb hml hown hT hK hN hA hRc hRs hRf hRl hret hrec11 l1 l2 l3 l4 l5 1 l4 x H locs ls  hw hW hS (lv_sub hl [0, 1, 2, 3, 4, 5] rfl)
set_option maxHeartbeats 4000000 in
set_option maxRecDepth 100000 in
theorem tl_Mod_many_11 {p : Program} {l : Launch} {e : Env} {R : Room} {s : State} {m : MethodId} {args : Array Value} {below : List Frame} {meth : Method} {c : Code} {cells slots : Nat} {Q : State → Prop} {dC : Nat → ClassId} {dI : Nat → Nat → Nat} {cI cB cJ cZ : ClassId} {A : Nat → Prop} {ad : Nat → Nat} {post : Int32 → St → Prop} (hx : p.tables.exec = Jvm.exec) (hb : c.code = b_Mod_many) (hml : c.maxLocals = 6) (hown : s.vm.findClass R_Mod = some m.cls) (hT : ∀ w ∈ TG, w.before args s = true) (hK : va_K (dC, dI) CL (TY cI cB cJ cZ) s) (hN : NW s) (hA : ∀ q : Nat, s.heap.size ≤ q → A q) (hRc : cells ≤ R.cells) (hRs : slots ≤ R.slots) (hRf : 0 ≤ R.frames) (hRl : 0 ≤ R.locals) (hret : ∀ (r : Int32) (x : St) (H : Heap) (locs : List Loc) (pc : Nat) (ls : Array Slot), decode b_Mod_many pc = .ok (.ireturn, 1) → post r x → Wd dC dI cI cB cJ cZ ad stM kcM 115 A x H → va_S A s.heap H locs → W p l e R s m args below meth c H locs cells slots Q (F0 m pc ls [.int r]))  : ∀ n : Nat, ∀ (l1 : Int32) (l2 : Int32) (l3 : Int32) (l4 : Int32) (l5 : Int32) (x : St) (H : Heap) (locs : List Loc) (ls : Array Slot), wl_Mod_many_11 post n l1 l2 l3 l4 l5 x → Wd dC dI cI cB cJ cZ ad stM kcM 115 A x H → va_S A s.heap H locs → lv_has ls 6 [(0, .ref (ad 0)), (1, .int l1), (2, .int l2), (3, .int l3), (4, .int l4), (5, .int l5)] → W p l e R s m args below meth c H locs cells slots Q (F0 m 11 ls []) := by
  intro n
  induction n with
  | zero => intro l1 l2 l3 l4 l5 x H locs ls  hw; exact hw.elim
  | succ n ih => intro l1 l2 l3 l4 l5 x H locs ls  hw hW hS hl; exact t_Mod_many_11 hx hb hml hown hT hK hN hA hRc hRs hRf hRl hret  ih l1 l2 l3 l4 l5 x H locs ls  hw hW hS hl
set_option maxRecDepth 100000 in
set_option maxHeartbeats 4000000 in
set_option maxRecDepth 100000 in
theorem t_Mod_many_e {p : Program} {l : Launch} {e : Env} {R : Room} {s : State} {m : MethodId} {args : Array Value} {below : List Frame} {meth : Method} {c : Code} {cells slots : Nat} {Q : State → Prop} {dC : Nat → ClassId} {dI : Nat → Nat → Nat} {cI cB cJ cZ : ClassId} {A : Nat → Prop} {ad : Nat → Nat} {post : Int32 → St → Prop} (hx : p.tables.exec = Jvm.exec) (hb : c.code = b_Mod_many) (hml : c.maxLocals = 6) (hown : s.vm.findClass R_Mod = some m.cls) (hT : ∀ w ∈ TG, w.before args s = true) (hK : va_K (dC, dI) CL (TY cI cB cJ cZ) s) (hN : NW s) (hA : ∀ q : Nat, s.heap.size ≤ q → A q) (hRc : cells ≤ R.cells) (hRs : slots ≤ R.slots) (hRf : 0 ≤ R.frames) (hRl : 0 ≤ R.locals) (hret : ∀ (r : Int32) (x : St) (H : Heap) (locs : List Loc) (pc : Nat) (ls : Array Slot), decode b_Mod_many pc = .ok (.ireturn, 1) → post r x → Wd dC dI cI cB cJ cZ ad stM kcM 115 A x H → va_S A s.heap H locs → W p l e R s m args below meth c H locs cells slots Q (F0 m pc ls [.int r])) : ∀ (l1 : Int32) (l2 : Int32) (l3 : Int32) (x : St) (H : Heap) (locs : List Loc) (ls : Array Slot), wp_Mod_many post l1 l2 l3 x → Wd dC dI cI cB cJ cZ ad stM kcM 115 A x H → va_S A s.heap H locs → lv_has ls 6 [(0, .ref (ad 0)), (1, .int l1), (2, .int l2), (3, .int l3)] → W p l e R s m args below meth c H locs cells slots Q (F0 m 0 ls []) := by
  intro l1 l2 l3 x H locs ls  hw hW hS hl
  unfold wp_Mod_many at hw
  refine lv_iconst (v := 0) hx hb d_Mod_many_0 (by decide) ?_
  refine lv_istore (lv' := [(4, .int 0), (0, .ref (ad 0)), (1, .int l1), (2, .int l2), (3, .int l3)]) hx hb d_Mod_many_1 hl (by decide) rfl (fun ls hl => ?_)
  refine lv_aload_n hx hb d_Mod_many_3 rfl (lv_at hl 1 rfl) ?_
  refine w_getf (q := 23) (k := 31) (t := 12) (C := R_Mod) (T := F_Mod) (N := 167) hx hb hT hown hK hW ko_0.1 ko_0.2 (by decide) in_Mod rfl rfl (by decide) rfl fr_Mod_31 w_8_207 d_Mod_many_4 rfl ?_
  refine lv_iload_n hx hb d_Mod_many_7 rfl (lv_at hl 3 rfl) ?_
  obtain ⟨hi, hw⟩ := hw
  refine w_iald (o := 23) hx hb hK hW ko_23.1 ko_23.2 hi d_Mod_many_8 ?_
  refine lv_topi (fun v462 ev462 => ?_)
  have hw := hw v462 ev462
  refine lv_istore (lv' := [(5, .int v462), (4, .int 0), (0, .ref (ad 0)), (1, .int l1), (2, .int l2), (3, .int l3)]) hx hb d_Mod_many_9 hl (by decide) rfl (fun ls hl => ?_)
  obtain ⟨n, hw⟩ := hw
  exact tl_Mod_many_11 hx hb hml hown hT hK hN hA hRc hRs hRf hRl hret  n l1 l2 l3 0 v462 x H locs ls  hw hW hS (lv_sub hl [2, 3, 4, 5, 1, 0] rfl)
set_option maxHeartbeats 4000000 in
set_option maxRecDepth 100000 in
theorem k_Mod_many (l : Launch) (dC : Nat → ClassId) (dI : Nat → Nat → Nat) (cI cB cJ cZ : ClassId) (ad : Nat → Nat) (sz : Nat) (l1 : Int32) (l2 : Int32) (l3 : Int32) (x : St) {post : Int32 → St → Prop} (hw : wp_Mod_many post l1 l2 l3 x) : Met l y_Mod_many (wsOf y_Mod_many b_Mod_many 6 (some (.int))) ({ frames := 0, cells := 0, slots := 0, locals := 0 }) (va_Pc [.ref (ad 0), .int l1, .int l2, .int l3] (PW dC dI cI cB cJ cZ ad stM kcM 115 sz x)) (va_Qi (fun (r : Int32) (y : St) => post r y) (fun y t => Wd dC dI cI cB cJ cZ ad stM kcM 115 (va_A (pic ad stM kcM 115 cI cB cJ cZ x) sz) y t.heap) (va_A (pic ad stM kcM 115 cI cB cJ cZ x) sz)) 0 0 (va_A (pic ad stM kcM 115 cI cB cJ cZ x) sz) := by
  refine Met.ofW (cc := b_Mod_many) (maxL := 6) (ret := some (.int)) (by decide) rfl ?_
  intro p e s m args below meth c s₁ B hml hv
  obtain ⟨rfl, hsz, hW0, hK, hN⟩ := hv
  have hx := B.exec
  have hb := B.bytes
  have hr := B.returns
  have hts := atoms_spec B.pre
  have hT : ∀ w ∈ TG, w.before _ s = true := fun w h => hts w (List.mem_cons_of_mem _ h)
  have hown : s.vm.findClass R_Mod = some m.cls := findClass_of_methodNamed B.named
  have hlocks := B.notSynchronized
  subst hsz
  have hW : Wd dC dI cI cB cJ cZ ad stM kcM 115 (va_A (pic ad stM kcM 115 cI cB cJ cZ x) s.heap.size) x s.heap := ⟨hW0.1, hW0.2.1.self (sz := s.heap.size), hW0.2.2⟩
  generalize hAe : va_A (pic ad stM kcM 115 cI cB cJ cZ x) s.heap.size = A at hW ⊢
  have hA : ∀ q : Nat, s.heap.size ≤ q → A q := fun q h => by rw [← hAe]; exact Or.inr h
  have hS : va_S A s.heap s.heap [] := va_S.rf
  have hl := lv_entry ([.ref (ad 0), .int l1, .int l2, .int l3]) (n := 6) (Nat.le_of_ble_eq_true rfl)
  rw [lg_entry_eq]
  generalize (lg_sl ([.ref (ad 0), .int l1, .int l2, .int l3]) ++ List.replicate (6 - (lg_sl ([.ref (ad 0), .int l1, .int l2, .int l3])).length) Slot.unset).toArray = ls at hl ⊢
  have hl : lv_has ls 6 [(0, .ref (ad 0)), (1, .int l1), (2, .int l2), (3, .int l3)] := hl
  exact t_Mod_many_e hx hb hml hown hT hK hN hA (Nat.le_refl 0) (Nat.le_refl 0) (Nat.le_refl 0) (Nat.le_refl 0) (fun r x H locs pc ls hd hp hW hS => W.iret (v := r) hx hb hr (fun t ht hM => ⟨⟨r, x, rfl, hp, Wd.back hW ht.symm (fun _ z => z)⟩, hS.F ht⟩) hS.2.2 hd hlocks)  l1 l2 l3 x _ _ ls  hw hW hS hl
set_option maxRecDepth 100000 in
set_option maxHeartbeats 4000000 in
set_option maxRecDepth 100000 in
theorem t_Mod_textsOf_46 {p : Program} {l : Launch} {e : Env} {R : Room} {s : State} {m : MethodId} {args : Array Value} {below : List Frame} {meth : Method} {c : Code} {cells slots : Nat} {Q : State → Prop} {dC : Nat → ClassId} {dI : Nat → Nat → Nat} {cI cB cJ cZ : ClassId} {A : Nat → Prop} {ad : Nat → Nat} {post : Int32 → St → Prop} {rec11 : Int32 → Int32 → Int32 → Int32 → Int32 → St → Prop} (hx : p.tables.exec = Jvm.exec) (hb : c.code = b_Mod_textsOf) (hml : c.maxLocals = 6) (hown : s.vm.findClass R_Mod = some m.cls) (hT : ∀ w ∈ TG, w.before args s = true) (hK : va_K (dC, dI) CL (TY cI cB cJ cZ) s) (hN : NW s) (hA : ∀ q : Nat, s.heap.size ≤ q → A q) (hRc : cells ≤ R.cells) (hRs : slots ≤ R.slots) (hRf : 0 ≤ R.frames) (hRl : 0 ≤ R.locals) (hret : ∀ (r : Int32) (x : St) (H : Heap) (locs : List Loc) (pc : Nat) (ls : Array Slot), decode b_Mod_textsOf pc = .ok (.ireturn, 1) → post r x → Wd dC dI cI cB cJ cZ ad stM kcM 115 A x H → va_S A s.heap H locs → W p l e R s m args below meth c H locs cells slots Q (F0 m pc ls [.int r])) (hrec11 : ∀ (l1 : Int32) (l2 : Int32) (l3 : Int32) (l4 : Int32) (l5 : Int32) (x : St) (H : Heap) (locs : List Loc) (ls : Array Slot), rec11 l1 l2 l3 l4 l5 x → Wd dC dI cI cB cJ cZ ad stM kcM 115 A x H → va_S A s.heap H locs → lv_has ls 6 [(0, .ref (ad 0)), (1, .int l1), (2, .int l2), (3, .int l3), (4, .int l4), (5, .int l5)] → W p l e R s m args below meth c H locs cells slots Q (F0 m 11 ls [])) : ∀ (l1 : Int32) (l2 : Int32) (l3 : Int32) (l4 : Int32) (l5 : Int32) (s0 : Int32) (s1 : Int32) (x : St) (H : Heap) (locs : List Loc) (ls : Array Slot), j_Mod_textsOf_46 post rec11 l1 l2 l3 l4 l5 s0 s1 x → Wd dC dI cI cB cJ cZ ad stM kcM 115 A x H → va_S A s.heap H locs → lv_has ls 6 [(0, .ref (ad 0)), (1, .int l1), (2, .int l2), (3, .int l3), (4, .int l4), (5, .int l5)] → W p l e R s m args below meth c H locs cells slots Q (F0 m 46 ls [.int s0, .int s1]) := by
  intro l1 l2 l3 l4 l5 s0 s1 x H locs ls  hw hW hS hl
  unfold j_Mod_textsOf_46 at hw
  refine lv_iadd hx hb d_Mod_textsOf_46 ?_
  refine lv_topi (fun v463 ev463 => ?_)
  have hw := hw v463 ev463
  refine lv_istore (lv' := [(4, .int v463), (0, .ref (ad 0)), (1, .int l1), (2, .int l2), (3, .int l3), (5, .int l5)]) hx hb d_Mod_textsOf_47 hl (by decide) rfl (fun ls hl => ?_)
  refine lv_iinc (v := (l5 + 1)) (lv' := [(5, .int (l5 + 1)), (4, .int v463), (0, .ref (ad 0)), (1, .int l1), (2, .int l2), (3, .int l3)]) hx hb d_Mod_textsOf_49 hl (k := 5) rfl rfl (by decide) rfl (fun ls hl => ?_)
  refine lv_goto (tgt := 11) hx hb d_Mod_textsOf_52 (by decide) ?_
  exact hrec11 l1 l2 l3 v463 (l5 + 1) x H locs ls  hw hW hS (lv_sub hl [2, 3, 4, 5, 1, 0] rfl)
set_option maxRecDepth 100000 in
set_option maxHeartbeats 4000000 in
set_option maxRecDepth 100000 in
theorem t_Mod_textsOf_11 {p : Program} {l : Launch} {e : Env} {R : Room} {s : State} {m : MethodId} {args : Array Value} {below : List Frame} {meth : Method} {c : Code} {cells slots : Nat} {Q : State → Prop} {dC : Nat → ClassId} {dI : Nat → Nat → Nat} {cI cB cJ cZ : ClassId} {A : Nat → Prop} {ad : Nat → Nat} {post : Int32 → St → Prop} {rec11 : Int32 → Int32 → Int32 → Int32 → Int32 → St → Prop} (hx : p.tables.exec = Jvm.exec) (hb : c.code = b_Mod_textsOf) (hml : c.maxLocals = 6) (hown : s.vm.findClass R_Mod = some m.cls) (hT : ∀ w ∈ TG, w.before args s = true) (hK : va_K (dC, dI) CL (TY cI cB cJ cZ) s) (hN : NW s) (hA : ∀ q : Nat, s.heap.size ≤ q → A q) (hRc : cells ≤ R.cells) (hRs : slots ≤ R.slots) (hRf : 0 ≤ R.frames) (hRl : 0 ≤ R.locals) (hret : ∀ (r : Int32) (x : St) (H : Heap) (locs : List Loc) (pc : Nat) (ls : Array Slot), decode b_Mod_textsOf pc = .ok (.ireturn, 1) → post r x → Wd dC dI cI cB cJ cZ ad stM kcM 115 A x H → va_S A s.heap H locs → W p l e R s m args below meth c H locs cells slots Q (F0 m pc ls [.int r])) (hrec11 : ∀ (l1 : Int32) (l2 : Int32) (l3 : Int32) (l4 : Int32) (l5 : Int32) (x : St) (H : Heap) (locs : List Loc) (ls : Array Slot), rec11 l1 l2 l3 l4 l5 x → Wd dC dI cI cB cJ cZ ad stM kcM 115 A x H → va_S A s.heap H locs → lv_has ls 6 [(0, .ref (ad 0)), (1, .int l1), (2, .int l2), (3, .int l3), (4, .int l4), (5, .int l5)] → W p l e R s m args below meth c H locs cells slots Q (F0 m 11 ls [])) : ∀ (l1 : Int32) (l2 : Int32) (l3 : Int32) (l4 : Int32) (l5 : Int32) (x : St) (H : Heap) (locs : List Loc) (ls : Array Slot), j_Mod_textsOf_11 post rec11 l1 l2 l3 l4 l5 x → Wd dC dI cI cB cJ cZ ad stM kcM 115 A x H → va_S A s.heap H locs → lv_has ls 6 [(0, .ref (ad 0)), (1, .int l1), (2, .int l2), (3, .int l3), (4, .int l4), (5, .int l5)] → W p l e R s m args below meth c H locs cells slots Q (F0 m 11 ls []) := by
  intro l1 l2 l3 l4 l5 x H locs ls  hw hW hS hl
  unfold j_Mod_textsOf_11 at hw
  refine lv_iload hx hb d_Mod_textsOf_11 (lv_at hl 5 rfl) ?_
  refine lv_aload_n hx hb d_Mod_textsOf_13 rfl (lv_at hl 0 rfl) ?_
  refine w_getf (q := 23) (k := 31) (t := 12) (C := R_Mod) (T := F_Mod) (N := 167) hx hb hT hown hK hW ko_0.1 ko_0.2 (by decide) in_Mod rfl rfl (by decide) rfl fr_Mod_31 w_8_207 d_Mod_textsOf_14 rfl ?_
  refine lv_iload_n hx hb d_Mod_textsOf_17 rfl (lv_at hl 3 rfl) ?_
  obtain ⟨hi, hw⟩ := hw
  refine w_iald (o := 23) hx hb hK hW ko_23.1 ko_23.2 hi d_Mod_textsOf_18 ?_
  refine lv_icmp_ge (tgt := 55) hx hb d_Mod_textsOf_19 (by decide) (fun c464 => ?_) (fun c464 => ?_)
  · have hw := hw.1 c464
    refine lv_iload hx hb d_Mod_textsOf_55 (lv_at hl 4 rfl) ?_
    exact hret l4 x H locs 57 ls d_Mod_textsOf_57 hw hW hS
  · have hw := hw.2 c464
    refine lv_iload hx hb d_Mod_textsOf_22 (lv_at hl 4 rfl) ?_
    refine lv_aload_n hx hb d_Mod_textsOf_24 rfl (lv_at hl 0 rfl) ?_
    refine w_getf (q := 20) (k := 28) (t := 12) (C := R_Mod) (T := F_Mod) (N := 167) hx hb hT hown hK hW ko_0.1 ko_0.2 (by decide) in_Mod rfl rfl (by decide) rfl fr_Mod_28 w_8_204 d_Mod_textsOf_25 rfl ?_
    refine lv_iload hx hb d_Mod_textsOf_28 (lv_at hl 5 rfl) ?_
    obtain ⟨hi, hw⟩ := hw
    refine w_iald (o := 20) hx hb hK hW ko_20.1 ko_20.2 hi d_Mod_textsOf_30 ?_
    refine lv_iload_n hx hb d_Mod_textsOf_31 rfl (lv_at hl 1 rfl) ?_
    refine lv_icmp_ne (tgt := 45) hx hb d_Mod_textsOf_32 (by decide) (fun c465 => ?_) (fun c465 => ?_)
    · have hw := hw.1 c465
      refine lv_iconst (v := 0) hx hb d_Mod_textsOf_45 (by decide) ?_
      exact t_Mod_textsOf_46 hx hb hml hown hT hK hN hA hRc hRs hRf hRl hret hrec11 l1 l2 l3 l4 l5 0 l4 x H locs ls  hw hW hS (lv_sub hl [0, 1, 2, 3, 4, 5] rfl)
    · have hw := hw.2 c465
      refine lv_aload_n hx hb d_Mod_textsOf_35 rfl (lv_at hl 0 rfl) ?_
      refine w_getf (q := 22) (k := 30) (t := 12) (C := R_Mod) (T := F_Mod) (N := 167) hx hb hT hown hK hW ko_0.1 ko_0.2 (by decide) in_Mod rfl rfl (by decide) rfl fr_Mod_30 w_8_206 d_Mod_textsOf_36 rfl ?_
      refine lv_iload hx hb d_Mod_textsOf_39 (lv_at hl 5 rfl) ?_
      obtain ⟨hi, hw⟩ := hw
      refine w_iald (o := 22) hx hb hK hW ko_22.1 ko_22.2 hi d_Mod_textsOf_41 ?_
      refine lv_goto (tgt := 46) hx hb d_Mod_textsOf_42 (by decide) ?_
      exact t_Mod_textsOf_46 hx hb hml hown hT hK hN hA hRc hRs hRf hRl hret hrec11 l1 l2 l3 l4 l5 (rA x 22 l5) l4 x H locs ls  hw hW hS (lv_sub hl [0, 1, 2, 3, 4, 5] rfl)
set_option maxHeartbeats 4000000 in
set_option maxRecDepth 100000 in
theorem tl_Mod_textsOf_11 {p : Program} {l : Launch} {e : Env} {R : Room} {s : State} {m : MethodId} {args : Array Value} {below : List Frame} {meth : Method} {c : Code} {cells slots : Nat} {Q : State → Prop} {dC : Nat → ClassId} {dI : Nat → Nat → Nat} {cI cB cJ cZ : ClassId} {A : Nat → Prop} {ad : Nat → Nat} {post : Int32 → St → Prop} (hx : p.tables.exec = Jvm.exec) (hb : c.code = b_Mod_textsOf) (hml : c.maxLocals = 6) (hown : s.vm.findClass R_Mod = some m.cls) (hT : ∀ w ∈ TG, w.before args s = true) (hK : va_K (dC, dI) CL (TY cI cB cJ cZ) s) (hN : NW s) (hA : ∀ q : Nat, s.heap.size ≤ q → A q) (hRc : cells ≤ R.cells) (hRs : slots ≤ R.slots) (hRf : 0 ≤ R.frames) (hRl : 0 ≤ R.locals) (hret : ∀ (r : Int32) (x : St) (H : Heap) (locs : List Loc) (pc : Nat) (ls : Array Slot), decode b_Mod_textsOf pc = .ok (.ireturn, 1) → post r x → Wd dC dI cI cB cJ cZ ad stM kcM 115 A x H → va_S A s.heap H locs → W p l e R s m args below meth c H locs cells slots Q (F0 m pc ls [.int r]))  : ∀ n : Nat, ∀ (l1 : Int32) (l2 : Int32) (l3 : Int32) (l4 : Int32) (l5 : Int32) (x : St) (H : Heap) (locs : List Loc) (ls : Array Slot), wl_Mod_textsOf_11 post n l1 l2 l3 l4 l5 x → Wd dC dI cI cB cJ cZ ad stM kcM 115 A x H → va_S A s.heap H locs → lv_has ls 6 [(0, .ref (ad 0)), (1, .int l1), (2, .int l2), (3, .int l3), (4, .int l4), (5, .int l5)] → W p l e R s m args below meth c H locs cells slots Q (F0 m 11 ls []) := by
  intro n
  induction n with
  | zero => intro l1 l2 l3 l4 l5 x H locs ls  hw; exact hw.elim
  | succ n ih => intro l1 l2 l3 l4 l5 x H locs ls  hw hW hS hl; exact t_Mod_textsOf_11 hx hb hml hown hT hK hN hA hRc hRs hRf hRl hret  ih l1 l2 l3 l4 l5 x H locs ls  hw hW hS hl
set_option maxRecDepth 100000 in
set_option maxHeartbeats 4000000 in
set_option maxRecDepth 100000 in
theorem t_Mod_textsOf_e {p : Program} {l : Launch} {e : Env} {R : Room} {s : State} {m : MethodId} {args : Array Value} {below : List Frame} {meth : Method} {c : Code} {cells slots : Nat} {Q : State → Prop} {dC : Nat → ClassId} {dI : Nat → Nat → Nat} {cI cB cJ cZ : ClassId} {A : Nat → Prop} {ad : Nat → Nat} {post : Int32 → St → Prop} (hx : p.tables.exec = Jvm.exec) (hb : c.code = b_Mod_textsOf) (hml : c.maxLocals = 6) (hown : s.vm.findClass R_Mod = some m.cls) (hT : ∀ w ∈ TG, w.before args s = true) (hK : va_K (dC, dI) CL (TY cI cB cJ cZ) s) (hN : NW s) (hA : ∀ q : Nat, s.heap.size ≤ q → A q) (hRc : cells ≤ R.cells) (hRs : slots ≤ R.slots) (hRf : 0 ≤ R.frames) (hRl : 0 ≤ R.locals) (hret : ∀ (r : Int32) (x : St) (H : Heap) (locs : List Loc) (pc : Nat) (ls : Array Slot), decode b_Mod_textsOf pc = .ok (.ireturn, 1) → post r x → Wd dC dI cI cB cJ cZ ad stM kcM 115 A x H → va_S A s.heap H locs → W p l e R s m args below meth c H locs cells slots Q (F0 m pc ls [.int r])) : ∀ (l1 : Int32) (l2 : Int32) (l3 : Int32) (x : St) (H : Heap) (locs : List Loc) (ls : Array Slot), wp_Mod_textsOf post l1 l2 l3 x → Wd dC dI cI cB cJ cZ ad stM kcM 115 A x H → va_S A s.heap H locs → lv_has ls 6 [(0, .ref (ad 0)), (1, .int l1), (2, .int l2), (3, .int l3)] → W p l e R s m args below meth c H locs cells slots Q (F0 m 0 ls []) := by
  intro l1 l2 l3 x H locs ls  hw hW hS hl
  unfold wp_Mod_textsOf at hw
  refine lv_iconst (v := 0) hx hb d_Mod_textsOf_0 (by decide) ?_
  refine lv_istore (lv' := [(4, .int 0), (0, .ref (ad 0)), (1, .int l1), (2, .int l2), (3, .int l3)]) hx hb d_Mod_textsOf_1 hl (by decide) rfl (fun ls hl => ?_)
  refine lv_aload_n hx hb d_Mod_textsOf_3 rfl (lv_at hl 1 rfl) ?_
  refine w_getf (q := 23) (k := 31) (t := 12) (C := R_Mod) (T := F_Mod) (N := 167) hx hb hT hown hK hW ko_0.1 ko_0.2 (by decide) in_Mod rfl rfl (by decide) rfl fr_Mod_31 w_8_207 d_Mod_textsOf_4 rfl ?_
  refine lv_iload_n hx hb d_Mod_textsOf_7 rfl (lv_at hl 3 rfl) ?_
  obtain ⟨hi, hw⟩ := hw
  refine w_iald (o := 23) hx hb hK hW ko_23.1 ko_23.2 hi d_Mod_textsOf_8 ?_
  refine lv_topi (fun v466 ev466 => ?_)
  have hw := hw v466 ev466
  refine lv_istore (lv' := [(5, .int v466), (4, .int 0), (0, .ref (ad 0)), (1, .int l1), (2, .int l2), (3, .int l3)]) hx hb d_Mod_textsOf_9 hl (by decide) rfl (fun ls hl => ?_)
  obtain ⟨n, hw⟩ := hw
  exact tl_Mod_textsOf_11 hx hb hml hown hT hK hN hA hRc hRs hRf hRl hret  n l1 l2 l3 0 v466 x H locs ls  hw hW hS (lv_sub hl [2, 3, 4, 5, 1, 0] rfl)
set_option maxHeartbeats 4000000 in
set_option maxRecDepth 100000 in
theorem k_Mod_textsOf (l : Launch) (dC : Nat → ClassId) (dI : Nat → Nat → Nat) (cI cB cJ cZ : ClassId) (ad : Nat → Nat) (sz : Nat) (l1 : Int32) (l2 : Int32) (l3 : Int32) (x : St) {post : Int32 → St → Prop} (hw : wp_Mod_textsOf post l1 l2 l3 x) : Met l y_Mod_textsOf (wsOf y_Mod_textsOf b_Mod_textsOf 6 (some (.int))) ({ frames := 0, cells := 0, slots := 0, locals := 0 }) (va_Pc [.ref (ad 0), .int l1, .int l2, .int l3] (PW dC dI cI cB cJ cZ ad stM kcM 115 sz x)) (va_Qi (fun (r : Int32) (y : St) => post r y) (fun y t => Wd dC dI cI cB cJ cZ ad stM kcM 115 (va_A (pic ad stM kcM 115 cI cB cJ cZ x) sz) y t.heap) (va_A (pic ad stM kcM 115 cI cB cJ cZ x) sz)) 0 0 (va_A (pic ad stM kcM 115 cI cB cJ cZ x) sz) := by
  refine Met.ofW (cc := b_Mod_textsOf) (maxL := 6) (ret := some (.int)) (by decide) rfl ?_
  intro p e s m args below meth c s₁ B hml hv
  obtain ⟨rfl, hsz, hW0, hK, hN⟩ := hv
  have hx := B.exec
  have hb := B.bytes
  have hr := B.returns
  have hts := atoms_spec B.pre
  have hT : ∀ w ∈ TG, w.before _ s = true := fun w h => hts w (List.mem_cons_of_mem _ h)
  have hown : s.vm.findClass R_Mod = some m.cls := findClass_of_methodNamed B.named
  have hlocks := B.notSynchronized
  subst hsz
  have hW : Wd dC dI cI cB cJ cZ ad stM kcM 115 (va_A (pic ad stM kcM 115 cI cB cJ cZ x) s.heap.size) x s.heap := ⟨hW0.1, hW0.2.1.self (sz := s.heap.size), hW0.2.2⟩
  generalize hAe : va_A (pic ad stM kcM 115 cI cB cJ cZ x) s.heap.size = A at hW ⊢
  have hA : ∀ q : Nat, s.heap.size ≤ q → A q := fun q h => by rw [← hAe]; exact Or.inr h
  have hS : va_S A s.heap s.heap [] := va_S.rf
  have hl := lv_entry ([.ref (ad 0), .int l1, .int l2, .int l3]) (n := 6) (Nat.le_of_ble_eq_true rfl)
  rw [lg_entry_eq]
  generalize (lg_sl ([.ref (ad 0), .int l1, .int l2, .int l3]) ++ List.replicate (6 - (lg_sl ([.ref (ad 0), .int l1, .int l2, .int l3])).length) Slot.unset).toArray = ls at hl ⊢
  have hl : lv_has ls 6 [(0, .ref (ad 0)), (1, .int l1), (2, .int l2), (3, .int l3)] := hl
  exact t_Mod_textsOf_e hx hb hml hown hT hK hN hA (Nat.le_refl 0) (Nat.le_refl 0) (Nat.le_refl 0) (Nat.le_refl 0) (fun r x H locs pc ls hd hp hW hS => W.iret (v := r) hx hb hr (fun t ht hM => ⟨⟨r, x, rfl, hp, Wd.back hW ht.symm (fun _ z => z)⟩, hS.F ht⟩) hS.2.2 hd hlocks)  l1 l2 l3 x _ _ ls  hw hW hS hl
set_option maxRecDepth 100000 in
set_option maxHeartbeats 4000000 in
set_option maxRecDepth 100000 in
theorem t_Mod_typeOf_e {p : Program} {l : Launch} {e : Env} {R : Room} {s : State} {m : MethodId} {args : Array Value} {below : List Frame} {meth : Method} {c : Code} {cells slots : Nat} {Q : State → Prop} {dC : Nat → ClassId} {dI : Nat → Nat → Nat} {cI cB cJ cZ : ClassId} {A : Nat → Prop} {ad : Nat → Nat} {post : Int32 → St → Prop} (hx : p.tables.exec = Jvm.exec) (hb : c.code = b_Mod_typeOf) (hml : c.maxLocals = 3) (hown : s.vm.findClass R_Mod = some m.cls) (hT : ∀ w ∈ TG, w.before args s = true) (hK : va_K (dC, dI) CL (TY cI cB cJ cZ) s) (hN : NW s) (hA : ∀ q : Nat, s.heap.size ≤ q → A q) (hRc : cells ≤ R.cells) (hRs : slots ≤ R.slots) (hRf : 1 ≤ R.frames) (hRl : 21 ≤ R.locals) (hret : ∀ (r : Int32) (x : St) (H : Heap) (locs : List Loc) (pc : Nat) (ls : Array Slot), decode b_Mod_typeOf pc = .ok (.ireturn, 1) → post r x → Wd dC dI cI cB cJ cZ ad stM kcM 115 A x H → va_S A s.heap H locs → W p l e R s m args below meth c H locs cells slots Q (F0 m pc ls [.int r])) : ∀ (l1 : Int32) (l2 : Int32) (x : St) (H : Heap) (locs : List Loc) (ls : Array Slot), wp_Mod_typeOf post l1 l2 x → Wd dC dI cI cB cJ cZ ad stM kcM 115 A x H → va_S A s.heap H locs → lv_has ls 3 [(0, .ref (ad 0)), (1, .int l1), (2, .int l2)] → W p l e R s m args below meth c H locs cells slots Q (F0 m 0 ls []) := by
  intro l1 l2 x H locs ls  hw hW hS hl
  unfold wp_Mod_typeOf at hw
  refine lv_aload_n hx hb d_Mod_typeOf_0 rfl (lv_at hl 0 rfl) ?_
  refine w_getf (q := 4) (k := 6) (t := 12) (C := R_Mod) (T := F_Mod) (N := 167) hx hb hT hown hK hW ko_0.1 ko_0.2 (by decide) in_Mod rfl rfl (by decide) rfl fr_Mod_6 w_8_182 d_Mod_typeOf_1 rfl ?_
  refine lv_iload_n hx hb d_Mod_typeOf_4 rfl (lv_at hl 1 rfl) ?_
  refine lv_aload_n hx hb d_Mod_typeOf_5 rfl (lv_at hl 0 rfl) ?_
  refine w_getf (q := 11) (k := 13) (t := 12) (C := R_Mod) (T := F_Mod) (N := 167) hx hb hT hown hK hW ko_0.1 ko_0.2 (by decide) in_Mod rfl rfl (by decide) rfl fr_Mod_13 w_8_189 d_Mod_typeOf_6 rfl ?_
  refine lv_bipush (v := 64) hx hb d_Mod_typeOf_9 (by decide) ?_
  refine lv_iload_n hx hb d_Mod_typeOf_11 rfl (lv_at hl 1 rfl) ?_
  refine lv_imul hx hb d_Mod_typeOf_12 ?_
  refine lv_iload_n hx hb d_Mod_typeOf_13 rfl (lv_at hl 2 rfl) ?_
  refine lv_iadd hx hb d_Mod_typeOf_14 ?_
  obtain ⟨hi, hw⟩ := hw
  refine w_iald (o := 11) hx hb hK hW ko_11.1 ko_11.2 hi d_Mod_typeOf_15 ?_
  have hF := hW.free hS hA
  refine va_calli (va_runS (As := [.int l1, .int (rA x 11 ((64 * l1) + l2))]) (rest := [.ref (ad 4)]) ⟨hx, hb, hml, hown, hT⟩ (k_Mod_place l dC dI cI cB cJ cZ ad H.size l1 (rA x 11 ((64 * l1) + l2)) x  hw) ⟨callB_of 2 hT (gwt_in w_11_30) rfl rfl rfl (hT _ w_1_15) (hT _ w_11_28) (by decide +kernel) ⟨Nat.le_trans (Nat.le_of_ble_eq_true rfl) hRf, Nat.le_trans (Nat.le_of_ble_eq_true rfl) hRl⟩, hT _ w_11_29⟩ ⟨PW.blind, PW.at _ hW hK hN⟩ rfl rfl hl.1 rfl (lv_room (Nat.le_of_ble_eq_true rfl)) d_Mod_typeOf_16 ⟨hRc, hRs⟩) hS (fun q _ h => hF q h) hF (fun r468 x467 t H locs ht hvm hw hB hz1 hk1 hS => ?_)
  have hW := Wd.back hB ht hF
  clear hB ht hF hz1 hk1 hvm
  obtain ⟨hi, hw⟩ := hw
  refine w_iald (o := 4) hx hb hK hW ko_4.1 ko_4.2 hi d_Mod_typeOf_19 ?_
  exact hret (rA x467 4 r468) x467 H locs 20 ls d_Mod_typeOf_20 hw hW hS
set_option maxHeartbeats 4000000 in
set_option maxRecDepth 100000 in
theorem k_Mod_typeOf (l : Launch) (dC : Nat → ClassId) (dI : Nat → Nat → Nat) (cI cB cJ cZ : ClassId) (ad : Nat → Nat) (sz : Nat) (l1 : Int32) (l2 : Int32) (x : St) {post : Int32 → St → Prop} (hw : wp_Mod_typeOf post l1 l2 x) : Met l y_Mod_typeOf (wsOf y_Mod_typeOf b_Mod_typeOf 3 (some (.int))) ({ frames := 1, cells := 0, slots := 0, locals := 21 }) (va_Pc [.ref (ad 0), .int l1, .int l2] (PW dC dI cI cB cJ cZ ad stM kcM 115 sz x)) (va_Qi (fun (r : Int32) (y : St) => post r y) (fun y t => Wd dC dI cI cB cJ cZ ad stM kcM 115 (va_A (pic ad stM kcM 115 cI cB cJ cZ x) sz) y t.heap) (va_A (pic ad stM kcM 115 cI cB cJ cZ x) sz)) 0 0 (va_A (pic ad stM kcM 115 cI cB cJ cZ x) sz) := by
  refine Met.ofW (cc := b_Mod_typeOf) (maxL := 3) (ret := some (.int)) (by decide) rfl ?_
  intro p e s m args below meth c s₁ B hml hv
  obtain ⟨rfl, hsz, hW0, hK, hN⟩ := hv
  have hx := B.exec
  have hb := B.bytes
  have hr := B.returns
  have hts := atoms_spec B.pre
  have hT : ∀ w ∈ TG, w.before _ s = true := fun w h => hts w (List.mem_cons_of_mem _ h)
  have hown : s.vm.findClass R_Mod = some m.cls := findClass_of_methodNamed B.named
  have hlocks := B.notSynchronized
  subst hsz
  have hW : Wd dC dI cI cB cJ cZ ad stM kcM 115 (va_A (pic ad stM kcM 115 cI cB cJ cZ x) s.heap.size) x s.heap := ⟨hW0.1, hW0.2.1.self (sz := s.heap.size), hW0.2.2⟩
  generalize hAe : va_A (pic ad stM kcM 115 cI cB cJ cZ x) s.heap.size = A at hW ⊢
  have hA : ∀ q : Nat, s.heap.size ≤ q → A q := fun q h => by rw [← hAe]; exact Or.inr h
  have hS : va_S A s.heap s.heap [] := va_S.rf
  have hl := lv_entry ([.ref (ad 0), .int l1, .int l2]) (n := 3) (Nat.le_of_ble_eq_true rfl)
  rw [lg_entry_eq]
  generalize (lg_sl ([.ref (ad 0), .int l1, .int l2]) ++ List.replicate (3 - (lg_sl ([.ref (ad 0), .int l1, .int l2])).length) Slot.unset).toArray = ls at hl ⊢
  have hl : lv_has ls 3 [(0, .ref (ad 0)), (1, .int l1), (2, .int l2)] := hl
  exact t_Mod_typeOf_e hx hb hml hown hT hK hN hA (Nat.le_refl 0) (Nat.le_refl 0) (Nat.le_refl 1) (Nat.le_refl 21) (fun r x H locs pc ls hd hp hW hS => W.iret (v := r) hx hb hr (fun t ht hM => ⟨⟨r, x, rfl, hp, Wd.back hW ht.symm (fun _ z => z)⟩, hS.F ht⟩) hS.2.2 hd hlocks)  l1 l2 x _ _ ls  hw hW hS hl
set_option maxRecDepth 100000 in
set_option maxHeartbeats 4000000 in
set_option maxRecDepth 100000 in
theorem t_Mod_mostR_e {p : Program} {l : Launch} {e : Env} {R : Room} {s : State} {m : MethodId} {args : Array Value} {below : List Frame} {meth : Method} {c : Code} {cells slots : Nat} {Q : State → Prop} {dC : Nat → ClassId} {dI : Nat → Nat → Nat} {cI cB cJ cZ : ClassId} {A : Nat → Prop} {ad : Nat → Nat} {post : Int32 → St → Prop} (hx : p.tables.exec = Jvm.exec) (hb : c.code = b_Mod_mostR) (hml : c.maxLocals = 3) (hown : s.vm.findClass R_Mod = some m.cls) (hT : ∀ w ∈ TG, w.before args s = true) (hK : va_K (dC, dI) CL (TY cI cB cJ cZ) s) (hN : NW s) (hA : ∀ q : Nat, s.heap.size ≤ q → A q) (hRc : cells ≤ R.cells) (hRs : slots ≤ R.slots) (hRf : 2 ≤ R.frames) (hRl : 47 ≤ R.locals) (hret : ∀ (r : Int32) (x : St) (H : Heap) (locs : List Loc) (pc : Nat) (ls : Array Slot), decode b_Mod_mostR pc = .ok (.ireturn, 1) → post r x → Wd dC dI cI cB cJ cZ ad stM kcM 115 A x H → va_S A s.heap H locs → W p l e R s m args below meth c H locs cells slots Q (F0 m pc ls [.int r])) : ∀ (l1 : Int32) (l2 : Int32) (x : St) (H : Heap) (locs : List Loc) (ls : Array Slot), wp_Mod_mostR post l1 l2 x → Wd dC dI cI cB cJ cZ ad stM kcM 115 A x H → va_S A s.heap H locs → lv_has ls 3 [(0, .ref (ad 0)), (1, .int l1), (2, .int l2)] → W p l e R s m args below meth c H locs cells slots Q (F0 m 0 ls []) := by
  intro l1 l2 x H locs ls  hw hW hS hl
  unfold wp_Mod_mostR at hw
  refine lv_aload_n hx hb d_Mod_mostR_0 rfl (lv_at hl 0 rfl) ?_
  refine lv_iload_n hx hb d_Mod_mostR_1 rfl (lv_at hl 1 rfl) ?_
  refine lv_aload_n hx hb d_Mod_mostR_2 rfl (lv_at hl 0 rfl) ?_
  refine w_getf (q := 11) (k := 13) (t := 12) (C := R_Mod) (T := F_Mod) (N := 167) hx hb hT hown hK hW ko_0.1 ko_0.2 (by decide) in_Mod rfl rfl (by decide) rfl fr_Mod_13 w_8_189 d_Mod_mostR_3 rfl ?_
  refine lv_bipush (v := 64) hx hb d_Mod_mostR_6 (by decide) ?_
  refine lv_iload_n hx hb d_Mod_mostR_8 rfl (lv_at hl 1 rfl) ?_
  refine lv_imul hx hb d_Mod_mostR_9 ?_
  refine lv_iload_n hx hb d_Mod_mostR_10 rfl (lv_at hl 2 rfl) ?_
  refine lv_iadd hx hb d_Mod_mostR_11 ?_
  obtain ⟨hi, hw⟩ := hw
  refine w_iald (o := 11) hx hb hK hW ko_11.1 ko_11.2 hi d_Mod_mostR_12 ?_
  refine lv_iconst (v := 1) hx hb d_Mod_mostR_13 (by decide) ?_
  have hF := hW.free hS hA
  refine va_calli (va_runV (C := R_Mod) (As := [.int l1, .int (rA x 11 ((64 * l1) + l2)), .int 1]) (rest := []) ⟨hx, hb, hml, hown, hT⟩ (k_Mod_level l dC dI cI cB cJ cZ ad H.size l1 (rA x 11 ((64 * l1) + l2)) 1 x  hw) ⟨callB_of 3 hT (gwt_in w_11_114) rfl rfl rfl (hT _ w_1_15) (hT _ w_11_111) (by decide +kernel) ⟨Nat.le_trans (Nat.le_of_ble_eq_true rfl) hRf, Nat.le_trans (Nat.le_of_ble_eq_true rfl) hRl⟩, hT _ w_11_113, hT _ ws_136⟩ ⟨PW.blind, va_recv hK hW.1 (ci := 12) (q0 := 0) rfl (pic_obj ko_0.1 ko_0.2 (by decide)), PW.at _ hW hK hN⟩ rfl rfl hl.1 rfl (lv_room (Nat.le_of_ble_eq_true rfl)) d_Mod_mostR_14 ⟨hRc, hRs⟩) hS (fun q _ h => hF q h) hF (fun r470 x469 t H locs ht hvm hw hB hz1 hk1 hS => ?_)
  have hW := Wd.back hB ht hF
  clear hB ht hF hz1 hk1 hvm
  exact hret r470 x469 H locs 17 ls d_Mod_mostR_17 hw hW hS
set_option maxHeartbeats 4000000 in
set_option maxRecDepth 100000 in
theorem k_Mod_mostR (l : Launch) (dC : Nat → ClassId) (dI : Nat → Nat → Nat) (cI cB cJ cZ : ClassId) (ad : Nat → Nat) (sz : Nat) (l1 : Int32) (l2 : Int32) (x : St) {post : Int32 → St → Prop} (hw : wp_Mod_mostR post l1 l2 x) : Met l y_Mod_mostR (wsOf y_Mod_mostR b_Mod_mostR 3 (some (.int))) ({ frames := 2, cells := 0, slots := 0, locals := 47 }) (va_Pc [.ref (ad 0), .int l1, .int l2] (PW dC dI cI cB cJ cZ ad stM kcM 115 sz x)) (va_Qi (fun (r : Int32) (y : St) => post r y) (fun y t => Wd dC dI cI cB cJ cZ ad stM kcM 115 (va_A (pic ad stM kcM 115 cI cB cJ cZ x) sz) y t.heap) (va_A (pic ad stM kcM 115 cI cB cJ cZ x) sz)) 0 0 (va_A (pic ad stM kcM 115 cI cB cJ cZ x) sz) := by
  refine Met.ofW (cc := b_Mod_mostR) (maxL := 3) (ret := some (.int)) (by decide) rfl ?_
  intro p e s m args below meth c s₁ B hml hv
  obtain ⟨rfl, hsz, hW0, hK, hN⟩ := hv
  have hx := B.exec
  have hb := B.bytes
  have hr := B.returns
  have hts := atoms_spec B.pre
  have hT : ∀ w ∈ TG, w.before _ s = true := fun w h => hts w (List.mem_cons_of_mem _ h)
  have hown : s.vm.findClass R_Mod = some m.cls := findClass_of_methodNamed B.named
  have hlocks := B.notSynchronized
  subst hsz
  have hW : Wd dC dI cI cB cJ cZ ad stM kcM 115 (va_A (pic ad stM kcM 115 cI cB cJ cZ x) s.heap.size) x s.heap := ⟨hW0.1, hW0.2.1.self (sz := s.heap.size), hW0.2.2⟩
  generalize hAe : va_A (pic ad stM kcM 115 cI cB cJ cZ x) s.heap.size = A at hW ⊢
  have hA : ∀ q : Nat, s.heap.size ≤ q → A q := fun q h => by rw [← hAe]; exact Or.inr h
  have hS : va_S A s.heap s.heap [] := va_S.rf
  have hl := lv_entry ([.ref (ad 0), .int l1, .int l2]) (n := 3) (Nat.le_of_ble_eq_true rfl)
  rw [lg_entry_eq]
  generalize (lg_sl ([.ref (ad 0), .int l1, .int l2]) ++ List.replicate (3 - (lg_sl ([.ref (ad 0), .int l1, .int l2])).length) Slot.unset).toArray = ls at hl ⊢
  have hl : lv_has ls 3 [(0, .ref (ad 0)), (1, .int l1), (2, .int l2)] := hl
  exact t_Mod_mostR_e hx hb hml hown hT hK hN hA (Nat.le_refl 0) (Nat.le_refl 0) (Nat.le_refl 2) (Nat.le_refl 47) (fun r x H locs pc ls hd hp hW hS => W.iret (v := r) hx hb hr (fun t ht hM => ⟨⟨r, x, rfl, hp, Wd.back hW ht.symm (fun _ z => z)⟩, hS.F ht⟩) hS.2.2 hd hlocks)  l1 l2 x _ _ ls  hw hW hS hl
set_option maxRecDepth 100000 in
set_option maxHeartbeats 4000000 in
set_option maxRecDepth 100000 in
theorem t_Mod_mostD_e {p : Program} {l : Launch} {e : Env} {R : Room} {s : State} {m : MethodId} {args : Array Value} {below : List Frame} {meth : Method} {c : Code} {cells slots : Nat} {Q : State → Prop} {dC : Nat → ClassId} {dI : Nat → Nat → Nat} {cI cB cJ cZ : ClassId} {A : Nat → Prop} {ad : Nat → Nat} {post : Int32 → St → Prop} (hx : p.tables.exec = Jvm.exec) (hb : c.code = b_Mod_mostD) (hml : c.maxLocals = 3) (hown : s.vm.findClass R_Mod = some m.cls) (hT : ∀ w ∈ TG, w.before args s = true) (hK : va_K (dC, dI) CL (TY cI cB cJ cZ) s) (hN : NW s) (hA : ∀ q : Nat, s.heap.size ≤ q → A q) (hRc : cells ≤ R.cells) (hRs : slots ≤ R.slots) (hRf : 2 ≤ R.frames) (hRl : 47 ≤ R.locals) (hret : ∀ (r : Int32) (x : St) (H : Heap) (locs : List Loc) (pc : Nat) (ls : Array Slot), decode b_Mod_mostD pc = .ok (.ireturn, 1) → post r x → Wd dC dI cI cB cJ cZ ad stM kcM 115 A x H → va_S A s.heap H locs → W p l e R s m args below meth c H locs cells slots Q (F0 m pc ls [.int r])) : ∀ (l1 : Int32) (l2 : Int32) (x : St) (H : Heap) (locs : List Loc) (ls : Array Slot), wp_Mod_mostD post l1 l2 x → Wd dC dI cI cB cJ cZ ad stM kcM 115 A x H → va_S A s.heap H locs → lv_has ls 3 [(0, .ref (ad 0)), (1, .int l1), (2, .int l2)] → W p l e R s m args below meth c H locs cells slots Q (F0 m 0 ls []) := by
  intro l1 l2 x H locs ls  hw hW hS hl
  unfold wp_Mod_mostD at hw
  refine lv_aload_n hx hb d_Mod_mostD_0 rfl (lv_at hl 0 rfl) ?_
  refine lv_iload_n hx hb d_Mod_mostD_1 rfl (lv_at hl 1 rfl) ?_
  refine lv_aload_n hx hb d_Mod_mostD_2 rfl (lv_at hl 0 rfl) ?_
  refine w_getf (q := 11) (k := 13) (t := 12) (C := R_Mod) (T := F_Mod) (N := 167) hx hb hT hown hK hW ko_0.1 ko_0.2 (by decide) in_Mod rfl rfl (by decide) rfl fr_Mod_13 w_8_189 d_Mod_mostD_3 rfl ?_
  refine lv_bipush (v := 64) hx hb d_Mod_mostD_6 (by decide) ?_
  refine lv_iload_n hx hb d_Mod_mostD_8 rfl (lv_at hl 1 rfl) ?_
  refine lv_imul hx hb d_Mod_mostD_9 ?_
  refine lv_iload_n hx hb d_Mod_mostD_10 rfl (lv_at hl 2 rfl) ?_
  refine lv_iadd hx hb d_Mod_mostD_11 ?_
  obtain ⟨hi, hw⟩ := hw
  refine w_iald (o := 11) hx hb hK hW ko_11.1 ko_11.2 hi d_Mod_mostD_12 ?_
  refine lv_iconst (v := 0) hx hb d_Mod_mostD_13 (by decide) ?_
  have hF := hW.free hS hA
  refine va_calli (va_runV (C := R_Mod) (As := [.int l1, .int (rA x 11 ((64 * l1) + l2)), .int 0]) (rest := []) ⟨hx, hb, hml, hown, hT⟩ (k_Mod_level l dC dI cI cB cJ cZ ad H.size l1 (rA x 11 ((64 * l1) + l2)) 0 x  hw) ⟨callB_of 3 hT (gwt_in w_11_114) rfl rfl rfl (hT _ w_1_15) (hT _ w_11_111) (by decide +kernel) ⟨Nat.le_trans (Nat.le_of_ble_eq_true rfl) hRf, Nat.le_trans (Nat.le_of_ble_eq_true rfl) hRl⟩, hT _ w_11_113, hT _ ws_136⟩ ⟨PW.blind, va_recv hK hW.1 (ci := 12) (q0 := 0) rfl (pic_obj ko_0.1 ko_0.2 (by decide)), PW.at _ hW hK hN⟩ rfl rfl hl.1 rfl (lv_room (Nat.le_of_ble_eq_true rfl)) d_Mod_mostD_14 ⟨hRc, hRs⟩) hS (fun q _ h => hF q h) hF (fun r472 x471 t H locs ht hvm hw hB hz1 hk1 hS => ?_)
  have hW := Wd.back hB ht hF
  clear hB ht hF hz1 hk1 hvm
  exact hret r472 x471 H locs 17 ls d_Mod_mostD_17 hw hW hS
set_option maxHeartbeats 4000000 in
set_option maxRecDepth 100000 in
theorem k_Mod_mostD (l : Launch) (dC : Nat → ClassId) (dI : Nat → Nat → Nat) (cI cB cJ cZ : ClassId) (ad : Nat → Nat) (sz : Nat) (l1 : Int32) (l2 : Int32) (x : St) {post : Int32 → St → Prop} (hw : wp_Mod_mostD post l1 l2 x) : Met l y_Mod_mostD (wsOf y_Mod_mostD b_Mod_mostD 3 (some (.int))) ({ frames := 2, cells := 0, slots := 0, locals := 47 }) (va_Pc [.ref (ad 0), .int l1, .int l2] (PW dC dI cI cB cJ cZ ad stM kcM 115 sz x)) (va_Qi (fun (r : Int32) (y : St) => post r y) (fun y t => Wd dC dI cI cB cJ cZ ad stM kcM 115 (va_A (pic ad stM kcM 115 cI cB cJ cZ x) sz) y t.heap) (va_A (pic ad stM kcM 115 cI cB cJ cZ x) sz)) 0 0 (va_A (pic ad stM kcM 115 cI cB cJ cZ x) sz) := by
  refine Met.ofW (cc := b_Mod_mostD) (maxL := 3) (ret := some (.int)) (by decide) rfl ?_
  intro p e s m args below meth c s₁ B hml hv
  obtain ⟨rfl, hsz, hW0, hK, hN⟩ := hv
  have hx := B.exec
  have hb := B.bytes
  have hr := B.returns
  have hts := atoms_spec B.pre
  have hT : ∀ w ∈ TG, w.before _ s = true := fun w h => hts w (List.mem_cons_of_mem _ h)
  have hown : s.vm.findClass R_Mod = some m.cls := findClass_of_methodNamed B.named
  have hlocks := B.notSynchronized
  subst hsz
  have hW : Wd dC dI cI cB cJ cZ ad stM kcM 115 (va_A (pic ad stM kcM 115 cI cB cJ cZ x) s.heap.size) x s.heap := ⟨hW0.1, hW0.2.1.self (sz := s.heap.size), hW0.2.2⟩
  generalize hAe : va_A (pic ad stM kcM 115 cI cB cJ cZ x) s.heap.size = A at hW ⊢
  have hA : ∀ q : Nat, s.heap.size ≤ q → A q := fun q h => by rw [← hAe]; exact Or.inr h
  have hS : va_S A s.heap s.heap [] := va_S.rf
  have hl := lv_entry ([.ref (ad 0), .int l1, .int l2]) (n := 3) (Nat.le_of_ble_eq_true rfl)
  rw [lg_entry_eq]
  generalize (lg_sl ([.ref (ad 0), .int l1, .int l2]) ++ List.replicate (3 - (lg_sl ([.ref (ad 0), .int l1, .int l2])).length) Slot.unset).toArray = ls at hl ⊢
  have hl : lv_has ls 3 [(0, .ref (ad 0)), (1, .int l1), (2, .int l2)] := hl
  exact t_Mod_mostD_e hx hb hml hown hT hK hN hA (Nat.le_refl 0) (Nat.le_refl 0) (Nat.le_refl 2) (Nat.le_refl 47) (fun r x H locs pc ls hd hp hW hS => W.iret (v := r) hx hb hr (fun t ht hM => ⟨⟨r, x, rfl, hp, Wd.back hW ht.symm (fun _ z => z)⟩, hS.F ht⟩) hS.2.2 hd hlocks)  l1 l2 x _ _ ls  hw hW hS hl
end
