theorem fr_Mod_120 : F_Mod 120 = (R_Mod, "hasQuery", "Z", false) := rfl
theorem fr_Mod_121 : F_Mod 121 = (R_Mod, "answered", "Z", false) := rfl
theorem fr_Mod_82 : F_Mod 82 = (R_Mod, "isOpen", "Z", false) := rfl
theorem fr_Mod_83 : F_Mod 83 = (R_Mod, "opens", "I", false) := rfl
theorem w_12_157 : (Jvm.Cond.methodLink "StripedVaultModel" (932 : Nat) ({ cls := "StripedVaultModel", name := "openChunk", desc := "(III)V" } : Jvm.MethodName)) ∈ TG := tw_12 157 (by decide +kernel) (by decide +kernel)
theorem w_12_159 : (Jvm.Cond.instanceMethod ({ cls := "StripedVaultModel", name := "openChunk", desc := "(III)V" } : Jvm.MethodName)) ∈ TG := tw_12 159 (by decide +kernel) (by decide +kernel)
theorem w_12_160 : (Jvm.Cond.code ({ cls := "StripedVaultModel", name := "openChunk", desc := "(III)V" } : Jvm.MethodName) prog_14_method_134_code (13 : Nat) (Option.none : Option Jvm.ClassFile.FieldType)) ∈ TG := tw_12 160 rfl (by decide +kernel)
theorem w_12_96 : (Jvm.Cond.methodLink "StripedVaultModel" (929 : Nat) ({ cls := "StripedVaultModel", name := "openFooter", desc := "()V" } : Jvm.MethodName)) ∈ TG := tw_12 96 (by decide +kernel) (by decide +kernel)
theorem w_12_98 : (Jvm.Cond.instanceMethod ({ cls := "StripedVaultModel", name := "openFooter", desc := "()V" } : Jvm.MethodName)) ∈ TG := tw_12 98 (by decide +kernel) (by decide +kernel)
theorem w_12_99 : (Jvm.Cond.code ({ cls := "StripedVaultModel", name := "openFooter", desc := "()V" } : Jvm.MethodName) prog_14_method_130_code (12 : Nat) (Option.none : Option Jvm.ClassFile.FieldType)) ∈ TG := tw_12 99 (by decide +kernel) (by decide +kernel)
theorem w_13_55 : (Jvm.Cond.methodLink "StripedVaultModel" (963 : Nat) ({ cls := "StripedVaultModel", name := "groupOf", desc := "(I)I" } : Jvm.MethodName)) ∈ TG := tw_13 55 (by decide +kernel) (by decide +kernel)
theorem w_13_57 : (Jvm.Cond.instanceMethod ({ cls := "StripedVaultModel", name := "groupOf", desc := "(I)I" } : Jvm.MethodName)) ∈ TG := tw_13 57 (by decide +kernel) (by decide +kernel)
theorem w_13_58 : (Jvm.Cond.code ({ cls := "StripedVaultModel", name := "groupOf", desc := "(I)I" } : Jvm.MethodName) prog_14_method_147_code (4 : Nat) (Option.some Jvm.ClassFile.FieldType.int)) ∈ TG := tw_13 58 (by decide +kernel) (by decide +kernel)
theorem w_13_59 : (Jvm.Cond.methodLink "StripedVaultModel" (966 : Nat) ({ cls := "StripedVaultModel", name := "firstRow", desc := "(I)I" } : Jvm.MethodName)) ∈ TG := tw_13 59 (by decide +kernel) (by decide +kernel)
theorem w_13_61 : (Jvm.Cond.instanceMethod ({ cls := "StripedVaultModel", name := "firstRow", desc := "(I)I" } : Jvm.MethodName)) ∈ TG := tw_13 61 (by decide +kernel) (by decide +kernel)
theorem w_13_62 : (Jvm.Cond.code ({ cls := "StripedVaultModel", name := "firstRow", desc := "(I)I" } : Jvm.MethodName) prog_14_method_148_code (4 : Nat) (Option.some Jvm.ClassFile.FieldType.int)) ∈ TG := tw_13 62 (by decide +kernel) (by decide +kernel)
theorem w_9_18 : (Jvm.Cond.fieldLink "StripedVaultModel" (917 : Nat) "StripedVaultModel" "isOpen" "Z") ∈ TG := tw_9 18 (by decide +kernel) (by decide +kernel)
theorem w_9_19 : (Jvm.Cond.fieldLink "StripedVaultModel" (926 : Nat) "StripedVaultModel" "opens" "I") ∈ TG := tw_9 19 (by decide +kernel) (by decide +kernel)
theorem w_9_56 : (Jvm.Cond.fieldLink "StripedVaultModel" (920 : Nat) "StripedVaultModel" "hasQuery" "Z") ∈ TG := tw_9 56 (by decide +kernel) (by decide +kernel)
theorem w_9_57 : (Jvm.Cond.fieldLink "StripedVaultModel" (923 : Nat) "StripedVaultModel" "answered" "Z") ∈ TG := tw_9 57 (by decide +kernel) (by decide +kernel)
theorem ws_181 : Cond.selects R_Mod y_Mod_openFooter y_Mod_openFooter ∈ TG := tw_s 181 (by decide +kernel) (by decide +kernel)
theorem ws_194 : Cond.selects R_Mod y_Mod_openChunk y_Mod_openChunk ∈ TG := tw_s 194 (by decide +kernel) (by decide +kernel)
theorem ws_224 : Cond.selects R_Mod y_Mod_groupOf y_Mod_groupOf ∈ TG := tw_s 224 (by decide +kernel) (by decide +kernel)
theorem ws_225 : Cond.selects R_Mod y_Mod_firstRow y_Mod_firstRow ∈ TG := tw_s 225 (by decide +kernel) (by decide +kernel)
theorem d_Mod_open_191 : decode b_Mod_open 191 = .ok (.iload_n 2, 1) := by decide +kernel
theorem d_Mod_open_192 : decode b_Mod_open 192 = .ok (.iconst 3, 1) := by decide +kernel
theorem d_Mod_open_193 : decode b_Mod_open 193 = .ok (.if_icmp .ge 16, 3) := by decide +kernel
theorem d_Mod_open_209 : decode b_Mod_open 209 = .ok (.aload_n 0, 1) := by decide +kernel
theorem d_Mod_open_210 : decode b_Mod_open 210 = .ok (.iconst 1, 1) := by decide +kernel
theorem d_Mod_open_211 : decode b_Mod_open 211 = .ok (.putfield 917, 3) := by decide +kernel
theorem d_Mod_open_214 : decode b_Mod_open 214 = .ok (.iconst 0, 1) := by decide +kernel
theorem d_Mod_open_215 : decode b_Mod_open 215 = .ok (.ireturn, 1) := by decide +kernel
theorem d_Mod_open_196 : decode b_Mod_open 196 = .ok (.aload_n 0, 1) := by decide +kernel
theorem d_Mod_open_197 : decode b_Mod_open 197 = .ok (.getfield 166, 3) := by decide +kernel
theorem d_Mod_open_200 : decode b_Mod_open 200 = .ok (.iload_n 2, 1) := by decide +kernel
theorem d_Mod_open_201 : decode b_Mod_open 201 = .ok (.iconst (-1), 1) := by decide +kernel
theorem d_Mod_open_202 : decode b_Mod_open 202 = .ok (.iastore, 1) := by decide +kernel
theorem d_Mod_open_203 : decode b_Mod_open 203 = .ok (.iinc 2 1, 3) := by decide +kernel
theorem d_Mod_open_206 : decode b_Mod_open 206 = .ok (.goto (-15), 3) := by decide +kernel
theorem d_Mod_open_177 : decode b_Mod_open 177 = .ok (.aload_n 0, 1) := by decide +kernel
theorem d_Mod_open_178 : decode b_Mod_open 178 = .ok (.getfield 550, 3) := by decide +kernel
theorem d_Mod_open_181 : decode b_Mod_open 181 = .ok (.ifCond .eq 8, 3) := by decide +kernel
theorem d_Mod_open_189 : decode b_Mod_open 189 = .ok (.iconst 0, 1) := by decide +kernel
theorem d_Mod_open_190 : decode b_Mod_open 190 = .ok (.istore_n 2, 1) := by decide +kernel
theorem d_Mod_open_184 : decode b_Mod_open 184 = .ok (.aload_n 0, 1) := by decide +kernel
theorem d_Mod_open_185 : decode b_Mod_open 185 = .ok (.getfield 550, 3) := by decide +kernel
theorem d_Mod_open_188 : decode b_Mod_open 188 = .ok (.ireturn, 1) := by decide +kernel
theorem d_Mod_open_162 : decode b_Mod_open 162 = .ok (.iload_n 1, 1) := by decide +kernel
theorem d_Mod_open_163 : decode b_Mod_open 163 = .ok (.aload_n 0, 1) := by decide +kernel
theorem d_Mod_open_164 : decode b_Mod_open 164 = .ok (.getfield 169, 3) := by decide +kernel
theorem d_Mod_open_167 : decode b_Mod_open 167 = .ok (.iload_n 2, 1) := by decide +kernel
theorem d_Mod_open_168 : decode b_Mod_open 168 = .ok (.iaload, 1) := by decide +kernel
theorem d_Mod_open_169 : decode b_Mod_open 169 = .ok (.iadd, 1) := by decide +kernel
theorem d_Mod_open_170 : decode b_Mod_open 170 = .ok (.istore_n 1, 1) := by decide +kernel
theorem d_Mod_open_171 : decode b_Mod_open 171 = .ok (.iinc 2 1, 3) := by decide +kernel
theorem d_Mod_open_174 : decode b_Mod_open 174 = .ok (.goto (-59), 3) := by decide +kernel
theorem d_Mod_open_132 : decode b_Mod_open 132 = .ok (.iload_n 3, 1) := by decide +kernel
theorem d_Mod_open_133 : decode b_Mod_open 133 = .ok (.aload_n 0, 1) := by decide +kernel
theorem d_Mod_open_134 : decode b_Mod_open 134 = .ok (.getfield 38, 3) := by decide +kernel
theorem d_Mod_open_137 : decode b_Mod_open 137 = .ok (.iconst 1, 1) := by decide +kernel
theorem d_Mod_open_138 : decode b_Mod_open 138 = .ok (.iaload, 1) := by decide +kernel
theorem d_Mod_open_139 : decode b_Mod_open 139 = .ok (.if_icmp .ge 23, 3) := by decide +kernel
theorem d_Mod_open_142 : decode b_Mod_open 142 = .ok (.aload_n 0, 1) := by decide +kernel
theorem d_Mod_open_143 : decode b_Mod_open 143 = .ok (.getfield 550, 3) := by decide +kernel
theorem d_Mod_open_146 : decode b_Mod_open 146 = .ok (.ifCond .ne 16, 3) := by decide +kernel
theorem d_Mod_open_149 : decode b_Mod_open 149 = .ok (.aload_n 0, 1) := by decide +kernel
theorem d_Mod_open_150 : decode b_Mod_open 150 = .ok (.iload_n 2, 1) := by decide +kernel
theorem d_Mod_open_151 : decode b_Mod_open 151 = .ok (.iload_n 3, 1) := by decide +kernel
theorem d_Mod_open_152 : decode b_Mod_open 152 = .ok (.iload_n 1, 1) := by decide +kernel
theorem d_Mod_open_153 : decode b_Mod_open 153 = .ok (.invokevirtual 932, 3) := by decide +kernel
theorem d_Mod_open_156 : decode b_Mod_open 156 = .ok (.iinc 3 1, 3) := by decide +kernel
theorem d_Mod_open_159 : decode b_Mod_open 159 = .ok (.goto (-27), 3) := by decide +kernel
theorem d_Mod_open_115 : decode b_Mod_open 115 = .ok (.iload_n 2, 1) := by decide +kernel
theorem d_Mod_open_116 : decode b_Mod_open 116 = .ok (.aload_n 0, 1) := by decide +kernel
theorem d_Mod_open_117 : decode b_Mod_open 117 = .ok (.getfield 877, 3) := by decide +kernel
theorem d_Mod_open_120 : decode b_Mod_open 120 = .ok (.if_icmp .ge 57, 3) := by decide +kernel
theorem d_Mod_open_123 : decode b_Mod_open 123 = .ok (.aload_n 0, 1) := by decide +kernel
theorem d_Mod_open_124 : decode b_Mod_open 124 = .ok (.getfield 550, 3) := by decide +kernel
theorem d_Mod_open_127 : decode b_Mod_open 127 = .ok (.ifCond .ne 50, 3) := by decide +kernel
theorem d_Mod_open_130 : decode b_Mod_open 130 = .ok (.iconst 0, 1) := by decide +kernel
theorem d_Mod_open_131 : decode b_Mod_open 131 = .ok (.istore_n 3, 1) := by decide +kernel
theorem d_Mod_open_22 : decode b_Mod_open 22 = .ok (.iload_n 1, 1) := by decide +kernel
theorem d_Mod_open_23 : decode b_Mod_open 23 = .ok (.iconst 3, 1) := by decide +kernel
theorem d_Mod_open_24 : decode b_Mod_open 24 = .ok (.if_icmp .ge 16, 3) := by decide +kernel
theorem d_Mod_open_40 : decode b_Mod_open 40 = .ok (.aload_n 0, 1) := by decide +kernel
theorem d_Mod_open_41 : decode b_Mod_open 41 = .ok (.getfield 926, 3) := by decide +kernel
theorem d_Mod_open_44 : decode b_Mod_open 44 = .ok (.bipush 100, 2) := by decide +kernel
theorem d_Mod_open_46 : decode b_Mod_open 46 = .ok (.if_icmp .ne 6, 3) := by decide +kernel
theorem d_Mod_open_52 : decode b_Mod_open 52 = .ok (.aload_n 0, 1) := by decide +kernel
theorem d_Mod_open_53 : decode b_Mod_open 53 = .ok (.dup, 1) := by decide +kernel
theorem d_Mod_open_54 : decode b_Mod_open 54 = .ok (.getfield 926, 3) := by decide +kernel
theorem d_Mod_open_57 : decode b_Mod_open 57 = .ok (.iconst 1, 1) := by decide +kernel
theorem d_Mod_open_58 : decode b_Mod_open 58 = .ok (.iadd, 1) := by decide +kernel
theorem d_Mod_open_59 : decode b_Mod_open 59 = .ok (.putfield 926, 3) := by decide +kernel
theorem d_Mod_open_62 : decode b_Mod_open 62 = .ok (.aload_n 0, 1) := by decide +kernel
theorem d_Mod_open_63 : decode b_Mod_open 63 = .ok (.iconst 0, 1) := by decide +kernel
theorem d_Mod_open_64 : decode b_Mod_open 64 = .ok (.putfield 553, 3) := by decide +kernel
theorem d_Mod_open_67 : decode b_Mod_open 67 = .ok (.aload_n 0, 1) := by decide +kernel
theorem d_Mod_open_68 : decode b_Mod_open 68 = .ok (.iconst 0, 1) := by decide +kernel
theorem d_Mod_open_69 : decode b_Mod_open 69 = .ok (.putfield 550, 3) := by decide +kernel
theorem d_Mod_open_72 : decode b_Mod_open 72 = .ok (.aload_n 0, 1) := by decide +kernel
theorem d_Mod_open_73 : decode b_Mod_open 73 = .ok (.iconst 0, 1) := by decide +kernel
theorem d_Mod_open_74 : decode b_Mod_open 74 = .ok (.putfield 877, 3) := by decide +kernel
theorem d_Mod_open_77 : decode b_Mod_open 77 = .ok (.aload_n 0, 1) := by decide +kernel
theorem d_Mod_open_78 : decode b_Mod_open 78 = .ok (.iconst 0, 1) := by decide +kernel
theorem d_Mod_open_79 : decode b_Mod_open 79 = .ok (.putfield 902, 3) := by decide +kernel
theorem d_Mod_open_82 : decode b_Mod_open 82 = .ok (.aload_n 0, 1) := by decide +kernel
theorem d_Mod_open_83 : decode b_Mod_open 83 = .ok (.iconst 0, 1) := by decide +kernel
theorem d_Mod_open_84 : decode b_Mod_open 84 = .ok (.putfield 896, 3) := by decide +kernel
theorem d_Mod_open_87 : decode b_Mod_open 87 = .ok (.aload_n 0, 1) := by decide +kernel
theorem d_Mod_open_88 : decode b_Mod_open 88 = .ok (.iconst 0, 1) := by decide +kernel
theorem d_Mod_open_89 : decode b_Mod_open 89 = .ok (.putfield 893, 3) := by decide +kernel
theorem d_Mod_open_92 : decode b_Mod_open 92 = .ok (.aload_n 0, 1) := by decide +kernel
theorem d_Mod_open_93 : decode b_Mod_open 93 = .ok (.iconst 0, 1) := by decide +kernel
theorem d_Mod_open_94 : decode b_Mod_open 94 = .ok (.putfield 835, 3) := by decide +kernel
theorem d_Mod_open_97 : decode b_Mod_open 97 = .ok (.aload_n 0, 1) := by decide +kernel
theorem d_Mod_open_98 : decode b_Mod_open 98 = .ok (.iconst 0, 1) := by decide +kernel
theorem d_Mod_open_99 : decode b_Mod_open 99 = .ok (.putfield 838, 3) := by decide +kernel
theorem d_Mod_open_102 : decode b_Mod_open 102 = .ok (.aload_n 0, 1) := by decide +kernel
theorem d_Mod_open_103 : decode b_Mod_open 103 = .ok (.invokevirtual 929, 3) := by decide +kernel
theorem d_Mod_open_106 : decode b_Mod_open 106 = .ok (.aload_n 0, 1) := by decide +kernel
theorem d_Mod_open_107 : decode b_Mod_open 107 = .ok (.iconst 4, 1) := by decide +kernel
theorem d_Mod_open_108 : decode b_Mod_open 108 = .ok (.putfield 553, 3) := by decide +kernel
theorem d_Mod_open_111 : decode b_Mod_open 111 = .ok (.iconst 0, 1) := by decide +kernel
theorem d_Mod_open_112 : decode b_Mod_open 112 = .ok (.istore_n 1, 1) := by decide +kernel
theorem d_Mod_open_113 : decode b_Mod_open 113 = .ok (.iconst 0, 1) := by decide +kernel
theorem d_Mod_open_114 : decode b_Mod_open 114 = .ok (.istore_n 2, 1) := by decide +kernel
theorem d_Mod_open_49 : decode b_Mod_open 49 = .ok (.bipush 23, 2) := by decide +kernel
theorem d_Mod_open_51 : decode b_Mod_open 51 = .ok (.ireturn, 1) := by decide +kernel
theorem d_Mod_open_27 : decode b_Mod_open 27 = .ok (.aload_n 0, 1) := by decide +kernel
theorem d_Mod_open_28 : decode b_Mod_open 28 = .ok (.getfield 166, 3) := by decide +kernel
theorem d_Mod_open_31 : decode b_Mod_open 31 = .ok (.iload_n 1, 1) := by decide +kernel
theorem d_Mod_open_32 : decode b_Mod_open 32 = .ok (.iconst (-1), 1) := by decide +kernel
theorem d_Mod_open_33 : decode b_Mod_open 33 = .ok (.iastore, 1) := by decide +kernel
theorem d_Mod_open_34 : decode b_Mod_open 34 = .ok (.iinc 1 1, 3) := by decide +kernel
theorem d_Mod_open_37 : decode b_Mod_open 37 = .ok (.goto (-15), 3) := by decide +kernel
theorem d_Mod_open_0 : decode b_Mod_open 0 = .ok (.aload_n 0, 1) := by decide +kernel
theorem d_Mod_open_1 : decode b_Mod_open 1 = .ok (.iconst 0, 1) := by decide +kernel
theorem d_Mod_open_2 : decode b_Mod_open 2 = .ok (.putfield 360, 3) := by decide +kernel
theorem d_Mod_open_5 : decode b_Mod_open 5 = .ok (.aload_n 0, 1) := by decide +kernel
theorem d_Mod_open_6 : decode b_Mod_open 6 = .ok (.iconst 0, 1) := by decide +kernel
theorem d_Mod_open_7 : decode b_Mod_open 7 = .ok (.putfield 917, 3) := by decide +kernel
theorem d_Mod_open_10 : decode b_Mod_open 10 = .ok (.aload_n 0, 1) := by decide +kernel
theorem d_Mod_open_11 : decode b_Mod_open 11 = .ok (.iconst 0, 1) := by decide +kernel
theorem d_Mod_open_12 : decode b_Mod_open 12 = .ok (.putfield 920, 3) := by decide +kernel
theorem d_Mod_open_15 : decode b_Mod_open 15 = .ok (.aload_n 0, 1) := by decide +kernel
theorem d_Mod_open_16 : decode b_Mod_open 16 = .ok (.iconst 0, 1) := by decide +kernel
theorem d_Mod_open_17 : decode b_Mod_open 17 = .ok (.putfield 923, 3) := by decide +kernel
theorem d_Mod_open_20 : decode b_Mod_open 20 = .ok (.iconst 0, 1) := by decide +kernel
theorem d_Mod_open_21 : decode b_Mod_open 21 = .ok (.istore_n 1, 1) := by decide +kernel
theorem d_Mod_fault_14 : decode b_Mod_fault 14 = .ok (.iconst (-1), 1) := by decide +kernel
theorem d_Mod_fault_15 : decode b_Mod_fault 15 = .ok (.goto 9, 3) := by decide +kernel
theorem d_Mod_fault_24 : decode b_Mod_fault 24 = .ok (.ireturn, 1) := by decide +kernel
theorem d_Mod_fault_0 : decode b_Mod_fault 0 = .ok (.aload_n 0, 1) := by decide +kernel
theorem d_Mod_fault_1 : decode b_Mod_fault 1 = .ok (.iconst 0, 1) := by decide +kernel
theorem d_Mod_fault_2 : decode b_Mod_fault 2 = .ok (.putfield 360, 3) := by decide +kernel
theorem d_Mod_fault_5 : decode b_Mod_fault 5 = .ok (.iload_n 1, 1) := by decide +kernel
theorem d_Mod_fault_6 : decode b_Mod_fault 6 = .ok (.ifCond .lt 8, 3) := by decide +kernel
theorem d_Mod_fault_9 : decode b_Mod_fault 9 = .ok (.iload_n 1, 1) := by decide +kernel
theorem d_Mod_fault_10 : decode b_Mod_fault 10 = .ok (.iconst 2, 1) := by decide +kernel
theorem d_Mod_fault_11 : decode b_Mod_fault 11 = .ok (.if_icmp .le 7, 3) := by decide +kernel
theorem d_Mod_fault_18 : decode b_Mod_fault 18 = .ok (.aload_n 0, 1) := by decide +kernel
theorem d_Mod_fault_19 : decode b_Mod_fault 19 = .ok (.getfield 166, 3) := by decide +kernel
theorem d_Mod_fault_22 : decode b_Mod_fault 22 = .ok (.iload_n 1, 1) := by decide +kernel
theorem d_Mod_fault_23 : decode b_Mod_fault 23 = .ok (.iaload, 1) := by decide +kernel
theorem d_Mod_opened_0 : decode b_Mod_opened 0 = .ok (.aload_n 0, 1) := by decide +kernel
theorem d_Mod_opened_1 : decode b_Mod_opened 1 = .ok (.iconst 0, 1) := by decide +kernel
theorem d_Mod_opened_2 : decode b_Mod_opened 2 = .ok (.putfield 360, 3) := by decide +kernel
theorem d_Mod_opened_5 : decode b_Mod_opened 5 = .ok (.aload_n 0, 1) := by decide +kernel
theorem d_Mod_opened_6 : decode b_Mod_opened 6 = .ok (.getfield 917, 3) := by decide +kernel
theorem d_Mod_opened_9 : decode b_Mod_opened 9 = .ok (.ifCond .ne 5, 3) := by decide +kernel
theorem d_Mod_opened_14 : decode b_Mod_opened 14 = .ok (.iload_n 1, 1) := by decide +kernel
theorem d_Mod_opened_15 : decode b_Mod_opened 15 = .ok (.ifCond .ne 10, 3) := by decide +kernel
theorem d_Mod_opened_25 : decode b_Mod_opened 25 = .ok (.iload_n 1, 1) := by decide +kernel
theorem d_Mod_opened_26 : decode b_Mod_opened 26 = .ok (.iconst 1, 1) := by decide +kernel
theorem d_Mod_opened_27 : decode b_Mod_opened 27 = .ok (.if_icmp .ne 10, 3) := by decide +kernel
theorem d_Mod_opened_37 : decode b_Mod_opened 37 = .ok (.iload_n 1, 1) := by decide +kernel
theorem d_Mod_opened_38 : decode b_Mod_opened 38 = .ok (.iconst 2, 1) := by decide +kernel
theorem d_Mod_opened_39 : decode b_Mod_opened 39 = .ok (.if_icmp .ne 12, 3) := by decide +kernel
theorem d_Mod_opened_51 : decode b_Mod_opened 51 = .ok (.iload_n 1, 1) := by decide +kernel
theorem d_Mod_opened_52 : decode b_Mod_opened 52 = .ok (.iconst 3, 1) := by decide +kernel
theorem d_Mod_opened_53 : decode b_Mod_opened 53 = .ok (.if_icmp .ne 12, 3) := by decide +kernel
theorem d_Mod_opened_65 : decode b_Mod_opened 65 = .ok (.iload_n 1, 1) := by decide +kernel
theorem d_Mod_opened_66 : decode b_Mod_opened 66 = .ok (.iconst 4, 1) := by decide +kernel
theorem d_Mod_opened_67 : decode b_Mod_opened 67 = .ok (.if_icmp .ne 10, 3) := by decide +kernel
theorem d_Mod_opened_77 : decode b_Mod_opened 77 = .ok (.iconst (-1), 1) := by decide +kernel
theorem d_Mod_opened_78 : decode b_Mod_opened 78 = .ok (.ireturn, 1) := by decide +kernel
theorem d_Mod_opened_70 : decode b_Mod_opened 70 = .ok (.aload_n 0, 1) := by decide +kernel
theorem d_Mod_opened_71 : decode b_Mod_opened 71 = .ok (.getfield 902, 3) := by decide +kernel
theorem d_Mod_opened_74 : decode b_Mod_opened 74 = .ok (.goto 4, 3) := by decide +kernel
theorem d_Mod_opened_56 : decode b_Mod_opened 56 = .ok (.aload_n 0, 1) := by decide +kernel
theorem d_Mod_opened_57 : decode b_Mod_opened 57 = .ok (.getfield 38, 3) := by decide +kernel
theorem d_Mod_opened_60 : decode b_Mod_opened 60 = .ok (.iconst 1, 1) := by decide +kernel
theorem d_Mod_opened_61 : decode b_Mod_opened 61 = .ok (.iaload, 1) := by decide +kernel
theorem d_Mod_opened_62 : decode b_Mod_opened 62 = .ok (.goto 16, 3) := by decide +kernel
theorem d_Mod_opened_42 : decode b_Mod_opened 42 = .ok (.aload_n 0, 1) := by decide +kernel
theorem d_Mod_opened_43 : decode b_Mod_opened 43 = .ok (.getfield 35, 3) := by decide +kernel
theorem d_Mod_opened_46 : decode b_Mod_opened 46 = .ok (.iconst 1, 1) := by decide +kernel
theorem d_Mod_opened_47 : decode b_Mod_opened 47 = .ok (.iaload, 1) := by decide +kernel
theorem d_Mod_opened_48 : decode b_Mod_opened 48 = .ok (.goto 30, 3) := by decide +kernel
theorem d_Mod_opened_30 : decode b_Mod_opened 30 = .ok (.aload_n 0, 1) := by decide +kernel
theorem d_Mod_opened_31 : decode b_Mod_opened 31 = .ok (.getfield 877, 3) := by decide +kernel
theorem d_Mod_opened_34 : decode b_Mod_opened 34 = .ok (.goto 44, 3) := by decide +kernel
theorem d_Mod_opened_18 : decode b_Mod_opened 18 = .ok (.aload_n 0, 1) := by decide +kernel
theorem d_Mod_opened_19 : decode b_Mod_opened 19 = .ok (.getfield 874, 3) := by decide +kernel
theorem d_Mod_opened_22 : decode b_Mod_opened 22 = .ok (.goto 56, 3) := by decide +kernel
theorem d_Mod_opened_12 : decode b_Mod_opened 12 = .ok (.iconst (-1), 1) := by decide +kernel
theorem d_Mod_opened_13 : decode b_Mod_opened 13 = .ok (.ireturn, 1) := by decide +kernel
theorem d_Mod_groupOf_9 : decode b_Mod_groupOf 9 = .ok (.iload_n 1, 1) := by decide +kernel
theorem d_Mod_groupOf_10 : decode b_Mod_groupOf 10 = .ok (.iload_n 3, 1) := by decide +kernel
theorem d_Mod_groupOf_11 : decode b_Mod_groupOf 11 = .ok (.if_icmp .lt 18, 3) := by decide +kernel
theorem d_Mod_groupOf_29 : decode b_Mod_groupOf 29 = .ok (.iload_n 2, 1) := by decide +kernel
theorem d_Mod_groupOf_30 : decode b_Mod_groupOf 30 = .ok (.ireturn, 1) := by decide +kernel
theorem d_Mod_groupOf_14 : decode b_Mod_groupOf 14 = .ok (.iinc 2 1, 3) := by decide +kernel
theorem d_Mod_groupOf_17 : decode b_Mod_groupOf 17 = .ok (.iload_n 3, 1) := by decide +kernel
theorem d_Mod_groupOf_18 : decode b_Mod_groupOf 18 = .ok (.aload_n 0, 1) := by decide +kernel
theorem d_Mod_groupOf_19 : decode b_Mod_groupOf 19 = .ok (.getfield 169, 3) := by decide +kernel
theorem d_Mod_groupOf_22 : decode b_Mod_groupOf 22 = .ok (.iload_n 2, 1) := by decide +kernel
theorem d_Mod_groupOf_23 : decode b_Mod_groupOf 23 = .ok (.iaload, 1) := by decide +kernel
theorem d_Mod_groupOf_24 : decode b_Mod_groupOf 24 = .ok (.iadd, 1) := by decide +kernel
theorem d_Mod_groupOf_25 : decode b_Mod_groupOf 25 = .ok (.istore_n 3, 1) := by decide +kernel
theorem d_Mod_groupOf_26 : decode b_Mod_groupOf 26 = .ok (.goto (-17), 3) := by decide +kernel
theorem d_Mod_groupOf_0 : decode b_Mod_groupOf 0 = .ok (.iconst 0, 1) := by decide +kernel
theorem d_Mod_groupOf_1 : decode b_Mod_groupOf 1 = .ok (.istore_n 2, 1) := by decide +kernel
theorem d_Mod_groupOf_2 : decode b_Mod_groupOf 2 = .ok (.aload_n 0, 1) := by decide +kernel
theorem d_Mod_groupOf_3 : decode b_Mod_groupOf 3 = .ok (.getfield 169, 3) := by decide +kernel
theorem d_Mod_groupOf_6 : decode b_Mod_groupOf 6 = .ok (.iconst 0, 1) := by decide +kernel
theorem d_Mod_groupOf_7 : decode b_Mod_groupOf 7 = .ok (.iaload, 1) := by decide +kernel
theorem d_Mod_groupOf_8 : decode b_Mod_groupOf 8 = .ok (.istore_n 3, 1) := by decide +kernel
theorem d_Mod_firstRow_4 : decode b_Mod_firstRow 4 = .ok (.iload_n 3, 1) := by decide +kernel
theorem d_Mod_firstRow_5 : decode b_Mod_firstRow 5 = .ok (.iload_n 1, 1) := by decide +kernel
theorem d_Mod_firstRow_6 : decode b_Mod_firstRow 6 = .ok (.if_icmp .ge 18, 3) := by decide +kernel
theorem d_Mod_firstRow_24 : decode b_Mod_firstRow 24 = .ok (.iload_n 2, 1) := by decide +kernel
theorem d_Mod_firstRow_25 : decode b_Mod_firstRow 25 = .ok (.ireturn, 1) := by decide +kernel
theorem d_Mod_firstRow_9 : decode b_Mod_firstRow 9 = .ok (.iload_n 2, 1) := by decide +kernel
theorem d_Mod_firstRow_10 : decode b_Mod_firstRow 10 = .ok (.aload_n 0, 1) := by decide +kernel
theorem d_Mod_firstRow_11 : decode b_Mod_firstRow 11 = .ok (.getfield 169, 3) := by decide +kernel
theorem d_Mod_firstRow_14 : decode b_Mod_firstRow 14 = .ok (.iload_n 3, 1) := by decide +kernel
theorem d_Mod_firstRow_15 : decode b_Mod_firstRow 15 = .ok (.iaload, 1) := by decide +kernel
theorem d_Mod_firstRow_16 : decode b_Mod_firstRow 16 = .ok (.iadd, 1) := by decide +kernel
theorem d_Mod_firstRow_17 : decode b_Mod_firstRow 17 = .ok (.istore_n 2, 1) := by decide +kernel
theorem d_Mod_firstRow_18 : decode b_Mod_firstRow 18 = .ok (.iinc 3 1, 3) := by decide +kernel
theorem d_Mod_firstRow_21 : decode b_Mod_firstRow 21 = .ok (.goto (-17), 3) := by decide +kernel
theorem d_Mod_firstRow_0 : decode b_Mod_firstRow 0 = .ok (.iconst 0, 1) := by decide +kernel
theorem d_Mod_firstRow_1 : decode b_Mod_firstRow 1 = .ok (.istore_n 2, 1) := by decide +kernel
theorem d_Mod_firstRow_2 : decode b_Mod_firstRow 2 = .ok (.iconst 0, 1) := by decide +kernel
theorem d_Mod_firstRow_3 : decode b_Mod_firstRow 3 = .ok (.istore_n 3, 1) := by decide +kernel
theorem d_Mod_goTo_127 : decode b_Mod_goTo 127 = .ok (.aload_n 0, 1) := by decide +kernel
theorem d_Mod_goTo_128 : decode b_Mod_goTo 128 = .ok (.getfield 245, 3) := by decide +kernel
theorem d_Mod_goTo_131 : decode b_Mod_goTo 131 = .ok (.iload_n 3, 1) := by decide +kernel
theorem d_Mod_goTo_132 : decode b_Mod_goTo 132 = .ok (.iload 4, 2) := by decide +kernel
theorem d_Mod_goTo_134 : decode b_Mod_goTo 134 = .ok (.iastore, 1) := by decide +kernel
theorem d_Mod_goTo_135 : decode b_Mod_goTo 135 = .ok (.iinc 3 1, 3) := by decide +kernel
theorem d_Mod_goTo_138 : decode b_Mod_goTo 138 = .ok (.goto (-130), 3) := by decide +kernel
theorem d_Mod_goTo_104 : decode b_Mod_goTo 104 = .ok (.iload 4, 2) := by decide +kernel
theorem d_Mod_goTo_106 : decode b_Mod_goTo 106 = .ok (.iload 5, 2) := by decide +kernel
theorem d_Mod_goTo_108 : decode b_Mod_goTo 108 = .ok (.if_icmp .ge 19, 3) := by decide +kernel
theorem d_Mod_goTo_111 : decode b_Mod_goTo 111 = .ok (.aload_n 0, 1) := by decide +kernel
theorem d_Mod_goTo_112 : decode b_Mod_goTo 112 = .ok (.getfield 186, 3) := by decide +kernel
theorem d_Mod_goTo_115 : decode b_Mod_goTo 115 = .ok (.iload 4, 2) := by decide +kernel
theorem d_Mod_goTo_117 : decode b_Mod_goTo 117 = .ok (.iaload, 1) := by decide +kernel
theorem d_Mod_goTo_118 : decode b_Mod_goTo 118 = .ok (.ifCond .le 9, 3) := by decide +kernel
theorem d_Mod_goTo_121 : decode b_Mod_goTo 121 = .ok (.iinc 4 1, 3) := by decide +kernel
theorem d_Mod_goTo_124 : decode b_Mod_goTo 124 = .ok (.goto (-20), 3) := by decide +kernel
theorem d_Mod_goTo_71 : decode b_Mod_goTo 71 = .ok (.aload_n 0, 1) := by decide +kernel
theorem d_Mod_goTo_72 : decode b_Mod_goTo 72 = .ok (.getfield 186, 3) := by decide +kernel
theorem d_Mod_goTo_75 : decode b_Mod_goTo 75 = .ok (.iload 4, 2) := by decide +kernel
theorem d_Mod_goTo_77 : decode b_Mod_goTo 77 = .ok (.iaload, 1) := by decide +kernel
theorem d_Mod_goTo_78 : decode b_Mod_goTo 78 = .ok (.ifCond .le 9, 3) := by decide +kernel
theorem d_Mod_goTo_87 : decode b_Mod_goTo 87 = .ok (.iinc 6 1, 3) := by decide +kernel
theorem d_Mod_goTo_90 : decode b_Mod_goTo 90 = .ok (.goto (-28), 3) := by decide +kernel
theorem d_Mod_goTo_81 : decode b_Mod_goTo 81 = .ok (.iinc 4 1, 3) := by decide +kernel
theorem d_Mod_goTo_84 : decode b_Mod_goTo 84 = .ok (.goto (-13), 3) := by decide +kernel
theorem d_Mod_goTo_62 : decode b_Mod_goTo 62 = .ok (.iload 6, 2) := by decide +kernel
theorem d_Mod_goTo_64 : decode b_Mod_goTo 64 = .ok (.iload_n 1, 1) := by decide +kernel
theorem d_Mod_goTo_65 : decode b_Mod_goTo 65 = .ok (.if_icmp .ge 28, 3) := by decide +kernel
theorem d_Mod_goTo_93 : decode b_Mod_goTo 93 = .ok (.aload_n 0, 1) := by decide +kernel
theorem d_Mod_goTo_94 : decode b_Mod_goTo 94 = .ok (.getfield 242, 3) := by decide +kernel
theorem d_Mod_goTo_97 : decode b_Mod_goTo 97 = .ok (.iload_n 3, 1) := by decide +kernel
theorem d_Mod_goTo_98 : decode b_Mod_goTo 98 = .ok (.iload 4, 2) := by decide +kernel
theorem d_Mod_goTo_100 : decode b_Mod_goTo 100 = .ok (.iastore, 1) := by decide +kernel
theorem d_Mod_goTo_101 : decode b_Mod_goTo 101 = .ok (.iinc 4 1, 3) := by decide +kernel
theorem d_Mod_goTo_68 : decode b_Mod_goTo 68 = .ok (.iinc 4 1, 3) := by decide +kernel
theorem d_Mod_goTo_8 : decode b_Mod_goTo 8 = .ok (.iload_n 3, 1) := by decide +kernel
theorem d_Mod_goTo_9 : decode b_Mod_goTo 9 = .ok (.aload_n 0, 1) := by decide +kernel
theorem d_Mod_goTo_10 : decode b_Mod_goTo 10 = .ok (.getfield 38, 3) := by decide +kernel
theorem d_Mod_goTo_13 : decode b_Mod_goTo 13 = .ok (.iconst 1, 1) := by decide +kernel
theorem d_Mod_goTo_14 : decode b_Mod_goTo 14 = .ok (.iaload, 1) := by decide +kernel
theorem d_Mod_goTo_15 : decode b_Mod_goTo 15 = .ok (.if_icmp .ge 126, 3) := by decide +kernel
theorem d_Mod_goTo_141 : decode b_Mod_goTo 141 = .ok (.return_, 1) := by decide +kernel
theorem d_Mod_goTo_18 : decode b_Mod_goTo 18 = .ok (.aload_n 0, 1) := by decide +kernel
theorem d_Mod_goTo_19 : decode b_Mod_goTo 19 = .ok (.getfield 207, 3) := by decide +kernel
theorem d_Mod_goTo_22 : decode b_Mod_goTo 22 = .ok (.aload_n 0, 1) := by decide +kernel
theorem d_Mod_goTo_23 : decode b_Mod_goTo 23 = .ok (.getfield 38, 3) := by decide +kernel
theorem d_Mod_goTo_26 : decode b_Mod_goTo 26 = .ok (.iconst 1, 1) := by decide +kernel
theorem d_Mod_goTo_27 : decode b_Mod_goTo 27 = .ok (.iaload, 1) := by decide +kernel
theorem d_Mod_goTo_28 : decode b_Mod_goTo 28 = .ok (.iload_n 2, 1) := by decide +kernel
theorem d_Mod_goTo_29 : decode b_Mod_goTo 29 = .ok (.imul, 1) := by decide +kernel
theorem d_Mod_goTo_30 : decode b_Mod_goTo 30 = .ok (.iload_n 3, 1) := by decide +kernel
theorem d_Mod_goTo_31 : decode b_Mod_goTo 31 = .ok (.iadd, 1) := by decide +kernel
theorem d_Mod_goTo_32 : decode b_Mod_goTo 32 = .ok (.iaload, 1) := by decide +kernel
theorem d_Mod_goTo_33 : decode b_Mod_goTo 33 = .ok (.istore 4, 2) := by decide +kernel
theorem d_Mod_goTo_35 : decode b_Mod_goTo 35 = .ok (.iload 4, 2) := by decide +kernel
theorem d_Mod_goTo_37 : decode b_Mod_goTo 37 = .ok (.aload_n 0, 1) := by decide +kernel
theorem d_Mod_goTo_38 : decode b_Mod_goTo 38 = .ok (.getfield 195, 3) := by decide +kernel
theorem d_Mod_goTo_41 : decode b_Mod_goTo 41 = .ok (.aload_n 0, 1) := by decide +kernel
theorem d_Mod_goTo_42 : decode b_Mod_goTo 42 = .ok (.getfield 38, 3) := by decide +kernel
theorem d_Mod_goTo_45 : decode b_Mod_goTo 45 = .ok (.iconst 1, 1) := by decide +kernel
theorem d_Mod_goTo_46 : decode b_Mod_goTo 46 = .ok (.iaload, 1) := by decide +kernel
theorem d_Mod_goTo_47 : decode b_Mod_goTo 47 = .ok (.iload_n 2, 1) := by decide +kernel
theorem d_Mod_goTo_48 : decode b_Mod_goTo 48 = .ok (.imul, 1) := by decide +kernel
theorem d_Mod_goTo_49 : decode b_Mod_goTo 49 = .ok (.iload_n 3, 1) := by decide +kernel
theorem d_Mod_goTo_50 : decode b_Mod_goTo 50 = .ok (.iadd, 1) := by decide +kernel
theorem d_Mod_goTo_51 : decode b_Mod_goTo 51 = .ok (.iaload, 1) := by decide +kernel
theorem d_Mod_goTo_52 : decode b_Mod_goTo 52 = .ok (.iadd, 1) := by decide +kernel
theorem d_Mod_goTo_53 : decode b_Mod_goTo 53 = .ok (.istore 5, 2) := by decide +kernel
theorem d_Mod_goTo_55 : decode b_Mod_goTo 55 = .ok (.aload_n 0, 1) := by decide +kernel
theorem d_Mod_goTo_56 : decode b_Mod_goTo 56 = .ok (.iload_n 2, 1) := by decide +kernel
theorem d_Mod_goTo_57 : decode b_Mod_goTo 57 = .ok (.invokevirtual 966, 3) := by decide +kernel
theorem d_Mod_goTo_60 : decode b_Mod_goTo 60 = .ok (.istore 6, 2) := by decide +kernel
theorem d_Mod_goTo_0 : decode b_Mod_goTo 0 = .ok (.aload_n 0, 1) := by decide +kernel
theorem d_Mod_goTo_1 : decode b_Mod_goTo 1 = .ok (.iload_n 1, 1) := by decide +kernel
theorem d_Mod_goTo_2 : decode b_Mod_goTo 2 = .ok (.invokevirtual 963, 3) := by decide +kernel
theorem d_Mod_goTo_5 : decode b_Mod_goTo 5 = .ok (.istore_n 2, 1) := by decide +kernel
theorem d_Mod_goTo_6 : decode b_Mod_goTo 6 = .ok (.iconst 0, 1) := by decide +kernel
theorem d_Mod_goTo_7 : decode b_Mod_goTo 7 = .ok (.istore_n 3, 1) := by decide +kernel
section
variable (l : Launch) (dC : Nat → ClassId) (dI : Nat → Nat → Nat) (cI cB cJ cZ : ClassId)
set_option maxRecDepth 100000 in
set_option maxHeartbeats 4000000 in
set_option maxRecDepth 100000 in
theorem t_Mod_open_191 {p : Program} {l : Launch} {e : Env} {R : Room} {s : State} {m : MethodId} {args : Array Value} {below : List Frame} {meth : Method} {c : Code} {cells slots : Nat} {Q : State → Prop} {dC : Nat → ClassId} {dI : Nat → Nat → Nat} {cI cB cJ cZ : ClassId} {A : Nat → Prop} {ad : Nat → Nat} {post : Int32 → St → Prop} {rec191 : Int32 → Int32 → St → Prop} (hx : p.tables.exec = Jvm.exec) (hb : c.code = b_Mod_open) (hml : c.maxLocals = 4) (hown : s.vm.findClass R_Mod = some m.cls) (hT : ∀ w ∈ TG, w.before args s = true) (hK : va_K (dC, dI) CL (TY cI cB cJ cZ) s) (hN : NW s) (hA : ∀ q : Nat, s.heap.size ≤ q → A q) (hRc : cells ≤ R.cells) (hRs : slots ≤ R.slots) (hRf : 10 ≤ R.frames) (hRl : 263 ≤ R.locals) (hret : ∀ (r : Int32) (x : St) (H : Heap) (locs : List Loc) (pc : Nat) (ls : Array Slot), decode b_Mod_open pc = .ok (.ireturn, 1) → post r x → Wd dC dI cI cB cJ cZ ad stM kcM 115 A x H → va_S A s.heap H locs → W p l e R s m args below meth c H locs cells slots Q (F0 m pc ls [.int r])) (hrec191 : ∀ (l1 : Int32) (l2 : Int32) (x : St) (H : Heap) (locs : List Loc) (ls : Array Slot), rec191 l1 l2 x → Wd dC dI cI cB cJ cZ ad stM kcM 115 A x H → va_S A s.heap H locs → lv_has ls 4 [(0, .ref (ad 0)), (1, .int l1), (2, .int l2)] → W p l e R s m args below meth c H locs cells slots Q (F0 m 191 ls [])) : ∀ (l1 : Int32) (l2 : Int32) (x : St) (H : Heap) (locs : List Loc) (ls : Array Slot), j_Mod_open_191 post rec191 l1 l2 x → Wd dC dI cI cB cJ cZ ad stM kcM 115 A x H → va_S A s.heap H locs → lv_has ls 4 [(0, .ref (ad 0)), (1, .int l1), (2, .int l2)] → W p l e R s m args below meth c H locs cells slots Q (F0 m 191 ls []) := by
  intro l1 l2 x H locs ls  hw hW hS hl
  unfold j_Mod_open_191 at hw
  refine lv_iload_n hx hb d_Mod_open_191 rfl (lv_at hl 2 rfl) ?_
  refine lv_iconst (v := 3) hx hb d_Mod_open_192 (by decide) ?_
  refine lv_icmp_ge (tgt := 209) hx hb d_Mod_open_193 (by decide) (fun c1724 => ?_) (fun c1724 => ?_)
  · have hw := hw.1 c1724
    refine lv_aload_n hx hb d_Mod_open_209 rfl (lv_at hl 0 rfl) ?_
    refine lv_iconst (v := 1) hx hb d_Mod_open_210 (by decide) ?_
    refine w_puti (ty := .boolean) (k := 82) (t := 12) (C := R_Mod) (T := F_Mod) (N := 167) hx hb hT hown hK hW hS ko_0.1 ko_0.2 (by decide) in_Mod t_Mod t_Mod_ok n_Mod rfl rfl (by decide) rfl fr_Mod_82 w_9_18 (by decide +kernel) rfl rfl d_Mod_open_211 (fun H locs hW hS => ?_)
    obtain ⟨x1725, ex1725⟩ : ∃ y : St, y = setI x 0 82 1 := ⟨_, rfl⟩
    rw [← ex1725] at hW
    have hw := hw x1725 ex1725
    refine lv_iconst (v := 0) hx hb d_Mod_open_214 (by decide) ?_
    exact hret 0 x1725 H locs 215 ls d_Mod_open_215 hw hW hS
  · have hw := hw.2 c1724
    refine lv_aload_n hx hb d_Mod_open_196 rfl (lv_at hl 0 rfl) ?_
    refine w_getf (q := 52) (k := 80) (t := 12) (C := R_Mod) (T := F_Mod) (N := 167) hx hb hT hown hK hW ko_0.1 ko_0.2 (by decide) in_Mod rfl rfl (by decide) rfl fr_Mod_80 w_9_16 d_Mod_open_197 rfl ?_
    refine lv_iload_n hx hb d_Mod_open_200 rfl (lv_at hl 2 rfl) ?_
    refine lv_iconst (v := (-1)) hx hb d_Mod_open_201 (by decide) ?_
    obtain ⟨hi, hw⟩ := hw
    refine w_iast (o := 52) hx hb hK hW hS ko_52.1 ko_52.2 hi d_Mod_open_202 (fun H locs hW hS => ?_)
    obtain ⟨x1726, ex1726⟩ : ∃ y : St, y = setA x 52 l2 (-1) := ⟨_, rfl⟩
    rw [← ex1726] at hW
    have hw := hw x1726 ex1726
    refine lv_iinc (v := (l2 + 1)) (lv' := [(2, .int (l2 + 1)), (0, .ref (ad 0)), (1, .int l1)]) hx hb d_Mod_open_203 hl (k := 2) rfl rfl (by decide) rfl (fun ls hl => ?_)
    refine lv_goto (tgt := 191) hx hb d_Mod_open_206 (by decide) ?_
    exact hrec191 l1 (l2 + 1) x1726 H locs ls  hw hW hS (lv_sub hl [1, 2, 0] rfl)
set_option maxHeartbeats 4000000 in
set_option maxRecDepth 100000 in
theorem tl_Mod_open_191 {p : Program} {l : Launch} {e : Env} {R : Room} {s : State} {m : MethodId} {args : Array Value} {below : List Frame} {meth : Method} {c : Code} {cells slots : Nat} {Q : State → Prop} {dC : Nat → ClassId} {dI : Nat → Nat → Nat} {cI cB cJ cZ : ClassId} {A : Nat → Prop} {ad : Nat → Nat} {post : Int32 → St → Prop} (hx : p.tables.exec = Jvm.exec) (hb : c.code = b_Mod_open) (hml : c.maxLocals = 4) (hown : s.vm.findClass R_Mod = some m.cls) (hT : ∀ w ∈ TG, w.before args s = true) (hK : va_K (dC, dI) CL (TY cI cB cJ cZ) s) (hN : NW s) (hA : ∀ q : Nat, s.heap.size ≤ q → A q) (hRc : cells ≤ R.cells) (hRs : slots ≤ R.slots) (hRf : 10 ≤ R.frames) (hRl : 263 ≤ R.locals) (hret : ∀ (r : Int32) (x : St) (H : Heap) (locs : List Loc) (pc : Nat) (ls : Array Slot), decode b_Mod_open pc = .ok (.ireturn, 1) → post r x → Wd dC dI cI cB cJ cZ ad stM kcM 115 A x H → va_S A s.heap H locs → W p l e R s m args below meth c H locs cells slots Q (F0 m pc ls [.int r]))  : ∀ n : Nat, ∀ (l1 : Int32) (l2 : Int32) (x : St) (H : Heap) (locs : List Loc) (ls : Array Slot), wl_Mod_open_191 post n l1 l2 x → Wd dC dI cI cB cJ cZ ad stM kcM 115 A x H → va_S A s.heap H locs → lv_has ls 4 [(0, .ref (ad 0)), (1, .int l1), (2, .int l2)] → W p l e R s m args below meth c H locs cells slots Q (F0 m 191 ls []) := by
  intro n
  induction n with
  | zero => intro l1 l2 x H locs ls  hw; exact hw.elim
  | succ n ih => intro l1 l2 x H locs ls  hw hW hS hl; exact t_Mod_open_191 hx hb hml hown hT hK hN hA hRc hRs hRf hRl hret  ih l1 l2 x H locs ls  hw hW hS hl
set_option maxRecDepth 100000 in
set_option maxHeartbeats 4000000 in
set_option maxRecDepth 100000 in
theorem t_Mod_open_177 {p : Program} {l : Launch} {e : Env} {R : Room} {s : State} {m : MethodId} {args : Array Value} {below : List Frame} {meth : Method} {c : Code} {cells slots : Nat} {Q : State → Prop} {dC : Nat → ClassId} {dI : Nat → Nat → Nat} {cI cB cJ cZ : ClassId} {A : Nat → Prop} {ad : Nat → Nat} {post : Int32 → St → Prop} (hx : p.tables.exec = Jvm.exec) (hb : c.code = b_Mod_open) (hml : c.maxLocals = 4) (hown : s.vm.findClass R_Mod = some m.cls) (hT : ∀ w ∈ TG, w.before args s = true) (hK : va_K (dC, dI) CL (TY cI cB cJ cZ) s) (hN : NW s) (hA : ∀ q : Nat, s.heap.size ≤ q → A q) (hRc : cells ≤ R.cells) (hRs : slots ≤ R.slots) (hRf : 10 ≤ R.frames) (hRl : 263 ≤ R.locals) (hret : ∀ (r : Int32) (x : St) (H : Heap) (locs : List Loc) (pc : Nat) (ls : Array Slot), decode b_Mod_open pc = .ok (.ireturn, 1) → post r x → Wd dC dI cI cB cJ cZ ad stM kcM 115 A x H → va_S A s.heap H locs → W p l e R s m args below meth c H locs cells slots Q (F0 m pc ls [.int r]))  : ∀ (l1 : Int32) (l2 : Int32) (x : St) (H : Heap) (locs : List Loc) (ls : Array Slot), j_Mod_open_177 post l1 l2 x → Wd dC dI cI cB cJ cZ ad stM kcM 115 A x H → va_S A s.heap H locs → lv_has ls 4 [(0, .ref (ad 0)), (1, .int l1), (2, .int l2)] → W p l e R s m args below meth c H locs cells slots Q (F0 m 177 ls []) := by
  intro l1 l2 x H locs ls  hw hW hS hl
  unfold j_Mod_open_177 at hw
  refine lv_aload_n hx hb d_Mod_open_177 rfl (lv_at hl 0 rfl) ?_
  refine w_geti (k := 69) (t := 12) (C := R_Mod) (T := F_Mod) (N := 167) hx hb hT hown hK hW ko_0.1 ko_0.2 (by decide) in_Mod rfl rfl (by decide) rfl fr_Mod_69 w_9_5 d_Mod_open_178 ?_
  refine lv_if_eq (tgt := 189) hx hb d_Mod_open_181 (by decide) (fun c1727 => ?_) (fun c1727 => ?_)
  · have hw := hw.1 c1727
    refine lv_iconst (v := 0) hx hb d_Mod_open_189 (by decide) ?_
    refine lv_istore_n (lv' := [(2, .int 0), (0, .ref (ad 0)), (1, .int l1)]) hx hb d_Mod_open_190 rfl hl (by decide) rfl (fun ls hl => ?_)
    obtain ⟨n, hw⟩ := hw
    exact tl_Mod_open_191 hx hb hml hown hT hK hN hA hRc hRs hRf hRl hret  n l1 0 x H locs ls  hw hW hS (lv_sub hl [1, 2, 0] rfl)
  · have hw := hw.2 c1727
    refine lv_aload_n hx hb d_Mod_open_184 rfl (lv_at hl 0 rfl) ?_
    refine w_geti (k := 69) (t := 12) (C := R_Mod) (T := F_Mod) (N := 167) hx hb hT hown hK hW ko_0.1 ko_0.2 (by decide) in_Mod rfl rfl (by decide) rfl fr_Mod_69 w_9_5 d_Mod_open_185 ?_
    exact hret (fI x 0 69) x H locs 188 ls d_Mod_open_188 hw hW hS
set_option maxRecDepth 100000 in
set_option maxHeartbeats 4000000 in
set_option maxRecDepth 100000 in
theorem t_Mod_open_162 {p : Program} {l : Launch} {e : Env} {R : Room} {s : State} {m : MethodId} {args : Array Value} {below : List Frame} {meth : Method} {c : Code} {cells slots : Nat} {Q : State → Prop} {dC : Nat → ClassId} {dI : Nat → Nat → Nat} {cI cB cJ cZ : ClassId} {A : Nat → Prop} {ad : Nat → Nat} {post : Int32 → St → Prop} {rec115 : Int32 → Int32 → St → Prop} (hx : p.tables.exec = Jvm.exec) (hb : c.code = b_Mod_open) (hml : c.maxLocals = 4) (hown : s.vm.findClass R_Mod = some m.cls) (hT : ∀ w ∈ TG, w.before args s = true) (hK : va_K (dC, dI) CL (TY cI cB cJ cZ) s) (hN : NW s) (hA : ∀ q : Nat, s.heap.size ≤ q → A q) (hRc : cells ≤ R.cells) (hRs : slots ≤ R.slots) (hRf : 10 ≤ R.frames) (hRl : 263 ≤ R.locals) (hret : ∀ (r : Int32) (x : St) (H : Heap) (locs : List Loc) (pc : Nat) (ls : Array Slot), decode b_Mod_open pc = .ok (.ireturn, 1) → post r x → Wd dC dI cI cB cJ cZ ad stM kcM 115 A x H → va_S A s.heap H locs → W p l e R s m args below meth c H locs cells slots Q (F0 m pc ls [.int r])) (hrec115 : ∀ (l1 : Int32) (l2 : Int32) (x : St) (H : Heap) (locs : List Loc) (ls : Array Slot), rec115 l1 l2 x → Wd dC dI cI cB cJ cZ ad stM kcM 115 A x H → va_S A s.heap H locs → lv_has ls 4 [(0, .ref (ad 0)), (1, .int l1), (2, .int l2)] → W p l e R s m args below meth c H locs cells slots Q (F0 m 115 ls [])) : ∀ (l1 : Int32) (l2 : Int32) (l3 : Int32) (x : St) (H : Heap) (locs : List Loc) (ls : Array Slot), j_Mod_open_162 post rec115 l1 l2 l3 x → Wd dC dI cI cB cJ cZ ad stM kcM 115 A x H → va_S A s.heap H locs → lv_has ls 4 [(0, .ref (ad 0)), (1, .int l1), (2, .int l2), (3, .int l3)] → W p l e R s m args below meth c H locs cells slots Q (F0 m 162 ls []) := by
  intro l1 l2 l3 x H locs ls  hw hW hS hl
  unfold j_Mod_open_162 at hw
  refine lv_iload_n hx hb d_Mod_open_162 rfl (lv_at hl 1 rfl) ?_
  refine lv_aload_n hx hb d_Mod_open_163 rfl (lv_at hl 0 rfl) ?_
  refine w_getf (q := 53) (k := 81) (t := 12) (C := R_Mod) (T := F_Mod) (N := 167) hx hb hT hown hK hW ko_0.1 ko_0.2 (by decide) in_Mod rfl rfl (by decide) rfl fr_Mod_81 w_9_17 d_Mod_open_164 rfl ?_
  refine lv_iload_n hx hb d_Mod_open_167 rfl (lv_at hl 2 rfl) ?_
  obtain ⟨hi, hw⟩ := hw
  refine w_iald (o := 53) hx hb hK hW ko_53.1 ko_53.2 hi d_Mod_open_168 ?_
  refine lv_iadd hx hb d_Mod_open_169 ?_
  refine lv_topi (fun v1728 ev1728 => ?_)
  have hw := hw v1728 ev1728
  refine lv_istore_n (lv' := [(1, .int v1728), (0, .ref (ad 0)), (2, .int l2), (3, .int l3)]) hx hb d_Mod_open_170 rfl hl (by decide) rfl (fun ls hl => ?_)
  refine lv_iinc (v := (l2 + 1)) (lv' := [(2, .int (l2 + 1)), (1, .int v1728), (0, .ref (ad 0)), (3, .int l3)]) hx hb d_Mod_open_171 hl (k := 2) rfl rfl (by decide) rfl (fun ls hl => ?_)
  refine lv_goto (tgt := 115) hx hb d_Mod_open_174 (by decide) ?_
  exact hrec115 v1728 (l2 + 1) x H locs ls  hw hW hS (lv_sub hl [2, 1, 0] rfl)
set_option maxRecDepth 100000 in
set_option maxHeartbeats 4000000 in
set_option maxRecDepth 100000 in
theorem t_Mod_open_132 {p : Program} {l : Launch} {e : Env} {R : Room} {s : State} {m : MethodId} {args : Array Value} {below : List Frame} {meth : Method} {c : Code} {cells slots : Nat} {Q : State → Prop} {dC : Nat → ClassId} {dI : Nat → Nat → Nat} {cI cB cJ cZ : ClassId} {A : Nat → Prop} {ad : Nat → Nat} {post : Int32 → St → Prop} {rec115 : Int32 → Int32 → St → Prop} {rec132 : Int32 → Int32 → Int32 → St → Prop} (hx : p.tables.exec = Jvm.exec) (hb : c.code = b_Mod_open) (hml : c.maxLocals = 4) (hown : s.vm.findClass R_Mod = some m.cls) (hT : ∀ w ∈ TG, w.before args s = true) (hK : va_K (dC, dI) CL (TY cI cB cJ cZ) s) (hN : NW s) (hA : ∀ q : Nat, s.heap.size ≤ q → A q) (hRc : cells ≤ R.cells) (hRs : slots ≤ R.slots) (hRf : 10 ≤ R.frames) (hRl : 263 ≤ R.locals) (hret : ∀ (r : Int32) (x : St) (H : Heap) (locs : List Loc) (pc : Nat) (ls : Array Slot), decode b_Mod_open pc = .ok (.ireturn, 1) → post r x → Wd dC dI cI cB cJ cZ ad stM kcM 115 A x H → va_S A s.heap H locs → W p l e R s m args below meth c H locs cells slots Q (F0 m pc ls [.int r])) (hrec115 : ∀ (l1 : Int32) (l2 : Int32) (x : St) (H : Heap) (locs : List Loc) (ls : Array Slot), rec115 l1 l2 x → Wd dC dI cI cB cJ cZ ad stM kcM 115 A x H → va_S A s.heap H locs → lv_has ls 4 [(0, .ref (ad 0)), (1, .int l1), (2, .int l2)] → W p l e R s m args below meth c H locs cells slots Q (F0 m 115 ls [])) (hrec132 : ∀ (l1 : Int32) (l2 : Int32) (l3 : Int32) (x : St) (H : Heap) (locs : List Loc) (ls : Array Slot), rec132 l1 l2 l3 x → Wd dC dI cI cB cJ cZ ad stM kcM 115 A x H → va_S A s.heap H locs → lv_has ls 4 [(0, .ref (ad 0)), (1, .int l1), (2, .int l2), (3, .int l3)] → W p l e R s m args below meth c H locs cells slots Q (F0 m 132 ls [])) : ∀ (l1 : Int32) (l2 : Int32) (l3 : Int32) (x : St) (H : Heap) (locs : List Loc) (ls : Array Slot), j_Mod_open_132 post rec115 rec132 l1 l2 l3 x → Wd dC dI cI cB cJ cZ ad stM kcM 115 A x H → va_S A s.heap H locs → lv_has ls 4 [(0, .ref (ad 0)), (1, .int l1), (2, .int l2), (3, .int l3)] → W p l e R s m args below meth c H locs cells slots Q (F0 m 132 ls []) := by
  intro l1 l2 l3 x H locs ls  hw hW hS hl
  unfold j_Mod_open_132 at hw
  refine lv_iload_n hx hb d_Mod_open_132 rfl (lv_at hl 3 rfl) ?_
  refine lv_aload_n hx hb d_Mod_open_133 rfl (lv_at hl 0 rfl) ?_
  refine w_getf (q := 10) (k := 12) (t := 12) (C := R_Mod) (T := F_Mod) (N := 167) hx hb hT hown hK hW ko_0.1 ko_0.2 (by decide) in_Mod rfl rfl (by decide) rfl fr_Mod_12 w_8_188 d_Mod_open_134 rfl ?_
  refine lv_iconst (v := 1) hx hb d_Mod_open_137 (by decide) ?_
  obtain ⟨hi, hw⟩ := hw
  refine w_iald (o := 10) hx hb hK hW ko_10.1 ko_10.2 hi d_Mod_open_138 ?_
  refine lv_icmp_ge (tgt := 162) hx hb d_Mod_open_139 (by decide) (fun c1729 => ?_) (fun c1729 => ?_)
  · have hw := hw.1 c1729
    exact t_Mod_open_162 hx hb hml hown hT hK hN hA hRc hRs hRf hRl hret hrec115 l1 l2 l3 x H locs ls  hw hW hS (lv_sub hl [0, 1, 2, 3] rfl)
  · have hw := hw.2 c1729
    refine lv_aload_n hx hb d_Mod_open_142 rfl (lv_at hl 0 rfl) ?_
    refine w_geti (k := 69) (t := 12) (C := R_Mod) (T := F_Mod) (N := 167) hx hb hT hown hK hW ko_0.1 ko_0.2 (by decide) in_Mod rfl rfl (by decide) rfl fr_Mod_69 w_9_5 d_Mod_open_143 ?_
    refine lv_if_ne (tgt := 162) hx hb d_Mod_open_146 (by decide) (fun c1730 => ?_) (fun c1730 => ?_)
    · have hw := hw.1 c1730
      exact t_Mod_open_162 hx hb hml hown hT hK hN hA hRc hRs hRf hRl hret hrec115 l1 l2 l3 x H locs ls  hw hW hS (lv_sub hl [0, 1, 2, 3] rfl)
    · have hw := hw.2 c1730
      refine lv_aload_n hx hb d_Mod_open_149 rfl (lv_at hl 0 rfl) ?_
      refine lv_iload_n hx hb d_Mod_open_150 rfl (lv_at hl 2 rfl) ?_
      refine lv_iload_n hx hb d_Mod_open_151 rfl (lv_at hl 3 rfl) ?_
      refine lv_iload_n hx hb d_Mod_open_152 rfl (lv_at hl 1 rfl) ?_
      have hF := hW.free hS hA
      refine va_callv (va_runV (C := R_Mod) (As := [.int l2, .int l3, .int l1]) (rest := []) ⟨hx, hb, hml, hown, hT⟩ (k_Mod_openChunk l dC dI cI cB cJ cZ ad H.size l2 l3 l1 x  hw) ⟨callB_of 3 hT (gwt_in w_12_160) rfl rfl rfl (hT _ w_1_15) (hT _ w_12_157) (by decide +kernel) ⟨Nat.le_trans (Nat.le_of_ble_eq_true rfl) hRf, Nat.le_trans (Nat.le_of_ble_eq_true rfl) hRl⟩, hT _ w_12_159, hT _ ws_194⟩ ⟨PW.blind, va_recv hK hW.1 (ci := 12) (q0 := 0) rfl (pic_obj ko_0.1 ko_0.2 (by decide)), PW.at _ hW hK hN⟩ rfl rfl hl.1 rfl (lv_room (Nat.le_of_ble_eq_true rfl)) d_Mod_open_153 ⟨hRc, hRs⟩) hS (fun q _ h => hF q h) hF (fun  x1731 t H locs ht hvm hw hB hz1 hk1 hS => ?_)
      have hW := Wd.back hB ht hF
      clear hB ht hF hz1 hk1 hvm
      refine lv_iinc (v := (l3 + 1)) (lv' := [(3, .int (l3 + 1)), (0, .ref (ad 0)), (1, .int l1), (2, .int l2)]) hx hb d_Mod_open_156 hl (k := 3) rfl rfl (by decide) rfl (fun ls hl => ?_)
      refine lv_goto (tgt := 132) hx hb d_Mod_open_159 (by decide) ?_
      exact hrec132 l1 l2 (l3 + 1) x1731 H locs ls  hw hW hS (lv_sub hl [1, 2, 3, 0] rfl)
set_option maxHeartbeats 4000000 in
set_option maxRecDepth 100000 in
theorem tl_Mod_open_132 {p : Program} {l : Launch} {e : Env} {R : Room} {s : State} {m : MethodId} {args : Array Value} {below : List Frame} {meth : Method} {c : Code} {cells slots : Nat} {Q : State → Prop} {dC : Nat → ClassId} {dI : Nat → Nat → Nat} {cI cB cJ cZ : ClassId} {A : Nat → Prop} {ad : Nat → Nat} {post : Int32 → St → Prop} {rec115 : Int32 → Int32 → St → Prop} (hx : p.tables.exec = Jvm.exec) (hb : c.code = b_Mod_open) (hml : c.maxLocals = 4) (hown : s.vm.findClass R_Mod = some m.cls) (hT : ∀ w ∈ TG, w.before args s = true) (hK : va_K (dC, dI) CL (TY cI cB cJ cZ) s) (hN : NW s) (hA : ∀ q : Nat, s.heap.size ≤ q → A q) (hRc : cells ≤ R.cells) (hRs : slots ≤ R.slots) (hRf : 10 ≤ R.frames) (hRl : 263 ≤ R.locals) (hret : ∀ (r : Int32) (x : St) (H : Heap) (locs : List Loc) (pc : Nat) (ls : Array Slot), decode b_Mod_open pc = .ok (.ireturn, 1) → post r x → Wd dC dI cI cB cJ cZ ad stM kcM 115 A x H → va_S A s.heap H locs → W p l e R s m args below meth c H locs cells slots Q (F0 m pc ls [.int r])) (hrec115 : ∀ (l1 : Int32) (l2 : Int32) (x : St) (H : Heap) (locs : List Loc) (ls : Array Slot), rec115 l1 l2 x → Wd dC dI cI cB cJ cZ ad stM kcM 115 A x H → va_S A s.heap H locs → lv_has ls 4 [(0, .ref (ad 0)), (1, .int l1), (2, .int l2)] → W p l e R s m args below meth c H locs cells slots Q (F0 m 115 ls [])) : ∀ n : Nat, ∀ (l1 : Int32) (l2 : Int32) (l3 : Int32) (x : St) (H : Heap) (locs : List Loc) (ls : Array Slot), wl_Mod_open_132 post rec115 n l1 l2 l3 x → Wd dC dI cI cB cJ cZ ad stM kcM 115 A x H → va_S A s.heap H locs → lv_has ls 4 [(0, .ref (ad 0)), (1, .int l1), (2, .int l2), (3, .int l3)] → W p l e R s m args below meth c H locs cells slots Q (F0 m 132 ls []) := by
  intro n
  induction n with
  | zero => intro l1 l2 l3 x H locs ls  hw; exact hw.elim
  | succ n ih => intro l1 l2 l3 x H locs ls  hw hW hS hl; exact t_Mod_open_132 hx hb hml hown hT hK hN hA hRc hRs hRf hRl hret hrec115 ih l1 l2 l3 x H locs ls  hw hW hS hl
set_option maxRecDepth 100000 in
set_option maxHeartbeats 4000000 in
set_option maxRecDepth 100000 in
theorem t_Mod_open_115 {p : Program} {l : Launch} {e : Env} {R : Room} {s : State} {m : MethodId} {args : Array Value} {below : List Frame} {meth : Method} {c : Code} {cells slots : Nat} {Q : State → Prop} {dC : Nat → ClassId} {dI : Nat → Nat → Nat} {cI cB cJ cZ : ClassId} {A : Nat → Prop} {ad : Nat → Nat} {post : Int32 → St → Prop} {rec115 : Int32 → Int32 → St → Prop} (hx : p.tables.exec = Jvm.exec) (hb : c.code = b_Mod_open) (hml : c.maxLocals = 4) (hown : s.vm.findClass R_Mod = some m.cls) (hT : ∀ w ∈ TG, w.before args s = true) (hK : va_K (dC, dI) CL (TY cI cB cJ cZ) s) (hN : NW s) (hA : ∀ q : Nat, s.heap.size ≤ q → A q) (hRc : cells ≤ R.cells) (hRs : slots ≤ R.slots) (hRf : 10 ≤ R.frames) (hRl : 263 ≤ R.locals) (hret : ∀ (r : Int32) (x : St) (H : Heap) (locs : List Loc) (pc : Nat) (ls : Array Slot), decode b_Mod_open pc = .ok (.ireturn, 1) → post r x → Wd dC dI cI cB cJ cZ ad stM kcM 115 A x H → va_S A s.heap H locs → W p l e R s m args below meth c H locs cells slots Q (F0 m pc ls [.int r])) (hrec115 : ∀ (l1 : Int32) (l2 : Int32) (x : St) (H : Heap) (locs : List Loc) (ls : Array Slot), rec115 l1 l2 x → Wd dC dI cI cB cJ cZ ad stM kcM 115 A x H → va_S A s.heap H locs → lv_has ls 4 [(0, .ref (ad 0)), (1, .int l1), (2, .int l2)] → W p l e R s m args below meth c H locs cells slots Q (F0 m 115 ls [])) : ∀ (l1 : Int32) (l2 : Int32) (x : St) (H : Heap) (locs : List Loc) (ls : Array Slot), j_Mod_open_115 post rec115 l1 l2 x → Wd dC dI cI cB cJ cZ ad stM kcM 115 A x H → va_S A s.heap H locs → lv_has ls 4 [(0, .ref (ad 0)), (1, .int l1), (2, .int l2)] → W p l e R s m args below meth c H locs cells slots Q (F0 m 115 ls []) := by
  intro l1 l2 x H locs ls  hw hW hS hl
  unfold j_Mod_open_115 at hw
  refine lv_iload_n hx hb d_Mod_open_115 rfl (lv_at hl 2 rfl) ?_
  refine lv_aload_n hx hb d_Mod_open_116 rfl (lv_at hl 0 rfl) ?_
  refine w_geti (k := 85) (t := 12) (C := R_Mod) (T := F_Mod) (N := 167) hx hb hT hown hK hW ko_0.1 ko_0.2 (by decide) in_Mod rfl rfl (by decide) rfl fr_Mod_85 w_9_21 d_Mod_open_117 ?_
  refine lv_icmp_ge (tgt := 177) hx hb d_Mod_open_120 (by decide) (fun c1732 => ?_) (fun c1732 => ?_)
  · have hw := hw.1 c1732
    exact t_Mod_open_177 hx hb hml hown hT hK hN hA hRc hRs hRf hRl hret  l1 l2 x H locs ls  hw hW hS (lv_sub hl [0, 1, 2] rfl)
  · have hw := hw.2 c1732
    refine lv_aload_n hx hb d_Mod_open_123 rfl (lv_at hl 0 rfl) ?_
    refine w_geti (k := 69) (t := 12) (C := R_Mod) (T := F_Mod) (N := 167) hx hb hT hown hK hW ko_0.1 ko_0.2 (by decide) in_Mod rfl rfl (by decide) rfl fr_Mod_69 w_9_5 d_Mod_open_124 ?_
    refine lv_if_ne (tgt := 177) hx hb d_Mod_open_127 (by decide) (fun c1733 => ?_) (fun c1733 => ?_)
    · have hw := hw.1 c1733
      exact t_Mod_open_177 hx hb hml hown hT hK hN hA hRc hRs hRf hRl hret  l1 l2 x H locs ls  hw hW hS (lv_sub hl [0, 1, 2] rfl)
    · have hw := hw.2 c1733
      refine lv_iconst (v := 0) hx hb d_Mod_open_130 (by decide) ?_
      refine lv_istore_n (lv' := [(3, .int 0), (0, .ref (ad 0)), (1, .int l1), (2, .int l2)]) hx hb d_Mod_open_131 rfl hl (by decide) rfl (fun ls hl => ?_)
      obtain ⟨n, hw⟩ := hw
      exact tl_Mod_open_132 hx hb hml hown hT hK hN hA hRc hRs hRf hRl hret hrec115 n l1 l2 0 x H locs ls  hw hW hS (lv_sub hl [1, 2, 3, 0] rfl)
set_option maxHeartbeats 4000000 in
set_option maxRecDepth 100000 in
theorem tl_Mod_open_115 {p : Program} {l : Launch} {e : Env} {R : Room} {s : State} {m : MethodId} {args : Array Value} {below : List Frame} {meth : Method} {c : Code} {cells slots : Nat} {Q : State → Prop} {dC : Nat → ClassId} {dI : Nat → Nat → Nat} {cI cB cJ cZ : ClassId} {A : Nat → Prop} {ad : Nat → Nat} {post : Int32 → St → Prop} (hx : p.tables.exec = Jvm.exec) (hb : c.code = b_Mod_open) (hml : c.maxLocals = 4) (hown : s.vm.findClass R_Mod = some m.cls) (hT : ∀ w ∈ TG, w.before args s = true) (hK : va_K (dC, dI) CL (TY cI cB cJ cZ) s) (hN : NW s) (hA : ∀ q : Nat, s.heap.size ≤ q → A q) (hRc : cells ≤ R.cells) (hRs : slots ≤ R.slots) (hRf : 10 ≤ R.frames) (hRl : 263 ≤ R.locals) (hret : ∀ (r : Int32) (x : St) (H : Heap) (locs : List Loc) (pc : Nat) (ls : Array Slot), decode b_Mod_open pc = .ok (.ireturn, 1) → post r x → Wd dC dI cI cB cJ cZ ad stM kcM 115 A x H → va_S A s.heap H locs → W p l e R s m args below meth c H locs cells slots Q (F0 m pc ls [.int r]))  : ∀ n : Nat, ∀ (l1 : Int32) (l2 : Int32) (x : St) (H : Heap) (locs : List Loc) (ls : Array Slot), wl_Mod_open_115 post n l1 l2 x → Wd dC dI cI cB cJ cZ ad stM kcM 115 A x H → va_S A s.heap H locs → lv_has ls 4 [(0, .ref (ad 0)), (1, .int l1), (2, .int l2)] → W p l e R s m args below meth c H locs cells slots Q (F0 m 115 ls []) := by
  intro n
  induction n with
  | zero => intro l1 l2 x H locs ls  hw; exact hw.elim
  | succ n ih => intro l1 l2 x H locs ls  hw hW hS hl; exact t_Mod_open_115 hx hb hml hown hT hK hN hA hRc hRs hRf hRl hret  ih l1 l2 x H locs ls  hw hW hS hl
set_option maxRecDepth 100000 in
set_option maxHeartbeats 4000000 in
set_option maxRecDepth 100000 in
theorem t_Mod_open_22 {p : Program} {l : Launch} {e : Env} {R : Room} {s : State} {m : MethodId} {args : Array Value} {below : List Frame} {meth : Method} {c : Code} {cells slots : Nat} {Q : State → Prop} {dC : Nat → ClassId} {dI : Nat → Nat → Nat} {cI cB cJ cZ : ClassId} {A : Nat → Prop} {ad : Nat → Nat} {post : Int32 → St → Prop} {rec22 : Int32 → St → Prop} (hx : p.tables.exec = Jvm.exec) (hb : c.code = b_Mod_open) (hml : c.maxLocals = 4) (hown : s.vm.findClass R_Mod = some m.cls) (hT : ∀ w ∈ TG, w.before args s = true) (hK : va_K (dC, dI) CL (TY cI cB cJ cZ) s) (hN : NW s) (hA : ∀ q : Nat, s.heap.size ≤ q → A q) (hRc : cells ≤ R.cells) (hRs : slots ≤ R.slots) (hRf : 10 ≤ R.frames) (hRl : 263 ≤ R.locals) (hret : ∀ (r : Int32) (x : St) (H : Heap) (locs : List Loc) (pc : Nat) (ls : Array Slot), decode b_Mod_open pc = .ok (.ireturn, 1) → post r x → Wd dC dI cI cB cJ cZ ad stM kcM 115 A x H → va_S A s.heap H locs → W p l e R s m args below meth c H locs cells slots Q (F0 m pc ls [.int r])) (hrec22 : ∀ (l1 : Int32) (x : St) (H : Heap) (locs : List Loc) (ls : Array Slot), rec22 l1 x → Wd dC dI cI cB cJ cZ ad stM kcM 115 A x H → va_S A s.heap H locs → lv_has ls 4 [(0, .ref (ad 0)), (1, .int l1)] → W p l e R s m args below meth c H locs cells slots Q (F0 m 22 ls [])) : ∀ (l1 : Int32) (x : St) (H : Heap) (locs : List Loc) (ls : Array Slot), j_Mod_open_22 post rec22 l1 x → Wd dC dI cI cB cJ cZ ad stM kcM 115 A x H → va_S A s.heap H locs → lv_has ls 4 [(0, .ref (ad 0)), (1, .int l1)] → W p l e R s m args below meth c H locs cells slots Q (F0 m 22 ls []) := by
  intro l1 x H locs ls  hw hW hS hl
  unfold j_Mod_open_22 at hw
  refine lv_iload_n hx hb d_Mod_open_22 rfl (lv_at hl 1 rfl) ?_
  refine lv_iconst (v := 3) hx hb d_Mod_open_23 (by decide) ?_
  refine lv_icmp_ge (tgt := 40) hx hb d_Mod_open_24 (by decide) (fun c1734 => ?_) (fun c1734 => ?_)
  · have hw := hw.1 c1734
    refine lv_aload_n hx hb d_Mod_open_40 rfl (lv_at hl 0 rfl) ?_
    refine w_geti (k := 83) (t := 12) (C := R_Mod) (T := F_Mod) (N := 167) hx hb hT hown hK hW ko_0.1 ko_0.2 (by decide) in_Mod rfl rfl (by decide) rfl fr_Mod_83 w_9_19 d_Mod_open_41 ?_
    refine lv_bipush (v := 100) hx hb d_Mod_open_44 (by decide) ?_
    refine lv_icmp_ne (tgt := 52) hx hb d_Mod_open_46 (by decide) (fun c1735 => ?_) (fun c1735 => ?_)
    · have hw := hw.1 c1735
      refine lv_aload_n hx hb d_Mod_open_52 rfl (lv_at hl 0 rfl) ?_
      refine lv_dup hx hb d_Mod_open_53 rfl ?_
      refine w_geti (k := 83) (t := 12) (C := R_Mod) (T := F_Mod) (N := 167) hx hb hT hown hK hW ko_0.1 ko_0.2 (by decide) in_Mod rfl rfl (by decide) rfl fr_Mod_83 w_9_19 d_Mod_open_54 ?_
      refine lv_iconst (v := 1) hx hb d_Mod_open_57 (by decide) ?_
      refine lv_iadd hx hb d_Mod_open_58 ?_
      refine w_puti (ty := .int) (k := 83) (t := 12) (C := R_Mod) (T := F_Mod) (N := 167) hx hb hT hown hK hW hS ko_0.1 ko_0.2 (by decide) in_Mod t_Mod t_Mod_ok n_Mod rfl rfl (by decide) rfl fr_Mod_83 w_9_19 (by decide +kernel) rfl rfl d_Mod_open_59 (fun H locs hW hS => ?_)
      obtain ⟨x1736, ex1736⟩ : ∃ y : St, y = setI x 0 83 ((fI x 0 83) + 1) := ⟨_, rfl⟩
      rw [← ex1736] at hW
      have hw := hw x1736 ex1736
      refine lv_aload_n hx hb d_Mod_open_62 rfl (lv_at hl 0 rfl) ?_
      refine lv_iconst (v := 0) hx hb d_Mod_open_63 (by decide) ?_
      refine w_puti (ty := .int) (k := 67) (t := 12) (C := R_Mod) (T := F_Mod) (N := 167) hx hb hT hown hK hW hS ko_0.1 ko_0.2 (by decide) in_Mod t_Mod t_Mod_ok n_Mod rfl rfl (by decide) rfl fr_Mod_67 w_9_3 (by decide +kernel) rfl rfl d_Mod_open_64 (fun H locs hW hS => ?_)
      obtain ⟨x1737, ex1737⟩ : ∃ y : St, y = setI x1736 0 67 0 := ⟨_, rfl⟩
      rw [← ex1737] at hW
      have hw := hw x1737 ex1737
      refine lv_aload_n hx hb d_Mod_open_67 rfl (lv_at hl 0 rfl) ?_
      refine lv_iconst (v := 0) hx hb d_Mod_open_68 (by decide) ?_
      refine w_puti (ty := .int) (k := 69) (t := 12) (C := R_Mod) (T := F_Mod) (N := 167) hx hb hT hown hK hW hS ko_0.1 ko_0.2 (by decide) in_Mod t_Mod t_Mod_ok n_Mod rfl rfl (by decide) rfl fr_Mod_69 w_9_5 (by decide +kernel) rfl rfl d_Mod_open_69 (fun H locs hW hS => ?_)
      obtain ⟨x1738, ex1738⟩ : ∃ y : St, y = setI x1737 0 69 0 := ⟨_, rfl⟩
      rw [← ex1738] at hW
      have hw := hw x1738 ex1738
      refine lv_aload_n hx hb d_Mod_open_72 rfl (lv_at hl 0 rfl) ?_
      refine lv_iconst (v := 0) hx hb d_Mod_open_73 (by decide) ?_
      refine w_puti (ty := .int) (k := 85) (t := 12) (C := R_Mod) (T := F_Mod) (N := 167) hx hb hT hown hK hW hS ko_0.1 ko_0.2 (by decide) in_Mod t_Mod t_Mod_ok n_Mod rfl rfl (by decide) rfl fr_Mod_85 w_9_21 (by decide +kernel) rfl rfl d_Mod_open_74 (fun H locs hW hS => ?_)
      obtain ⟨x1739, ex1739⟩ : ∃ y : St, y = setI x1738 0 85 0 := ⟨_, rfl⟩
      rw [← ex1739] at hW
      have hw := hw x1739 ex1739
      refine lv_aload_n hx hb d_Mod_open_77 rfl (lv_at hl 0 rfl) ?_
      refine lv_iconst (v := 0) hx hb d_Mod_open_78 (by decide) ?_
      refine w_puti (ty := .int) (k := 86) (t := 12) (C := R_Mod) (T := F_Mod) (N := 167) hx hb hT hown hK hW hS ko_0.1 ko_0.2 (by decide) in_Mod t_Mod t_Mod_ok n_Mod rfl rfl (by decide) rfl fr_Mod_86 w_9_22 (by decide +kernel) rfl rfl d_Mod_open_79 (fun H locs hW hS => ?_)
      obtain ⟨x1740, ex1740⟩ : ∃ y : St, y = setI x1739 0 86 0 := ⟨_, rfl⟩
      rw [← ex1740] at hW
      have hw := hw x1740 ex1740
      refine lv_aload_n hx hb d_Mod_open_82 rfl (lv_at hl 0 rfl) ?_
      refine lv_iconst (v := 0) hx hb d_Mod_open_83 (by decide) ?_
      refine w_puti (ty := .int) (k := 87) (t := 12) (C := R_Mod) (T := F_Mod) (N := 167) hx hb hT hown hK hW hS ko_0.1 ko_0.2 (by decide) in_Mod t_Mod t_Mod_ok n_Mod rfl rfl (by decide) rfl fr_Mod_87 w_9_23 (by decide +kernel) rfl rfl d_Mod_open_84 (fun H locs hW hS => ?_)
      obtain ⟨x1741, ex1741⟩ : ∃ y : St, y = setI x1740 0 87 0 := ⟨_, rfl⟩
      rw [← ex1741] at hW
      have hw := hw x1741 ex1741
      refine lv_aload_n hx hb d_Mod_open_87 rfl (lv_at hl 0 rfl) ?_
      refine lv_iconst (v := 0) hx hb d_Mod_open_88 (by decide) ?_
      refine w_puti (ty := .int) (k := 88) (t := 12) (C := R_Mod) (T := F_Mod) (N := 167) hx hb hT hown hK hW hS ko_0.1 ko_0.2 (by decide) in_Mod t_Mod t_Mod_ok n_Mod rfl rfl (by decide) rfl fr_Mod_88 w_9_24 (by decide +kernel) rfl rfl d_Mod_open_89 (fun H locs hW hS => ?_)
      obtain ⟨x1742, ex1742⟩ : ∃ y : St, y = setI x1741 0 88 0 := ⟨_, rfl⟩
      rw [← ex1742] at hW
      have hw := hw x1742 ex1742
      refine lv_aload_n hx hb d_Mod_open_92 rfl (lv_at hl 0 rfl) ?_
      refine lv_iconst (v := 0) hx hb d_Mod_open_93 (by decide) ?_
      refine w_puti (ty := .int) (k := 93) (t := 12) (C := R_Mod) (T := F_Mod) (N := 167) hx hb hT hown hK hW hS ko_0.1 ko_0.2 (by decide) in_Mod t_Mod t_Mod_ok n_Mod rfl rfl (by decide) rfl fr_Mod_93 w_9_29 (by decide +kernel) rfl rfl d_Mod_open_94 (fun H locs hW hS => ?_)
      obtain ⟨x1743, ex1743⟩ : ∃ y : St, y = setI x1742 0 93 0 := ⟨_, rfl⟩
      rw [← ex1743] at hW
      have hw := hw x1743 ex1743
      refine lv_aload_n hx hb d_Mod_open_97 rfl (lv_at hl 0 rfl) ?_
      refine lv_iconst (v := 0) hx hb d_Mod_open_98 (by decide) ?_
      refine w_puti (ty := .int) (k := 94) (t := 12) (C := R_Mod) (T := F_Mod) (N := 167) hx hb hT hown hK hW hS ko_0.1 ko_0.2 (by decide) in_Mod t_Mod t_Mod_ok n_Mod rfl rfl (by decide) rfl fr_Mod_94 w_9_30 (by decide +kernel) rfl rfl d_Mod_open_99 (fun H locs hW hS => ?_)
      obtain ⟨x1744, ex1744⟩ : ∃ y : St, y = setI x1743 0 94 0 := ⟨_, rfl⟩
      rw [← ex1744] at hW
      have hw := hw x1744 ex1744
      refine lv_aload_n hx hb d_Mod_open_102 rfl (lv_at hl 0 rfl) ?_
      have hF := hW.free hS hA
      refine va_callv (va_runV (C := R_Mod) (As := []) (rest := []) ⟨hx, hb, hml, hown, hT⟩ (k_Mod_openFooter l dC dI cI cB cJ cZ ad H.size  x1744  hw) ⟨callB_of 0 hT (gwt_in w_12_99) rfl rfl rfl (hT _ w_1_15) (hT _ w_12_96) (by decide +kernel) ⟨Nat.le_trans (Nat.le_of_ble_eq_true rfl) hRf, Nat.le_trans (Nat.le_of_ble_eq_true rfl) hRl⟩, hT _ w_12_98, hT _ ws_181⟩ ⟨PW.blind, va_recv hK hW.1 (ci := 12) (q0 := 0) rfl (pic_obj ko_0.1 ko_0.2 (by decide)), PW.at _ hW hK hN⟩ rfl rfl hl.1 rfl (lv_room (Nat.le_of_ble_eq_true rfl)) d_Mod_open_103 ⟨hRc, hRs⟩) hS (fun q _ h => hF q h) hF (fun  x1745 t H locs ht hvm hw hB hz1 hk1 hS => ?_)
      have hW := Wd.back hB ht hF
      clear hB ht hF hz1 hk1 hvm
      refine lv_aload_n hx hb d_Mod_open_106 rfl (lv_at hl 0 rfl) ?_
      refine lv_iconst (v := 4) hx hb d_Mod_open_107 (by decide) ?_
      refine w_puti (ty := .int) (k := 67) (t := 12) (C := R_Mod) (T := F_Mod) (N := 167) hx hb hT hown hK hW hS ko_0.1 ko_0.2 (by decide) in_Mod t_Mod t_Mod_ok n_Mod rfl rfl (by decide) rfl fr_Mod_67 w_9_3 (by decide +kernel) rfl rfl d_Mod_open_108 (fun H locs hW hS => ?_)
      obtain ⟨x1746, ex1746⟩ : ∃ y : St, y = setI x1745 0 67 4 := ⟨_, rfl⟩
      rw [← ex1746] at hW
      have hw := hw x1746 ex1746
      refine lv_iconst (v := 0) hx hb d_Mod_open_111 (by decide) ?_
      refine lv_istore_n (lv' := [(1, .int 0), (0, .ref (ad 0))]) hx hb d_Mod_open_112 rfl hl (by decide) rfl (fun ls hl => ?_)
      refine lv_iconst (v := 0) hx hb d_Mod_open_113 (by decide) ?_
      refine lv_istore_n (lv' := [(2, .int 0), (1, .int 0), (0, .ref (ad 0))]) hx hb d_Mod_open_114 rfl hl (by decide) rfl (fun ls hl => ?_)
      obtain ⟨n, hw⟩ := hw
      exact tl_Mod_open_115 hx hb hml hown hT hK hN hA hRc hRs hRf hRl hret  n 0 0 x1746 H locs ls  hw hW hS (lv_sub hl [2, 1, 0] rfl)
    · have hw := hw.2 c1735
      refine lv_bipush (v := 23) hx hb d_Mod_open_49 (by decide) ?_
      exact hret 23 x H locs 51 ls d_Mod_open_51 hw hW hS
  · have hw := hw.2 c1734
    refine lv_aload_n hx hb d_Mod_open_27 rfl (lv_at hl 0 rfl) ?_
    refine w_getf (q := 52) (k := 80) (t := 12) (C := R_Mod) (T := F_Mod) (N := 167) hx hb hT hown hK hW ko_0.1 ko_0.2 (by decide) in_Mod rfl rfl (by decide) rfl fr_Mod_80 w_9_16 d_Mod_open_28 rfl ?_
    refine lv_iload_n hx hb d_Mod_open_31 rfl (lv_at hl 1 rfl) ?_
    refine lv_iconst (v := (-1)) hx hb d_Mod_open_32 (by decide) ?_
    obtain ⟨hi, hw⟩ := hw
    refine w_iast (o := 52) hx hb hK hW hS ko_52.1 ko_52.2 hi d_Mod_open_33 (fun H locs hW hS => ?_)
    obtain ⟨x1747, ex1747⟩ : ∃ y : St, y = setA x 52 l1 (-1) := ⟨_, rfl⟩
    rw [← ex1747] at hW
    have hw := hw x1747 ex1747
    refine lv_iinc (v := (l1 + 1)) (lv' := [(1, .int (l1 + 1)), (0, .ref (ad 0))]) hx hb d_Mod_open_34 hl (k := 1) rfl rfl (by decide) rfl (fun ls hl => ?_)
    refine lv_goto (tgt := 22) hx hb d_Mod_open_37 (by decide) ?_
    exact hrec22 (l1 + 1) x1747 H locs ls  hw hW hS (lv_sub hl [1, 0] rfl)
set_option maxHeartbeats 4000000 in
set_option maxRecDepth 100000 in
theorem tl_Mod_open_22 {p : Program} {l : Launch} {e : Env} {R : Room} {s : State} {m : MethodId} {args : Array Value} {below : List Frame} {meth : Method} {c : Code} {cells slots : Nat} {Q : State → Prop} {dC : Nat → ClassId} {dI : Nat → Nat → Nat} {cI cB cJ cZ : ClassId} {A : Nat → Prop} {ad : Nat → Nat} {post : Int32 → St → Prop} (hx : p.tables.exec = Jvm.exec) (hb : c.code = b_Mod_open) (hml : c.maxLocals = 4) (hown : s.vm.findClass R_Mod = some m.cls) (hT : ∀ w ∈ TG, w.before args s = true) (hK : va_K (dC, dI) CL (TY cI cB cJ cZ) s) (hN : NW s) (hA : ∀ q : Nat, s.heap.size ≤ q → A q) (hRc : cells ≤ R.cells) (hRs : slots ≤ R.slots) (hRf : 10 ≤ R.frames) (hRl : 263 ≤ R.locals) (hret : ∀ (r : Int32) (x : St) (H : Heap) (locs : List Loc) (pc : Nat) (ls : Array Slot), decode b_Mod_open pc = .ok (.ireturn, 1) → post r x → Wd dC dI cI cB cJ cZ ad stM kcM 115 A x H → va_S A s.heap H locs → W p l e R s m args below meth c H locs cells slots Q (F0 m pc ls [.int r]))  : ∀ n : Nat, ∀ (l1 : Int32) (x : St) (H : Heap) (locs : List Loc) (ls : Array Slot), wl_Mod_open_22 post n l1 x → Wd dC dI cI cB cJ cZ ad stM kcM 115 A x H → va_S A s.heap H locs → lv_has ls 4 [(0, .ref (ad 0)), (1, .int l1)] → W p l e R s m args below meth c H locs cells slots Q (F0 m 22 ls []) := by
  intro n
  induction n with
  | zero => intro l1 x H locs ls  hw; exact hw.elim
  | succ n ih => intro l1 x H locs ls  hw hW hS hl; exact t_Mod_open_22 hx hb hml hown hT hK hN hA hRc hRs hRf hRl hret  ih l1 x H locs ls  hw hW hS hl
set_option maxRecDepth 100000 in
set_option maxHeartbeats 4000000 in
set_option maxRecDepth 100000 in
theorem t_Mod_open_e {p : Program} {l : Launch} {e : Env} {R : Room} {s : State} {m : MethodId} {args : Array Value} {below : List Frame} {meth : Method} {c : Code} {cells slots : Nat} {Q : State → Prop} {dC : Nat → ClassId} {dI : Nat → Nat → Nat} {cI cB cJ cZ : ClassId} {A : Nat → Prop} {ad : Nat → Nat} {post : Int32 → St → Prop} (hx : p.tables.exec = Jvm.exec) (hb : c.code = b_Mod_open) (hml : c.maxLocals = 4) (hown : s.vm.findClass R_Mod = some m.cls) (hT : ∀ w ∈ TG, w.before args s = true) (hK : va_K (dC, dI) CL (TY cI cB cJ cZ) s) (hN : NW s) (hA : ∀ q : Nat, s.heap.size ≤ q → A q) (hRc : cells ≤ R.cells) (hRs : slots ≤ R.slots) (hRf : 10 ≤ R.frames) (hRl : 263 ≤ R.locals) (hret : ∀ (r : Int32) (x : St) (H : Heap) (locs : List Loc) (pc : Nat) (ls : Array Slot), decode b_Mod_open pc = .ok (.ireturn, 1) → post r x → Wd dC dI cI cB cJ cZ ad stM kcM 115 A x H → va_S A s.heap H locs → W p l e R s m args below meth c H locs cells slots Q (F0 m pc ls [.int r])) : ∀  (x : St) (H : Heap) (locs : List Loc) (ls : Array Slot), wp_Mod_open post  x → Wd dC dI cI cB cJ cZ ad stM kcM 115 A x H → va_S A s.heap H locs → lv_has ls 4 [(0, .ref (ad 0))] → W p l e R s m args below meth c H locs cells slots Q (F0 m 0 ls []) := by
  intro  x H locs ls  hw hW hS hl
  unfold wp_Mod_open at hw
  refine lv_aload_n hx hb d_Mod_open_0 rfl (lv_at hl 0 rfl) ?_
  refine lv_iconst (v := 0) hx hb d_Mod_open_1 (by decide) ?_
  refine w_puti (ty := .int) (k := 0) (t := 12) (C := R_Mod) (T := F_Mod) (N := 167) hx hb hT hown hK hW hS ko_0.1 ko_0.2 (by decide) in_Mod t_Mod t_Mod_ok n_Mod rfl rfl (by decide) rfl fr_Mod_0 w_8_176 (by decide +kernel) rfl rfl d_Mod_open_2 (fun H locs hW hS => ?_)
  obtain ⟨x1748, ex1748⟩ : ∃ y : St, y = setI x 0 0 0 := ⟨_, rfl⟩
  rw [← ex1748] at hW
  have hw := hw x1748 ex1748
  refine lv_aload_n hx hb d_Mod_open_5 rfl (lv_at hl 0 rfl) ?_
  refine lv_iconst (v := 0) hx hb d_Mod_open_6 (by decide) ?_
  refine w_puti (ty := .boolean) (k := 82) (t := 12) (C := R_Mod) (T := F_Mod) (N := 167) hx hb hT hown hK hW hS ko_0.1 ko_0.2 (by decide) in_Mod t_Mod t_Mod_ok n_Mod rfl rfl (by decide) rfl fr_Mod_82 w_9_18 (by decide +kernel) rfl rfl d_Mod_open_7 (fun H locs hW hS => ?_)
  obtain ⟨x1749, ex1749⟩ : ∃ y : St, y = setI x1748 0 82 0 := ⟨_, rfl⟩
  rw [← ex1749] at hW
  have hw := hw x1749 ex1749
  refine lv_aload_n hx hb d_Mod_open_10 rfl (lv_at hl 0 rfl) ?_
  refine lv_iconst (v := 0) hx hb d_Mod_open_11 (by decide) ?_
  refine w_puti (ty := .boolean) (k := 120) (t := 12) (C := R_Mod) (T := F_Mod) (N := 167) hx hb hT hown hK hW hS ko_0.1 ko_0.2 (by decide) in_Mod t_Mod t_Mod_ok n_Mod rfl rfl (by decide) rfl fr_Mod_120 w_9_56 (by decide +kernel) rfl rfl d_Mod_open_12 (fun H locs hW hS => ?_)
  obtain ⟨x1750, ex1750⟩ : ∃ y : St, y = setI x1749 0 120 0 := ⟨_, rfl⟩
  rw [← ex1750] at hW
  have hw := hw x1750 ex1750
  refine lv_aload_n hx hb d_Mod_open_15 rfl (lv_at hl 0 rfl) ?_
  refine lv_iconst (v := 0) hx hb d_Mod_open_16 (by decide) ?_
  refine w_puti (ty := .boolean) (k := 121) (t := 12) (C := R_Mod) (T := F_Mod) (N := 167) hx hb hT hown hK hW hS ko_0.1 ko_0.2 (by decide) in_Mod t_Mod t_Mod_ok n_Mod rfl rfl (by decide) rfl fr_Mod_121 w_9_57 (by decide +kernel) rfl rfl d_Mod_open_17 (fun H locs hW hS => ?_)
  obtain ⟨x1751, ex1751⟩ : ∃ y : St, y = setI x1750 0 121 0 := ⟨_, rfl⟩
  rw [← ex1751] at hW
  have hw := hw x1751 ex1751
  refine lv_iconst (v := 0) hx hb d_Mod_open_20 (by decide) ?_
  refine lv_istore_n (lv' := [(1, .int 0), (0, .ref (ad 0))]) hx hb d_Mod_open_21 rfl hl (by decide) rfl (fun ls hl => ?_)
  obtain ⟨n, hw⟩ := hw
  exact tl_Mod_open_22 hx hb hml hown hT hK hN hA hRc hRs hRf hRl hret  n 0 x1751 H locs ls  hw hW hS (lv_sub hl [1, 0] rfl)
set_option maxHeartbeats 4000000 in
set_option maxRecDepth 100000 in
theorem k_Mod_open (l : Launch) (dC : Nat → ClassId) (dI : Nat → Nat → Nat) (cI cB cJ cZ : ClassId) (ad : Nat → Nat) (sz : Nat)  (x : St) {post : Int32 → St → Prop} (hw : wp_Mod_open post  x) : Met l y_Mod_open (wsOf y_Mod_open b_Mod_open 4 (some (.int))) ({ frames := 10, cells := 0, slots := 0, locals := 263 }) (va_Pc [.ref (ad 0)] (PW dC dI cI cB cJ cZ ad stM kcM 115 sz x)) (va_Qi (fun (r : Int32) (y : St) => post r y) (fun y t => Wd dC dI cI cB cJ cZ ad stM kcM 115 (va_A (pic ad stM kcM 115 cI cB cJ cZ x) sz) y t.heap) (va_A (pic ad stM kcM 115 cI cB cJ cZ x) sz)) 0 0 (va_A (pic ad stM kcM 115 cI cB cJ cZ x) sz) := by
  refine Met.ofW (cc := b_Mod_open) (maxL := 4) (ret := some (.int)) (by decide) rfl ?_
  intro p e s m args below meth c s₁ B hml hv
  obtain ⟨rfl, hsz, hW0, hK, hN⟩ := hv
  have hx := B.exec
  have hb := B.bytes
  have hr := B.returns
  have hts := atoms_spec B.pre
  have hT : ∀ w ∈ TG, w.before _ s = true := fun w h => hts w (List.mem_cons_of_mem _ h)
  have hown : s.vm.findClass R_Mod = some m.cls := findClass_of_methodNamed B.named
  have hlocks := B.notSynchronized
  subst hsz
  have hW : Wd dC dI cI cB cJ cZ ad stM kcM 115 (va_A (pic ad stM kcM 115 cI cB cJ cZ x) s.heap.size) x s.heap := ⟨hW0.1, hW0.2.1.self (sz := s.heap.size), hW0.2.2⟩
  generalize hAe : va_A (pic ad stM kcM 115 cI cB cJ cZ x) s.heap.size = A at hW ⊢
  have hA : ∀ q : Nat, s.heap.size ≤ q → A q := fun q h => by rw [← hAe]; exact Or.inr h
  have hS : va_S A s.heap s.heap [] := va_S.rf
  have hl := lv_entry ([.ref (ad 0)]) (n := 4) (Nat.le_of_ble_eq_true rfl)
  rw [lg_entry_eq]
  generalize (lg_sl ([.ref (ad 0)]) ++ List.replicate (4 - (lg_sl ([.ref (ad 0)])).length) Slot.unset).toArray = ls at hl ⊢
  have hl : lv_has ls 4 [(0, .ref (ad 0))] := hl
  exact t_Mod_open_e hx hb hml hown hT hK hN hA (Nat.le_refl 0) (Nat.le_refl 0) (Nat.le_refl 10) (Nat.le_refl 263) (fun r x H locs pc ls hd hp hW hS => W.iret (v := r) hx hb hr (fun t ht hM => ⟨⟨r, x, rfl, hp, Wd.back hW ht.symm (fun _ z => z)⟩, hS.F ht⟩) hS.2.2 hd hlocks)   x _ _ ls  hw hW hS hl
set_option maxRecDepth 100000 in
set_option maxHeartbeats 4000000 in
set_option maxRecDepth 100000 in
theorem t_Mod_fault_14 {p : Program} {l : Launch} {e : Env} {R : Room} {s : State} {m : MethodId} {args : Array Value} {below : List Frame} {meth : Method} {c : Code} {cells slots : Nat} {Q : State → Prop} {dC : Nat → ClassId} {dI : Nat → Nat → Nat} {cI cB cJ cZ : ClassId} {A : Nat → Prop} {ad : Nat → Nat} {post : Int32 → St → Prop} (hx : p.tables.exec = Jvm.exec) (hb : c.code = b_Mod_fault) (hml : c.maxLocals = 2) (hown : s.vm.findClass R_Mod = some m.cls) (hT : ∀ w ∈ TG, w.before args s = true) (hK : va_K (dC, dI) CL (TY cI cB cJ cZ) s) (hN : NW s) (hA : ∀ q : Nat, s.heap.size ≤ q → A q) (hRc : cells ≤ R.cells) (hRs : slots ≤ R.slots) (hRf : 0 ≤ R.frames) (hRl : 0 ≤ R.locals) (hret : ∀ (r : Int32) (x : St) (H : Heap) (locs : List Loc) (pc : Nat) (ls : Array Slot), decode b_Mod_fault pc = .ok (.ireturn, 1) → post r x → Wd dC dI cI cB cJ cZ ad stM kcM 115 A x H → va_S A s.heap H locs → W p l e R s m args below meth c H locs cells slots Q (F0 m pc ls [.int r]))  : ∀ (l1 : Int32) (x : St) (H : Heap) (locs : List Loc) (ls : Array Slot), j_Mod_fault_14 post l1 x → Wd dC dI cI cB cJ cZ ad stM kcM 115 A x H → va_S A s.heap H locs → lv_has ls 2 [(0, .ref (ad 0)), (1, .int l1)] → W p l e R s m args below meth c H locs cells slots Q (F0 m 14 ls []) := by
  intro l1 x H locs ls  hw hW hS hl
  unfold j_Mod_fault_14 at hw
  refine lv_iconst (v := (-1)) hx hb d_Mod_fault_14 (by decide) ?_
  refine lv_goto (tgt := 24) hx hb d_Mod_fault_15 (by decide) ?_
  exact hret (-1) x H locs 24 ls d_Mod_fault_24 hw hW hS
set_option maxRecDepth 100000 in
set_option maxHeartbeats 4000000 in
set_option maxRecDepth 100000 in
theorem t_Mod_fault_e {p : Program} {l : Launch} {e : Env} {R : Room} {s : State} {m : MethodId} {args : Array Value} {below : List Frame} {meth : Method} {c : Code} {cells slots : Nat} {Q : State → Prop} {dC : Nat → ClassId} {dI : Nat → Nat → Nat} {cI cB cJ cZ : ClassId} {A : Nat → Prop} {ad : Nat → Nat} {post : Int32 → St → Prop} (hx : p.tables.exec = Jvm.exec) (hb : c.code = b_Mod_fault) (hml : c.maxLocals = 2) (hown : s.vm.findClass R_Mod = some m.cls) (hT : ∀ w ∈ TG, w.before args s = true) (hK : va_K (dC, dI) CL (TY cI cB cJ cZ) s) (hN : NW s) (hA : ∀ q : Nat, s.heap.size ≤ q → A q) (hRc : cells ≤ R.cells) (hRs : slots ≤ R.slots) (hRf : 0 ≤ R.frames) (hRl : 0 ≤ R.locals) (hret : ∀ (r : Int32) (x : St) (H : Heap) (locs : List Loc) (pc : Nat) (ls : Array Slot), decode b_Mod_fault pc = .ok (.ireturn, 1) → post r x → Wd dC dI cI cB cJ cZ ad stM kcM 115 A x H → va_S A s.heap H locs → W p l e R s m args below meth c H locs cells slots Q (F0 m pc ls [.int r])) : ∀ (l1 : Int32) (x : St) (H : Heap) (locs : List Loc) (ls : Array Slot), wp_Mod_fault post l1 x → Wd dC dI cI cB cJ cZ ad stM kcM 115 A x H → va_S A s.heap H locs → lv_has ls 2 [(0, .ref (ad 0)), (1, .int l1)] → W p l e R s m args below meth c H locs cells slots Q (F0 m 0 ls []) := by
  intro l1 x H locs ls  hw hW hS hl
  unfold wp_Mod_fault at hw
  refine lv_aload_n hx hb d_Mod_fault_0 rfl (lv_at hl 0 rfl) ?_
  refine lv_iconst (v := 0) hx hb d_Mod_fault_1 (by decide) ?_
  refine w_puti (ty := .int) (k := 0) (t := 12) (C := R_Mod) (T := F_Mod) (N := 167) hx hb hT hown hK hW hS ko_0.1 ko_0.2 (by decide) in_Mod t_Mod t_Mod_ok n_Mod rfl rfl (by decide) rfl fr_Mod_0 w_8_176 (by decide +kernel) rfl rfl d_Mod_fault_2 (fun H locs hW hS => ?_)
  obtain ⟨x1752, ex1752⟩ : ∃ y : St, y = setI x 0 0 0 := ⟨_, rfl⟩
  rw [← ex1752] at hW
  have hw := hw x1752 ex1752
  refine lv_iload_n hx hb d_Mod_fault_5 rfl (lv_at hl 1 rfl) ?_
  refine lv_if_lt (tgt := 14) hx hb d_Mod_fault_6 (by decide) (fun c1753 => ?_) (fun c1753 => ?_)
  · have hw := hw.1 c1753
    exact t_Mod_fault_14 hx hb hml hown hT hK hN hA hRc hRs hRf hRl hret  l1 x1752 H locs ls  hw hW hS (lv_sub hl [0, 1] rfl)
  · have hw := hw.2 c1753
    refine lv_iload_n hx hb d_Mod_fault_9 rfl (lv_at hl 1 rfl) ?_
    refine lv_iconst (v := 2) hx hb d_Mod_fault_10 (by decide) ?_
    refine lv_icmp_le (tgt := 18) hx hb d_Mod_fault_11 (by decide) (fun c1754 => ?_) (fun c1754 => ?_)
    · have hw := hw.1 c1754
      refine lv_aload_n hx hb d_Mod_fault_18 rfl (lv_at hl 0 rfl) ?_
      refine w_getf (q := 52) (k := 80) (t := 12) (C := R_Mod) (T := F_Mod) (N := 167) hx hb hT hown hK hW ko_0.1 ko_0.2 (by decide) in_Mod rfl rfl (by decide) rfl fr_Mod_80 w_9_16 d_Mod_fault_19 rfl ?_
      refine lv_iload_n hx hb d_Mod_fault_22 rfl (lv_at hl 1 rfl) ?_
      obtain ⟨hi, hw⟩ := hw
      refine w_iald (o := 52) hx hb hK hW ko_52.1 ko_52.2 hi d_Mod_fault_23 ?_
      exact hret (rA x1752 52 l1) x1752 H locs 24 ls d_Mod_fault_24 hw hW hS
    · have hw := hw.2 c1754
      exact t_Mod_fault_14 hx hb hml hown hT hK hN hA hRc hRs hRf hRl hret  l1 x1752 H locs ls  hw hW hS (lv_sub hl [0, 1] rfl)
set_option maxHeartbeats 4000000 in
set_option maxRecDepth 100000 in
theorem k_Mod_fault (l : Launch) (dC : Nat → ClassId) (dI : Nat → Nat → Nat) (cI cB cJ cZ : ClassId) (ad : Nat → Nat) (sz : Nat) (l1 : Int32) (x : St) {post : Int32 → St → Prop} (hw : wp_Mod_fault post l1 x) : Met l y_Mod_fault (wsOf y_Mod_fault b_Mod_fault 2 (some (.int))) ({ frames := 0, cells := 0, slots := 0, locals := 0 }) (va_Pc [.ref (ad 0), .int l1] (PW dC dI cI cB cJ cZ ad stM kcM 115 sz x)) (va_Qi (fun (r : Int32) (y : St) => post r y) (fun y t => Wd dC dI cI cB cJ cZ ad stM kcM 115 (va_A (pic ad stM kcM 115 cI cB cJ cZ x) sz) y t.heap) (va_A (pic ad stM kcM 115 cI cB cJ cZ x) sz)) 0 0 (va_A (pic ad stM kcM 115 cI cB cJ cZ x) sz) := by
  refine Met.ofW (cc := b_Mod_fault) (maxL := 2) (ret := some (.int)) (by decide) rfl ?_
  intro p e s m args below meth c s₁ B hml hv
  obtain ⟨rfl, hsz, hW0, hK, hN⟩ := hv
  have hx := B.exec
  have hb := B.bytes
  have hr := B.returns
  have hts := atoms_spec B.pre
  have hT : ∀ w ∈ TG, w.before _ s = true := fun w h => hts w (List.mem_cons_of_mem _ h)
  have hown : s.vm.findClass R_Mod = some m.cls := findClass_of_methodNamed B.named
  have hlocks := B.notSynchronized
  subst hsz
  have hW : Wd dC dI cI cB cJ cZ ad stM kcM 115 (va_A (pic ad stM kcM 115 cI cB cJ cZ x) s.heap.size) x s.heap := ⟨hW0.1, hW0.2.1.self (sz := s.heap.size), hW0.2.2⟩
  generalize hAe : va_A (pic ad stM kcM 115 cI cB cJ cZ x) s.heap.size = A at hW ⊢
  have hA : ∀ q : Nat, s.heap.size ≤ q → A q := fun q h => by rw [← hAe]; exact Or.inr h
  have hS : va_S A s.heap s.heap [] := va_S.rf
  have hl := lv_entry ([.ref (ad 0), .int l1]) (n := 2) (Nat.le_of_ble_eq_true rfl)
  rw [lg_entry_eq]
  generalize (lg_sl ([.ref (ad 0), .int l1]) ++ List.replicate (2 - (lg_sl ([.ref (ad 0), .int l1])).length) Slot.unset).toArray = ls at hl ⊢
  have hl : lv_has ls 2 [(0, .ref (ad 0)), (1, .int l1)] := hl
  exact t_Mod_fault_e hx hb hml hown hT hK hN hA (Nat.le_refl 0) (Nat.le_refl 0) (Nat.le_refl 0) (Nat.le_refl 0) (fun r x H locs pc ls hd hp hW hS => W.iret (v := r) hx hb hr (fun t ht hM => ⟨⟨r, x, rfl, hp, Wd.back hW ht.symm (fun _ z => z)⟩, hS.F ht⟩) hS.2.2 hd hlocks)  l1 x _ _ ls  hw hW hS hl
set_option maxRecDepth 100000 in
set_option maxHeartbeats 4000000 in
set_option maxRecDepth 100000 in
theorem t_Mod_opened_e {p : Program} {l : Launch} {e : Env} {R : Room} {s : State} {m : MethodId} {args : Array Value} {below : List Frame} {meth : Method} {c : Code} {cells slots : Nat} {Q : State → Prop} {dC : Nat → ClassId} {dI : Nat → Nat → Nat} {cI cB cJ cZ : ClassId} {A : Nat → Prop} {ad : Nat → Nat} {post : Int32 → St → Prop} (hx : p.tables.exec = Jvm.exec) (hb : c.code = b_Mod_opened) (hml : c.maxLocals = 2) (hown : s.vm.findClass R_Mod = some m.cls) (hT : ∀ w ∈ TG, w.before args s = true) (hK : va_K (dC, dI) CL (TY cI cB cJ cZ) s) (hN : NW s) (hA : ∀ q : Nat, s.heap.size ≤ q → A q) (hRc : cells ≤ R.cells) (hRs : slots ≤ R.slots) (hRf : 0 ≤ R.frames) (hRl : 0 ≤ R.locals) (hret : ∀ (r : Int32) (x : St) (H : Heap) (locs : List Loc) (pc : Nat) (ls : Array Slot), decode b_Mod_opened pc = .ok (.ireturn, 1) → post r x → Wd dC dI cI cB cJ cZ ad stM kcM 115 A x H → va_S A s.heap H locs → W p l e R s m args below meth c H locs cells slots Q (F0 m pc ls [.int r])) : ∀ (l1 : Int32) (x : St) (H : Heap) (locs : List Loc) (ls : Array Slot), wp_Mod_opened post l1 x → Wd dC dI cI cB cJ cZ ad stM kcM 115 A x H → va_S A s.heap H locs → lv_has ls 2 [(0, .ref (ad 0)), (1, .int l1)] → W p l e R s m args below meth c H locs cells slots Q (F0 m 0 ls []) := by
  intro l1 x H locs ls  hw hW hS hl
  unfold wp_Mod_opened at hw
  refine lv_aload_n hx hb d_Mod_opened_0 rfl (lv_at hl 0 rfl) ?_
  refine lv_iconst (v := 0) hx hb d_Mod_opened_1 (by decide) ?_
  refine w_puti (ty := .int) (k := 0) (t := 12) (C := R_Mod) (T := F_Mod) (N := 167) hx hb hT hown hK hW hS ko_0.1 ko_0.2 (by decide) in_Mod t_Mod t_Mod_ok n_Mod rfl rfl (by decide) rfl fr_Mod_0 w_8_176 (by decide +kernel) rfl rfl d_Mod_opened_2 (fun H locs hW hS => ?_)
  obtain ⟨x1755, ex1755⟩ : ∃ y : St, y = setI x 0 0 0 := ⟨_, rfl⟩
  rw [← ex1755] at hW
  have hw := hw x1755 ex1755
  refine lv_aload_n hx hb d_Mod_opened_5 rfl (lv_at hl 0 rfl) ?_
  refine w_geti (k := 82) (t := 12) (C := R_Mod) (T := F_Mod) (N := 167) hx hb hT hown hK hW ko_0.1 ko_0.2 (by decide) in_Mod rfl rfl (by decide) rfl fr_Mod_82 w_9_18 d_Mod_opened_6 ?_
  refine lv_if_ne (tgt := 14) hx hb d_Mod_opened_9 (by decide) (fun c1756 => ?_) (fun c1756 => ?_)
  · have hw := hw.1 c1756
    refine lv_iload_n hx hb d_Mod_opened_14 rfl (lv_at hl 1 rfl) ?_
    refine lv_if_ne (tgt := 25) hx hb d_Mod_opened_15 (by decide) (fun c1757 => ?_) (fun c1757 => ?_)
    · have hw := hw.1 c1757
      refine lv_iload_n hx hb d_Mod_opened_25 rfl (lv_at hl 1 rfl) ?_
      refine lv_iconst (v := 1) hx hb d_Mod_opened_26 (by decide) ?_
      refine lv_icmp_ne (tgt := 37) hx hb d_Mod_opened_27 (by decide) (fun c1758 => ?_) (fun c1758 => ?_)
      · have hw := hw.1 c1758
        refine lv_iload_n hx hb d_Mod_opened_37 rfl (lv_at hl 1 rfl) ?_
        refine lv_iconst (v := 2) hx hb d_Mod_opened_38 (by decide) ?_
        refine lv_icmp_ne (tgt := 51) hx hb d_Mod_opened_39 (by decide) (fun c1759 => ?_) (fun c1759 => ?_)
        · have hw := hw.1 c1759
          refine lv_iload_n hx hb d_Mod_opened_51 rfl (lv_at hl 1 rfl) ?_
          refine lv_iconst (v := 3) hx hb d_Mod_opened_52 (by decide) ?_
          refine lv_icmp_ne (tgt := 65) hx hb d_Mod_opened_53 (by decide) (fun c1760 => ?_) (fun c1760 => ?_)
          · have hw := hw.1 c1760
            refine lv_iload_n hx hb d_Mod_opened_65 rfl (lv_at hl 1 rfl) ?_
            refine lv_iconst (v := 4) hx hb d_Mod_opened_66 (by decide) ?_
            refine lv_icmp_ne (tgt := 77) hx hb d_Mod_opened_67 (by decide) (fun c1761 => ?_) (fun c1761 => ?_)
            · have hw := hw.1 c1761
              refine lv_iconst (v := (-1)) hx hb d_Mod_opened_77 (by decide) ?_
              exact hret (-1) x1755 H locs 78 ls d_Mod_opened_78 hw hW hS
            · have hw := hw.2 c1761
              refine lv_aload_n hx hb d_Mod_opened_70 rfl (lv_at hl 0 rfl) ?_
              refine w_geti (k := 86) (t := 12) (C := R_Mod) (T := F_Mod) (N := 167) hx hb hT hown hK hW ko_0.1 ko_0.2 (by decide) in_Mod rfl rfl (by decide) rfl fr_Mod_86 w_9_22 d_Mod_opened_71 ?_
              refine lv_goto (tgt := 78) hx hb d_Mod_opened_74 (by decide) ?_
              exact hret (fI x1755 0 86) x1755 H locs 78 ls d_Mod_opened_78 hw hW hS
          · have hw := hw.2 c1760
            refine lv_aload_n hx hb d_Mod_opened_56 rfl (lv_at hl 0 rfl) ?_
            refine w_getf (q := 10) (k := 12) (t := 12) (C := R_Mod) (T := F_Mod) (N := 167) hx hb hT hown hK hW ko_0.1 ko_0.2 (by decide) in_Mod rfl rfl (by decide) rfl fr_Mod_12 w_8_188 d_Mod_opened_57 rfl ?_
            refine lv_iconst (v := 1) hx hb d_Mod_opened_60 (by decide) ?_
            obtain ⟨hi, hw⟩ := hw
            refine w_iald (o := 10) hx hb hK hW ko_10.1 ko_10.2 hi d_Mod_opened_61 ?_
            refine lv_goto (tgt := 78) hx hb d_Mod_opened_62 (by decide) ?_
            exact hret (rA x1755 10 1) x1755 H locs 78 ls d_Mod_opened_78 hw hW hS
        · have hw := hw.2 c1759
          refine lv_aload_n hx hb d_Mod_opened_42 rfl (lv_at hl 0 rfl) ?_
          refine w_getf (q := 9) (k := 11) (t := 12) (C := R_Mod) (T := F_Mod) (N := 167) hx hb hT hown hK hW ko_0.1 ko_0.2 (by decide) in_Mod rfl rfl (by decide) rfl fr_Mod_11 w_8_187 d_Mod_opened_43 rfl ?_
          refine lv_iconst (v := 1) hx hb d_Mod_opened_46 (by decide) ?_
          obtain ⟨hi, hw⟩ := hw
          refine w_iald (o := 9) hx hb hK hW ko_9.1 ko_9.2 hi d_Mod_opened_47 ?_
          refine lv_goto (tgt := 78) hx hb d_Mod_opened_48 (by decide) ?_
          exact hret (rA x1755 9 1) x1755 H locs 78 ls d_Mod_opened_78 hw hW hS
      · have hw := hw.2 c1758
        refine lv_aload_n hx hb d_Mod_opened_30 rfl (lv_at hl 0 rfl) ?_
        refine w_geti (k := 85) (t := 12) (C := R_Mod) (T := F_Mod) (N := 167) hx hb hT hown hK hW ko_0.1 ko_0.2 (by decide) in_Mod rfl rfl (by decide) rfl fr_Mod_85 w_9_21 d_Mod_opened_31 ?_
        refine lv_goto (tgt := 78) hx hb d_Mod_opened_34 (by decide) ?_
        exact hret (fI x1755 0 85) x1755 H locs 78 ls d_Mod_opened_78 hw hW hS
    · have hw := hw.2 c1757
      refine lv_aload_n hx hb d_Mod_opened_18 rfl (lv_at hl 0 rfl) ?_
      refine w_geti (k := 84) (t := 12) (C := R_Mod) (T := F_Mod) (N := 167) hx hb hT hown hK hW ko_0.1 ko_0.2 (by decide) in_Mod rfl rfl (by decide) rfl fr_Mod_84 w_9_20 d_Mod_opened_19 ?_
      refine lv_goto (tgt := 78) hx hb d_Mod_opened_22 (by decide) ?_
      exact hret (fI x1755 0 84) x1755 H locs 78 ls d_Mod_opened_78 hw hW hS
  · have hw := hw.2 c1756
    refine lv_iconst (v := (-1)) hx hb d_Mod_opened_12 (by decide) ?_
    exact hret (-1) x1755 H locs 13 ls d_Mod_opened_13 hw hW hS
set_option maxHeartbeats 4000000 in
set_option maxRecDepth 100000 in
theorem k_Mod_opened (l : Launch) (dC : Nat → ClassId) (dI : Nat → Nat → Nat) (cI cB cJ cZ : ClassId) (ad : Nat → Nat) (sz : Nat) (l1 : Int32) (x : St) {post : Int32 → St → Prop} (hw : wp_Mod_opened post l1 x) : Met l y_Mod_opened (wsOf y_Mod_opened b_Mod_opened 2 (some (.int))) ({ frames := 0, cells := 0, slots := 0, locals := 0 }) (va_Pc [.ref (ad 0), .int l1] (PW dC dI cI cB cJ cZ ad stM kcM 115 sz x)) (va_Qi (fun (r : Int32) (y : St) => post r y) (fun y t => Wd dC dI cI cB cJ cZ ad stM kcM 115 (va_A (pic ad stM kcM 115 cI cB cJ cZ x) sz) y t.heap) (va_A (pic ad stM kcM 115 cI cB cJ cZ x) sz)) 0 0 (va_A (pic ad stM kcM 115 cI cB cJ cZ x) sz) := by
  refine Met.ofW (cc := b_Mod_opened) (maxL := 2) (ret := some (.int)) (by decide) rfl ?_
  intro p e s m args below meth c s₁ B hml hv
  obtain ⟨rfl, hsz, hW0, hK, hN⟩ := hv
  have hx := B.exec
  have hb := B.bytes
  have hr := B.returns
  have hts := atoms_spec B.pre
  have hT : ∀ w ∈ TG, w.before _ s = true := fun w h => hts w (List.mem_cons_of_mem _ h)
  have hown : s.vm.findClass R_Mod = some m.cls := findClass_of_methodNamed B.named
  have hlocks := B.notSynchronized
  subst hsz
  have hW : Wd dC dI cI cB cJ cZ ad stM kcM 115 (va_A (pic ad stM kcM 115 cI cB cJ cZ x) s.heap.size) x s.heap := ⟨hW0.1, hW0.2.1.self (sz := s.heap.size), hW0.2.2⟩
  generalize hAe : va_A (pic ad stM kcM 115 cI cB cJ cZ x) s.heap.size = A at hW ⊢
  have hA : ∀ q : Nat, s.heap.size ≤ q → A q := fun q h => by rw [← hAe]; exact Or.inr h
  have hS : va_S A s.heap s.heap [] := va_S.rf
  have hl := lv_entry ([.ref (ad 0), .int l1]) (n := 2) (Nat.le_of_ble_eq_true rfl)
  rw [lg_entry_eq]
  generalize (lg_sl ([.ref (ad 0), .int l1]) ++ List.replicate (2 - (lg_sl ([.ref (ad 0), .int l1])).length) Slot.unset).toArray = ls at hl ⊢
  have hl : lv_has ls 2 [(0, .ref (ad 0)), (1, .int l1)] := hl
  exact t_Mod_opened_e hx hb hml hown hT hK hN hA (Nat.le_refl 0) (Nat.le_refl 0) (Nat.le_refl 0) (Nat.le_refl 0) (fun r x H locs pc ls hd hp hW hS => W.iret (v := r) hx hb hr (fun t ht hM => ⟨⟨r, x, rfl, hp, Wd.back hW ht.symm (fun _ z => z)⟩, hS.F ht⟩) hS.2.2 hd hlocks)  l1 x _ _ ls  hw hW hS hl
set_option maxRecDepth 100000 in
set_option maxHeartbeats 4000000 in
set_option maxRecDepth 100000 in
theorem t_Mod_groupOf_9 {p : Program} {l : Launch} {e : Env} {R : Room} {s : State} {m : MethodId} {args : Array Value} {below : List Frame} {meth : Method} {c : Code} {cells slots : Nat} {Q : State → Prop} {dC : Nat → ClassId} {dI : Nat → Nat → Nat} {cI cB cJ cZ : ClassId} {A : Nat → Prop} {ad : Nat → Nat} {post : Int32 → St → Prop} {rec9 : Int32 → Int32 → Int32 → St → Prop} (hx : p.tables.exec = Jvm.exec) (hb : c.code = b_Mod_groupOf) (hml : c.maxLocals = 4) (hown : s.vm.findClass R_Mod = some m.cls) (hT : ∀ w ∈ TG, w.before args s = true) (hK : va_K (dC, dI) CL (TY cI cB cJ cZ) s) (hN : NW s) (hA : ∀ q : Nat, s.heap.size ≤ q → A q) (hRc : cells ≤ R.cells) (hRs : slots ≤ R.slots) (hRf : 0 ≤ R.frames) (hRl : 0 ≤ R.locals) (hret : ∀ (r : Int32) (x : St) (H : Heap) (locs : List Loc) (pc : Nat) (ls : Array Slot), decode b_Mod_groupOf pc = .ok (.ireturn, 1) → post r x → Wd dC dI cI cB cJ cZ ad stM kcM 115 A x H → va_S A s.heap H locs → W p l e R s m args below meth c H locs cells slots Q (F0 m pc ls [.int r])) (hrec9 : ∀ (l1 : Int32) (l2 : Int32) (l3 : Int32) (x : St) (H : Heap) (locs : List Loc) (ls : Array Slot), rec9 l1 l2 l3 x → Wd dC dI cI cB cJ cZ ad stM kcM 115 A x H → va_S A s.heap H locs → lv_has ls 4 [(0, .ref (ad 0)), (1, .int l1), (2, .int l2), (3, .int l3)] → W p l e R s m args below meth c H locs cells slots Q (F0 m 9 ls [])) : ∀ (l1 : Int32) (l2 : Int32) (l3 : Int32) (x : St) (H : Heap) (locs : List Loc) (ls : Array Slot), j_Mod_groupOf_9 post rec9 l1 l2 l3 x → Wd dC dI cI cB cJ cZ ad stM kcM 115 A x H → va_S A s.heap H locs → lv_has ls 4 [(0, .ref (ad 0)), (1, .int l1), (2, .int l2), (3, .int l3)] → W p l e R s m args below meth c H locs cells slots Q (F0 m 9 ls []) := by
  intro l1 l2 l3 x H locs ls  hw hW hS hl
  unfold j_Mod_groupOf_9 at hw
  refine lv_iload_n hx hb d_Mod_groupOf_9 rfl (lv_at hl 1 rfl) ?_
  refine lv_iload_n hx hb d_Mod_groupOf_10 rfl (lv_at hl 3 rfl) ?_
  refine lv_icmp_lt (tgt := 29) hx hb d_Mod_groupOf_11 (by decide) (fun c1762 => ?_) (fun c1762 => ?_)
  · have hw := hw.1 c1762
    refine lv_iload_n hx hb d_Mod_groupOf_29 rfl (lv_at hl 2 rfl) ?_
    exact hret l2 x H locs 30 ls d_Mod_groupOf_30 hw hW hS
  · have hw := hw.2 c1762
    refine lv_iinc (v := (l2 + 1)) (lv' := [(2, .int (l2 + 1)), (0, .ref (ad 0)), (1, .int l1), (3, .int l3)]) hx hb d_Mod_groupOf_14 hl (k := 2) rfl rfl (by decide) rfl (fun ls hl => ?_)
    refine lv_iload_n hx hb d_Mod_groupOf_17 rfl (lv_at hl 3 rfl) ?_
    refine lv_aload_n hx hb d_Mod_groupOf_18 rfl (lv_at hl 1 rfl) ?_
    refine w_getf (q := 53) (k := 81) (t := 12) (C := R_Mod) (T := F_Mod) (N := 167) hx hb hT hown hK hW ko_0.1 ko_0.2 (by decide) in_Mod rfl rfl (by decide) rfl fr_Mod_81 w_9_17 d_Mod_groupOf_19 rfl ?_
    refine lv_iload_n hx hb d_Mod_groupOf_22 rfl (lv_at hl 0 rfl) ?_
    obtain ⟨hi, hw⟩ := hw
    refine w_iald (o := 53) hx hb hK hW ko_53.1 ko_53.2 hi d_Mod_groupOf_23 ?_
    refine lv_iadd hx hb d_Mod_groupOf_24 ?_
    refine lv_topi (fun v1763 ev1763 => ?_)
    have hw := hw v1763 ev1763
    refine lv_istore_n (lv' := [(3, .int v1763), (2, .int (l2 + 1)), (0, .ref (ad 0)), (1, .int l1)]) hx hb d_Mod_groupOf_25 rfl hl (by decide) rfl (fun ls hl => ?_)
    refine lv_goto (tgt := 9) hx hb d_Mod_groupOf_26 (by decide) ?_
    exact hrec9 l1 (l2 + 1) v1763 x H locs ls  hw hW hS (lv_sub hl [2, 3, 1, 0] rfl)
set_option maxHeartbeats 4000000 in
set_option maxRecDepth 100000 in
theorem tl_Mod_groupOf_9 {p : Program} {l : Launch} {e : Env} {R : Room} {s : State} {m : MethodId} {args : Array Value} {below : List Frame} {meth : Method} {c : Code} {cells slots : Nat} {Q : State → Prop} {dC : Nat → ClassId} {dI : Nat → Nat → Nat} {cI cB cJ cZ : ClassId} {A : Nat → Prop} {ad : Nat → Nat} {post : Int32 → St → Prop} (hx : p.tables.exec = Jvm.exec) (hb : c.code = b_Mod_groupOf) (hml : c.maxLocals = 4) (hown : s.vm.findClass R_Mod = some m.cls) (hT : ∀ w ∈ TG, w.before args s = true) (hK : va_K (dC, dI) CL (TY cI cB cJ cZ) s) (hN : NW s) (hA : ∀ q : Nat, s.heap.size ≤ q → A q) (hRc : cells ≤ R.cells) (hRs : slots ≤ R.slots) (hRf : 0 ≤ R.frames) (hRl : 0 ≤ R.locals) (hret : ∀ (r : Int32) (x : St) (H : Heap) (locs : List Loc) (pc : Nat) (ls : Array Slot), decode b_Mod_groupOf pc = .ok (.ireturn, 1) → post r x → Wd dC dI cI cB cJ cZ ad stM kcM 115 A x H → va_S A s.heap H locs → W p l e R s m args below meth c H locs cells slots Q (F0 m pc ls [.int r]))  : ∀ n : Nat, ∀ (l1 : Int32) (l2 : Int32) (l3 : Int32) (x : St) (H : Heap) (locs : List Loc) (ls : Array Slot), wl_Mod_groupOf_9 post n l1 l2 l3 x → Wd dC dI cI cB cJ cZ ad stM kcM 115 A x H → va_S A s.heap H locs → lv_has ls 4 [(0, .ref (ad 0)), (1, .int l1), (2, .int l2), (3, .int l3)] → W p l e R s m args below meth c H locs cells slots Q (F0 m 9 ls []) := by
  intro n
  induction n with
  | zero => intro l1 l2 l3 x H locs ls  hw; exact hw.elim
  | succ n ih => intro l1 l2 l3 x H locs ls  hw hW hS hl; exact t_Mod_groupOf_9 hx hb hml hown hT hK hN hA hRc hRs hRf hRl hret  ih l1 l2 l3 x H locs ls  hw hW hS hl
set_option maxRecDepth 100000 in
set_option maxHeartbeats 4000000 in
set_option maxRecDepth 100000 in
theorem t_Mod_groupOf_e {p : Program} {l : Launch} {e : Env} {R : Room} {s : State} {m : MethodId} {args : Array Value} {below : List Frame} {meth : Method} {c : Code} {cells slots : Nat} {Q : State → Prop} {dC : Nat → ClassId} {dI : Nat → Nat → Nat} {cI cB cJ cZ : ClassId} {A : Nat → Prop} {ad : Nat → Nat} {post : Int32 → St → Prop} (hx : p.tables.exec = Jvm.exec) (hb : c.code = b_Mod_groupOf) (hml : c.maxLocals = 4) (hown : s.vm.findClass R_Mod = some m.cls) (hT : ∀ w ∈ TG, w.before args s = true) (hK : va_K (dC, dI) CL (TY cI cB cJ cZ) s) (hN : NW s) (hA : ∀ q : Nat, s.heap.size ≤ q → A q) (hRc : cells ≤ R.cells) (hRs : slots ≤ R.slots) (hRf : 0 ≤ R.frames) (hRl : 0 ≤ R.locals) (hret : ∀ (r : Int32) (x : St) (H : Heap) (locs : List Loc) (pc : Nat) (ls : Array Slot), decode b_Mod_groupOf pc = .ok (.ireturn, 1) → post r x → Wd dC dI cI cB cJ cZ ad stM kcM 115 A x H → va_S A s.heap H locs → W p l e R s m args below meth c H locs cells slots Q (F0 m pc ls [.int r])) : ∀ (l1 : Int32) (x : St) (H : Heap) (locs : List Loc) (ls : Array Slot), wp_Mod_groupOf post l1 x → Wd dC dI cI cB cJ cZ ad stM kcM 115 A x H → va_S A s.heap H locs → lv_has ls 4 [(0, .ref (ad 0)), (1, .int l1)] → W p l e R s m args below meth c H locs cells slots Q (F0 m 0 ls []) := by
  intro l1 x H locs ls  hw hW hS hl
  unfold wp_Mod_groupOf at hw
  refine lv_iconst (v := 0) hx hb d_Mod_groupOf_0 (by decide) ?_
  refine lv_istore_n (lv' := [(2, .int 0), (0, .ref (ad 0)), (1, .int l1)]) hx hb d_Mod_groupOf_1 rfl hl (by decide) rfl (fun ls hl => ?_)
  refine lv_aload_n hx hb d_Mod_groupOf_2 rfl (lv_at hl 1 rfl) ?_
  refine w_getf (q := 53) (k := 81) (t := 12) (C := R_Mod) (T := F_Mod) (N := 167) hx hb hT hown hK hW ko_0.1 ko_0.2 (by decide) in_Mod rfl rfl (by decide) rfl fr_Mod_81 w_9_17 d_Mod_groupOf_3 rfl ?_
  refine lv_iconst (v := 0) hx hb d_Mod_groupOf_6 (by decide) ?_
  obtain ⟨hi, hw⟩ := hw
  refine w_iald (o := 53) hx hb hK hW ko_53.1 ko_53.2 hi d_Mod_groupOf_7 ?_
  refine lv_topi (fun v1764 ev1764 => ?_)
  have hw := hw v1764 ev1764
  refine lv_istore_n (lv' := [(3, .int v1764), (2, .int 0), (0, .ref (ad 0)), (1, .int l1)]) hx hb d_Mod_groupOf_8 rfl hl (by decide) rfl (fun ls hl => ?_)
  obtain ⟨n, hw⟩ := hw
  exact tl_Mod_groupOf_9 hx hb hml hown hT hK hN hA hRc hRs hRf hRl hret  n l1 0 v1764 x H locs ls  hw hW hS (lv_sub hl [2, 3, 1, 0] rfl)
set_option maxHeartbeats 4000000 in
set_option maxRecDepth 100000 in
theorem k_Mod_groupOf (l : Launch) (dC : Nat → ClassId) (dI : Nat → Nat → Nat) (cI cB cJ cZ : ClassId) (ad : Nat → Nat) (sz : Nat) (l1 : Int32) (x : St) {post : Int32 → St → Prop} (hw : wp_Mod_groupOf post l1 x) : Met l y_Mod_groupOf (wsOf y_Mod_groupOf b_Mod_groupOf 4 (some (.int))) ({ frames := 0, cells := 0, slots := 0, locals := 0 }) (va_Pc [.ref (ad 0), .int l1] (PW dC dI cI cB cJ cZ ad stM kcM 115 sz x)) (va_Qi (fun (r : Int32) (y : St) => post r y) (fun y t => Wd dC dI cI cB cJ cZ ad stM kcM 115 (va_A (pic ad stM kcM 115 cI cB cJ cZ x) sz) y t.heap) (va_A (pic ad stM kcM 115 cI cB cJ cZ x) sz)) 0 0 (va_A (pic ad stM kcM 115 cI cB cJ cZ x) sz) := by
  refine Met.ofW (cc := b_Mod_groupOf) (maxL := 4) (ret := some (.int)) (by decide) rfl ?_
  intro p e s m args below meth c s₁ B hml hv
  obtain ⟨rfl, hsz, hW0, hK, hN⟩ := hv
  have hx := B.exec
  have hb := B.bytes
  have hr := B.returns
  have hts := atoms_spec B.pre
  have hT : ∀ w ∈ TG, w.before _ s = true := fun w h => hts w (List.mem_cons_of_mem _ h)
  have hown : s.vm.findClass R_Mod = some m.cls := findClass_of_methodNamed B.named
  have hlocks := B.notSynchronized
  subst hsz
  have hW : Wd dC dI cI cB cJ cZ ad stM kcM 115 (va_A (pic ad stM kcM 115 cI cB cJ cZ x) s.heap.size) x s.heap := ⟨hW0.1, hW0.2.1.self (sz := s.heap.size), hW0.2.2⟩
  generalize hAe : va_A (pic ad stM kcM 115 cI cB cJ cZ x) s.heap.size = A at hW ⊢
  have hA : ∀ q : Nat, s.heap.size ≤ q → A q := fun q h => by rw [← hAe]; exact Or.inr h
  have hS : va_S A s.heap s.heap [] := va_S.rf
  have hl := lv_entry ([.ref (ad 0), .int l1]) (n := 4) (Nat.le_of_ble_eq_true rfl)
  rw [lg_entry_eq]
  generalize (lg_sl ([.ref (ad 0), .int l1]) ++ List.replicate (4 - (lg_sl ([.ref (ad 0), .int l1])).length) Slot.unset).toArray = ls at hl ⊢
  have hl : lv_has ls 4 [(0, .ref (ad 0)), (1, .int l1)] := hl
  exact t_Mod_groupOf_e hx hb hml hown hT hK hN hA (Nat.le_refl 0) (Nat.le_refl 0) (Nat.le_refl 0) (Nat.le_refl 0) (fun r x H locs pc ls hd hp hW hS => W.iret (v := r) hx hb hr (fun t ht hM => ⟨⟨r, x, rfl, hp, Wd.back hW ht.symm (fun _ z => z)⟩, hS.F ht⟩) hS.2.2 hd hlocks)  l1 x _ _ ls  hw hW hS hl
set_option maxRecDepth 100000 in
set_option maxHeartbeats 4000000 in
set_option maxRecDepth 100000 in
theorem t_Mod_firstRow_4 {p : Program} {l : Launch} {e : Env} {R : Room} {s : State} {m : MethodId} {args : Array Value} {below : List Frame} {meth : Method} {c : Code} {cells slots : Nat} {Q : State → Prop} {dC : Nat → ClassId} {dI : Nat → Nat → Nat} {cI cB cJ cZ : ClassId} {A : Nat → Prop} {ad : Nat → Nat} {post : Int32 → St → Prop} {rec4 : Int32 → Int32 → Int32 → St → Prop} (hx : p.tables.exec = Jvm.exec) (hb : c.code = b_Mod_firstRow) (hml : c.maxLocals = 4) (hown : s.vm.findClass R_Mod = some m.cls) (hT : ∀ w ∈ TG, w.before args s = true) (hK : va_K (dC, dI) CL (TY cI cB cJ cZ) s) (hN : NW s) (hA : ∀ q : Nat, s.heap.size ≤ q → A q) (hRc : cells ≤ R.cells) (hRs : slots ≤ R.slots) (hRf : 0 ≤ R.frames) (hRl : 0 ≤ R.locals) (hret : ∀ (r : Int32) (x : St) (H : Heap) (locs : List Loc) (pc : Nat) (ls : Array Slot), decode b_Mod_firstRow pc = .ok (.ireturn, 1) → post r x → Wd dC dI cI cB cJ cZ ad stM kcM 115 A x H → va_S A s.heap H locs → W p l e R s m args below meth c H locs cells slots Q (F0 m pc ls [.int r])) (hrec4 : ∀ (l1 : Int32) (l2 : Int32) (l3 : Int32) (x : St) (H : Heap) (locs : List Loc) (ls : Array Slot), rec4 l1 l2 l3 x → Wd dC dI cI cB cJ cZ ad stM kcM 115 A x H → va_S A s.heap H locs → lv_has ls 4 [(0, .ref (ad 0)), (1, .int l1), (2, .int l2), (3, .int l3)] → W p l e R s m args below meth c H locs cells slots Q (F0 m 4 ls [])) : ∀ (l1 : Int32) (l2 : Int32) (l3 : Int32) (x : St) (H : Heap) (locs : List Loc) (ls : Array Slot), j_Mod_firstRow_4 post rec4 l1 l2 l3 x → Wd dC dI cI cB cJ cZ ad stM kcM 115 A x H → va_S A s.heap H locs → lv_has ls 4 [(0, .ref (ad 0)), (1, .int l1), (2, .int l2), (3, .int l3)] → W p l e R s m args below meth c H locs cells slots Q (F0 m 4 ls []) := by
  intro l1 l2 l3 x H locs ls  hw hW hS hl
  unfold j_Mod_firstRow_4 at hw
  refine lv_iload_n hx hb d_Mod_firstRow_4 rfl (lv_at hl 3 rfl) ?_
  refine lv_iload_n hx hb d_Mod_firstRow_5 rfl (lv_at hl 1 rfl) ?_
  refine lv_icmp_ge (tgt := 24) hx hb d_Mod_firstRow_6 (by decide) (fun c1765 => ?_) (fun c1765 => ?_)
  · have hw := hw.1 c1765
    refine lv_iload_n hx hb d_Mod_firstRow_24 rfl (lv_at hl 2 rfl) ?_
    exact hret l2 x H locs 25 ls d_Mod_firstRow_25 hw hW hS
  · have hw := hw.2 c1765
    refine lv_iload_n hx hb d_Mod_firstRow_9 rfl (lv_at hl 2 rfl) ?_
    refine lv_aload_n hx hb d_Mod_firstRow_10 rfl (lv_at hl 0 rfl) ?_
    refine w_getf (q := 53) (k := 81) (t := 12) (C := R_Mod) (T := F_Mod) (N := 167) hx hb hT hown hK hW ko_0.1 ko_0.2 (by decide) in_Mod rfl rfl (by decide) rfl fr_Mod_81 w_9_17 d_Mod_firstRow_11 rfl ?_
    refine lv_iload_n hx hb d_Mod_firstRow_14 rfl (lv_at hl 3 rfl) ?_
    obtain ⟨hi, hw⟩ := hw
    refine w_iald (o := 53) hx hb hK hW ko_53.1 ko_53.2 hi d_Mod_firstRow_15 ?_
    refine lv_iadd hx hb d_Mod_firstRow_16 ?_
    refine lv_topi (fun v1766 ev1766 => ?_)
    have hw := hw v1766 ev1766
    refine lv_istore_n (lv' := [(2, .int v1766), (0, .ref (ad 0)), (1, .int l1), (3, .int l3)]) hx hb d_Mod_firstRow_17 rfl hl (by decide) rfl (fun ls hl => ?_)
    refine lv_iinc (v := (l3 + 1)) (lv' := [(3, .int (l3 + 1)), (2, .int v1766), (0, .ref (ad 0)), (1, .int l1)]) hx hb d_Mod_firstRow_18 hl (k := 3) rfl rfl (by decide) rfl (fun ls hl => ?_)
    refine lv_goto (tgt := 4) hx hb d_Mod_firstRow_21 (by decide) ?_
    exact hrec4 l1 v1766 (l3 + 1) x H locs ls  hw hW hS (lv_sub hl [2, 3, 1, 0] rfl)
set_option maxHeartbeats 4000000 in
set_option maxRecDepth 100000 in
theorem tl_Mod_firstRow_4 {p : Program} {l : Launch} {e : Env} {R : Room} {s : State} {m : MethodId} {args : Array Value} {below : List Frame} {meth : Method} {c : Code} {cells slots : Nat} {Q : State → Prop} {dC : Nat → ClassId} {dI : Nat → Nat → Nat} {cI cB cJ cZ : ClassId} {A : Nat → Prop} {ad : Nat → Nat} {post : Int32 → St → Prop} (hx : p.tables.exec = Jvm.exec) (hb : c.code = b_Mod_firstRow) (hml : c.maxLocals = 4) (hown : s.vm.findClass R_Mod = some m.cls) (hT : ∀ w ∈ TG, w.before args s = true) (hK : va_K (dC, dI) CL (TY cI cB cJ cZ) s) (hN : NW s) (hA : ∀ q : Nat, s.heap.size ≤ q → A q) (hRc : cells ≤ R.cells) (hRs : slots ≤ R.slots) (hRf : 0 ≤ R.frames) (hRl : 0 ≤ R.locals) (hret : ∀ (r : Int32) (x : St) (H : Heap) (locs : List Loc) (pc : Nat) (ls : Array Slot), decode b_Mod_firstRow pc = .ok (.ireturn, 1) → post r x → Wd dC dI cI cB cJ cZ ad stM kcM 115 A x H → va_S A s.heap H locs → W p l e R s m args below meth c H locs cells slots Q (F0 m pc ls [.int r]))  : ∀ n : Nat, ∀ (l1 : Int32) (l2 : Int32) (l3 : Int32) (x : St) (H : Heap) (locs : List Loc) (ls : Array Slot), wl_Mod_firstRow_4 post n l1 l2 l3 x → Wd dC dI cI cB cJ cZ ad stM kcM 115 A x H → va_S A s.heap H locs → lv_has ls 4 [(0, .ref (ad 0)), (1, .int l1), (2, .int l2), (3, .int l3)] → W p l e R s m args below meth c H locs cells slots Q (F0 m 4 ls []) := by
  intro n
  induction n with
  | zero => intro l1 l2 l3 x H locs ls  hw; exact hw.elim
  | succ n ih => intro l1 l2 l3 x H locs ls  hw hW hS hl; exact t_Mod_firstRow_4 hx hb hml hown hT hK hN hA hRc hRs hRf hRl hret  ih l1 l2 l3 x H locs ls  hw hW hS hl
set_option maxRecDepth 100000 in
set_option maxHeartbeats 4000000 in
set_option maxRecDepth 100000 in
theorem t_Mod_firstRow_e {p : Program} {l : Launch} {e : Env} {R : Room} {s : State} {m : MethodId} {args : Array Value} {below : List Frame} {meth : Method} {c : Code} {cells slots : Nat} {Q : State → Prop} {dC : Nat → ClassId} {dI : Nat → Nat → Nat} {cI cB cJ cZ : ClassId} {A : Nat → Prop} {ad : Nat → Nat} {post : Int32 → St → Prop} (hx : p.tables.exec = Jvm.exec) (hb : c.code = b_Mod_firstRow) (hml : c.maxLocals = 4) (hown : s.vm.findClass R_Mod = some m.cls) (hT : ∀ w ∈ TG, w.before args s = true) (hK : va_K (dC, dI) CL (TY cI cB cJ cZ) s) (hN : NW s) (hA : ∀ q : Nat, s.heap.size ≤ q → A q) (hRc : cells ≤ R.cells) (hRs : slots ≤ R.slots) (hRf : 0 ≤ R.frames) (hRl : 0 ≤ R.locals) (hret : ∀ (r : Int32) (x : St) (H : Heap) (locs : List Loc) (pc : Nat) (ls : Array Slot), decode b_Mod_firstRow pc = .ok (.ireturn, 1) → post r x → Wd dC dI cI cB cJ cZ ad stM kcM 115 A x H → va_S A s.heap H locs → W p l e R s m args below meth c H locs cells slots Q (F0 m pc ls [.int r])) : ∀ (l1 : Int32) (x : St) (H : Heap) (locs : List Loc) (ls : Array Slot), wp_Mod_firstRow post l1 x → Wd dC dI cI cB cJ cZ ad stM kcM 115 A x H → va_S A s.heap H locs → lv_has ls 4 [(0, .ref (ad 0)), (1, .int l1)] → W p l e R s m args below meth c H locs cells slots Q (F0 m 0 ls []) := by
  intro l1 x H locs ls  hw hW hS hl
  unfold wp_Mod_firstRow at hw
  refine lv_iconst (v := 0) hx hb d_Mod_firstRow_0 (by decide) ?_
  refine lv_istore_n (lv' := [(2, .int 0), (0, .ref (ad 0)), (1, .int l1)]) hx hb d_Mod_firstRow_1 rfl hl (by decide) rfl (fun ls hl => ?_)
  refine lv_iconst (v := 0) hx hb d_Mod_firstRow_2 (by decide) ?_
  refine lv_istore_n (lv' := [(3, .int 0), (2, .int 0), (0, .ref (ad 0)), (1, .int l1)]) hx hb d_Mod_firstRow_3 rfl hl (by decide) rfl (fun ls hl => ?_)
  obtain ⟨n, hw⟩ := hw
  exact tl_Mod_firstRow_4 hx hb hml hown hT hK hN hA hRc hRs hRf hRl hret  n l1 0 0 x H locs ls  hw hW hS (lv_sub hl [2, 3, 1, 0] rfl)
set_option maxHeartbeats 4000000 in
set_option maxRecDepth 100000 in
theorem k_Mod_firstRow (l : Launch) (dC : Nat → ClassId) (dI : Nat → Nat → Nat) (cI cB cJ cZ : ClassId) (ad : Nat → Nat) (sz : Nat) (l1 : Int32) (x : St) {post : Int32 → St → Prop} (hw : wp_Mod_firstRow post l1 x) : Met l y_Mod_firstRow (wsOf y_Mod_firstRow b_Mod_firstRow 4 (some (.int))) ({ frames := 0, cells := 0, slots := 0, locals := 0 }) (va_Pc [.ref (ad 0), .int l1] (PW dC dI cI cB cJ cZ ad stM kcM 115 sz x)) (va_Qi (fun (r : Int32) (y : St) => post r y) (fun y t => Wd dC dI cI cB cJ cZ ad stM kcM 115 (va_A (pic ad stM kcM 115 cI cB cJ cZ x) sz) y t.heap) (va_A (pic ad stM kcM 115 cI cB cJ cZ x) sz)) 0 0 (va_A (pic ad stM kcM 115 cI cB cJ cZ x) sz) := by
  refine Met.ofW (cc := b_Mod_firstRow) (maxL := 4) (ret := some (.int)) (by decide) rfl ?_
  intro p e s m args below meth c s₁ B hml hv
  obtain ⟨rfl, hsz, hW0, hK, hN⟩ := hv
  have hx := B.exec
  have hb := B.bytes
  have hr := B.returns
  have hts := atoms_spec B.pre
  have hT : ∀ w ∈ TG, w.before _ s = true := fun w h => hts w (List.mem_cons_of_mem _ h)
  have hown : s.vm.findClass R_Mod = some m.cls := findClass_of_methodNamed B.named
  have hlocks := B.notSynchronized
  subst hsz
  have hW : Wd dC dI cI cB cJ cZ ad stM kcM 115 (va_A (pic ad stM kcM 115 cI cB cJ cZ x) s.heap.size) x s.heap := ⟨hW0.1, hW0.2.1.self (sz := s.heap.size), hW0.2.2⟩
  generalize hAe : va_A (pic ad stM kcM 115 cI cB cJ cZ x) s.heap.size = A at hW ⊢
  have hA : ∀ q : Nat, s.heap.size ≤ q → A q := fun q h => by rw [← hAe]; exact Or.inr h
  have hS : va_S A s.heap s.heap [] := va_S.rf
  have hl := lv_entry ([.ref (ad 0), .int l1]) (n := 4) (Nat.le_of_ble_eq_true rfl)
  rw [lg_entry_eq]
  generalize (lg_sl ([.ref (ad 0), .int l1]) ++ List.replicate (4 - (lg_sl ([.ref (ad 0), .int l1])).length) Slot.unset).toArray = ls at hl ⊢
  have hl : lv_has ls 4 [(0, .ref (ad 0)), (1, .int l1)] := hl
  exact t_Mod_firstRow_e hx hb hml hown hT hK hN hA (Nat.le_refl 0) (Nat.le_refl 0) (Nat.le_refl 0) (Nat.le_refl 0) (fun r x H locs pc ls hd hp hW hS => W.iret (v := r) hx hb hr (fun t ht hM => ⟨⟨r, x, rfl, hp, Wd.back hW ht.symm (fun _ z => z)⟩, hS.F ht⟩) hS.2.2 hd hlocks)  l1 x _ _ ls  hw hW hS hl
set_option maxRecDepth 100000 in
set_option maxHeartbeats 4000000 in
set_option maxRecDepth 100000 in
theorem t_Mod_goTo_127 {p : Program} {l : Launch} {e : Env} {R : Room} {s : State} {m : MethodId} {args : Array Value} {below : List Frame} {meth : Method} {c : Code} {cells slots : Nat} {Q : State → Prop} {dC : Nat → ClassId} {dI : Nat → Nat → Nat} {cI cB cJ cZ : ClassId} {A : Nat → Prop} {ad : Nat → Nat} {post : St → Prop} {rec8 : Int32 → Int32 → Int32 → St → Prop} (hx : p.tables.exec = Jvm.exec) (hb : c.code = b_Mod_goTo) (hml : c.maxLocals = 7) (hown : s.vm.findClass R_Mod = some m.cls) (hT : ∀ w ∈ TG, w.before args s = true) (hK : va_K (dC, dI) CL (TY cI cB cJ cZ) s) (hN : NW s) (hA : ∀ q : Nat, s.heap.size ≤ q → A q) (hRc : cells ≤ R.cells) (hRs : slots ≤ R.slots) (hRf : 1 ≤ R.frames) (hRl : 23 ≤ R.locals) (hret : ∀ (x : St) (H : Heap) (locs : List Loc) (pc : Nat) (ls : Array Slot), decode b_Mod_goTo pc = .ok (.return_, 1) → post x → Wd dC dI cI cB cJ cZ ad stM kcM 115 A x H → va_S A s.heap H locs → W p l e R s m args below meth c H locs cells slots Q (F0 m pc ls [])) (hrec8 : ∀ (l1 : Int32) (l2 : Int32) (l3 : Int32) (x : St) (H : Heap) (locs : List Loc) (ls : Array Slot), rec8 l1 l2 l3 x → Wd dC dI cI cB cJ cZ ad stM kcM 115 A x H → va_S A s.heap H locs → lv_has ls 7 [(0, .ref (ad 0)), (1, .int l1), (2, .int l2), (3, .int l3)] → W p l e R s m args below meth c H locs cells slots Q (F0 m 8 ls [])) : ∀ (l1 : Int32) (l2 : Int32) (l3 : Int32) (l4 : Int32) (l5 : Int32) (l6 : Int32) (x : St) (H : Heap) (locs : List Loc) (ls : Array Slot), j_Mod_goTo_127 post rec8 l1 l2 l3 l4 l5 l6 x → Wd dC dI cI cB cJ cZ ad stM kcM 115 A x H → va_S A s.heap H locs → lv_has ls 7 [(0, .ref (ad 0)), (1, .int l1), (2, .int l2), (3, .int l3), (4, .int l4), (5, .int l5), (6, .int l6)] → W p l e R s m args below meth c H locs cells slots Q (F0 m 127 ls []) := by
  intro l1 l2 l3 l4 l5 l6 x H locs ls  hw hW hS hl
  unfold j_Mod_goTo_127 at hw
  refine lv_aload_n hx hb d_Mod_goTo_127 rfl (lv_at hl 0 rfl) ?_
  refine w_getf (q := 77) (k := 115) (t := 12) (C := R_Mod) (T := F_Mod) (N := 167) hx hb hT hown hK hW ko_0.1 ko_0.2 (by decide) in_Mod rfl rfl (by decide) rfl fr_Mod_115 w_9_51 d_Mod_goTo_128 rfl ?_
  refine lv_iload_n hx hb d_Mod_goTo_131 rfl (lv_at hl 3 rfl) ?_
  refine lv_iload hx hb d_Mod_goTo_132 (lv_at hl 4 rfl) ?_
  obtain ⟨hi, hw⟩ := hw
  refine w_iast (o := 77) hx hb hK hW hS ko_77.1 ko_77.2 hi d_Mod_goTo_134 (fun H locs hW hS => ?_)
  obtain ⟨x1767, ex1767⟩ : ∃ y : St, y = setA x 77 l3 l4 := ⟨_, rfl⟩
  rw [← ex1767] at hW
  have hw := hw x1767 ex1767
  refine lv_iinc (v := (l3 + 1)) (lv' := [(3, .int (l3 + 1)), (0, .ref (ad 0)), (1, .int l1), (2, .int l2), (4, .int l4), (5, .int l5), (6, .int l6)]) hx hb d_Mod_goTo_135 hl (k := 3) rfl rfl (by decide) rfl (fun ls hl => ?_)
  refine lv_goto (tgt := 8) hx hb d_Mod_goTo_138 (by decide) ?_
  exact hrec8 l1 l2 (l3 + 1) x1767 H locs ls  hw hW hS (lv_sub hl [1, 2, 3, 0] rfl)
set_option maxRecDepth 100000 in
set_option maxHeartbeats 4000000 in
set_option maxRecDepth 100000 in
theorem t_Mod_goTo_104 {p : Program} {l : Launch} {e : Env} {R : Room} {s : State} {m : MethodId} {args : Array Value} {below : List Frame} {meth : Method} {c : Code} {cells slots : Nat} {Q : State → Prop} {dC : Nat → ClassId} {dI : Nat → Nat → Nat} {cI cB cJ cZ : ClassId} {A : Nat → Prop} {ad : Nat → Nat} {post : St → Prop} {rec8 : Int32 → Int32 → Int32 → St → Prop} {rec104 : Int32 → Int32 → Int32 → Int32 → Int32 → Int32 → St → Prop} (hx : p.tables.exec = Jvm.exec) (hb : c.code = b_Mod_goTo) (hml : c.maxLocals = 7) (hown : s.vm.findClass R_Mod = some m.cls) (hT : ∀ w ∈ TG, w.before args s = true) (hK : va_K (dC, dI) CL (TY cI cB cJ cZ) s) (hN : NW s) (hA : ∀ q : Nat, s.heap.size ≤ q → A q) (hRc : cells ≤ R.cells) (hRs : slots ≤ R.slots) (hRf : 1 ≤ R.frames) (hRl : 23 ≤ R.locals) (hret : ∀ (x : St) (H : Heap) (locs : List Loc) (pc : Nat) (ls : Array Slot), decode b_Mod_goTo pc = .ok (.return_, 1) → post x → Wd dC dI cI cB cJ cZ ad stM kcM 115 A x H → va_S A s.heap H locs → W p l e R s m args below meth c H locs cells slots Q (F0 m pc ls [])) (hrec8 : ∀ (l1 : Int32) (l2 : Int32) (l3 : Int32) (x : St) (H : Heap) (locs : List Loc) (ls : Array Slot), rec8 l1 l2 l3 x → Wd dC dI cI cB cJ cZ ad stM kcM 115 A x H → va_S A s.heap H locs → lv_has ls 7 [(0, .ref (ad 0)), (1, .int l1), (2, .int l2), (3, .int l3)] → W p l e R s m args below meth c H locs cells slots Q (F0 m 8 ls [])) (hrec104 : ∀ (l1 : Int32) (l2 : Int32) (l3 : Int32) (l4 : Int32) (l5 : Int32) (l6 : Int32) (x : St) (H : Heap) (locs : List Loc) (ls : Array Slot), rec104 l1 l2 l3 l4 l5 l6 x → Wd dC dI cI cB cJ cZ ad stM kcM 115 A x H → va_S A s.heap H locs → lv_has ls 7 [(0, .ref (ad 0)), (1, .int l1), (2, .int l2), (3, .int l3), (4, .int l4), (5, .int l5), (6, .int l6)] → W p l e R s m args below meth c H locs cells slots Q (F0 m 104 ls [])) : ∀ (l1 : Int32) (l2 : Int32) (l3 : Int32) (l4 : Int32) (l5 : Int32) (l6 : Int32) (x : St) (H : Heap) (locs : List Loc) (ls : Array Slot), j_Mod_goTo_104 post rec8 rec104 l1 l2 l3 l4 l5 l6 x → Wd dC dI cI cB cJ cZ ad stM kcM 115 A x H → va_S A s.heap H locs → lv_has ls 7 [(0, .ref (ad 0)), (1, .int l1), (2, .int l2), (3, .int l3), (4, .int l4), (5, .int l5), (6, .int l6)] → W p l e R s m args below meth c H locs cells slots Q (F0 m 104 ls []) := by
  intro l1 l2 l3 l4 l5 l6 x H locs ls  hw hW hS hl
  unfold j_Mod_goTo_104 at hw
  refine lv_iload hx hb d_Mod_goTo_104 (lv_at hl 4 rfl) ?_
  refine lv_iload hx hb d_Mod_goTo_106 (lv_at hl 5 rfl) ?_
  refine lv_icmp_ge (tgt := 127) hx hb d_Mod_goTo_108 (by decide) (fun c1768 => ?_) (fun c1768 => ?_)
  · have hw := hw.1 c1768
    exact t_Mod_goTo_127 hx hb hml hown hT hK hN hA hRc hRs hRf hRl hret hrec8 l1 l2 l3 l4 l5 l6 x H locs ls  hw hW hS (lv_sub hl [0, 1, 2, 3, 4, 5, 6] rfl)
  · have hw := hw.2 c1768
    refine lv_aload_n hx hb d_Mod_goTo_111 rfl (lv_at hl 0 rfl) ?_
    refine w_getf (q := 58) (k := 95) (t := 12) (C := R_Mod) (T := F_Mod) (N := 167) hx hb hT hown hK hW ko_0.1 ko_0.2 (by decide) in_Mod rfl rfl (by decide) rfl fr_Mod_95 w_9_31 d_Mod_goTo_112 rfl ?_
    refine lv_iload hx hb d_Mod_goTo_115 (lv_at hl 4 rfl) ?_
    obtain ⟨hi, hw⟩ := hw
    refine w_iald (o := 58) hx hb hK hW ko_58.1 ko_58.2 hi d_Mod_goTo_117 ?_
    refine lv_if_le (tgt := 127) hx hb d_Mod_goTo_118 (by decide) (fun c1769 => ?_) (fun c1769 => ?_)
    · have hw := hw.1 c1769
      exact t_Mod_goTo_127 hx hb hml hown hT hK hN hA hRc hRs hRf hRl hret hrec8 l1 l2 l3 l4 l5 l6 x H locs ls  hw hW hS (lv_sub hl [0, 1, 2, 3, 4, 5, 6] rfl)
    · have hw := hw.2 c1769
      refine lv_iinc (v := (l4 + 1)) (lv' := [(4, .int (l4 + 1)), (0, .ref (ad 0)), (1, .int l1), (2, .int l2), (3, .int l3), (5, .int l5), (6, .int l6)]) hx hb d_Mod_goTo_121 hl (k := 4) rfl rfl (by decide) rfl (fun ls hl => ?_)
      refine lv_goto (tgt := 104) hx hb d_Mod_goTo_124 (by decide) ?_
      exact hrec104 l1 l2 l3 (l4 + 1) l5 l6 x H locs ls  hw hW hS (lv_sub hl [1, 2, 3, 4, 0, 5, 6] rfl)
set_option maxHeartbeats 4000000 in
set_option maxRecDepth 100000 in
theorem tl_Mod_goTo_104 {p : Program} {l : Launch} {e : Env} {R : Room} {s : State} {m : MethodId} {args : Array Value} {below : List Frame} {meth : Method} {c : Code} {cells slots : Nat} {Q : State → Prop} {dC : Nat → ClassId} {dI : Nat → Nat → Nat} {cI cB cJ cZ : ClassId} {A : Nat → Prop} {ad : Nat → Nat} {post : St → Prop} {rec8 : Int32 → Int32 → Int32 → St → Prop} (hx : p.tables.exec = Jvm.exec) (hb : c.code = b_Mod_goTo) (hml : c.maxLocals = 7) (hown : s.vm.findClass R_Mod = some m.cls) (hT : ∀ w ∈ TG, w.before args s = true) (hK : va_K (dC, dI) CL (TY cI cB cJ cZ) s) (hN : NW s) (hA : ∀ q : Nat, s.heap.size ≤ q → A q) (hRc : cells ≤ R.cells) (hRs : slots ≤ R.slots) (hRf : 1 ≤ R.frames) (hRl : 23 ≤ R.locals) (hret : ∀ (x : St) (H : Heap) (locs : List Loc) (pc : Nat) (ls : Array Slot), decode b_Mod_goTo pc = .ok (.return_, 1) → post x → Wd dC dI cI cB cJ cZ ad stM kcM 115 A x H → va_S A s.heap H locs → W p l e R s m args below meth c H locs cells slots Q (F0 m pc ls [])) (hrec8 : ∀ (l1 : Int32) (l2 : Int32) (l3 : Int32) (x : St) (H : Heap) (locs : List Loc) (ls : Array Slot), rec8 l1 l2 l3 x → Wd dC dI cI cB cJ cZ ad stM kcM 115 A x H → va_S A s.heap H locs → lv_has ls 7 [(0, .ref (ad 0)), (1, .int l1), (2, .int l2), (3, .int l3)] → W p l e R s m args below meth c H locs cells slots Q (F0 m 8 ls [])) : ∀ n : Nat, ∀ (l1 : Int32) (l2 : Int32) (l3 : Int32) (l4 : Int32) (l5 : Int32) (l6 : Int32) (x : St) (H : Heap) (locs : List Loc) (ls : Array Slot), wl_Mod_goTo_104 post rec8 n l1 l2 l3 l4 l5 l6 x → Wd dC dI cI cB cJ cZ ad stM kcM 115 A x H → va_S A s.heap H locs → lv_has ls 7 [(0, .ref (ad 0)), (1, .int l1), (2, .int l2), (3, .int l3), (4, .int l4), (5, .int l5), (6, .int l6)] → W p l e R s m args below meth c H locs cells slots Q (F0 m 104 ls []) := by
  intro n
  induction n with
  | zero => intro l1 l2 l3 l4 l5 l6 x H locs ls  hw; exact hw.elim
  | succ n ih => intro l1 l2 l3 l4 l5 l6 x H locs ls  hw hW hS hl; exact t_Mod_goTo_104 hx hb hml hown hT hK hN hA hRc hRs hRf hRl hret hrec8 ih l1 l2 l3 l4 l5 l6 x H locs ls  hw hW hS hl
set_option maxRecDepth 100000 in
set_option maxHeartbeats 4000000 in
set_option maxRecDepth 100000 in
theorem t_Mod_goTo_71 {p : Program} {l : Launch} {e : Env} {R : Room} {s : State} {m : MethodId} {args : Array Value} {below : List Frame} {meth : Method} {c : Code} {cells slots : Nat} {Q : State → Prop} {dC : Nat → ClassId} {dI : Nat → Nat → Nat} {cI cB cJ cZ : ClassId} {A : Nat → Prop} {ad : Nat → Nat} {post : St → Prop} {rec8 : Int32 → Int32 → Int32 → St → Prop} {rec62 : Int32 → Int32 → Int32 → Int32 → Int32 → Int32 → St → Prop} {rec71 : Int32 → Int32 → Int32 → Int32 → Int32 → Int32 → St → Prop} (hx : p.tables.exec = Jvm.exec) (hb : c.code = b_Mod_goTo) (hml : c.maxLocals = 7) (hown : s.vm.findClass R_Mod = some m.cls) (hT : ∀ w ∈ TG, w.before args s = true) (hK : va_K (dC, dI) CL (TY cI cB cJ cZ) s) (hN : NW s) (hA : ∀ q : Nat, s.heap.size ≤ q → A q) (hRc : cells ≤ R.cells) (hRs : slots ≤ R.slots) (hRf : 1 ≤ R.frames) (hRl : 23 ≤ R.locals) (hret : ∀ (x : St) (H : Heap) (locs : List Loc) (pc : Nat) (ls : Array Slot), decode b_Mod_goTo pc = .ok (.return_, 1) → post x → Wd dC dI cI cB cJ cZ ad stM kcM 115 A x H → va_S A s.heap H locs → W p l e R s m args below meth c H locs cells slots Q (F0 m pc ls [])) (hrec8 : ∀ (l1 : Int32) (l2 : Int32) (l3 : Int32) (x : St) (H : Heap) (locs : List Loc) (ls : Array Slot), rec8 l1 l2 l3 x → Wd dC dI cI cB cJ cZ ad stM kcM 115 A x H → va_S A s.heap H locs → lv_has ls 7 [(0, .ref (ad 0)), (1, .int l1), (2, .int l2), (3, .int l3)] → W p l e R s m args below meth c H locs cells slots Q (F0 m 8 ls [])) (hrec62 : ∀ (l1 : Int32) (l2 : Int32) (l3 : Int32) (l4 : Int32) (l5 : Int32) (l6 : Int32) (x : St) (H : Heap) (locs : List Loc) (ls : Array Slot), rec62 l1 l2 l3 l4 l5 l6 x → Wd dC dI cI cB cJ cZ ad stM kcM 115 A x H → va_S A s.heap H locs → lv_has ls 7 [(0, .ref (ad 0)), (1, .int l1), (2, .int l2), (3, .int l3), (4, .int l4), (5, .int l5), (6, .int l6)] → W p l e R s m args below meth c H locs cells slots Q (F0 m 62 ls [])) (hrec71 : ∀ (l1 : Int32) (l2 : Int32) (l3 : Int32) (l4 : Int32) (l5 : Int32) (l6 : Int32) (x : St) (H : Heap) (locs : List Loc) (ls : Array Slot), rec71 l1 l2 l3 l4 l5 l6 x → Wd dC dI cI cB cJ cZ ad stM kcM 115 A x H → va_S A s.heap H locs → lv_has ls 7 [(0, .ref (ad 0)), (1, .int l1), (2, .int l2), (3, .int l3), (4, .int l4), (5, .int l5), (6, .int l6)] → W p l e R s m args below meth c H locs cells slots Q (F0 m 71 ls [])) : ∀ (l1 : Int32) (l2 : Int32) (l3 : Int32) (l4 : Int32) (l5 : Int32) (l6 : Int32) (x : St) (H : Heap) (locs : List Loc) (ls : Array Slot), j_Mod_goTo_71 post rec8 rec62 rec71 l1 l2 l3 l4 l5 l6 x → Wd dC dI cI cB cJ cZ ad stM kcM 115 A x H → va_S A s.heap H locs → lv_has ls 7 [(0, .ref (ad 0)), (1, .int l1), (2, .int l2), (3, .int l3), (4, .int l4), (5, .int l5), (6, .int l6)] → W p l e R s m args below meth c H locs cells slots Q (F0 m 71 ls []) := by
  intro l1 l2 l3 l4 l5 l6 x H locs ls  hw hW hS hl
  unfold j_Mod_goTo_71 at hw
  refine lv_aload_n hx hb d_Mod_goTo_71 rfl (lv_at hl 0 rfl) ?_
  refine w_getf (q := 58) (k := 95) (t := 12) (C := R_Mod) (T := F_Mod) (N := 167) hx hb hT hown hK hW ko_0.1 ko_0.2 (by decide) in_Mod rfl rfl (by decide) rfl fr_Mod_95 w_9_31 d_Mod_goTo_72 rfl ?_
  refine lv_iload hx hb d_Mod_goTo_75 (lv_at hl 4 rfl) ?_
  obtain ⟨hi, hw⟩ := hw
  refine w_iald (o := 58) hx hb hK hW ko_58.1 ko_58.2 hi d_Mod_goTo_77 ?_
  refine lv_if_le (tgt := 87) hx hb d_Mod_goTo_78 (by decide) (fun c1770 => ?_) (fun c1770 => ?_)
  · have hw := hw.1 c1770
    refine lv_iinc (v := (l6 + 1)) (lv' := [(6, .int (l6 + 1)), (0, .ref (ad 0)), (1, .int l1), (2, .int l2), (3, .int l3), (4, .int l4), (5, .int l5)]) hx hb d_Mod_goTo_87 hl (k := 6) rfl rfl (by decide) rfl (fun ls hl => ?_)
    refine lv_goto (tgt := 62) hx hb d_Mod_goTo_90 (by decide) ?_
    exact hrec62 l1 l2 l3 l4 l5 (l6 + 1) x H locs ls  hw hW hS (lv_sub hl [1, 2, 3, 4, 5, 6, 0] rfl)
  · have hw := hw.2 c1770
    refine lv_iinc (v := (l4 + 1)) (lv' := [(4, .int (l4 + 1)), (0, .ref (ad 0)), (1, .int l1), (2, .int l2), (3, .int l3), (5, .int l5), (6, .int l6)]) hx hb d_Mod_goTo_81 hl (k := 4) rfl rfl (by decide) rfl (fun ls hl => ?_)
    refine lv_goto (tgt := 71) hx hb d_Mod_goTo_84 (by decide) ?_
    exact hrec71 l1 l2 l3 (l4 + 1) l5 l6 x H locs ls  hw hW hS (lv_sub hl [1, 2, 3, 4, 0, 5, 6] rfl)
set_option maxHeartbeats 4000000 in
set_option maxRecDepth 100000 in
theorem tl_Mod_goTo_71 {p : Program} {l : Launch} {e : Env} {R : Room} {s : State} {m : MethodId} {args : Array Value} {below : List Frame} {meth : Method} {c : Code} {cells slots : Nat} {Q : State → Prop} {dC : Nat → ClassId} {dI : Nat → Nat → Nat} {cI cB cJ cZ : ClassId} {A : Nat → Prop} {ad : Nat → Nat} {post : St → Prop} {rec8 : Int32 → Int32 → Int32 → St → Prop} {rec62 : Int32 → Int32 → Int32 → Int32 → Int32 → Int32 → St → Prop} (hx : p.tables.exec = Jvm.exec) (hb : c.code = b_Mod_goTo) (hml : c.maxLocals = 7) (hown : s.vm.findClass R_Mod = some m.cls) (hT : ∀ w ∈ TG, w.before args s = true) (hK : va_K (dC, dI) CL (TY cI cB cJ cZ) s) (hN : NW s) (hA : ∀ q : Nat, s.heap.size ≤ q → A q) (hRc : cells ≤ R.cells) (hRs : slots ≤ R.slots) (hRf : 1 ≤ R.frames) (hRl : 23 ≤ R.locals) (hret : ∀ (x : St) (H : Heap) (locs : List Loc) (pc : Nat) (ls : Array Slot), decode b_Mod_goTo pc = .ok (.return_, 1) → post x → Wd dC dI cI cB cJ cZ ad stM kcM 115 A x H → va_S A s.heap H locs → W p l e R s m args below meth c H locs cells slots Q (F0 m pc ls [])) (hrec8 : ∀ (l1 : Int32) (l2 : Int32) (l3 : Int32) (x : St) (H : Heap) (locs : List Loc) (ls : Array Slot), rec8 l1 l2 l3 x → Wd dC dI cI cB cJ cZ ad stM kcM 115 A x H → va_S A s.heap H locs → lv_has ls 7 [(0, .ref (ad 0)), (1, .int l1), (2, .int l2), (3, .int l3)] → W p l e R s m args below meth c H locs cells slots Q (F0 m 8 ls [])) (hrec62 : ∀ (l1 : Int32) (l2 : Int32) (l3 : Int32) (l4 : Int32) (l5 : Int32) (l6 : Int32) (x : St) (H : Heap) (locs : List Loc) (ls : Array Slot), rec62 l1 l2 l3 l4 l5 l6 x → Wd dC dI cI cB cJ cZ ad stM kcM 115 A x H → va_S A s.heap H locs → lv_has ls 7 [(0, .ref (ad 0)), (1, .int l1), (2, .int l2), (3, .int l3), (4, .int l4), (5, .int l5), (6, .int l6)] → W p l e R s m args below meth c H locs cells slots Q (F0 m 62 ls [])) : ∀ n : Nat, ∀ (l1 : Int32) (l2 : Int32) (l3 : Int32) (l4 : Int32) (l5 : Int32) (l6 : Int32) (x : St) (H : Heap) (locs : List Loc) (ls : Array Slot), wl_Mod_goTo_71 post rec8 rec62 n l1 l2 l3 l4 l5 l6 x → Wd dC dI cI cB cJ cZ ad stM kcM 115 A x H → va_S A s.heap H locs → lv_has ls 7 [(0, .ref (ad 0)), (1, .int l1), (2, .int l2), (3, .int l3), (4, .int l4), (5, .int l5), (6, .int l6)] → W p l e R s m args below meth c H locs cells slots Q (F0 m 71 ls []) := by
  intro n
  induction n with
  | zero => intro l1 l2 l3 l4 l5 l6 x H locs ls  hw; exact hw.elim
  | succ n ih => intro l1 l2 l3 l4 l5 l6 x H locs ls  hw hW hS hl; exact t_Mod_goTo_71 hx hb hml hown hT hK hN hA hRc hRs hRf hRl hret hrec8 hrec62 ih l1 l2 l3 l4 l5 l6 x H locs ls  hw hW hS hl
set_option maxRecDepth 100000 in
set_option maxHeartbeats 4000000 in
set_option maxRecDepth 100000 in
theorem t_Mod_goTo_62 {p : Program} {l : Launch} {e : Env} {R : Room} {s : State} {m : MethodId} {args : Array Value} {below : List Frame} {meth : Method} {c : Code} {cells slots : Nat} {Q : State → Prop} {dC : Nat → ClassId} {dI : Nat → Nat → Nat} {cI cB cJ cZ : ClassId} {A : Nat → Prop} {ad : Nat → Nat} {post : St → Prop} {rec8 : Int32 → Int32 → Int32 → St → Prop} {rec62 : Int32 → Int32 → Int32 → Int32 → Int32 → Int32 → St → Prop} (hx : p.tables.exec = Jvm.exec) (hb : c.code = b_Mod_goTo) (hml : c.maxLocals = 7) (hown : s.vm.findClass R_Mod = some m.cls) (hT : ∀ w ∈ TG, w.before args s = true) (hK : va_K (dC, dI) CL (TY cI cB cJ cZ) s) (hN : NW s) (hA : ∀ q : Nat, s.heap.size ≤ q → A q) (hRc : cells ≤ R.cells) (hRs : slots ≤ R.slots) (hRf : 1 ≤ R.frames) (hRl : 23 ≤ R.locals) (hret : ∀ (x : St) (H : Heap) (locs : List Loc) (pc : Nat) (ls : Array Slot), decode b_Mod_goTo pc = .ok (.return_, 1) → post x → Wd dC dI cI cB cJ cZ ad stM kcM 115 A x H → va_S A s.heap H locs → W p l e R s m args below meth c H locs cells slots Q (F0 m pc ls [])) (hrec8 : ∀ (l1 : Int32) (l2 : Int32) (l3 : Int32) (x : St) (H : Heap) (locs : List Loc) (ls : Array Slot), rec8 l1 l2 l3 x → Wd dC dI cI cB cJ cZ ad stM kcM 115 A x H → va_S A s.heap H locs → lv_has ls 7 [(0, .ref (ad 0)), (1, .int l1), (2, .int l2), (3, .int l3)] → W p l e R s m args below meth c H locs cells slots Q (F0 m 8 ls [])) (hrec62 : ∀ (l1 : Int32) (l2 : Int32) (l3 : Int32) (l4 : Int32) (l5 : Int32) (l6 : Int32) (x : St) (H : Heap) (locs : List Loc) (ls : Array Slot), rec62 l1 l2 l3 l4 l5 l6 x → Wd dC dI cI cB cJ cZ ad stM kcM 115 A x H → va_S A s.heap H locs → lv_has ls 7 [(0, .ref (ad 0)), (1, .int l1), (2, .int l2), (3, .int l3), (4, .int l4), (5, .int l5), (6, .int l6)] → W p l e R s m args below meth c H locs cells slots Q (F0 m 62 ls [])) : ∀ (l1 : Int32) (l2 : Int32) (l3 : Int32) (l4 : Int32) (l5 : Int32) (l6 : Int32) (x : St) (H : Heap) (locs : List Loc) (ls : Array Slot), j_Mod_goTo_62 post rec8 rec62 l1 l2 l3 l4 l5 l6 x → Wd dC dI cI cB cJ cZ ad stM kcM 115 A x H → va_S A s.heap H locs → lv_has ls 7 [(0, .ref (ad 0)), (1, .int l1), (2, .int l2), (3, .int l3), (4, .int l4), (5, .int l5), (6, .int l6)] → W p l e R s m args below meth c H locs cells slots Q (F0 m 62 ls []) := by
  intro l1 l2 l3 l4 l5 l6 x H locs ls  hw hW hS hl
  unfold j_Mod_goTo_62 at hw
  refine lv_iload hx hb d_Mod_goTo_62 (lv_at hl 6 rfl) ?_
  refine lv_iload_n hx hb d_Mod_goTo_64 rfl (lv_at hl 1 rfl) ?_
  refine lv_icmp_ge (tgt := 93) hx hb d_Mod_goTo_65 (by decide) (fun c1771 => ?_) (fun c1771 => ?_)
  · have hw := hw.1 c1771
    refine lv_aload_n hx hb d_Mod_goTo_93 rfl (lv_at hl 0 rfl) ?_
    refine w_getf (q := 76) (k := 114) (t := 12) (C := R_Mod) (T := F_Mod) (N := 167) hx hb hT hown hK hW ko_0.1 ko_0.2 (by decide) in_Mod rfl rfl (by decide) rfl fr_Mod_114 w_9_50 d_Mod_goTo_94 rfl ?_
    refine lv_iload_n hx hb d_Mod_goTo_97 rfl (lv_at hl 3 rfl) ?_
    refine lv_iload hx hb d_Mod_goTo_98 (lv_at hl 4 rfl) ?_
    obtain ⟨hi, hw⟩ := hw
    refine w_iast (o := 76) hx hb hK hW hS ko_76.1 ko_76.2 hi d_Mod_goTo_100 (fun H locs hW hS => ?_)
    obtain ⟨x1772, ex1772⟩ : ∃ y : St, y = setA x 76 l3 l4 := ⟨_, rfl⟩
    rw [← ex1772] at hW
    have hw := hw x1772 ex1772
    refine lv_iinc (v := (l4 + 1)) (lv' := [(4, .int (l4 + 1)), (0, .ref (ad 0)), (1, .int l1), (2, .int l2), (3, .int l3), (5, .int l5), (6, .int l6)]) hx hb d_Mod_goTo_101 hl (k := 4) rfl rfl (by decide) rfl (fun ls hl => ?_)
    obtain ⟨n, hw⟩ := hw
    exact tl_Mod_goTo_104 hx hb hml hown hT hK hN hA hRc hRs hRf hRl hret hrec8 n l1 l2 l3 (l4 + 1) l5 l6 x1772 H locs ls  hw hW hS (lv_sub hl [1, 2, 3, 4, 0, 5, 6] rfl)
  · have hw := hw.2 c1771
    refine lv_iinc (v := (l4 + 1)) (lv' := [(4, .int (l4 + 1)), (0, .ref (ad 0)), (1, .int l1), (2, .int l2), (3, .int l3), (5, .int l5), (6, .int l6)]) hx hb d_Mod_goTo_68 hl (k := 4) rfl rfl (by decide) rfl (fun ls hl => ?_)
    obtain ⟨n, hw⟩ := hw
    exact tl_Mod_goTo_71 hx hb hml hown hT hK hN hA hRc hRs hRf hRl hret hrec8 hrec62 n l1 l2 l3 (l4 + 1) l5 l6 x H locs ls  hw hW hS (lv_sub hl [1, 2, 3, 4, 0, 5, 6] rfl)
set_option maxHeartbeats 4000000 in
set_option maxRecDepth 100000 in
theorem tl_Mod_goTo_62 {p : Program} {l : Launch} {e : Env} {R : Room} {s : State} {m : MethodId} {args : Array Value} {below : List Frame} {meth : Method} {c : Code} {cells slots : Nat} {Q : State → Prop} {dC : Nat → ClassId} {dI : Nat → Nat → Nat} {cI cB cJ cZ : ClassId} {A : Nat → Prop} {ad : Nat → Nat} {post : St → Prop} {rec8 : Int32 → Int32 → Int32 → St → Prop} (hx : p.tables.exec = Jvm.exec) (hb : c.code = b_Mod_goTo) (hml : c.maxLocals = 7) (hown : s.vm.findClass R_Mod = some m.cls) (hT : ∀ w ∈ TG, w.before args s = true) (hK : va_K (dC, dI) CL (TY cI cB cJ cZ) s) (hN : NW s) (hA : ∀ q : Nat, s.heap.size ≤ q → A q) (hRc : cells ≤ R.cells) (hRs : slots ≤ R.slots) (hRf : 1 ≤ R.frames) (hRl : 23 ≤ R.locals) (hret : ∀ (x : St) (H : Heap) (locs : List Loc) (pc : Nat) (ls : Array Slot), decode b_Mod_goTo pc = .ok (.return_, 1) → post x → Wd dC dI cI cB cJ cZ ad stM kcM 115 A x H → va_S A s.heap H locs → W p l e R s m args below meth c H locs cells slots Q (F0 m pc ls [])) (hrec8 : ∀ (l1 : Int32) (l2 : Int32) (l3 : Int32) (x : St) (H : Heap) (locs : List Loc) (ls : Array Slot), rec8 l1 l2 l3 x → Wd dC dI cI cB cJ cZ ad stM kcM 115 A x H → va_S A s.heap H locs → lv_has ls 7 [(0, .ref (ad 0)), (1, .int l1), (2, .int l2), (3, .int l3)] → W p l e R s m args below meth c H locs cells slots Q (F0 m 8 ls [])) : ∀ n : Nat, ∀ (l1 : Int32) (l2 : Int32) (l3 : Int32) (l4 : Int32) (l5 : Int32) (l6 : Int32) (x : St) (H : Heap) (locs : List Loc) (ls : Array Slot), wl_Mod_goTo_62 post rec8 n l1 l2 l3 l4 l5 l6 x → Wd dC dI cI cB cJ cZ ad stM kcM 115 A x H → va_S A s.heap H locs → lv_has ls 7 [(0, .ref (ad 0)), (1, .int l1), (2, .int l2), (3, .int l3), (4, .int l4), (5, .int l5), (6, .int l6)] → W p l e R s m args below meth c H locs cells slots Q (F0 m 62 ls []) := by
  intro n
  induction n with
  | zero => intro l1 l2 l3 l4 l5 l6 x H locs ls  hw; exact hw.elim
  | succ n ih => intro l1 l2 l3 l4 l5 l6 x H locs ls  hw hW hS hl; exact t_Mod_goTo_62 hx hb hml hown hT hK hN hA hRc hRs hRf hRl hret hrec8 ih l1 l2 l3 l4 l5 l6 x H locs ls  hw hW hS hl
set_option maxRecDepth 100000 in
set_option maxHeartbeats 4000000 in
set_option maxRecDepth 100000 in
theorem t_Mod_goTo_8 {p : Program} {l : Launch} {e : Env} {R : Room} {s : State} {m : MethodId} {args : Array Value} {below : List Frame} {meth : Method} {c : Code} {cells slots : Nat} {Q : State → Prop} {dC : Nat → ClassId} {dI : Nat → Nat → Nat} {cI cB cJ cZ : ClassId} {A : Nat → Prop} {ad : Nat → Nat} {post : St → Prop} {rec8 : Int32 → Int32 → Int32 → St → Prop} (hx : p.tables.exec = Jvm.exec) (hb : c.code = b_Mod_goTo) (hml : c.maxLocals = 7) (hown : s.vm.findClass R_Mod = some m.cls) (hT : ∀ w ∈ TG, w.before args s = true) (hK : va_K (dC, dI) CL (TY cI cB cJ cZ) s) (hN : NW s) (hA : ∀ q : Nat, s.heap.size ≤ q → A q) (hRc : cells ≤ R.cells) (hRs : slots ≤ R.slots) (hRf : 1 ≤ R.frames) (hRl : 23 ≤ R.locals) (hret : ∀ (x : St) (H : Heap) (locs : List Loc) (pc : Nat) (ls : Array Slot), decode b_Mod_goTo pc = .ok (.return_, 1) → post x → Wd dC dI cI cB cJ cZ ad stM kcM 115 A x H → va_S A s.heap H locs → W p l e R s m args below meth c H locs cells slots Q (F0 m pc ls [])) (hrec8 : ∀ (l1 : Int32) (l2 : Int32) (l3 : Int32) (x : St) (H : Heap) (locs : List Loc) (ls : Array Slot), rec8 l1 l2 l3 x → Wd dC dI cI cB cJ cZ ad stM kcM 115 A x H → va_S A s.heap H locs → lv_has ls 7 [(0, .ref (ad 0)), (1, .int l1), (2, .int l2), (3, .int l3)] → W p l e R s m args below meth c H locs cells slots Q (F0 m 8 ls [])) : ∀ (l1 : Int32) (l2 : Int32) (l3 : Int32) (x : St) (H : Heap) (locs : List Loc) (ls : Array Slot), j_Mod_goTo_8 post rec8 l1 l2 l3 x → Wd dC dI cI cB cJ cZ ad stM kcM 115 A x H → va_S A s.heap H locs → lv_has ls 7 [(0, .ref (ad 0)), (1, .int l1), (2, .int l2), (3, .int l3)] → W p l e R s m args below meth c H locs cells slots Q (F0 m 8 ls []) := by
  intro l1 l2 l3 x H locs ls  hw hW hS hl
  unfold j_Mod_goTo_8 at hw
  refine lv_iload_n hx hb d_Mod_goTo_8 rfl (lv_at hl 3 rfl) ?_
  refine lv_aload_n hx hb d_Mod_goTo_9 rfl (lv_at hl 0 rfl) ?_
  refine w_getf (q := 10) (k := 12) (t := 12) (C := R_Mod) (T := F_Mod) (N := 167) hx hb hT hown hK hW ko_0.1 ko_0.2 (by decide) in_Mod rfl rfl (by decide) rfl fr_Mod_12 w_8_188 d_Mod_goTo_10 rfl ?_
  refine lv_iconst (v := 1) hx hb d_Mod_goTo_13 (by decide) ?_
  obtain ⟨hi, hw⟩ := hw
  refine w_iald (o := 10) hx hb hK hW ko_10.1 ko_10.2 hi d_Mod_goTo_14 ?_
  refine lv_icmp_ge (tgt := 141) hx hb d_Mod_goTo_15 (by decide) (fun c1773 => ?_) (fun c1773 => ?_)
  · have hw := hw.1 c1773
    exact hret x H locs 141 ls d_Mod_goTo_141 hw hW hS
  · have hw := hw.2 c1773
    refine lv_aload_n hx hb d_Mod_goTo_18 rfl (lv_at hl 0 rfl) ?_
    refine w_getf (q := 65) (k := 102) (t := 12) (C := R_Mod) (T := F_Mod) (N := 167) hx hb hT hown hK hW ko_0.1 ko_0.2 (by decide) in_Mod rfl rfl (by decide) rfl fr_Mod_102 w_9_38 d_Mod_goTo_19 rfl ?_
    refine lv_aload_n hx hb d_Mod_goTo_22 rfl (lv_at hl 0 rfl) ?_
    refine w_getf (q := 10) (k := 12) (t := 12) (C := R_Mod) (T := F_Mod) (N := 167) hx hb hT hown hK hW ko_0.1 ko_0.2 (by decide) in_Mod rfl rfl (by decide) rfl fr_Mod_12 w_8_188 d_Mod_goTo_23 rfl ?_
    refine lv_iconst (v := 1) hx hb d_Mod_goTo_26 (by decide) ?_
    obtain ⟨hi, hw⟩ := hw
    refine w_iald (o := 10) hx hb hK hW ko_10.1 ko_10.2 hi d_Mod_goTo_27 ?_
    refine lv_iload_n hx hb d_Mod_goTo_28 rfl (lv_at hl 2 rfl) ?_
    refine lv_imul hx hb d_Mod_goTo_29 ?_
    refine lv_iload_n hx hb d_Mod_goTo_30 rfl (lv_at hl 3 rfl) ?_
    refine lv_iadd hx hb d_Mod_goTo_31 ?_
    obtain ⟨hi, hw⟩ := hw
    refine w_iald (o := 65) hx hb hK hW ko_65.1 ko_65.2 hi d_Mod_goTo_32 ?_
    refine lv_topi (fun v1774 ev1774 => ?_)
    have hw := hw v1774 ev1774
    refine lv_istore (lv' := [(4, .int v1774), (0, .ref (ad 0)), (1, .int l1), (2, .int l2), (3, .int l3)]) hx hb d_Mod_goTo_33 hl (by decide) rfl (fun ls hl => ?_)
    refine lv_iload hx hb d_Mod_goTo_35 (lv_at hl 0 rfl) ?_
    refine lv_aload_n hx hb d_Mod_goTo_37 rfl (lv_at hl 1 rfl) ?_
    refine w_getf (q := 61) (k := 98) (t := 12) (C := R_Mod) (T := F_Mod) (N := 167) hx hb hT hown hK hW ko_0.1 ko_0.2 (by decide) in_Mod rfl rfl (by decide) rfl fr_Mod_98 w_9_34 d_Mod_goTo_38 rfl ?_
    refine lv_aload_n hx hb d_Mod_goTo_41 rfl (lv_at hl 1 rfl) ?_
    refine w_getf (q := 10) (k := 12) (t := 12) (C := R_Mod) (T := F_Mod) (N := 167) hx hb hT hown hK hW ko_0.1 ko_0.2 (by decide) in_Mod rfl rfl (by decide) rfl fr_Mod_12 w_8_188 d_Mod_goTo_42 rfl ?_
    refine lv_iconst (v := 1) hx hb d_Mod_goTo_45 (by decide) ?_
    obtain ⟨hi, hw⟩ := hw
    refine w_iald (o := 10) hx hb hK hW ko_10.1 ko_10.2 hi d_Mod_goTo_46 ?_
    refine lv_iload_n hx hb d_Mod_goTo_47 rfl (lv_at hl 3 rfl) ?_
    refine lv_imul hx hb d_Mod_goTo_48 ?_
    refine lv_iload_n hx hb d_Mod_goTo_49 rfl (lv_at hl 4 rfl) ?_
    refine lv_iadd hx hb d_Mod_goTo_50 ?_
    obtain ⟨hi, hw⟩ := hw
    refine w_iald (o := 61) hx hb hK hW ko_61.1 ko_61.2 hi d_Mod_goTo_51 ?_
    refine lv_iadd hx hb d_Mod_goTo_52 ?_
    refine lv_topi (fun v1775 ev1775 => ?_)
    have hw := hw v1775 ev1775
    refine lv_istore (lv' := [(5, .int v1775), (4, .int v1774), (0, .ref (ad 0)), (1, .int l1), (2, .int l2), (3, .int l3)]) hx hb d_Mod_goTo_53 hl (by decide) rfl (fun ls hl => ?_)
    refine lv_aload_n hx hb d_Mod_goTo_55 rfl (lv_at hl 2 rfl) ?_
    refine lv_iload_n hx hb d_Mod_goTo_56 rfl (lv_at hl 4 rfl) ?_
    have hF := hW.free hS hA
    refine va_calli (va_runV (C := R_Mod) (As := [.int l2]) (rest := []) ⟨hx, hb, hml, hown, hT⟩ (k_Mod_firstRow l dC dI cI cB cJ cZ ad H.size l2 x  hw) ⟨callB_of 1 hT (gwt_in w_13_62) rfl rfl rfl (hT _ w_1_15) (hT _ w_13_59) (by decide +kernel) ⟨Nat.le_trans (Nat.le_of_ble_eq_true rfl) hRf, Nat.le_trans (Nat.le_of_ble_eq_true rfl) hRl⟩, hT _ w_13_61, hT _ ws_225⟩ ⟨PW.blind, va_recv hK hW.1 (ci := 12) (q0 := 0) rfl (pic_obj ko_0.1 ko_0.2 (by decide)), PW.at _ hW hK hN⟩ rfl rfl hl.1 rfl (lv_room (Nat.le_of_ble_eq_true rfl)) d_Mod_goTo_57 ⟨hRc, hRs⟩) hS (fun q _ h => hF q h) hF (fun r1777 x1776 t H locs ht hvm hw hB hz1 hk1 hS => ?_)
    have hW := Wd.back hB ht hF
    clear hB ht hF hz1 hk1 hvm
    refine lv_istore (lv' := [(6, .int r1777), (5, .int v1775), (4, .int v1774), (0, .ref (ad 0)), (1, .int l1), (2, .int l2), (3, .int l3)]) hx hb d_Mod_goTo_60 hl (by decide) rfl (fun ls hl => ?_)
    obtain ⟨n, hw⟩ := hw
    exact tl_Mod_goTo_62 hx hb hml hown hT hK hN hA hRc hRs hRf hRl hret hrec8 n l1 l2 l3 v1774 v1775 r1777 x1776 H locs ls  hw hW hS (lv_sub hl [3, 4, 5, 6, 2, 1, 0] rfl)
set_option maxHeartbeats 4000000 in
set_option maxRecDepth 100000 in
theorem tl_Mod_goTo_8 {p : Program} {l : Launch} {e : Env} {R : Room} {s : State} {m : MethodId} {args : Array Value} {below : List Frame} {meth : Method} {c : Code} {cells slots : Nat} {Q : State → Prop} {dC : Nat → ClassId} {dI : Nat → Nat → Nat} {cI cB cJ cZ : ClassId} {A : Nat → Prop} {ad : Nat → Nat} {post : St → Prop} (hx : p.tables.exec = Jvm.exec) (hb : c.code = b_Mod_goTo) (hml : c.maxLocals = 7) (hown : s.vm.findClass R_Mod = some m.cls) (hT : ∀ w ∈ TG, w.before args s = true) (hK : va_K (dC, dI) CL (TY cI cB cJ cZ) s) (hN : NW s) (hA : ∀ q : Nat, s.heap.size ≤ q → A q) (hRc : cells ≤ R.cells) (hRs : slots ≤ R.slots) (hRf : 1 ≤ R.frames) (hRl : 23 ≤ R.locals) (hret : ∀ (x : St) (H : Heap) (locs : List Loc) (pc : Nat) (ls : Array Slot), decode b_Mod_goTo pc = .ok (.return_, 1) → post x → Wd dC dI cI cB cJ cZ ad stM kcM 115 A x H → va_S A s.heap H locs → W p l e R s m args below meth c H locs cells slots Q (F0 m pc ls []))  : ∀ n : Nat, ∀ (l1 : Int32) (l2 : Int32) (l3 : Int32) (x : St) (H : Heap) (locs : List Loc) (ls : Array Slot), wl_Mod_goTo_8 post n l1 l2 l3 x → Wd dC dI cI cB cJ cZ ad stM kcM 115 A x H → va_S A s.heap H locs → lv_has ls 7 [(0, .ref (ad 0)), (1, .int l1), (2, .int l2), (3, .int l3)] → W p l e R s m args below meth c H locs cells slots Q (F0 m 8 ls []) := by
  intro n
  induction n with
  | zero => intro l1 l2 l3 x H locs ls  hw; exact hw.elim
  | succ n ih => intro l1 l2 l3 x H locs ls  hw hW hS hl; exact t_Mod_goTo_8 hx hb hml hown hT hK hN hA hRc hRs hRf hRl hret  ih l1 l2 l3 x H locs ls  hw hW hS hl
set_option maxRecDepth 100000 in
set_option maxHeartbeats 4000000 in
set_option maxRecDepth 100000 in
theorem t_Mod_goTo_e {p : Program} {l : Launch} {e : Env} {R : Room} {s : State} {m : MethodId} {args : Array Value} {below : List Frame} {meth : Method} {c : Code} {cells slots : Nat} {Q : State → Prop} {dC : Nat → ClassId} {dI : Nat → Nat → Nat} {cI cB cJ cZ : ClassId} {A : Nat → Prop} {ad : Nat → Nat} {post : St → Prop} (hx : p.tables.exec = Jvm.exec) (hb : c.code = b_Mod_goTo) (hml : c.maxLocals = 7) (hown : s.vm.findClass R_Mod = some m.cls) (hT : ∀ w ∈ TG, w.before args s = true) (hK : va_K (dC, dI) CL (TY cI cB cJ cZ) s) (hN : NW s) (hA : ∀ q : Nat, s.heap.size ≤ q → A q) (hRc : cells ≤ R.cells) (hRs : slots ≤ R.slots) (hRf : 1 ≤ R.frames) (hRl : 23 ≤ R.locals) (hret : ∀ (x : St) (H : Heap) (locs : List Loc) (pc : Nat) (ls : Array Slot), decode b_Mod_goTo pc = .ok (.return_, 1) → post x → Wd dC dI cI cB cJ cZ ad stM kcM 115 A x H → va_S A s.heap H locs → W p l e R s m args below meth c H locs cells slots Q (F0 m pc ls [])) : ∀ (l1 : Int32) (x : St) (H : Heap) (locs : List Loc) (ls : Array Slot), wp_Mod_goTo post l1 x → Wd dC dI cI cB cJ cZ ad stM kcM 115 A x H → va_S A s.heap H locs → lv_has ls 7 [(0, .ref (ad 0)), (1, .int l1)] → W p l e R s m args below meth c H locs cells slots Q (F0 m 0 ls []) := by
  intro l1 x H locs ls  hw hW hS hl
  unfold wp_Mod_goTo at hw
  refine lv_aload_n hx hb d_Mod_goTo_0 rfl (lv_at hl 0 rfl) ?_
  refine lv_iload_n hx hb d_Mod_goTo_1 rfl (lv_at hl 1 rfl) ?_
  have hF := hW.free hS hA
  refine va_calli (va_runV (C := R_Mod) (As := [.int l1]) (rest := []) ⟨hx, hb, hml, hown, hT⟩ (k_Mod_groupOf l dC dI cI cB cJ cZ ad H.size l1 x  hw) ⟨callB_of 1 hT (gwt_in w_13_58) rfl rfl rfl (hT _ w_1_15) (hT _ w_13_55) (by decide +kernel) ⟨Nat.le_trans (Nat.le_of_ble_eq_true rfl) hRf, Nat.le_trans (Nat.le_of_ble_eq_true rfl) hRl⟩, hT _ w_13_57, hT _ ws_224⟩ ⟨PW.blind, va_recv hK hW.1 (ci := 12) (q0 := 0) rfl (pic_obj ko_0.1 ko_0.2 (by decide)), PW.at _ hW hK hN⟩ rfl rfl hl.1 rfl (lv_room (Nat.le_of_ble_eq_true rfl)) d_Mod_goTo_2 ⟨hRc, hRs⟩) hS (fun q _ h => hF q h) hF (fun r1779 x1778 t H locs ht hvm hw hB hz1 hk1 hS => ?_)
  have hW := Wd.back hB ht hF
  clear hB ht hF hz1 hk1 hvm
  refine lv_istore_n (lv' := [(2, .int r1779), (0, .ref (ad 0)), (1, .int l1)]) hx hb d_Mod_goTo_5 rfl hl (by decide) rfl (fun ls hl => ?_)
  refine lv_iconst (v := 0) hx hb d_Mod_goTo_6 (by decide) ?_
  refine lv_istore_n (lv' := [(3, .int 0), (2, .int r1779), (0, .ref (ad 0)), (1, .int l1)]) hx hb d_Mod_goTo_7 rfl hl (by decide) rfl (fun ls hl => ?_)
  obtain ⟨n, hw⟩ := hw
  exact tl_Mod_goTo_8 hx hb hml hown hT hK hN hA hRc hRs hRf hRl hret  n l1 r1779 0 x1778 H locs ls  hw hW hS (lv_sub hl [2, 3, 1, 0] rfl)
set_option maxHeartbeats 4000000 in
set_option maxRecDepth 100000 in
theorem k_Mod_goTo (l : Launch) (dC : Nat → ClassId) (dI : Nat → Nat → Nat) (cI cB cJ cZ : ClassId) (ad : Nat → Nat) (sz : Nat) (l1 : Int32) (x : St) {post : St → Prop} (hw : wp_Mod_goTo post l1 x) : Met l y_Mod_goTo (wsOf y_Mod_goTo b_Mod_goTo 7 (none)) ({ frames := 1, cells := 0, slots := 0, locals := 23 }) (va_Pc [.ref (ad 0), .int l1] (PW dC dI cI cB cJ cZ ad stM kcM 115 sz x)) (va_Qv (fun (y : St) => post y) (fun y t => Wd dC dI cI cB cJ cZ ad stM kcM 115 (va_A (pic ad stM kcM 115 cI cB cJ cZ x) sz) y t.heap) (va_A (pic ad stM kcM 115 cI cB cJ cZ x) sz)) 0 0 (va_A (pic ad stM kcM 115 cI cB cJ cZ x) sz) := by
  refine Met.ofW (cc := b_Mod_goTo) (maxL := 7) (ret := none) (by decide) rfl ?_
  intro p e s m args below meth c s₁ B hml hv
  obtain ⟨rfl, hsz, hW0, hK, hN⟩ := hv
  have hx := B.exec
  have hb := B.bytes
  have hr := B.returns
  have hts := atoms_spec B.pre
  have hT : ∀ w ∈ TG, w.before _ s = true := fun w h => hts w (List.mem_cons_of_mem _ h)
  have hown : s.vm.findClass R_Mod = some m.cls := findClass_of_methodNamed B.named
  have hlocks := B.notSynchronized
  subst hsz
  have hW : Wd dC dI cI cB cJ cZ ad stM kcM 115 (va_A (pic ad stM kcM 115 cI cB cJ cZ x) s.heap.size) x s.heap := ⟨hW0.1, hW0.2.1.self (sz := s.heap.size), hW0.2.2⟩
  generalize hAe : va_A (pic ad stM kcM 115 cI cB cJ cZ x) s.heap.size = A at hW ⊢
  have hA : ∀ q : Nat, s.heap.size ≤ q → A q := fun q h => by rw [← hAe]; exact Or.inr h
  have hS : va_S A s.heap s.heap [] := va_S.rf
  have hl := lv_entry ([.ref (ad 0), .int l1]) (n := 7) (Nat.le_of_ble_eq_true rfl)
  rw [lg_entry_eq]
  generalize (lg_sl ([.ref (ad 0), .int l1]) ++ List.replicate (7 - (lg_sl ([.ref (ad 0), .int l1])).length) Slot.unset).toArray = ls at hl ⊢
  have hl : lv_has ls 7 [(0, .ref (ad 0)), (1, .int l1)] := hl
  exact t_Mod_goTo_e hx hb hml hown hT hK hN hA (Nat.le_refl 0) (Nat.le_refl 0) (Nat.le_refl 1) (Nat.le_refl 23) (fun x H locs pc ls hd hp hW hS => W.vret hx hb hr (fun t ht hM => ⟨⟨x, rfl, hp, Wd.back hW ht.symm (fun _ z => z)⟩, hS.F ht⟩) hS.2.2 hd hlocks)  l1 x _ _ ls  hw hW hS hl
end
