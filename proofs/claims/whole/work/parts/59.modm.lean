theorem fr_Mod_84 : F_Mod 84 = (R_Mod, "openRows", "I", false) := rfl
theorem fr_Mod_85 : F_Mod 85 = (R_Mod, "openGroups", "I", false) := rfl
theorem fr_Mod_93 : F_Mod 93 = (R_Mod, "poolCount", "I", false) := rfl
theorem fr_Mod_94 : F_Mod 94 = (R_Mod, "poolUsed", "I", false) := rfl
theorem w_12_100 : (Jvm.Cond.methodLink "StripedVaultModel" (866 : Nat) ({ cls := "StripedVaultModel", name := "isFrame", desc := "(I)Z" } : Jvm.MethodName)) ∈ TG := tw_12 100 (by decide +kernel) (by decide +kernel)
theorem w_12_102 : (Jvm.Cond.instanceMethod ({ cls := "StripedVaultModel", name := "isFrame", desc := "(I)Z" } : Jvm.MethodName)) ∈ TG := tw_12 102 (by decide +kernel) (by decide +kernel)
theorem w_12_103 : (Jvm.Cond.code ({ cls := "StripedVaultModel", name := "isFrame", desc := "(I)Z" } : Jvm.MethodName) prog_14_method_124_code (2 : Nat) (Option.some Jvm.ClassFile.FieldType.boolean)) ∈ TG := tw_12 103 (by decide +kernel) (by decide +kernel)
theorem w_12_112 : (Jvm.Cond.constantLong "StripedVaultModel" (869 : Nat) (4294967295 : Int64)) ∈ TG := tw_12 112 (by decide +kernel) (by decide +kernel)
theorem w_12_113 : (Jvm.Cond.methodLink "StripedVaultModel" (871 : Nat) ({ cls := "StripedVaultModel", name := "openSchema", desc := "(I)V" } : Jvm.MethodName)) ∈ TG := tw_12 113 (by decide +kernel) (by decide +kernel)
theorem w_12_115 : (Jvm.Cond.instanceMethod ({ cls := "StripedVaultModel", name := "openSchema", desc := "(I)V" } : Jvm.MethodName)) ∈ TG := tw_12 115 (by decide +kernel) (by decide +kernel)
theorem w_12_116 : (Jvm.Cond.code ({ cls := "StripedVaultModel", name := "openSchema", desc := "(I)V" } : Jvm.MethodName) prog_14_method_127_code (6 : Nat) (Option.none : Option Jvm.ClassFile.FieldType)) ∈ TG := tw_12 116 (by decide +kernel) (by decide +kernel)
theorem w_12_130 : (Jvm.Cond.constantLong "StripedVaultModel" (880 : Nat) (4 : Int64)) ∈ TG := tw_12 130 (by decide +kernel) (by decide +kernel)
theorem w_12_131 : (Jvm.Cond.methodLink "StripedVaultModel" (882 : Nat) ({ cls := "StripedVaultModel", name := "openTold", desc := "(III)V" } : Jvm.MethodName)) ∈ TG := tw_12 131 (by decide +kernel) (by decide +kernel)
theorem w_12_133 : (Jvm.Cond.instanceMethod ({ cls := "StripedVaultModel", name := "openTold", desc := "(III)V" } : Jvm.MethodName)) ∈ TG := tw_12 133 (by decide +kernel) (by decide +kernel)
theorem w_12_134 : (Jvm.Cond.code ({ cls := "StripedVaultModel", name := "openTold", desc := "(III)V" } : Jvm.MethodName) prog_14_method_129_code (10 : Nat) (Option.none : Option Jvm.ClassFile.FieldType)) ∈ TG := tw_12 134 (by decide +kernel) (by decide +kernel)
theorem w_12_135 : (Jvm.Cond.constantLong "StripedVaultModel" (860 : Nat) (40000 : Int64)) ∈ TG := tw_12 135 (by decide +kernel) (by decide +kernel)
theorem w_12_136 : (Jvm.Cond.constant "StripedVaultModel" (862 : Nat) (80000 : Int32)) ∈ TG := tw_12 136 (by decide +kernel) (by decide +kernel)
theorem w_12_137 : (Jvm.Cond.methodLink "StripedVaultModel" (863 : Nat) ({ cls := "StripedVaultModel", name := "openOne", desc := "()I" } : Jvm.MethodName)) ∈ TG := tw_12 137 (by decide +kernel) (by decide +kernel)
theorem w_12_139 : (Jvm.Cond.instanceMethod ({ cls := "StripedVaultModel", name := "openOne", desc := "()I" } : Jvm.MethodName)) ∈ TG := tw_12 139 (by decide +kernel) (by decide +kernel)
theorem w_12_140 : (Jvm.Cond.code ({ cls := "StripedVaultModel", name := "openOne", desc := "()I" } : Jvm.MethodName) prog_14_method_128_code (1 : Nat) (Option.some Jvm.ClassFile.FieldType.int)) ∈ TG := tw_12 140 (by decide +kernel) (by decide +kernel)
theorem w_12_141 : (Jvm.Cond.methodLink "StripedVaultModel" (853 : Nat) ({ cls := "StripedVaultModel", name := "readTold", desc := "(I)V" } : Jvm.MethodName)) ∈ TG := tw_12 141 (by decide +kernel) (by decide +kernel)
theorem w_12_143 : (Jvm.Cond.instanceMethod ({ cls := "StripedVaultModel", name := "readTold", desc := "(I)V" } : Jvm.MethodName)) ∈ TG := tw_12 143 (by decide +kernel) (by decide +kernel)
theorem w_12_144 : (Jvm.Cond.code ({ cls := "StripedVaultModel", name := "readTold", desc := "(I)V" } : Jvm.MethodName) prog_14_method_99_code (5 : Nat) (Option.none : Option Jvm.ClassFile.FieldType)) ∈ TG := tw_12 144 (by decide +kernel) (by decide +kernel)
theorem w_12_153 : (Jvm.Cond.methodLink "StripedVaultModel" (856 : Nat) ({ cls := "StripedVaultModel", name := "poolAdd", desc := "(J[III)I" } : Jvm.MethodName)) ∈ TG := tw_12 153 (by decide +kernel) (by decide +kernel)
theorem w_12_155 : (Jvm.Cond.instanceMethod ({ cls := "StripedVaultModel", name := "poolAdd", desc := "(J[III)I" } : Jvm.MethodName)) ∈ TG := tw_12 155 (by decide +kernel) (by decide +kernel)
theorem w_12_156 : (Jvm.Cond.code ({ cls := "StripedVaultModel", name := "poolAdd", desc := "(J[III)I" } : Jvm.MethodName) prog_14_method_121_code (7 : Nat) (Option.some Jvm.ClassFile.FieldType.int)) ∈ TG := tw_12 156 (by decide +kernel) (by decide +kernel)
theorem w_9_20 : (Jvm.Cond.fieldLink "StripedVaultModel" (874 : Nat) "StripedVaultModel" "openRows" "I") ∈ TG := tw_9 20 (by decide +kernel) (by decide +kernel)
theorem w_9_21 : (Jvm.Cond.fieldLink "StripedVaultModel" (877 : Nat) "StripedVaultModel" "openGroups" "I") ∈ TG := tw_9 21 (by decide +kernel) (by decide +kernel)
theorem w_9_29 : (Jvm.Cond.fieldLink "StripedVaultModel" (835 : Nat) "StripedVaultModel" "poolCount" "I") ∈ TG := tw_9 29 (by decide +kernel) (by decide +kernel)
theorem w_9_30 : (Jvm.Cond.fieldLink "StripedVaultModel" (838 : Nat) "StripedVaultModel" "poolUsed" "I") ∈ TG := tw_9 30 (by decide +kernel) (by decide +kernel)
theorem ws_182 : Cond.selects R_Mod y_Mod_isFrame y_Mod_isFrame ∈ TG := tw_s 182 (by decide +kernel) (by decide +kernel)
theorem ws_185 : Cond.selects R_Mod y_Mod_openSchema y_Mod_openSchema ∈ TG := tw_s 185 (by decide +kernel) (by decide +kernel)
theorem ws_189 : Cond.selects R_Mod y_Mod_openTold y_Mod_openTold ∈ TG := tw_s 189 (by decide +kernel) (by decide +kernel)
theorem ws_190 : Cond.selects R_Mod y_Mod_openOne y_Mod_openOne ∈ TG := tw_s 190 (by decide +kernel) (by decide +kernel)
theorem ws_191 : Cond.selects R_Mod y_Mod_readTold y_Mod_readTold ∈ TG := tw_s 191 (by decide +kernel) (by decide +kernel)
theorem ws_193 : Cond.selects R_Mod y_Mod_poolAdd y_Mod_poolAdd ∈ TG := tw_s 193 (by decide +kernel) (by decide +kernel)
theorem d_Mod_poolAdd_37 : decode b_Mod_poolAdd 37 = .ok (.iload 6, 2) := by decide +kernel
theorem d_Mod_poolAdd_39 : decode b_Mod_poolAdd 39 = .ok (.iload 5, 2) := by decide +kernel
theorem d_Mod_poolAdd_41 : decode b_Mod_poolAdd 41 = .ok (.if_icmp .ge 28, 3) := by decide +kernel
theorem d_Mod_poolAdd_69 : decode b_Mod_poolAdd 69 = .ok (.aload_n 0, 1) := by decide +kernel
theorem d_Mod_poolAdd_70 : decode b_Mod_poolAdd 70 = .ok (.dup, 1) := by decide +kernel
theorem d_Mod_poolAdd_71 : decode b_Mod_poolAdd 71 = .ok (.getfield 838, 3) := by decide +kernel
theorem d_Mod_poolAdd_74 : decode b_Mod_poolAdd 74 = .ok (.iload 5, 2) := by decide +kernel
theorem d_Mod_poolAdd_76 : decode b_Mod_poolAdd 76 = .ok (.iadd, 1) := by decide +kernel
theorem d_Mod_poolAdd_77 : decode b_Mod_poolAdd 77 = .ok (.putfield 838, 3) := by decide +kernel
theorem d_Mod_poolAdd_80 : decode b_Mod_poolAdd 80 = .ok (.aload_n 0, 1) := by decide +kernel
theorem d_Mod_poolAdd_81 : decode b_Mod_poolAdd 81 = .ok (.dup, 1) := by decide +kernel
theorem d_Mod_poolAdd_82 : decode b_Mod_poolAdd 82 = .ok (.getfield 835, 3) := by decide +kernel
theorem d_Mod_poolAdd_85 : decode b_Mod_poolAdd 85 = .ok (.iconst 1, 1) := by decide +kernel
theorem d_Mod_poolAdd_86 : decode b_Mod_poolAdd 86 = .ok (.iadd, 1) := by decide +kernel
theorem d_Mod_poolAdd_87 : decode b_Mod_poolAdd 87 = .ok (.putfield 835, 3) := by decide +kernel
theorem d_Mod_poolAdd_90 : decode b_Mod_poolAdd 90 = .ok (.aload_n 0, 1) := by decide +kernel
theorem d_Mod_poolAdd_91 : decode b_Mod_poolAdd 91 = .ok (.getfield 835, 3) := by decide +kernel
theorem d_Mod_poolAdd_94 : decode b_Mod_poolAdd 94 = .ok (.iconst 1, 1) := by decide +kernel
theorem d_Mod_poolAdd_95 : decode b_Mod_poolAdd 95 = .ok (.isub, 1) := by decide +kernel
theorem d_Mod_poolAdd_96 : decode b_Mod_poolAdd 96 = .ok (.ireturn, 1) := by decide +kernel
theorem d_Mod_poolAdd_44 : decode b_Mod_poolAdd 44 = .ok (.aload_n 0, 1) := by decide +kernel
theorem d_Mod_poolAdd_45 : decode b_Mod_poolAdd 45 = .ok (.getfield 183, 3) := by decide +kernel
theorem d_Mod_poolAdd_48 : decode b_Mod_poolAdd 48 = .ok (.aload_n 0, 1) := by decide +kernel
theorem d_Mod_poolAdd_49 : decode b_Mod_poolAdd 49 = .ok (.getfield 838, 3) := by decide +kernel
theorem d_Mod_poolAdd_52 : decode b_Mod_poolAdd 52 = .ok (.iload 6, 2) := by decide +kernel
theorem d_Mod_poolAdd_54 : decode b_Mod_poolAdd 54 = .ok (.iadd, 1) := by decide +kernel
theorem d_Mod_poolAdd_55 : decode b_Mod_poolAdd 55 = .ok (.aload_n 3, 1) := by decide +kernel
theorem d_Mod_poolAdd_56 : decode b_Mod_poolAdd 56 = .ok (.iload 4, 2) := by decide +kernel
theorem d_Mod_poolAdd_58 : decode b_Mod_poolAdd 58 = .ok (.iload 6, 2) := by decide +kernel
theorem d_Mod_poolAdd_60 : decode b_Mod_poolAdd 60 = .ok (.iadd, 1) := by decide +kernel
theorem d_Mod_poolAdd_61 : decode b_Mod_poolAdd 61 = .ok (.iaload, 1) := by decide +kernel
theorem d_Mod_poolAdd_62 : decode b_Mod_poolAdd 62 = .ok (.iastore, 1) := by decide +kernel
theorem d_Mod_poolAdd_63 : decode b_Mod_poolAdd 63 = .ok (.iinc 6 1, 3) := by decide +kernel
theorem d_Mod_poolAdd_66 : decode b_Mod_poolAdd 66 = .ok (.goto (-29), 3) := by decide +kernel
theorem d_Mod_poolAdd_0 : decode b_Mod_poolAdd 0 = .ok (.aload_n 0, 1) := by decide +kernel
theorem d_Mod_poolAdd_1 : decode b_Mod_poolAdd 1 = .ok (.getfield 173, 3) := by decide +kernel
theorem d_Mod_poolAdd_4 : decode b_Mod_poolAdd 4 = .ok (.aload_n 0, 1) := by decide +kernel
theorem d_Mod_poolAdd_5 : decode b_Mod_poolAdd 5 = .ok (.getfield 835, 3) := by decide +kernel
theorem d_Mod_poolAdd_8 : decode b_Mod_poolAdd 8 = .ok (.lload_n 1, 1) := by decide +kernel
theorem d_Mod_poolAdd_9 : decode b_Mod_poolAdd 9 = .ok (.lastore, 1) := by decide +kernel
theorem d_Mod_poolAdd_10 : decode b_Mod_poolAdd 10 = .ok (.aload_n 0, 1) := by decide +kernel
theorem d_Mod_poolAdd_11 : decode b_Mod_poolAdd 11 = .ok (.getfield 176, 3) := by decide +kernel
theorem d_Mod_poolAdd_14 : decode b_Mod_poolAdd 14 = .ok (.aload_n 0, 1) := by decide +kernel
theorem d_Mod_poolAdd_15 : decode b_Mod_poolAdd 15 = .ok (.getfield 835, 3) := by decide +kernel
theorem d_Mod_poolAdd_18 : decode b_Mod_poolAdd 18 = .ok (.aload_n 0, 1) := by decide +kernel
theorem d_Mod_poolAdd_19 : decode b_Mod_poolAdd 19 = .ok (.getfield 838, 3) := by decide +kernel
theorem d_Mod_poolAdd_22 : decode b_Mod_poolAdd 22 = .ok (.iastore, 1) := by decide +kernel
theorem d_Mod_poolAdd_23 : decode b_Mod_poolAdd 23 = .ok (.aload_n 0, 1) := by decide +kernel
theorem d_Mod_poolAdd_24 : decode b_Mod_poolAdd 24 = .ok (.getfield 179, 3) := by decide +kernel
theorem d_Mod_poolAdd_27 : decode b_Mod_poolAdd 27 = .ok (.aload_n 0, 1) := by decide +kernel
theorem d_Mod_poolAdd_28 : decode b_Mod_poolAdd 28 = .ok (.getfield 835, 3) := by decide +kernel
theorem d_Mod_poolAdd_31 : decode b_Mod_poolAdd 31 = .ok (.iload 5, 2) := by decide +kernel
theorem d_Mod_poolAdd_33 : decode b_Mod_poolAdd 33 = .ok (.iastore, 1) := by decide +kernel
theorem d_Mod_poolAdd_34 : decode b_Mod_poolAdd 34 = .ok (.iconst 0, 1) := by decide +kernel
theorem d_Mod_poolAdd_35 : decode b_Mod_poolAdd 35 = .ok (.istore 6, 2) := by decide +kernel
theorem d_Mod_openOne_56 : decode b_Mod_openOne 56 = .ok (.invokevirtual 856, 3) := by decide +kernel
theorem d_Mod_openOne_59 : decode b_Mod_openOne 59 = .ok (.ireturn, 1) := by decide +kernel
theorem d_Mod_openOne_33 : decode b_Mod_openOne 33 = .ok (.aload_n 0, 1) := by decide +kernel
theorem d_Mod_openOne_34 : decode b_Mod_openOne 34 = .ok (.getfield 157, 3) := by decide +kernel
theorem d_Mod_openOne_37 : decode b_Mod_openOne 37 = .ok (.iconst 0, 1) := by decide +kernel
theorem d_Mod_openOne_38 : decode b_Mod_openOne 38 = .ok (.aload_n 0, 1) := by decide +kernel
theorem d_Mod_openOne_39 : decode b_Mod_openOne 39 = .ok (.getfield 623, 3) := by decide +kernel
theorem d_Mod_openOne_42 : decode b_Mod_openOne 42 = .ok (.iconst 3, 1) := by decide +kernel
theorem d_Mod_openOne_43 : decode b_Mod_openOne 43 = .ok (.if_icmp .ne 12, 3) := by decide +kernel
theorem d_Mod_openOne_55 : decode b_Mod_openOne 55 = .ok (.iconst 0, 1) := by decide +kernel
theorem d_Mod_openOne_46 : decode b_Mod_openOne 46 = .ok (.aload_n 0, 1) := by decide +kernel
theorem d_Mod_openOne_47 : decode b_Mod_openOne 47 = .ok (.getfield 154, 3) := by decide +kernel
theorem d_Mod_openOne_50 : decode b_Mod_openOne 50 = .ok (.iconst 0, 1) := by decide +kernel
theorem d_Mod_openOne_51 : decode b_Mod_openOne 51 = .ok (.iaload, 1) := by decide +kernel
theorem d_Mod_openOne_52 : decode b_Mod_openOne 52 = .ok (.goto 4, 3) := by decide +kernel
theorem d_Mod_openOne_0 : decode b_Mod_openOne 0 = .ok (.aload_n 0, 1) := by decide +kernel
theorem d_Mod_openOne_1 : decode b_Mod_openOne 1 = .ok (.iconst 0, 1) := by decide +kernel
theorem d_Mod_openOne_2 : decode b_Mod_openOne 2 = .ok (.invokevirtual 853, 3) := by decide +kernel
theorem d_Mod_openOne_5 : decode b_Mod_openOne 5 = .ok (.aload_n 0, 1) := by decide +kernel
theorem d_Mod_openOne_6 : decode b_Mod_openOne 6 = .ok (.getfield 550, 3) := by decide +kernel
theorem d_Mod_openOne_9 : decode b_Mod_openOne 9 = .ok (.ifCond .eq 5, 3) := by decide +kernel
theorem d_Mod_openOne_14 : decode b_Mod_openOne 14 = .ok (.aload_n 0, 1) := by decide +kernel
theorem d_Mod_openOne_15 : decode b_Mod_openOne 15 = .ok (.aload_n 0, 1) := by decide +kernel
theorem d_Mod_openOne_16 : decode b_Mod_openOne 16 = .ok (.getfield 623, 3) := by decide +kernel
theorem d_Mod_openOne_19 : decode b_Mod_openOne 19 = .ok (.iconst 3, 1) := by decide +kernel
theorem d_Mod_openOne_20 : decode b_Mod_openOne 20 = .ok (.if_icmp .ne 7, 3) := by decide +kernel
theorem d_Mod_openOne_27 : decode b_Mod_openOne 27 = .ok (.aload_n 0, 1) := by decide +kernel
theorem d_Mod_openOne_28 : decode b_Mod_openOne 28 = .ok (.getfield 151, 3) := by decide +kernel
theorem d_Mod_openOne_31 : decode b_Mod_openOne 31 = .ok (.iconst 0, 1) := by decide +kernel
theorem d_Mod_openOne_32 : decode b_Mod_openOne 32 = .ok (.laload, 1) := by decide +kernel
theorem d_Mod_openOne_23 : decode b_Mod_openOne 23 = .ok (.lconst 0, 1) := by decide +kernel
theorem d_Mod_openOne_24 : decode b_Mod_openOne 24 = .ok (.goto 9, 3) := by decide +kernel
theorem d_Mod_openOne_12 : decode b_Mod_openOne 12 = .ok (.iconst (-1), 1) := by decide +kernel
theorem d_Mod_openOne_13 : decode b_Mod_openOne 13 = .ok (.ireturn, 1) := by decide +kernel
theorem d_Mod_openTold_250 : decode b_Mod_openTold 250 = .ok (.iastore, 1) := by decide +kernel
theorem d_Mod_openTold_251 : decode b_Mod_openTold 251 = .ok (.return_, 1) := by decide +kernel
theorem d_Mod_openTold_167 : decode b_Mod_openTold 167 = .ok (.iastore, 1) := by decide +kernel
theorem d_Mod_openTold_168 : decode b_Mod_openTold 168 = .ok (.aload_n 0, 1) := by decide +kernel
theorem d_Mod_openTold_169 : decode b_Mod_openTold 169 = .ok (.getfield 201, 3) := by decide +kernel
theorem d_Mod_openTold_172 : decode b_Mod_openTold 172 = .ok (.iload_n 1, 1) := by decide +kernel
theorem d_Mod_openTold_173 : decode b_Mod_openTold 173 = .ok (.iconst (-1), 1) := by decide +kernel
theorem d_Mod_openTold_174 : decode b_Mod_openTold 174 = .ok (.iastore, 1) := by decide +kernel
theorem d_Mod_openTold_175 : decode b_Mod_openTold 175 = .ok (.aload_n 0, 1) := by decide +kernel
theorem d_Mod_openTold_176 : decode b_Mod_openTold 176 = .ok (.getfield 204, 3) := by decide +kernel
theorem d_Mod_openTold_179 : decode b_Mod_openTold 179 = .ok (.iload_n 1, 1) := by decide +kernel
theorem d_Mod_openTold_180 : decode b_Mod_openTold 180 = .ok (.iconst (-1), 1) := by decide +kernel
theorem d_Mod_openTold_181 : decode b_Mod_openTold 181 = .ok (.iastore, 1) := by decide +kernel
theorem d_Mod_openTold_182 : decode b_Mod_openTold 182 = .ok (.aload_n 0, 1) := by decide +kernel
theorem d_Mod_openTold_183 : decode b_Mod_openTold 183 = .ok (.getfield 550, 3) := by decide +kernel
theorem d_Mod_openTold_186 : decode b_Mod_openTold 186 = .ok (.ifCond .ne 18, 3) := by decide +kernel
theorem d_Mod_openTold_204 : decode b_Mod_openTold 204 = .ok (.return_, 1) := by decide +kernel
theorem d_Mod_openTold_189 : decode b_Mod_openTold 189 = .ok (.aload_n 0, 1) := by decide +kernel
theorem d_Mod_openTold_190 : decode b_Mod_openTold 190 = .ok (.getfield 198, 3) := by decide +kernel
theorem d_Mod_openTold_193 : decode b_Mod_openTold 193 = .ok (.iload_n 1, 1) := by decide +kernel
theorem d_Mod_openTold_194 : decode b_Mod_openTold 194 = .ok (.iaload, 1) := by decide +kernel
theorem d_Mod_openTold_195 : decode b_Mod_openTold 195 = .ok (.aload_n 0, 1) := by decide +kernel
theorem d_Mod_openTold_196 : decode b_Mod_openTold 196 = .ok (.getfield 195, 3) := by decide +kernel
theorem d_Mod_openTold_199 : decode b_Mod_openTold 199 = .ok (.iload_n 1, 1) := by decide +kernel
theorem d_Mod_openTold_200 : decode b_Mod_openTold 200 = .ok (.iaload, 1) := by decide +kernel
theorem d_Mod_openTold_201 : decode b_Mod_openTold 201 = .ok (.if_icmp .ne 4, 3) := by decide +kernel
theorem d_Mod_openTold_205 : decode b_Mod_openTold 205 = .ok (.aload_n 0, 1) := by decide +kernel
theorem d_Mod_openTold_206 : decode b_Mod_openTold 206 = .ok (.aload_n 0, 1) := by decide +kernel
theorem d_Mod_openTold_207 : decode b_Mod_openTold 207 = .ok (.iconst 1, 1) := by decide +kernel
theorem d_Mod_openTold_208 : decode b_Mod_openTold 208 = .ok (.iload_n 2, 1) := by decide +kernel
theorem d_Mod_openTold_209 : decode b_Mod_openTold 209 = .ok (.invokevirtual 789, 3) := by decide +kernel
theorem d_Mod_openTold_212 : decode b_Mod_openTold 212 = .ok (.putfield 623, 3) := by decide +kernel
theorem d_Mod_openTold_215 : decode b_Mod_openTold 215 = .ok (.aload_n 0, 1) := by decide +kernel
theorem d_Mod_openTold_216 : decode b_Mod_openTold 216 = .ok (.iload_n 3, 1) := by decide +kernel
theorem d_Mod_openTold_217 : decode b_Mod_openTold 217 = .ok (.putfield 608, 3) := by decide +kernel
theorem d_Mod_openTold_220 : decode b_Mod_openTold 220 = .ok (.aload_n 0, 1) := by decide +kernel
theorem d_Mod_openTold_221 : decode b_Mod_openTold 221 = .ok (.getfield 201, 3) := by decide +kernel
theorem d_Mod_openTold_224 : decode b_Mod_openTold 224 = .ok (.iload_n 1, 1) := by decide +kernel
theorem d_Mod_openTold_225 : decode b_Mod_openTold 225 = .ok (.aload_n 0, 1) := by decide +kernel
theorem d_Mod_openTold_226 : decode b_Mod_openTold 226 = .ok (.invokevirtual 863, 3) := by decide +kernel
theorem d_Mod_openTold_229 : decode b_Mod_openTold 229 = .ok (.iastore, 1) := by decide +kernel
theorem d_Mod_openTold_230 : decode b_Mod_openTold 230 = .ok (.aload_n 0, 1) := by decide +kernel
theorem d_Mod_openTold_231 : decode b_Mod_openTold 231 = .ok (.getfield 204, 3) := by decide +kernel
theorem d_Mod_openTold_234 : decode b_Mod_openTold 234 = .ok (.iload_n 1, 1) := by decide +kernel
theorem d_Mod_openTold_235 : decode b_Mod_openTold 235 = .ok (.aload_n 0, 1) := by decide +kernel
theorem d_Mod_openTold_236 : decode b_Mod_openTold 236 = .ok (.getfield 550, 3) := by decide +kernel
theorem d_Mod_openTold_239 : decode b_Mod_openTold 239 = .ok (.ifCond .ne 10, 3) := by decide +kernel
theorem d_Mod_openTold_249 : decode b_Mod_openTold 249 = .ok (.iconst (-1), 1) := by decide +kernel
theorem d_Mod_openTold_242 : decode b_Mod_openTold 242 = .ok (.aload_n 0, 1) := by decide +kernel
theorem d_Mod_openTold_243 : decode b_Mod_openTold 243 = .ok (.invokevirtual 863, 3) := by decide +kernel
theorem d_Mod_openTold_246 : decode b_Mod_openTold 246 = .ok (.goto 4, 3) := by decide +kernel
theorem d_Mod_openTold_143 : decode b_Mod_openTold 143 = .ok (.bipush 7, 2) := by decide +kernel
theorem d_Mod_openTold_145 : decode b_Mod_openTold 145 = .ok (.invokevirtual 841, 3) := by decide +kernel
theorem d_Mod_openTold_148 : decode b_Mod_openTold 148 = .ok (.aload_n 0, 1) := by decide +kernel
theorem d_Mod_openTold_149 : decode b_Mod_openTold 149 = .ok (.getfield 198, 3) := by decide +kernel
theorem d_Mod_openTold_152 : decode b_Mod_openTold 152 = .ok (.iload_n 1, 1) := by decide +kernel
theorem d_Mod_openTold_153 : decode b_Mod_openTold 153 = .ok (.aload_n 0, 1) := by decide +kernel
theorem d_Mod_openTold_154 : decode b_Mod_openTold 154 = .ok (.getfield 550, 3) := by decide +kernel
theorem d_Mod_openTold_157 : decode b_Mod_openTold 157 = .ok (.ifCond .ne 9, 3) := by decide +kernel
theorem d_Mod_openTold_166 : decode b_Mod_openTold 166 = .ok (.iconst 0, 1) := by decide +kernel
theorem d_Mod_openTold_160 : decode b_Mod_openTold 160 = .ok (.lload 8, 2) := by decide +kernel
theorem d_Mod_openTold_162 : decode b_Mod_openTold 162 = .ok (.l2i, 1) := by decide +kernel
theorem d_Mod_openTold_163 : decode b_Mod_openTold 163 = .ok (.goto 4, 3) := by decide +kernel
theorem d_Mod_openTold_138 : decode b_Mod_openTold 138 = .ok (.iconst 1, 1) := by decide +kernel
theorem d_Mod_openTold_139 : decode b_Mod_openTold 139 = .ok (.goto 4, 3) := by decide +kernel
theorem d_Mod_openTold_93 : decode b_Mod_openTold 93 = .ok (.iastore, 1) := by decide +kernel
theorem d_Mod_openTold_94 : decode b_Mod_openTold 94 = .ok (.aload_n 0, 1) := by decide +kernel
theorem d_Mod_openTold_95 : decode b_Mod_openTold 95 = .ok (.getfield 195, 3) := by decide +kernel
theorem d_Mod_openTold_98 : decode b_Mod_openTold 98 = .ok (.iload_n 1, 1) := by decide +kernel
theorem d_Mod_openTold_99 : decode b_Mod_openTold 99 = .ok (.aload_n 0, 1) := by decide +kernel
theorem d_Mod_openTold_100 : decode b_Mod_openTold 100 = .ok (.iload_n 3, 1) := by decide +kernel
theorem d_Mod_openTold_101 : decode b_Mod_openTold 101 = .ok (.sipush 10000, 3) := by decide +kernel
theorem d_Mod_openTold_104 : decode b_Mod_openTold 104 = .ok (.bipush 16, 2) := by decide +kernel
theorem d_Mod_openTold_106 : decode b_Mod_openTold 106 = .ok (.invokevirtual 847, 3) := by decide +kernel
theorem d_Mod_openTold_109 : decode b_Mod_openTold 109 = .ok (.iastore, 1) := by decide +kernel
theorem d_Mod_openTold_110 : decode b_Mod_openTold 110 = .ok (.aload_n 0, 1) := by decide +kernel
theorem d_Mod_openTold_111 : decode b_Mod_openTold 111 = .ok (.iload_n 3, 1) := by decide +kernel
theorem d_Mod_openTold_112 : decode b_Mod_openTold 112 = .ok (.invokevirtual 571, 3) := by decide +kernel
theorem d_Mod_openTold_115 : decode b_Mod_openTold 115 = .ok (.lstore 8, 2) := by decide +kernel
theorem d_Mod_openTold_117 : decode b_Mod_openTold 117 = .ok (.aload_n 0, 1) := by decide +kernel
theorem d_Mod_openTold_118 : decode b_Mod_openTold 118 = .ok (.lload 8, 2) := by decide +kernel
theorem d_Mod_openTold_120 : decode b_Mod_openTold 120 = .ok (.lconst 0, 1) := by decide +kernel
theorem d_Mod_openTold_121 : decode b_Mod_openTold 121 = .ok (.lcmp, 1) := by decide +kernel
theorem d_Mod_openTold_122 : decode b_Mod_openTold 122 = .ok (.ifCond .lt 16, 3) := by decide +kernel
theorem d_Mod_openTold_125 : decode b_Mod_openTold 125 = .ok (.lload 8, 2) := by decide +kernel
theorem d_Mod_openTold_127 : decode b_Mod_openTold 127 = .ok (.aload_n 0, 1) := by decide +kernel
theorem d_Mod_openTold_128 : decode b_Mod_openTold 128 = .ok (.getfield 195, 3) := by decide +kernel
theorem d_Mod_openTold_131 : decode b_Mod_openTold 131 = .ok (.iload_n 1, 1) := by decide +kernel
theorem d_Mod_openTold_132 : decode b_Mod_openTold 132 = .ok (.iaload, 1) := by decide +kernel
theorem d_Mod_openTold_133 : decode b_Mod_openTold 133 = .ok (.i2l, 1) := by decide +kernel
theorem d_Mod_openTold_134 : decode b_Mod_openTold 134 = .ok (.lcmp, 1) := by decide +kernel
theorem d_Mod_openTold_135 : decode b_Mod_openTold 135 = .ok (.ifCond .le 7, 3) := by decide +kernel
theorem d_Mod_openTold_142 : decode b_Mod_openTold 142 = .ok (.iconst 0, 1) := by decide +kernel
theorem d_Mod_openTold_84 : decode b_Mod_openTold 84 = .ok (.ldc_w 862, 3) := by decide +kernel
theorem d_Mod_openTold_87 : decode b_Mod_openTold 87 = .ok (.goto 6, 3) := by decide +kernel
theorem d_Mod_openTold_58 : decode b_Mod_openTold 58 = .ok (.bipush 18, 2) := by decide +kernel
theorem d_Mod_openTold_60 : decode b_Mod_openTold 60 = .ok (.invokevirtual 841, 3) := by decide +kernel
theorem d_Mod_openTold_63 : decode b_Mod_openTold 63 = .ok (.aload_n 0, 1) := by decide +kernel
theorem d_Mod_openTold_64 : decode b_Mod_openTold 64 = .ok (.getfield 163, 3) := by decide +kernel
theorem d_Mod_openTold_67 : decode b_Mod_openTold 67 = .ok (.iload_n 1, 1) := by decide +kernel
theorem d_Mod_openTold_68 : decode b_Mod_openTold 68 = .ok (.lload 6, 2) := by decide +kernel
theorem d_Mod_openTold_70 : decode b_Mod_openTold 70 = .ok (.lconst 0, 1) := by decide +kernel
theorem d_Mod_openTold_71 : decode b_Mod_openTold 71 = .ok (.lcmp, 1) := by decide +kernel
theorem d_Mod_openTold_72 : decode b_Mod_openTold 72 = .ok (.ifCond .lt 12, 3) := by decide +kernel
theorem d_Mod_openTold_75 : decode b_Mod_openTold 75 = .ok (.lload 6, 2) := by decide +kernel
theorem d_Mod_openTold_77 : decode b_Mod_openTold 77 = .ok (.ldc2_w 860, 3) := by decide +kernel
theorem d_Mod_openTold_80 : decode b_Mod_openTold 80 = .ok (.lcmp, 1) := by decide +kernel
theorem d_Mod_openTold_81 : decode b_Mod_openTold 81 = .ok (.ifCond .le 9, 3) := by decide +kernel
theorem d_Mod_openTold_90 : decode b_Mod_openTold 90 = .ok (.lload 6, 2) := by decide +kernel
theorem d_Mod_openTold_92 : decode b_Mod_openTold 92 = .ok (.l2i, 1) := by decide +kernel
theorem d_Mod_openTold_37 : decode b_Mod_openTold 37 = .ok (.iastore, 1) := by decide +kernel
theorem d_Mod_openTold_38 : decode b_Mod_openTold 38 = .ok (.aload_n 0, 1) := by decide +kernel
theorem d_Mod_openTold_39 : decode b_Mod_openTold 39 = .ok (.iload_n 3, 1) := by decide +kernel
theorem d_Mod_openTold_40 : decode b_Mod_openTold 40 = .ok (.invokevirtual 571, 3) := by decide +kernel
theorem d_Mod_openTold_43 : decode b_Mod_openTold 43 = .ok (.lstore 6, 2) := by decide +kernel
theorem d_Mod_openTold_45 : decode b_Mod_openTold 45 = .ok (.aload_n 0, 1) := by decide +kernel
theorem d_Mod_openTold_46 : decode b_Mod_openTold 46 = .ok (.lload 6, 2) := by decide +kernel
theorem d_Mod_openTold_48 : decode b_Mod_openTold 48 = .ok (.lconst 0, 1) := by decide +kernel
theorem d_Mod_openTold_49 : decode b_Mod_openTold 49 = .ok (.lcmp, 1) := by decide +kernel
theorem d_Mod_openTold_50 : decode b_Mod_openTold 50 = .ok (.ifCond .ne 7, 3) := by decide +kernel
theorem d_Mod_openTold_57 : decode b_Mod_openTold 57 = .ok (.iconst 0, 1) := by decide +kernel
theorem d_Mod_openTold_53 : decode b_Mod_openTold 53 = .ok (.iconst 1, 1) := by decide +kernel
theorem d_Mod_openTold_54 : decode b_Mod_openTold 54 = .ok (.goto 4, 3) := by decide +kernel
theorem d_Mod_openTold_28 : decode b_Mod_openTold 28 = .ok (.ldc_w 862, 3) := by decide +kernel
theorem d_Mod_openTold_31 : decode b_Mod_openTold 31 = .ok (.goto 6, 3) := by decide +kernel
theorem d_Mod_openTold_0 : decode b_Mod_openTold 0 = .ok (.aload_n 0, 1) := by decide +kernel
theorem d_Mod_openTold_1 : decode b_Mod_openTold 1 = .ok (.iload_n 3, 1) := by decide +kernel
theorem d_Mod_openTold_2 : decode b_Mod_openTold 2 = .ok (.invokevirtual 571, 3) := by decide +kernel
theorem d_Mod_openTold_5 : decode b_Mod_openTold 5 = .ok (.lstore 4, 2) := by decide +kernel
theorem d_Mod_openTold_7 : decode b_Mod_openTold 7 = .ok (.aload_n 0, 1) := by decide +kernel
theorem d_Mod_openTold_8 : decode b_Mod_openTold 8 = .ok (.getfield 160, 3) := by decide +kernel
theorem d_Mod_openTold_11 : decode b_Mod_openTold 11 = .ok (.iload_n 1, 1) := by decide +kernel
theorem d_Mod_openTold_12 : decode b_Mod_openTold 12 = .ok (.lload 4, 2) := by decide +kernel
theorem d_Mod_openTold_14 : decode b_Mod_openTold 14 = .ok (.lconst 0, 1) := by decide +kernel
theorem d_Mod_openTold_15 : decode b_Mod_openTold 15 = .ok (.lcmp, 1) := by decide +kernel
theorem d_Mod_openTold_16 : decode b_Mod_openTold 16 = .ok (.ifCond .lt 12, 3) := by decide +kernel
theorem d_Mod_openTold_19 : decode b_Mod_openTold 19 = .ok (.lload 4, 2) := by decide +kernel
theorem d_Mod_openTold_21 : decode b_Mod_openTold 21 = .ok (.ldc2_w 860, 3) := by decide +kernel
theorem d_Mod_openTold_24 : decode b_Mod_openTold 24 = .ok (.lcmp, 1) := by decide +kernel
theorem d_Mod_openTold_25 : decode b_Mod_openTold 25 = .ok (.ifCond .le 9, 3) := by decide +kernel
theorem d_Mod_openTold_34 : decode b_Mod_openTold 34 = .ok (.lload 4, 2) := by decide +kernel
theorem d_Mod_openTold_36 : decode b_Mod_openTold 36 = .ok (.l2i, 1) := by decide +kernel
theorem d_Mod_openFooter_413 : decode b_Mod_openFooter 413 = .ok (.bipush 17, 2) := by decide +kernel
theorem d_Mod_openFooter_415 : decode b_Mod_openFooter 415 = .ok (.invokevirtual 841, 3) := by decide +kernel
theorem d_Mod_openFooter_418 : decode b_Mod_openFooter 418 = .ok (.return_, 1) := by decide +kernel
theorem d_Mod_openFooter_393 : decode b_Mod_openFooter 393 = .ok (.bipush 6, 2) := by decide +kernel
theorem d_Mod_openFooter_395 : decode b_Mod_openFooter 395 = .ok (.invokevirtual 841, 3) := by decide +kernel
theorem d_Mod_openFooter_398 : decode b_Mod_openFooter 398 = .ok (.aload_n 0, 1) := by decide +kernel
theorem d_Mod_openFooter_399 : decode b_Mod_openFooter 399 = .ok (.lload 8, 2) := by decide +kernel
theorem d_Mod_openFooter_401 : decode b_Mod_openFooter 401 = .ok (.iload 5, 2) := by decide +kernel
theorem d_Mod_openFooter_403 : decode b_Mod_openFooter 403 = .ok (.i2l, 1) := by decide +kernel
theorem d_Mod_openFooter_404 : decode b_Mod_openFooter 404 = .ok (.lcmp, 1) := by decide +kernel
theorem d_Mod_openFooter_405 : decode b_Mod_openFooter 405 = .ok (.ifCond .eq 7, 3) := by decide +kernel
theorem d_Mod_openFooter_412 : decode b_Mod_openFooter 412 = .ok (.iconst 0, 1) := by decide +kernel
theorem d_Mod_openFooter_408 : decode b_Mod_openFooter 408 = .ok (.iconst 1, 1) := by decide +kernel
theorem d_Mod_openFooter_409 : decode b_Mod_openFooter 409 = .ok (.goto 4, 3) := by decide +kernel
theorem d_Mod_openFooter_373 : decode b_Mod_openFooter 373 = .ok (.bipush 16, 2) := by decide +kernel
theorem d_Mod_openFooter_375 : decode b_Mod_openFooter 375 = .ok (.invokevirtual 841, 3) := by decide +kernel
theorem d_Mod_openFooter_378 : decode b_Mod_openFooter 378 = .ok (.aload_n 0, 1) := by decide +kernel
theorem d_Mod_openFooter_379 : decode b_Mod_openFooter 379 = .ok (.aload_n 0, 1) := by decide +kernel
theorem d_Mod_openFooter_380 : decode b_Mod_openFooter 380 = .ok (.getfield 553, 3) := by decide +kernel
theorem d_Mod_openFooter_383 : decode b_Mod_openFooter 383 = .ok (.iload 6, 2) := by decide +kernel
theorem d_Mod_openFooter_385 : decode b_Mod_openFooter 385 = .ok (.if_icmp .ge 7, 3) := by decide +kernel
theorem d_Mod_openFooter_392 : decode b_Mod_openFooter 392 = .ok (.iconst 0, 1) := by decide +kernel
theorem d_Mod_openFooter_388 : decode b_Mod_openFooter 388 = .ok (.iconst 1, 1) := by decide +kernel
theorem d_Mod_openFooter_389 : decode b_Mod_openFooter 389 = .ok (.goto 4, 3) := by decide +kernel
theorem d_Mod_openFooter_358 : decode b_Mod_openFooter 358 = .ok (.aload_n 0, 1) := by decide +kernel
theorem d_Mod_openFooter_359 : decode b_Mod_openFooter 359 = .ok (.iload 7, 2) := by decide +kernel
theorem d_Mod_openFooter_361 : decode b_Mod_openFooter 361 = .ok (.aload_n 0, 1) := by decide +kernel
theorem d_Mod_openFooter_362 : decode b_Mod_openFooter 362 = .ok (.getfield 874, 3) := by decide +kernel
theorem d_Mod_openFooter_365 : decode b_Mod_openFooter 365 = .ok (.if_icmp .eq 7, 3) := by decide +kernel
theorem d_Mod_openFooter_372 : decode b_Mod_openFooter 372 = .ok (.iconst 0, 1) := by decide +kernel
theorem d_Mod_openFooter_368 : decode b_Mod_openFooter 368 = .ok (.iconst 1, 1) := by decide +kernel
theorem d_Mod_openFooter_369 : decode b_Mod_openFooter 369 = .ok (.goto 4, 3) := by decide +kernel
theorem d_Mod_openFooter_352 : decode b_Mod_openFooter 352 = .ok (.iinc 10 1, 3) := by decide +kernel
theorem d_Mod_openFooter_355 : decode b_Mod_openFooter 355 = .ok (.goto (-140), 3) := by decide +kernel
theorem d_Mod_openFooter_285 : decode b_Mod_openFooter 285 = .ok (.iload 11, 2) := by decide +kernel
theorem d_Mod_openFooter_287 : decode b_Mod_openFooter 287 = .ok (.aload_n 0, 1) := by decide +kernel
theorem d_Mod_openFooter_288 : decode b_Mod_openFooter 288 = .ok (.getfield 38, 3) := by decide +kernel
theorem d_Mod_openFooter_291 : decode b_Mod_openFooter 291 = .ok (.iconst 1, 1) := by decide +kernel
theorem d_Mod_openFooter_292 : decode b_Mod_openFooter 292 = .ok (.iaload, 1) := by decide +kernel
theorem d_Mod_openFooter_293 : decode b_Mod_openFooter 293 = .ok (.if_icmp .ge 59, 3) := by decide +kernel
theorem d_Mod_openFooter_296 : decode b_Mod_openFooter 296 = .ok (.aload_n 0, 1) := by decide +kernel
theorem d_Mod_openFooter_297 : decode b_Mod_openFooter 297 = .ok (.getfield 550, 3) := by decide +kernel
theorem d_Mod_openFooter_300 : decode b_Mod_openFooter 300 = .ok (.ifCond .ne 52, 3) := by decide +kernel
theorem d_Mod_openFooter_303 : decode b_Mod_openFooter 303 = .ok (.aload_n 0, 1) := by decide +kernel
theorem d_Mod_openFooter_304 : decode b_Mod_openFooter 304 = .ok (.aload_n 0, 1) := by decide +kernel
theorem d_Mod_openFooter_305 : decode b_Mod_openFooter 305 = .ok (.getfield 38, 3) := by decide +kernel
theorem d_Mod_openFooter_308 : decode b_Mod_openFooter 308 = .ok (.iconst 1, 1) := by decide +kernel
theorem d_Mod_openFooter_309 : decode b_Mod_openFooter 309 = .ok (.iaload, 1) := by decide +kernel
theorem d_Mod_openFooter_310 : decode b_Mod_openFooter 310 = .ok (.iload 10, 2) := by decide +kernel
theorem d_Mod_openFooter_312 : decode b_Mod_openFooter 312 = .ok (.imul, 1) := by decide +kernel
theorem d_Mod_openFooter_313 : decode b_Mod_openFooter 313 = .ok (.iload 11, 2) := by decide +kernel
theorem d_Mod_openFooter_315 : decode b_Mod_openFooter 315 = .ok (.iadd, 1) := by decide +kernel
theorem d_Mod_openFooter_316 : decode b_Mod_openFooter 316 = .ok (.iload 11, 2) := by decide +kernel
theorem d_Mod_openFooter_318 : decode b_Mod_openFooter 318 = .ok (.iload 6, 2) := by decide +kernel
theorem d_Mod_openFooter_320 : decode b_Mod_openFooter 320 = .ok (.invokevirtual 882, 3) := by decide +kernel
theorem d_Mod_openFooter_323 : decode b_Mod_openFooter 323 = .ok (.lload 8, 2) := by decide +kernel
theorem d_Mod_openFooter_325 : decode b_Mod_openFooter 325 = .ok (.aload_n 0, 1) := by decide +kernel
theorem d_Mod_openFooter_326 : decode b_Mod_openFooter 326 = .ok (.getfield 160, 3) := by decide +kernel
theorem d_Mod_openFooter_329 : decode b_Mod_openFooter 329 = .ok (.aload_n 0, 1) := by decide +kernel
theorem d_Mod_openFooter_330 : decode b_Mod_openFooter 330 = .ok (.getfield 38, 3) := by decide +kernel
theorem d_Mod_openFooter_333 : decode b_Mod_openFooter 333 = .ok (.iconst 1, 1) := by decide +kernel
theorem d_Mod_openFooter_334 : decode b_Mod_openFooter 334 = .ok (.iaload, 1) := by decide +kernel
theorem d_Mod_openFooter_335 : decode b_Mod_openFooter 335 = .ok (.iload 10, 2) := by decide +kernel
theorem d_Mod_openFooter_337 : decode b_Mod_openFooter 337 = .ok (.imul, 1) := by decide +kernel
theorem d_Mod_openFooter_338 : decode b_Mod_openFooter 338 = .ok (.iload 11, 2) := by decide +kernel
theorem d_Mod_openFooter_340 : decode b_Mod_openFooter 340 = .ok (.iadd, 1) := by decide +kernel
theorem d_Mod_openFooter_341 : decode b_Mod_openFooter 341 = .ok (.iaload, 1) := by decide +kernel
theorem d_Mod_openFooter_342 : decode b_Mod_openFooter 342 = .ok (.i2l, 1) := by decide +kernel
theorem d_Mod_openFooter_343 : decode b_Mod_openFooter 343 = .ok (.ladd, 1) := by decide +kernel
theorem d_Mod_openFooter_344 : decode b_Mod_openFooter 344 = .ok (.lstore 8, 2) := by decide +kernel
theorem d_Mod_openFooter_346 : decode b_Mod_openFooter 346 = .ok (.iinc 11 1, 3) := by decide +kernel
theorem d_Mod_openFooter_349 : decode b_Mod_openFooter 349 = .ok (.goto (-64), 3) := by decide +kernel
theorem d_Mod_openFooter_265 : decode b_Mod_openFooter 265 = .ok (.bipush 16, 2) := by decide +kernel
theorem d_Mod_openFooter_267 : decode b_Mod_openFooter 267 = .ok (.invokevirtual 841, 3) := by decide +kernel
theorem d_Mod_openFooter_270 : decode b_Mod_openFooter 270 = .ok (.iload 7, 2) := by decide +kernel
theorem d_Mod_openFooter_272 : decode b_Mod_openFooter 272 = .ok (.aload_n 0, 1) := by decide +kernel
theorem d_Mod_openFooter_273 : decode b_Mod_openFooter 273 = .ok (.getfield 169, 3) := by decide +kernel
theorem d_Mod_openFooter_276 : decode b_Mod_openFooter 276 = .ok (.iload 10, 2) := by decide +kernel
theorem d_Mod_openFooter_278 : decode b_Mod_openFooter 278 = .ok (.iaload, 1) := by decide +kernel
theorem d_Mod_openFooter_279 : decode b_Mod_openFooter 279 = .ok (.iadd, 1) := by decide +kernel
theorem d_Mod_openFooter_280 : decode b_Mod_openFooter 280 = .ok (.istore 7, 2) := by decide +kernel
theorem d_Mod_openFooter_282 : decode b_Mod_openFooter 282 = .ok (.iconst 0, 1) := by decide +kernel
theorem d_Mod_openFooter_283 : decode b_Mod_openFooter 283 = .ok (.istore 11, 2) := by decide +kernel
theorem d_Mod_openFooter_215 : decode b_Mod_openFooter 215 = .ok (.iload 10, 2) := by decide +kernel
theorem d_Mod_openFooter_217 : decode b_Mod_openFooter 217 = .ok (.aload_n 0, 1) := by decide +kernel
theorem d_Mod_openFooter_218 : decode b_Mod_openFooter 218 = .ok (.getfield 877, 3) := by decide +kernel
theorem d_Mod_openFooter_221 : decode b_Mod_openFooter 221 = .ok (.if_icmp .ge 137, 3) := by decide +kernel
theorem d_Mod_openFooter_224 : decode b_Mod_openFooter 224 = .ok (.aload_n 0, 1) := by decide +kernel
theorem d_Mod_openFooter_225 : decode b_Mod_openFooter 225 = .ok (.getfield 550, 3) := by decide +kernel
theorem d_Mod_openFooter_228 : decode b_Mod_openFooter 228 = .ok (.ifCond .ne 130, 3) := by decide +kernel
theorem d_Mod_openFooter_231 : decode b_Mod_openFooter 231 = .ok (.aload_n 0, 1) := by decide +kernel
theorem d_Mod_openFooter_232 : decode b_Mod_openFooter 232 = .ok (.getfield 169, 3) := by decide +kernel
theorem d_Mod_openFooter_235 : decode b_Mod_openFooter 235 = .ok (.iload 10, 2) := by decide +kernel
theorem d_Mod_openFooter_237 : decode b_Mod_openFooter 237 = .ok (.aload_n 0, 1) := by decide +kernel
theorem d_Mod_openFooter_238 : decode b_Mod_openFooter 238 = .ok (.iload 6, 2) := by decide +kernel
theorem d_Mod_openFooter_240 : decode b_Mod_openFooter 240 = .ok (.sipush 2000, 3) := by decide +kernel
theorem d_Mod_openFooter_243 : decode b_Mod_openFooter 243 = .ok (.bipush 16, 2) := by decide +kernel
theorem d_Mod_openFooter_245 : decode b_Mod_openFooter 245 = .ok (.invokevirtual 847, 3) := by decide +kernel
theorem d_Mod_openFooter_248 : decode b_Mod_openFooter 248 = .ok (.iastore, 1) := by decide +kernel
theorem d_Mod_openFooter_249 : decode b_Mod_openFooter 249 = .ok (.aload_n 0, 1) := by decide +kernel
theorem d_Mod_openFooter_250 : decode b_Mod_openFooter 250 = .ok (.aload_n 0, 1) := by decide +kernel
theorem d_Mod_openFooter_251 : decode b_Mod_openFooter 251 = .ok (.getfield 169, 3) := by decide +kernel
theorem d_Mod_openFooter_254 : decode b_Mod_openFooter 254 = .ok (.iload 10, 2) := by decide +kernel
theorem d_Mod_openFooter_256 : decode b_Mod_openFooter 256 = .ok (.iaload, 1) := by decide +kernel
theorem d_Mod_openFooter_257 : decode b_Mod_openFooter 257 = .ok (.ifCond .ne 7, 3) := by decide +kernel
theorem d_Mod_openFooter_264 : decode b_Mod_openFooter 264 = .ok (.iconst 0, 1) := by decide +kernel
theorem d_Mod_openFooter_260 : decode b_Mod_openFooter 260 = .ok (.iconst 1, 1) := by decide +kernel
theorem d_Mod_openFooter_261 : decode b_Mod_openFooter 261 = .ok (.goto 4, 3) := by decide +kernel
theorem d_Mod_openFooter_166 : decode b_Mod_openFooter 166 = .ok (.aload_n 0, 1) := by decide +kernel
theorem d_Mod_openFooter_167 : decode b_Mod_openFooter 167 = .ok (.getfield 550, 3) := by decide +kernel
theorem d_Mod_openFooter_170 : decode b_Mod_openFooter 170 = .ok (.ifCond .eq 4, 3) := by decide +kernel
theorem d_Mod_openFooter_174 : decode b_Mod_openFooter 174 = .ok (.aload_n 0, 1) := by decide +kernel
theorem d_Mod_openFooter_175 : decode b_Mod_openFooter 175 = .ok (.aload_n 0, 1) := by decide +kernel
theorem d_Mod_openFooter_176 : decode b_Mod_openFooter 176 = .ok (.iload 6, 2) := by decide +kernel
theorem d_Mod_openFooter_178 : decode b_Mod_openFooter 178 = .ok (.sipush 2000, 3) := by decide +kernel
theorem d_Mod_openFooter_181 : decode b_Mod_openFooter 181 = .ok (.bipush 16, 2) := by decide +kernel
theorem d_Mod_openFooter_183 : decode b_Mod_openFooter 183 = .ok (.invokevirtual 847, 3) := by decide +kernel
theorem d_Mod_openFooter_186 : decode b_Mod_openFooter 186 = .ok (.putfield 874, 3) := by decide +kernel
theorem d_Mod_openFooter_189 : decode b_Mod_openFooter 189 = .ok (.aload_n 0, 1) := by decide +kernel
theorem d_Mod_openFooter_190 : decode b_Mod_openFooter 190 = .ok (.aload_n 0, 1) := by decide +kernel
theorem d_Mod_openFooter_191 : decode b_Mod_openFooter 191 = .ok (.iload 6, 2) := by decide +kernel
theorem d_Mod_openFooter_193 : decode b_Mod_openFooter 193 = .ok (.sipush 500, 3) := by decide +kernel
theorem d_Mod_openFooter_196 : decode b_Mod_openFooter 196 = .ok (.bipush 16, 2) := by decide +kernel
theorem d_Mod_openFooter_198 : decode b_Mod_openFooter 198 = .ok (.invokevirtual 847, 3) := by decide +kernel
theorem d_Mod_openFooter_201 : decode b_Mod_openFooter 201 = .ok (.putfield 877, 3) := by decide +kernel
theorem d_Mod_openFooter_204 : decode b_Mod_openFooter 204 = .ok (.iconst 0, 1) := by decide +kernel
theorem d_Mod_openFooter_205 : decode b_Mod_openFooter 205 = .ok (.istore 7, 2) := by decide +kernel
theorem d_Mod_openFooter_207 : decode b_Mod_openFooter 207 = .ok (.ldc2_w 880, 3) := by decide +kernel
theorem d_Mod_openFooter_210 : decode b_Mod_openFooter 210 = .ok (.lstore 8, 2) := by decide +kernel
theorem d_Mod_openFooter_212 : decode b_Mod_openFooter 212 = .ok (.iconst 0, 1) := by decide +kernel
theorem d_Mod_openFooter_213 : decode b_Mod_openFooter 213 = .ok (.istore 10, 2) := by decide +kernel
theorem d_Mod_openFooter_173 : decode b_Mod_openFooter 173 = .ok (.return_, 1) := by decide +kernel
theorem d_Mod_openFooter_142 : decode b_Mod_openFooter 142 = .ok (.bipush 14, 2) := by decide +kernel
theorem d_Mod_openFooter_144 : decode b_Mod_openFooter 144 = .ok (.invokevirtual 841, 3) := by decide +kernel
theorem d_Mod_openFooter_147 : decode b_Mod_openFooter 147 = .ok (.aload_n 0, 1) := by decide +kernel
theorem d_Mod_openFooter_148 : decode b_Mod_openFooter 148 = .ok (.iload 5, 2) := by decide +kernel
theorem d_Mod_openFooter_150 : decode b_Mod_openFooter 150 = .ok (.putfield 553, 3) := by decide +kernel
theorem d_Mod_openFooter_153 : decode b_Mod_openFooter 153 = .ok (.aload_n 0, 1) := by decide +kernel
theorem d_Mod_openFooter_154 : decode b_Mod_openFooter 154 = .ok (.getfield 550, 3) := by decide +kernel
theorem d_Mod_openFooter_157 : decode b_Mod_openFooter 157 = .ok (.ifCond .ne 9, 3) := by decide +kernel
theorem d_Mod_openFooter_160 : decode b_Mod_openFooter 160 = .ok (.aload_n 0, 1) := by decide +kernel
theorem d_Mod_openFooter_161 : decode b_Mod_openFooter 161 = .ok (.iload 6, 2) := by decide +kernel
theorem d_Mod_openFooter_163 : decode b_Mod_openFooter 163 = .ok (.invokevirtual 871, 3) := by decide +kernel
theorem d_Mod_openFooter_92 : decode b_Mod_openFooter 92 = .ok (.bipush 13, 2) := by decide +kernel
theorem d_Mod_openFooter_94 : decode b_Mod_openFooter 94 = .ok (.invokevirtual 841, 3) := by decide +kernel
theorem d_Mod_openFooter_97 : decode b_Mod_openFooter 97 = .ok (.aload_n 0, 1) := by decide +kernel
theorem d_Mod_openFooter_98 : decode b_Mod_openFooter 98 = .ok (.getfield 550, 3) := by decide +kernel
theorem d_Mod_openFooter_101 : decode b_Mod_openFooter 101 = .ok (.ifCond .eq 4, 3) := by decide +kernel
theorem d_Mod_openFooter_105 : decode b_Mod_openFooter 105 = .ok (.iload_n 1, 1) := by decide +kernel
theorem d_Mod_openFooter_106 : decode b_Mod_openFooter 106 = .ok (.bipush 12, 2) := by decide +kernel
theorem d_Mod_openFooter_108 : decode b_Mod_openFooter 108 = .ok (.isub, 1) := by decide +kernel
theorem d_Mod_openFooter_109 : decode b_Mod_openFooter 109 = .ok (.lload_n 2, 1) := by decide +kernel
theorem d_Mod_openFooter_110 : decode b_Mod_openFooter 110 = .ok (.l2i, 1) := by decide +kernel
theorem d_Mod_openFooter_111 : decode b_Mod_openFooter 111 = .ok (.isub, 1) := by decide +kernel
theorem d_Mod_openFooter_112 : decode b_Mod_openFooter 112 = .ok (.istore 5, 2) := by decide +kernel
theorem d_Mod_openFooter_114 : decode b_Mod_openFooter 114 = .ok (.iload_n 1, 1) := by decide +kernel
theorem d_Mod_openFooter_115 : decode b_Mod_openFooter 115 = .ok (.bipush 12, 2) := by decide +kernel
theorem d_Mod_openFooter_117 : decode b_Mod_openFooter 117 = .ok (.isub, 1) := by decide +kernel
theorem d_Mod_openFooter_118 : decode b_Mod_openFooter 118 = .ok (.istore 6, 2) := by decide +kernel
theorem d_Mod_openFooter_120 : decode b_Mod_openFooter 120 = .ok (.aload_n 0, 1) := by decide +kernel
theorem d_Mod_openFooter_121 : decode b_Mod_openFooter 121 = .ok (.aload_n 0, 1) := by decide +kernel
theorem d_Mod_openFooter_122 : decode b_Mod_openFooter 122 = .ok (.getfield 133, 3) := by decide +kernel
theorem d_Mod_openFooter_125 : decode b_Mod_openFooter 125 = .ok (.iload 5, 2) := by decide +kernel
theorem d_Mod_openFooter_127 : decode b_Mod_openFooter 127 = .ok (.iload 6, 2) := by decide +kernel
theorem d_Mod_openFooter_129 : decode b_Mod_openFooter 129 = .ok (.invokestatic 777, 3) := by decide +kernel
theorem d_Mod_openFooter_132 : decode b_Mod_openFooter 132 = .ok (.iload 4, 2) := by decide +kernel
theorem d_Mod_openFooter_134 : decode b_Mod_openFooter 134 = .ok (.if_icmp .eq 7, 3) := by decide +kernel
theorem d_Mod_openFooter_141 : decode b_Mod_openFooter 141 = .ok (.iconst 0, 1) := by decide +kernel
theorem d_Mod_openFooter_137 : decode b_Mod_openFooter 137 = .ok (.iconst 1, 1) := by decide +kernel
theorem d_Mod_openFooter_138 : decode b_Mod_openFooter 138 = .ok (.goto 4, 3) := by decide +kernel
theorem d_Mod_openFooter_104 : decode b_Mod_openFooter 104 = .ok (.return_, 1) := by decide +kernel
theorem d_Mod_openFooter_35 : decode b_Mod_openFooter 35 = .ok (.bipush 13, 2) := by decide +kernel
theorem d_Mod_openFooter_37 : decode b_Mod_openFooter 37 = .ok (.invokevirtual 841, 3) := by decide +kernel
theorem d_Mod_openFooter_40 : decode b_Mod_openFooter 40 = .ok (.aload_n 0, 1) := by decide +kernel
theorem d_Mod_openFooter_41 : decode b_Mod_openFooter 41 = .ok (.getfield 550, 3) := by decide +kernel
theorem d_Mod_openFooter_44 : decode b_Mod_openFooter 44 = .ok (.ifCond .eq 4, 3) := by decide +kernel
theorem d_Mod_openFooter_48 : decode b_Mod_openFooter 48 = .ok (.aload_n 0, 1) := by decide +kernel
theorem d_Mod_openFooter_49 : decode b_Mod_openFooter 49 = .ok (.iload_n 1, 1) := by decide +kernel
theorem d_Mod_openFooter_50 : decode b_Mod_openFooter 50 = .ok (.bipush 12, 2) := by decide +kernel
theorem d_Mod_openFooter_52 : decode b_Mod_openFooter 52 = .ok (.isub, 1) := by decide +kernel
theorem d_Mod_openFooter_53 : decode b_Mod_openFooter 53 = .ok (.putfield 553, 3) := by decide +kernel
theorem d_Mod_openFooter_56 : decode b_Mod_openFooter 56 = .ok (.aload_n 0, 1) := by decide +kernel
theorem d_Mod_openFooter_57 : decode b_Mod_openFooter 57 = .ok (.iconst 4, 1) := by decide +kernel
theorem d_Mod_openFooter_58 : decode b_Mod_openFooter 58 = .ok (.iload_n 1, 1) := by decide +kernel
theorem d_Mod_openFooter_59 : decode b_Mod_openFooter 59 = .ok (.invokevirtual 717, 3) := by decide +kernel
theorem d_Mod_openFooter_62 : decode b_Mod_openFooter 62 = .ok (.ldc2_w 869, 3) := by decide +kernel
theorem d_Mod_openFooter_65 : decode b_Mod_openFooter 65 = .ok (.land, 1) := by decide +kernel
theorem d_Mod_openFooter_66 : decode b_Mod_openFooter 66 = .ok (.lstore_n 2, 1) := by decide +kernel
theorem d_Mod_openFooter_67 : decode b_Mod_openFooter 67 = .ok (.aload_n 0, 1) := by decide +kernel
theorem d_Mod_openFooter_68 : decode b_Mod_openFooter 68 = .ok (.iconst 4, 1) := by decide +kernel
theorem d_Mod_openFooter_69 : decode b_Mod_openFooter 69 = .ok (.iload_n 1, 1) := by decide +kernel
theorem d_Mod_openFooter_70 : decode b_Mod_openFooter 70 = .ok (.invokevirtual 717, 3) := by decide +kernel
theorem d_Mod_openFooter_73 : decode b_Mod_openFooter 73 = .ok (.l2i, 1) := by decide +kernel
theorem d_Mod_openFooter_74 : decode b_Mod_openFooter 74 = .ok (.istore 4, 2) := by decide +kernel
theorem d_Mod_openFooter_76 : decode b_Mod_openFooter 76 = .ok (.aload_n 0, 1) := by decide +kernel
theorem d_Mod_openFooter_77 : decode b_Mod_openFooter 77 = .ok (.lload_n 2, 1) := by decide +kernel
theorem d_Mod_openFooter_78 : decode b_Mod_openFooter 78 = .ok (.iload_n 1, 1) := by decide +kernel
theorem d_Mod_openFooter_79 : decode b_Mod_openFooter 79 = .ok (.bipush 16, 2) := by decide +kernel
theorem d_Mod_openFooter_81 : decode b_Mod_openFooter 81 = .ok (.isub, 1) := by decide +kernel
theorem d_Mod_openFooter_82 : decode b_Mod_openFooter 82 = .ok (.i2l, 1) := by decide +kernel
theorem d_Mod_openFooter_83 : decode b_Mod_openFooter 83 = .ok (.lcmp, 1) := by decide +kernel
theorem d_Mod_openFooter_84 : decode b_Mod_openFooter 84 = .ok (.ifCond .le 7, 3) := by decide +kernel
theorem d_Mod_openFooter_91 : decode b_Mod_openFooter 91 = .ok (.iconst 0, 1) := by decide +kernel
theorem d_Mod_openFooter_87 : decode b_Mod_openFooter 87 = .ok (.iconst 1, 1) := by decide +kernel
theorem d_Mod_openFooter_88 : decode b_Mod_openFooter 88 = .ok (.goto 4, 3) := by decide +kernel
theorem d_Mod_openFooter_47 : decode b_Mod_openFooter 47 = .ok (.return_, 1) := by decide +kernel
theorem d_Mod_openFooter_30 : decode b_Mod_openFooter 30 = .ok (.iconst 1, 1) := by decide +kernel
theorem d_Mod_openFooter_31 : decode b_Mod_openFooter 31 = .ok (.goto 4, 3) := by decide +kernel
theorem d_Mod_openFooter_0 : decode b_Mod_openFooter 0 = .ok (.aload_n 0, 1) := by decide +kernel
theorem d_Mod_openFooter_1 : decode b_Mod_openFooter 1 = .ok (.getfield 832, 3) := by decide +kernel
theorem d_Mod_openFooter_4 : decode b_Mod_openFooter 4 = .ok (.istore_n 1, 1) := by decide +kernel
theorem d_Mod_openFooter_5 : decode b_Mod_openFooter 5 = .ok (.aload_n 0, 1) := by decide +kernel
theorem d_Mod_openFooter_6 : decode b_Mod_openFooter 6 = .ok (.iload_n 1, 1) := by decide +kernel
theorem d_Mod_openFooter_7 : decode b_Mod_openFooter 7 = .ok (.bipush 16, 2) := by decide +kernel
theorem d_Mod_openFooter_9 : decode b_Mod_openFooter 9 = .ok (.if_icmp .lt 21, 3) := by decide +kernel
theorem d_Mod_openFooter_12 : decode b_Mod_openFooter 12 = .ok (.aload_n 0, 1) := by decide +kernel
theorem d_Mod_openFooter_13 : decode b_Mod_openFooter 13 = .ok (.iconst 0, 1) := by decide +kernel
theorem d_Mod_openFooter_14 : decode b_Mod_openFooter 14 = .ok (.invokevirtual 866, 3) := by decide +kernel
theorem d_Mod_openFooter_17 : decode b_Mod_openFooter 17 = .ok (.ifCond .eq 13, 3) := by decide +kernel
theorem d_Mod_openFooter_20 : decode b_Mod_openFooter 20 = .ok (.aload_n 0, 1) := by decide +kernel
theorem d_Mod_openFooter_21 : decode b_Mod_openFooter 21 = .ok (.iload_n 1, 1) := by decide +kernel
theorem d_Mod_openFooter_22 : decode b_Mod_openFooter 22 = .ok (.iconst 4, 1) := by decide +kernel
theorem d_Mod_openFooter_23 : decode b_Mod_openFooter 23 = .ok (.isub, 1) := by decide +kernel
theorem d_Mod_openFooter_24 : decode b_Mod_openFooter 24 = .ok (.invokevirtual 866, 3) := by decide +kernel
theorem d_Mod_openFooter_27 : decode b_Mod_openFooter 27 = .ok (.ifCond .ne 7, 3) := by decide +kernel
theorem d_Mod_openFooter_34 : decode b_Mod_openFooter 34 = .ok (.iconst 0, 1) := by decide +kernel
section
variable (l : Launch) (dC : Nat → ClassId) (dI : Nat → Nat → Nat) (cI cB cJ cZ : ClassId)
set_option maxRecDepth 100000 in
set_option maxHeartbeats 4000000 in
set_option maxRecDepth 100000 in
theorem t_Mod_poolAdd_37 {p : Program} {l : Launch} {e : Env} {R : Room} {s : State} {m : MethodId} {args : Array Value} {below : List Frame} {meth : Method} {c : Code} {cells slots : Nat} {Q : State → Prop} {dC : Nat → ClassId} {dI : Nat → Nat → Nat} {cI cB cJ cZ : ClassId} {A : Nat → Prop} {ad : Nat → Nat} {post : Int32 → St → Prop} {rec37 : Int64 → Nat → Int32 → Int32 → Int32 → St → Prop} (hx : p.tables.exec = Jvm.exec) (hb : c.code = b_Mod_poolAdd) (hml : c.maxLocals = 7) (hown : s.vm.findClass R_Mod = some m.cls) (hT : ∀ w ∈ TG, w.before args s = true) (hK : va_K (dC, dI) CL (TY cI cB cJ cZ) s) (hN : NW s) (hA : ∀ q : Nat, s.heap.size ≤ q → A q) (hRc : cells ≤ R.cells) (hRs : slots ≤ R.slots) (hRf : 0 ≤ R.frames) (hRl : 0 ≤ R.locals) (hret : ∀ (r : Int32) (x : St) (H : Heap) (locs : List Loc) (pc : Nat) (ls : Array Slot), decode b_Mod_poolAdd pc = .ok (.ireturn, 1) → post r x → Wd dC dI cI cB cJ cZ ad stM kcM 115 A x H → va_S A s.heap H locs → W p l e R s m args below meth c H locs cells slots Q (F0 m pc ls [.int r])) (hrec37 : ∀ (l1 : Int64) (l3 : Nat) (l4 : Int32) (l5 : Int32) (l6 : Int32) (x : St) (H : Heap) (locs : List Loc) (ls : Array Slot), (l3 < 115 ∧ kcM l3 = 20) → rec37 l1 l3 l4 l5 l6 x → Wd dC dI cI cB cJ cZ ad stM kcM 115 A x H → va_S A s.heap H locs → lv_has ls 7 [(0, .ref (ad 0)), (1, .long l1), (3, .ref (ad l3)), (4, .int l4), (5, .int l5), (6, .int l6)] → W p l e R s m args below meth c H locs cells slots Q (F0 m 37 ls [])) : ∀ (l1 : Int64) (l3 : Nat) (l4 : Int32) (l5 : Int32) (l6 : Int32) (x : St) (H : Heap) (locs : List Loc) (ls : Array Slot), (l3 < 115 ∧ kcM l3 = 20) → j_Mod_poolAdd_37 post rec37 l1 l3 l4 l5 l6 x → Wd dC dI cI cB cJ cZ ad stM kcM 115 A x H → va_S A s.heap H locs → lv_has ls 7 [(0, .ref (ad 0)), (1, .long l1), (3, .ref (ad l3)), (4, .int l4), (5, .int l5), (6, .int l6)] → W p l e R s m args below meth c H locs cells slots Q (F0 m 37 ls []) := by
  intro l1 l3 l4 l5 l6 x H locs ls fl3 hw hW hS hl
  unfold j_Mod_poolAdd_37 at hw
  refine lv_iload hx hb d_Mod_poolAdd_37 (lv_at hl 5 rfl) ?_
  refine lv_iload hx hb d_Mod_poolAdd_39 (lv_at hl 4 rfl) ?_
  refine lv_icmp_ge (tgt := 69) hx hb d_Mod_poolAdd_41 (by decide) (fun c1050 => ?_) (fun c1050 => ?_)
  · have hw := hw.1 c1050
    refine lv_aload_n hx hb d_Mod_poolAdd_69 rfl (lv_at hl 0 rfl) ?_
    refine lv_dup hx hb d_Mod_poolAdd_70 rfl ?_
    refine w_geti (k := 94) (t := 12) (C := R_Mod) (T := F_Mod) (N := 167) hx hb hT hown hK hW ko_0.1 ko_0.2 (by decide) in_Mod rfl rfl (by decide) rfl fr_Mod_94 w_9_30 d_Mod_poolAdd_71 ?_
    refine lv_iload hx hb d_Mod_poolAdd_74 (lv_at hl 4 rfl) ?_
    refine lv_iadd hx hb d_Mod_poolAdd_76 ?_
    refine w_puti (ty := .int) (k := 94) (t := 12) (C := R_Mod) (T := F_Mod) (N := 167) hx hb hT hown hK hW hS ko_0.1 ko_0.2 (by decide) in_Mod t_Mod t_Mod_ok n_Mod rfl rfl (by decide) rfl fr_Mod_94 w_9_30 (by decide +kernel) rfl rfl d_Mod_poolAdd_77 (fun H locs hW hS => ?_)
    obtain ⟨x1051, ex1051⟩ : ∃ y : St, y = setI x 0 94 ((fI x 0 94) + l5) := ⟨_, rfl⟩
    rw [← ex1051] at hW
    have hw := hw x1051 ex1051
    refine lv_aload_n hx hb d_Mod_poolAdd_80 rfl (lv_at hl 0 rfl) ?_
    refine lv_dup hx hb d_Mod_poolAdd_81 rfl ?_
    refine w_geti (k := 93) (t := 12) (C := R_Mod) (T := F_Mod) (N := 167) hx hb hT hown hK hW ko_0.1 ko_0.2 (by decide) in_Mod rfl rfl (by decide) rfl fr_Mod_93 w_9_29 d_Mod_poolAdd_82 ?_
    refine lv_iconst (v := 1) hx hb d_Mod_poolAdd_85 (by decide) ?_
    refine lv_iadd hx hb d_Mod_poolAdd_86 ?_
    refine w_puti (ty := .int) (k := 93) (t := 12) (C := R_Mod) (T := F_Mod) (N := 167) hx hb hT hown hK hW hS ko_0.1 ko_0.2 (by decide) in_Mod t_Mod t_Mod_ok n_Mod rfl rfl (by decide) rfl fr_Mod_93 w_9_29 (by decide +kernel) rfl rfl d_Mod_poolAdd_87 (fun H locs hW hS => ?_)
    obtain ⟨x1052, ex1052⟩ : ∃ y : St, y = setI x1051 0 93 ((fI x1051 0 93) + 1) := ⟨_, rfl⟩
    rw [← ex1052] at hW
    have hw := hw x1052 ex1052
    refine lv_aload_n hx hb d_Mod_poolAdd_90 rfl (lv_at hl 0 rfl) ?_
    refine w_geti (k := 93) (t := 12) (C := R_Mod) (T := F_Mod) (N := 167) hx hb hT hown hK hW ko_0.1 ko_0.2 (by decide) in_Mod rfl rfl (by decide) rfl fr_Mod_93 w_9_29 d_Mod_poolAdd_91 ?_
    refine lv_iconst (v := 1) hx hb d_Mod_poolAdd_94 (by decide) ?_
    refine lv_isub hx hb d_Mod_poolAdd_95 ?_
    exact hret ((fI x1052 0 93) - 1) x1052 H locs 96 ls d_Mod_poolAdd_96 hw hW hS
  · have hw := hw.2 c1050
    refine lv_aload_n hx hb d_Mod_poolAdd_44 rfl (lv_at hl 0 rfl) ?_
    refine w_getf (q := 57) (k := 92) (t := 12) (C := R_Mod) (T := F_Mod) (N := 167) hx hb hT hown hK hW ko_0.1 ko_0.2 (by decide) in_Mod rfl rfl (by decide) rfl fr_Mod_92 w_9_28 d_Mod_poolAdd_45 rfl ?_
    refine lv_aload_n hx hb d_Mod_poolAdd_48 rfl (lv_at hl 0 rfl) ?_
    refine w_geti (k := 94) (t := 12) (C := R_Mod) (T := F_Mod) (N := 167) hx hb hT hown hK hW ko_0.1 ko_0.2 (by decide) in_Mod rfl rfl (by decide) rfl fr_Mod_94 w_9_30 d_Mod_poolAdd_49 ?_
    refine lv_iload hx hb d_Mod_poolAdd_52 (lv_at hl 5 rfl) ?_
    refine lv_iadd hx hb d_Mod_poolAdd_54 ?_
    refine lv_aload_n hx hb d_Mod_poolAdd_55 rfl (lv_at hl 2 rfl) ?_
    refine lv_iload hx hb d_Mod_poolAdd_56 (lv_at hl 3 rfl) ?_
    refine lv_iload hx hb d_Mod_poolAdd_58 (lv_at hl 5 rfl) ?_
    refine lv_iadd hx hb d_Mod_poolAdd_60 ?_
    obtain ⟨hi, hw⟩ := hw
    refine w_iald (o := l3) hx hb hK hW fl3.1 fl3.2 hi d_Mod_poolAdd_61 ?_
    obtain ⟨hi, hw⟩ := hw
    refine w_iast (o := 57) hx hb hK hW hS ko_57.1 ko_57.2 hi d_Mod_poolAdd_62 (fun H locs hW hS => ?_)
    obtain ⟨x1053, ex1053⟩ : ∃ y : St, y = setA x 57 ((fI x 0 94) + l6) (rA x l3 (l4 + l6)) := ⟨_, rfl⟩
    rw [← ex1053] at hW
    have hw := hw x1053 ex1053
    refine lv_iinc (v := (l6 + 1)) (lv' := [(6, .int (l6 + 1)), (0, .ref (ad 0)), (1, .long l1), (3, .ref (ad l3)), (4, .int l4), (5, .int l5)]) hx hb d_Mod_poolAdd_63 hl (k := 5) rfl rfl (by decide) rfl (fun ls hl => ?_)
    refine lv_goto (tgt := 37) hx hb d_Mod_poolAdd_66 (by decide) ?_
    exact hrec37 l1 l3 l4 l5 (l6 + 1) x1053 H locs ls fl3 hw hW hS (lv_sub hl [1, 2, 3, 4, 5, 0] rfl)
set_option maxHeartbeats 4000000 in
set_option maxRecDepth 100000 in
theorem tl_Mod_poolAdd_37 {p : Program} {l : Launch} {e : Env} {R : Room} {s : State} {m : MethodId} {args : Array Value} {below : List Frame} {meth : Method} {c : Code} {cells slots : Nat} {Q : State → Prop} {dC : Nat → ClassId} {dI : Nat → Nat → Nat} {cI cB cJ cZ : ClassId} {A : Nat → Prop} {ad : Nat → Nat} {post : Int32 → St → Prop} (hx : p.tables.exec = Jvm.exec) (hb : c.code = b_Mod_poolAdd) (hml : c.maxLocals = 7) (hown : s.vm.findClass R_Mod = some m.cls) (hT : ∀ w ∈ TG, w.before args s = true) (hK : va_K (dC, dI) CL (TY cI cB cJ cZ) s) (hN : NW s) (hA : ∀ q : Nat, s.heap.size ≤ q → A q) (hRc : cells ≤ R.cells) (hRs : slots ≤ R.slots) (hRf : 0 ≤ R.frames) (hRl : 0 ≤ R.locals) (hret : ∀ (r : Int32) (x : St) (H : Heap) (locs : List Loc) (pc : Nat) (ls : Array Slot), decode b_Mod_poolAdd pc = .ok (.ireturn, 1) → post r x → Wd dC dI cI cB cJ cZ ad stM kcM 115 A x H → va_S A s.heap H locs → W p l e R s m args below meth c H locs cells slots Q (F0 m pc ls [.int r]))  : ∀ n : Nat, ∀ (l1 : Int64) (l3 : Nat) (l4 : Int32) (l5 : Int32) (l6 : Int32) (x : St) (H : Heap) (locs : List Loc) (ls : Array Slot), (l3 < 115 ∧ kcM l3 = 20) → wl_Mod_poolAdd_37 post n l1 l3 l4 l5 l6 x → Wd dC dI cI cB cJ cZ ad stM kcM 115 A x H → va_S A s.heap H locs → lv_has ls 7 [(0, .ref (ad 0)), (1, .long l1), (3, .ref (ad l3)), (4, .int l4), (5, .int l5), (6, .int l6)] → W p l e R s m args below meth c H locs cells slots Q (F0 m 37 ls []) := by
  intro n
  induction n with
  | zero => intro l1 l3 l4 l5 l6 x H locs ls fl3 hw; exact hw.elim
  | succ n ih => intro l1 l3 l4 l5 l6 x H locs ls fl3 hw hW hS hl; exact t_Mod_poolAdd_37 hx hb hml hown hT hK hN hA hRc hRs hRf hRl hret  ih l1 l3 l4 l5 l6 x H locs ls fl3 hw hW hS hl
set_option maxRecDepth 100000 in
set_option maxHeartbeats 4000000 in
set_option maxRecDepth 100000 in
theorem t_Mod_poolAdd_e {p : Program} {l : Launch} {e : Env} {R : Room} {s : State} {m : MethodId} {args : Array Value} {below : List Frame} {meth : Method} {c : Code} {cells slots : Nat} {Q : State → Prop} {dC : Nat → ClassId} {dI : Nat → Nat → Nat} {cI cB cJ cZ : ClassId} {A : Nat → Prop} {ad : Nat → Nat} {post : Int32 → St → Prop} (hx : p.tables.exec = Jvm.exec) (hb : c.code = b_Mod_poolAdd) (hml : c.maxLocals = 7) (hown : s.vm.findClass R_Mod = some m.cls) (hT : ∀ w ∈ TG, w.before args s = true) (hK : va_K (dC, dI) CL (TY cI cB cJ cZ) s) (hN : NW s) (hA : ∀ q : Nat, s.heap.size ≤ q → A q) (hRc : cells ≤ R.cells) (hRs : slots ≤ R.slots) (hRf : 0 ≤ R.frames) (hRl : 0 ≤ R.locals) (hret : ∀ (r : Int32) (x : St) (H : Heap) (locs : List Loc) (pc : Nat) (ls : Array Slot), decode b_Mod_poolAdd pc = .ok (.ireturn, 1) → post r x → Wd dC dI cI cB cJ cZ ad stM kcM 115 A x H → va_S A s.heap H locs → W p l e R s m args below meth c H locs cells slots Q (F0 m pc ls [.int r])) : ∀ (l1 : Int64) (l3 : Nat) (l4 : Int32) (l5 : Int32) (x : St) (H : Heap) (locs : List Loc) (ls : Array Slot), (l3 < 115 ∧ kcM l3 = 20) → wp_Mod_poolAdd post l1 l3 l4 l5 x → Wd dC dI cI cB cJ cZ ad stM kcM 115 A x H → va_S A s.heap H locs → lv_has ls 7 [(0, .ref (ad 0)), (1, .long l1), (3, .ref (ad l3)), (4, .int l4), (5, .int l5)] → W p l e R s m args below meth c H locs cells slots Q (F0 m 0 ls []) := by
  intro l1 l3 l4 l5 x H locs ls fl3 hw hW hS hl
  unfold wp_Mod_poolAdd at hw
  refine lv_aload_n hx hb d_Mod_poolAdd_0 rfl (lv_at hl 0 rfl) ?_
  refine w_getf (q := 54) (k := 89) (t := 12) (C := R_Mod) (T := F_Mod) (N := 167) hx hb hT hown hK hW ko_0.1 ko_0.2 (by decide) in_Mod rfl rfl (by decide) rfl fr_Mod_89 w_9_25 d_Mod_poolAdd_1 rfl ?_
  refine lv_aload_n hx hb d_Mod_poolAdd_4 rfl (lv_at hl 0 rfl) ?_
  refine w_geti (k := 93) (t := 12) (C := R_Mod) (T := F_Mod) (N := 167) hx hb hT hown hK hW ko_0.1 ko_0.2 (by decide) in_Mod rfl rfl (by decide) rfl fr_Mod_93 w_9_29 d_Mod_poolAdd_5 ?_
  refine lv_lload_n hx hb d_Mod_poolAdd_8 rfl (lv_at hl 1 rfl) ?_
  obtain ⟨hi, hw⟩ := hw
  refine w_last (o := 54) hx hb hK hW hS ko_54.1 ko_54.2 hi d_Mod_poolAdd_9 (fun H locs hW hS => ?_)
  obtain ⟨x1054, ex1054⟩ : ∃ y : St, y = setL x 54 (fI x 0 93) l1 := ⟨_, rfl⟩
  rw [← ex1054] at hW
  have hw := hw x1054 ex1054
  refine lv_aload_n hx hb d_Mod_poolAdd_10 rfl (lv_at hl 0 rfl) ?_
  refine w_getf (q := 55) (k := 90) (t := 12) (C := R_Mod) (T := F_Mod) (N := 167) hx hb hT hown hK hW ko_0.1 ko_0.2 (by decide) in_Mod rfl rfl (by decide) rfl fr_Mod_90 w_9_26 d_Mod_poolAdd_11 rfl ?_
  refine lv_aload_n hx hb d_Mod_poolAdd_14 rfl (lv_at hl 0 rfl) ?_
  refine w_geti (k := 93) (t := 12) (C := R_Mod) (T := F_Mod) (N := 167) hx hb hT hown hK hW ko_0.1 ko_0.2 (by decide) in_Mod rfl rfl (by decide) rfl fr_Mod_93 w_9_29 d_Mod_poolAdd_15 ?_
  refine lv_aload_n hx hb d_Mod_poolAdd_18 rfl (lv_at hl 0 rfl) ?_
  refine w_geti (k := 94) (t := 12) (C := R_Mod) (T := F_Mod) (N := 167) hx hb hT hown hK hW ko_0.1 ko_0.2 (by decide) in_Mod rfl rfl (by decide) rfl fr_Mod_94 w_9_30 d_Mod_poolAdd_19 ?_
  obtain ⟨hi, hw⟩ := hw
  refine w_iast (o := 55) hx hb hK hW hS ko_55.1 ko_55.2 hi d_Mod_poolAdd_22 (fun H locs hW hS => ?_)
  obtain ⟨x1055, ex1055⟩ : ∃ y : St, y = setA x1054 55 (fI x1054 0 93) (fI x1054 0 94) := ⟨_, rfl⟩
  rw [← ex1055] at hW
  have hw := hw x1055 ex1055
  refine lv_aload_n hx hb d_Mod_poolAdd_23 rfl (lv_at hl 0 rfl) ?_
  refine w_getf (q := 56) (k := 91) (t := 12) (C := R_Mod) (T := F_Mod) (N := 167) hx hb hT hown hK hW ko_0.1 ko_0.2 (by decide) in_Mod rfl rfl (by decide) rfl fr_Mod_91 w_9_27 d_Mod_poolAdd_24 rfl ?_
  refine lv_aload_n hx hb d_Mod_poolAdd_27 rfl (lv_at hl 0 rfl) ?_
  refine w_geti (k := 93) (t := 12) (C := R_Mod) (T := F_Mod) (N := 167) hx hb hT hown hK hW ko_0.1 ko_0.2 (by decide) in_Mod rfl rfl (by decide) rfl fr_Mod_93 w_9_29 d_Mod_poolAdd_28 ?_
  refine lv_iload hx hb d_Mod_poolAdd_31 (lv_at hl 4 rfl) ?_
  obtain ⟨hi, hw⟩ := hw
  refine w_iast (o := 56) hx hb hK hW hS ko_56.1 ko_56.2 hi d_Mod_poolAdd_33 (fun H locs hW hS => ?_)
  obtain ⟨x1056, ex1056⟩ : ∃ y : St, y = setA x1055 56 (fI x1055 0 93) l5 := ⟨_, rfl⟩
  rw [← ex1056] at hW
  have hw := hw x1056 ex1056
  refine lv_iconst (v := 0) hx hb d_Mod_poolAdd_34 (by decide) ?_
  refine lv_istore (lv' := [(6, .int 0), (0, .ref (ad 0)), (1, .long l1), (3, .ref (ad l3)), (4, .int l4), (5, .int l5)]) hx hb d_Mod_poolAdd_35 hl (by decide) rfl (fun ls hl => ?_)
  obtain ⟨n, hw⟩ := hw
  exact tl_Mod_poolAdd_37 hx hb hml hown hT hK hN hA hRc hRs hRf hRl hret  n l1 l3 l4 l5 0 x1056 H locs ls fl3 hw hW hS (lv_sub hl [1, 2, 3, 4, 5, 0] rfl)
set_option maxHeartbeats 4000000 in
set_option maxRecDepth 100000 in
theorem k_Mod_poolAdd (l : Launch) (dC : Nat → ClassId) (dI : Nat → Nat → Nat) (cI cB cJ cZ : ClassId) (ad : Nat → Nat) (sz : Nat) (l1 : Int64) (l3 : Nat) (l4 : Int32) (l5 : Int32) (x : St) (fl3 : l3 < 115 ∧ kcM l3 = 20) {post : Int32 → St → Prop} (hw : wp_Mod_poolAdd post l1 l3 l4 l5 x) : Met l y_Mod_poolAdd (wsOf y_Mod_poolAdd b_Mod_poolAdd 7 (some (.int))) ({ frames := 0, cells := 0, slots := 0, locals := 0 }) (va_Pc [.ref (ad 0), .long l1, .ref (ad l3), .int l4, .int l5] (PW dC dI cI cB cJ cZ ad stM kcM 115 sz x)) (va_Qi (fun (r : Int32) (y : St) => post r y) (fun y t => Wd dC dI cI cB cJ cZ ad stM kcM 115 (va_A (pic ad stM kcM 115 cI cB cJ cZ x) sz) y t.heap) (va_A (pic ad stM kcM 115 cI cB cJ cZ x) sz)) 0 0 (va_A (pic ad stM kcM 115 cI cB cJ cZ x) sz) := by
  refine Met.ofW (cc := b_Mod_poolAdd) (maxL := 7) (ret := some (.int)) (by decide) rfl ?_
  intro p e s m args below meth c s₁ B hml hv
  obtain ⟨rfl, hsz, hW0, hK, hN⟩ := hv
  have hx := B.exec
  have hb := B.bytes
  have hr := B.returns
  have hts := atoms_spec B.pre
  have hT : ∀ w ∈ TG, w.before _ s = true := fun w h => hts w (List.mem_cons_of_mem _ h)
  have hown : s.vm.findClass R_Mod = some m.cls := findClass_of_methodNamed B.named
  have hlocks := B.notSynchronized
  subst hsz
  have hW : Wd dC dI cI cB cJ cZ ad stM kcM 115 (va_A (pic ad stM kcM 115 cI cB cJ cZ x) s.heap.size) x s.heap := ⟨hW0.1, hW0.2.1.self (sz := s.heap.size), hW0.2.2⟩
  generalize hAe : va_A (pic ad stM kcM 115 cI cB cJ cZ x) s.heap.size = A at hW ⊢
  have hA : ∀ q : Nat, s.heap.size ≤ q → A q := fun q h => by rw [← hAe]; exact Or.inr h
  have hS : va_S A s.heap s.heap [] := va_S.rf
  have hl := lv_entry ([.ref (ad 0), .long l1, .ref (ad l3), .int l4, .int l5]) (n := 7) (Nat.le_of_ble_eq_true rfl)
  rw [lg_entry_eq]
  generalize (lg_sl ([.ref (ad 0), .long l1, .ref (ad l3), .int l4, .int l5]) ++ List.replicate (7 - (lg_sl ([.ref (ad 0), .long l1, .ref (ad l3), .int l4, .int l5])).length) Slot.unset).toArray = ls at hl ⊢
  have hl : lv_has ls 7 [(0, .ref (ad 0)), (1, .long l1), (3, .ref (ad l3)), (4, .int l4), (5, .int l5)] := hl
  exact t_Mod_poolAdd_e hx hb hml hown hT hK hN hA (Nat.le_refl 0) (Nat.le_refl 0) (Nat.le_refl 0) (Nat.le_refl 0) (fun r x H locs pc ls hd hp hW hS => W.iret (v := r) hx hb hr (fun t ht hM => ⟨⟨r, x, rfl, hp, Wd.back hW ht.symm (fun _ z => z)⟩, hS.F ht⟩) hS.2.2 hd hlocks)  l1 l3 l4 l5 x _ _ ls fl3 hw hW hS hl
set_option maxRecDepth 100000 in
set_option maxHeartbeats 4000000 in
set_option maxRecDepth 100000 in
theorem t_Mod_openOne_56 {p : Program} {l : Launch} {e : Env} {R : Room} {s : State} {m : MethodId} {args : Array Value} {below : List Frame} {meth : Method} {c : Code} {cells slots : Nat} {Q : State → Prop} {dC : Nat → ClassId} {dI : Nat → Nat → Nat} {cI cB cJ cZ : ClassId} {A : Nat → Prop} {ad : Nat → Nat} {post : Int32 → St → Prop} (hx : p.tables.exec = Jvm.exec) (hb : c.code = b_Mod_openOne) (hml : c.maxLocals = 1) (hown : s.vm.findClass R_Mod = some m.cls) (hT : ∀ w ∈ TG, w.before args s = true) (hK : va_K (dC, dI) CL (TY cI cB cJ cZ) s) (hN : NW s) (hA : ∀ q : Nat, s.heap.size ≤ q → A q) (hRc : cells ≤ R.cells) (hRs : slots ≤ R.slots) (hRf : 2 ≤ R.frames) (hRl : 49 ≤ R.locals) (hret : ∀ (r : Int32) (x : St) (H : Heap) (locs : List Loc) (pc : Nat) (ls : Array Slot), decode b_Mod_openOne pc = .ok (.ireturn, 1) → post r x → Wd dC dI cI cB cJ cZ ad stM kcM 115 A x H → va_S A s.heap H locs → W p l e R s m args below meth c H locs cells slots Q (F0 m pc ls [.int r]))  : ∀ (s0 : Int32) (s1 : Int32) (s2 : Nat) (s3 : Int64) (x : St) (H : Heap) (locs : List Loc) (ls : Array Slot), (s2 < 115 ∧ kcM s2 = 20) → j_Mod_openOne_56 post s0 s1 s2 s3 x → Wd dC dI cI cB cJ cZ ad stM kcM 115 A x H → va_S A s.heap H locs → lv_has ls 1 [(0, .ref (ad 0))] → W p l e R s m args below meth c H locs cells slots Q (F0 m 56 ls [.int s0, .int s1, .ref (ad s2), .long s3, .ref (ad 0)]) := by
  intro s0 s1 s2 s3 x H locs ls fs2 hw hW hS hl
  unfold j_Mod_openOne_56 at hw
  have hF := hW.free hS hA
  refine va_calli (va_runV (C := R_Mod) (As := [.long s3, .ref (ad s2), .int s1, .int s0]) (rest := []) ⟨hx, hb, hml, hown, hT⟩ (k_Mod_poolAdd l dC dI cI cB cJ cZ ad H.size s3 s2 s1 s0 x fs2 hw) ⟨callB_of 4 hT (gwt_in w_12_156) rfl rfl rfl (hT _ w_1_15) (hT _ w_12_153) (by decide +kernel) ⟨Nat.le_trans (Nat.le_of_ble_eq_true rfl) hRf, Nat.le_trans (Nat.le_of_ble_eq_true rfl) hRl⟩, hT _ w_12_155, hT _ ws_193⟩ ⟨PW.blind, va_recv hK hW.1 (ci := 12) (q0 := 0) rfl (pic_obj ko_0.1 ko_0.2 (by decide)), PW.at _ hW hK hN⟩ rfl rfl hl.1 rfl (lv_room (Nat.le_of_ble_eq_true rfl)) d_Mod_openOne_56 ⟨hRc, hRs⟩) hS (fun q _ h => hF q h) hF (fun r1058 x1057 t H locs ht hvm hw hB hz1 hk1 hS => ?_)
  have hW := Wd.back hB ht hF
  clear hB ht hF hz1 hk1 hvm
  exact hret r1058 x1057 H locs 59 ls d_Mod_openOne_59 hw hW hS
set_option maxRecDepth 100000 in
set_option maxHeartbeats 4000000 in
set_option maxRecDepth 100000 in
theorem t_Mod_openOne_33 {p : Program} {l : Launch} {e : Env} {R : Room} {s : State} {m : MethodId} {args : Array Value} {below : List Frame} {meth : Method} {c : Code} {cells slots : Nat} {Q : State → Prop} {dC : Nat → ClassId} {dI : Nat → Nat → Nat} {cI cB cJ cZ : ClassId} {A : Nat → Prop} {ad : Nat → Nat} {post : Int32 → St → Prop} (hx : p.tables.exec = Jvm.exec) (hb : c.code = b_Mod_openOne) (hml : c.maxLocals = 1) (hown : s.vm.findClass R_Mod = some m.cls) (hT : ∀ w ∈ TG, w.before args s = true) (hK : va_K (dC, dI) CL (TY cI cB cJ cZ) s) (hN : NW s) (hA : ∀ q : Nat, s.heap.size ≤ q → A q) (hRc : cells ≤ R.cells) (hRs : slots ≤ R.slots) (hRf : 2 ≤ R.frames) (hRl : 49 ≤ R.locals) (hret : ∀ (r : Int32) (x : St) (H : Heap) (locs : List Loc) (pc : Nat) (ls : Array Slot), decode b_Mod_openOne pc = .ok (.ireturn, 1) → post r x → Wd dC dI cI cB cJ cZ ad stM kcM 115 A x H → va_S A s.heap H locs → W p l e R s m args below meth c H locs cells slots Q (F0 m pc ls [.int r]))  : ∀ (s0 : Int64) (x : St) (H : Heap) (locs : List Loc) (ls : Array Slot), j_Mod_openOne_33 post s0 x → Wd dC dI cI cB cJ cZ ad stM kcM 115 A x H → va_S A s.heap H locs → lv_has ls 1 [(0, .ref (ad 0))] → W p l e R s m args below meth c H locs cells slots Q (F0 m 33 ls [.long s0, .ref (ad 0)]) := by
  intro s0 x H locs ls  hw hW hS hl
  unfold j_Mod_openOne_33 at hw
  refine lv_aload_n hx hb d_Mod_openOne_33 rfl (lv_at hl 0 rfl) ?_
  refine w_getf (q := 49) (k := 77) (t := 12) (C := R_Mod) (T := F_Mod) (N := 167) hx hb hT hown hK hW ko_0.1 ko_0.2 (by decide) in_Mod rfl rfl (by decide) rfl fr_Mod_77 w_9_13 d_Mod_openOne_34 rfl ?_
  refine lv_iconst (v := 0) hx hb d_Mod_openOne_37 (by decide) ?_
  refine lv_aload_n hx hb d_Mod_openOne_38 rfl (lv_at hl 0 rfl) ?_
  refine w_geti (k := 38) (t := 12) (C := R_Mod) (T := F_Mod) (N := 167) hx hb hT hown hK hW ko_0.1 ko_0.2 (by decide) in_Mod rfl rfl (by decide) rfl fr_Mod_38 w_8_214 d_Mod_openOne_39 ?_
  refine lv_iconst (v := 3) hx hb d_Mod_openOne_42 (by decide) ?_
  refine lv_icmp_ne (tgt := 55) hx hb d_Mod_openOne_43 (by decide) (fun c1059 => ?_) (fun c1059 => ?_)
  · have hw := hw.1 c1059
    refine lv_iconst (v := 0) hx hb d_Mod_openOne_55 (by decide) ?_
    exact t_Mod_openOne_56 hx hb hml hown hT hK hN hA hRc hRs hRf hRl hret  0 0 49 s0 x H locs ls ko_49 hw hW hS (lv_sub hl [0] rfl)
  · have hw := hw.2 c1059
    refine lv_aload_n hx hb d_Mod_openOne_46 rfl (lv_at hl 0 rfl) ?_
    refine w_getf (q := 48) (k := 76) (t := 12) (C := R_Mod) (T := F_Mod) (N := 167) hx hb hT hown hK hW ko_0.1 ko_0.2 (by decide) in_Mod rfl rfl (by decide) rfl fr_Mod_76 w_9_12 d_Mod_openOne_47 rfl ?_
    refine lv_iconst (v := 0) hx hb d_Mod_openOne_50 (by decide) ?_
    obtain ⟨hi, hw⟩ := hw
    refine w_iald (o := 48) hx hb hK hW ko_48.1 ko_48.2 hi d_Mod_openOne_51 ?_
    refine lv_goto (tgt := 56) hx hb d_Mod_openOne_52 (by decide) ?_
    exact t_Mod_openOne_56 hx hb hml hown hT hK hN hA hRc hRs hRf hRl hret  (rA x 48 0) 0 49 s0 x H locs ls ko_49 hw hW hS (lv_sub hl [0] rfl)
set_option maxRecDepth 100000 in
set_option maxHeartbeats 4000000 in
set_option maxRecDepth 100000 in
theorem t_Mod_openOne_e {p : Program} {l : Launch} {e : Env} {R : Room} {s : State} {m : MethodId} {args : Array Value} {below : List Frame} {meth : Method} {c : Code} {cells slots : Nat} {Q : State → Prop} {dC : Nat → ClassId} {dI : Nat → Nat → Nat} {cI cB cJ cZ : ClassId} {A : Nat → Prop} {ad : Nat → Nat} {post : Int32 → St → Prop} (hx : p.tables.exec = Jvm.exec) (hb : c.code = b_Mod_openOne) (hml : c.maxLocals = 1) (hown : s.vm.findClass R_Mod = some m.cls) (hT : ∀ w ∈ TG, w.before args s = true) (hK : va_K (dC, dI) CL (TY cI cB cJ cZ) s) (hN : NW s) (hA : ∀ q : Nat, s.heap.size ≤ q → A q) (hRc : cells ≤ R.cells) (hRs : slots ≤ R.slots) (hRf : 2 ≤ R.frames) (hRl : 49 ≤ R.locals) (hret : ∀ (r : Int32) (x : St) (H : Heap) (locs : List Loc) (pc : Nat) (ls : Array Slot), decode b_Mod_openOne pc = .ok (.ireturn, 1) → post r x → Wd dC dI cI cB cJ cZ ad stM kcM 115 A x H → va_S A s.heap H locs → W p l e R s m args below meth c H locs cells slots Q (F0 m pc ls [.int r])) : ∀  (x : St) (H : Heap) (locs : List Loc) (ls : Array Slot), wp_Mod_openOne post  x → Wd dC dI cI cB cJ cZ ad stM kcM 115 A x H → va_S A s.heap H locs → lv_has ls 1 [(0, .ref (ad 0))] → W p l e R s m args below meth c H locs cells slots Q (F0 m 0 ls []) := by
  intro  x H locs ls  hw hW hS hl
  unfold wp_Mod_openOne at hw
  refine lv_aload_n hx hb d_Mod_openOne_0 rfl (lv_at hl 0 rfl) ?_
  refine lv_iconst (v := 0) hx hb d_Mod_openOne_1 (by decide) ?_
  have hF := hW.free hS hA
  refine va_callv (va_runV (C := R_Mod) (As := [.int 0]) (rest := []) ⟨hx, hb, hml, hown, hT⟩ (k_Mod_readTold l dC dI cI cB cJ cZ ad H.size 0 x  hw) ⟨callB_of 1 hT (gwt_in w_12_144) rfl rfl rfl (hT _ w_1_15) (hT _ w_12_141) (by decide +kernel) ⟨Nat.le_trans (Nat.le_of_ble_eq_true rfl) hRf, Nat.le_trans (Nat.le_of_ble_eq_true rfl) hRl⟩, hT _ w_12_143, hT _ ws_191⟩ ⟨PW.blind, va_recv hK hW.1 (ci := 12) (q0 := 0) rfl (pic_obj ko_0.1 ko_0.2 (by decide)), PW.at _ hW hK hN⟩ rfl rfl hl.1 rfl (lv_room (Nat.le_of_ble_eq_true rfl)) d_Mod_openOne_2 ⟨hRc, hRs⟩) hS (fun q _ h => hF q h) hF (fun  x1060 t H locs ht hvm hw hB hz1 hk1 hS => ?_)
  have hW := Wd.back hB ht hF
  clear hB ht hF hz1 hk1 hvm
  refine lv_aload_n hx hb d_Mod_openOne_5 rfl (lv_at hl 0 rfl) ?_
  refine w_geti (k := 69) (t := 12) (C := R_Mod) (T := F_Mod) (N := 167) hx hb hT hown hK hW ko_0.1 ko_0.2 (by decide) in_Mod rfl rfl (by decide) rfl fr_Mod_69 w_9_5 d_Mod_openOne_6 ?_
  refine lv_if_eq (tgt := 14) hx hb d_Mod_openOne_9 (by decide) (fun c1061 => ?_) (fun c1061 => ?_)
  · have hw := hw.1 c1061
    refine lv_aload_n hx hb d_Mod_openOne_14 rfl (lv_at hl 0 rfl) ?_
    refine lv_aload_n hx hb d_Mod_openOne_15 rfl (lv_at hl 0 rfl) ?_
    refine w_geti (k := 38) (t := 12) (C := R_Mod) (T := F_Mod) (N := 167) hx hb hT hown hK hW ko_0.1 ko_0.2 (by decide) in_Mod rfl rfl (by decide) rfl fr_Mod_38 w_8_214 d_Mod_openOne_16 ?_
    refine lv_iconst (v := 3) hx hb d_Mod_openOne_19 (by decide) ?_
    refine lv_icmp_ne (tgt := 27) hx hb d_Mod_openOne_20 (by decide) (fun c1062 => ?_) (fun c1062 => ?_)
    · have hw := hw.1 c1062
      refine lv_aload_n hx hb d_Mod_openOne_27 rfl (lv_at hl 0 rfl) ?_
      refine w_getf (q := 47) (k := 75) (t := 12) (C := R_Mod) (T := F_Mod) (N := 167) hx hb hT hown hK hW ko_0.1 ko_0.2 (by decide) in_Mod rfl rfl (by decide) rfl fr_Mod_75 w_9_11 d_Mod_openOne_28 rfl ?_
      refine lv_iconst (v := 0) hx hb d_Mod_openOne_31 (by decide) ?_
      obtain ⟨hi, hw⟩ := hw
      refine w_lald (o := 47) hx hb hK hW ko_47.1 ko_47.2 hi d_Mod_openOne_32 ?_
      exact t_Mod_openOne_33 hx hb hml hown hT hK hN hA hRc hRs hRf hRl hret  (rL x1060 47 0) x1060 H locs ls  hw hW hS (lv_sub hl [0] rfl)
    · have hw := hw.2 c1062
      refine lv_lconst (v := 0) hx hb d_Mod_openOne_23 (by decide) ?_
      refine lv_goto (tgt := 33) hx hb d_Mod_openOne_24 (by decide) ?_
      exact t_Mod_openOne_33 hx hb hml hown hT hK hN hA hRc hRs hRf hRl hret  0 x1060 H locs ls  hw hW hS (lv_sub hl [0] rfl)
  · have hw := hw.2 c1061
    refine lv_iconst (v := (-1)) hx hb d_Mod_openOne_12 (by decide) ?_
    exact hret (-1) x1060 H locs 13 ls d_Mod_openOne_13 hw hW hS
set_option maxHeartbeats 4000000 in
set_option maxRecDepth 100000 in
theorem k_Mod_openOne (l : Launch) (dC : Nat → ClassId) (dI : Nat → Nat → Nat) (cI cB cJ cZ : ClassId) (ad : Nat → Nat) (sz : Nat)  (x : St) {post : Int32 → St → Prop} (hw : wp_Mod_openOne post  x) : Met l y_Mod_openOne (wsOf y_Mod_openOne b_Mod_openOne 1 (some (.int))) ({ frames := 2, cells := 0, slots := 0, locals := 49 }) (va_Pc [.ref (ad 0)] (PW dC dI cI cB cJ cZ ad stM kcM 115 sz x)) (va_Qi (fun (r : Int32) (y : St) => post r y) (fun y t => Wd dC dI cI cB cJ cZ ad stM kcM 115 (va_A (pic ad stM kcM 115 cI cB cJ cZ x) sz) y t.heap) (va_A (pic ad stM kcM 115 cI cB cJ cZ x) sz)) 0 0 (va_A (pic ad stM kcM 115 cI cB cJ cZ x) sz) := by
  refine Met.ofW (cc := b_Mod_openOne) (maxL := 1) (ret := some (.int)) (by decide) rfl ?_
  intro p e s m args below meth c s₁ B hml hv
  obtain ⟨rfl, hsz, hW0, hK, hN⟩ := hv
  have hx := B.exec
  have hb := B.bytes
  have hr := B.returns
  have hts := atoms_spec B.pre
  have hT : ∀ w ∈ TG, w.before _ s = true := fun w h => hts w (List.mem_cons_of_mem _ h)
  have hown : s.vm.findClass R_Mod = some m.cls := findClass_of_methodNamed B.named
  have hlocks := B.notSynchronized
  subst hsz
  have hW : Wd dC dI cI cB cJ cZ ad stM kcM 115 (va_A (pic ad stM kcM 115 cI cB cJ cZ x) s.heap.size) x s.heap := ⟨hW0.1, hW0.2.1.self (sz := s.heap.size), hW0.2.2⟩
  generalize hAe : va_A (pic ad stM kcM 115 cI cB cJ cZ x) s.heap.size = A at hW ⊢
  have hA : ∀ q : Nat, s.heap.size ≤ q → A q := fun q h => by rw [← hAe]; exact Or.inr h
  have hS : va_S A s.heap s.heap [] := va_S.rf
  have hl := lv_entry ([.ref (ad 0)]) (n := 1) (Nat.le_of_ble_eq_true rfl)
  rw [lg_entry_eq]
  generalize (lg_sl ([.ref (ad 0)]) ++ List.replicate (1 - (lg_sl ([.ref (ad 0)])).length) Slot.unset).toArray = ls at hl ⊢
  have hl : lv_has ls 1 [(0, .ref (ad 0))] := hl
  exact t_Mod_openOne_e hx hb hml hown hT hK hN hA (Nat.le_refl 0) (Nat.le_refl 0) (Nat.le_refl 2) (Nat.le_refl 49) (fun r x H locs pc ls hd hp hW hS => W.iret (v := r) hx hb hr (fun t ht hM => ⟨⟨r, x, rfl, hp, Wd.back hW ht.symm (fun _ z => z)⟩, hS.F ht⟩) hS.2.2 hd hlocks)   x _ _ ls  hw hW hS hl
set_option maxRecDepth 100000 in
set_option maxHeartbeats 4000000 in
set_option maxRecDepth 100000 in
theorem t_Mod_openTold_250 {p : Program} {l : Launch} {e : Env} {R : Room} {s : State} {m : MethodId} {args : Array Value} {below : List Frame} {meth : Method} {c : Code} {cells slots : Nat} {Q : State → Prop} {dC : Nat → ClassId} {dI : Nat → Nat → Nat} {cI cB cJ cZ : ClassId} {A : Nat → Prop} {ad : Nat → Nat} {post : St → Prop} (hx : p.tables.exec = Jvm.exec) (hb : c.code = b_Mod_openTold) (hml : c.maxLocals = 10) (hown : s.vm.findClass R_Mod = some m.cls) (hT : ∀ w ∈ TG, w.before args s = true) (hK : va_K (dC, dI) CL (TY cI cB cJ cZ) s) (hN : NW s) (hA : ∀ q : Nat, s.heap.size ≤ q → A q) (hRc : cells ≤ R.cells) (hRs : slots ≤ R.slots) (hRf : 3 ≤ R.frames) (hRl : 69 ≤ R.locals) (hret : ∀ (x : St) (H : Heap) (locs : List Loc) (pc : Nat) (ls : Array Slot), decode b_Mod_openTold pc = .ok (.return_, 1) → post x → Wd dC dI cI cB cJ cZ ad stM kcM 115 A x H → va_S A s.heap H locs → W p l e R s m args below meth c H locs cells slots Q (F0 m pc ls []))  : ∀ (l1 : Int32) (l2 : Int32) (l3 : Int32) (l4 : Int64) (l6 : Int64) (l8 : Int64) (s0 : Int32) (s1 : Int32) (s2 : Nat) (x : St) (H : Heap) (locs : List Loc) (ls : Array Slot), (s2 < 115 ∧ kcM s2 = 20) → j_Mod_openTold_250 post l1 l2 l3 l4 l6 l8 s0 s1 s2 x → Wd dC dI cI cB cJ cZ ad stM kcM 115 A x H → va_S A s.heap H locs → lv_has ls 10 [(0, .ref (ad 0)), (1, .int l1), (2, .int l2), (3, .int l3), (4, .long l4), (6, .long l6), (8, .long l8)] → W p l e R s m args below meth c H locs cells slots Q (F0 m 250 ls [.int s0, .int s1, .ref (ad s2)]) := by
  intro l1 l2 l3 l4 l6 l8 s0 s1 s2 x H locs ls fs2 hw hW hS hl
  unfold j_Mod_openTold_250 at hw
  obtain ⟨hi, hw⟩ := hw
  refine w_iast (o := s2) hx hb hK hW hS fs2.1 fs2.2 hi d_Mod_openTold_250 (fun H locs hW hS => ?_)
  obtain ⟨x1063, ex1063⟩ : ∃ y : St, y = setA x s2 s1 s0 := ⟨_, rfl⟩
  rw [← ex1063] at hW
  have hw := hw x1063 ex1063
  exact hret x1063 H locs 251 ls d_Mod_openTold_251 hw hW hS
set_option maxRecDepth 100000 in
set_option maxHeartbeats 4000000 in
set_option maxRecDepth 100000 in
theorem t_Mod_openTold_167 {p : Program} {l : Launch} {e : Env} {R : Room} {s : State} {m : MethodId} {args : Array Value} {below : List Frame} {meth : Method} {c : Code} {cells slots : Nat} {Q : State → Prop} {dC : Nat → ClassId} {dI : Nat → Nat → Nat} {cI cB cJ cZ : ClassId} {A : Nat → Prop} {ad : Nat → Nat} {post : St → Prop} (hx : p.tables.exec = Jvm.exec) (hb : c.code = b_Mod_openTold) (hml : c.maxLocals = 10) (hown : s.vm.findClass R_Mod = some m.cls) (hT : ∀ w ∈ TG, w.before args s = true) (hK : va_K (dC, dI) CL (TY cI cB cJ cZ) s) (hN : NW s) (hA : ∀ q : Nat, s.heap.size ≤ q → A q) (hRc : cells ≤ R.cells) (hRs : slots ≤ R.slots) (hRf : 3 ≤ R.frames) (hRl : 69 ≤ R.locals) (hret : ∀ (x : St) (H : Heap) (locs : List Loc) (pc : Nat) (ls : Array Slot), decode b_Mod_openTold pc = .ok (.return_, 1) → post x → Wd dC dI cI cB cJ cZ ad stM kcM 115 A x H → va_S A s.heap H locs → W p l e R s m args below meth c H locs cells slots Q (F0 m pc ls []))  : ∀ (l1 : Int32) (l2 : Int32) (l3 : Int32) (l4 : Int64) (l6 : Int64) (l8 : Int64) (s0 : Int32) (s1 : Int32) (s2 : Nat) (x : St) (H : Heap) (locs : List Loc) (ls : Array Slot), (s2 < 115 ∧ kcM s2 = 20) → j_Mod_openTold_167 post l1 l2 l3 l4 l6 l8 s0 s1 s2 x → Wd dC dI cI cB cJ cZ ad stM kcM 115 A x H → va_S A s.heap H locs → lv_has ls 10 [(0, .ref (ad 0)), (1, .int l1), (2, .int l2), (3, .int l3), (4, .long l4), (6, .long l6), (8, .long l8)] → W p l e R s m args below meth c H locs cells slots Q (F0 m 167 ls [.int s0, .int s1, .ref (ad s2)]) := by
  intro l1 l2 l3 l4 l6 l8 s0 s1 s2 x H locs ls fs2 hw hW hS hl
  unfold j_Mod_openTold_167 at hw
  obtain ⟨hi, hw⟩ := hw
  refine w_iast (o := s2) hx hb hK hW hS fs2.1 fs2.2 hi d_Mod_openTold_167 (fun H locs hW hS => ?_)
  obtain ⟨x1064, ex1064⟩ : ∃ y : St, y = setA x s2 s1 s0 := ⟨_, rfl⟩
  rw [← ex1064] at hW
  have hw := hw x1064 ex1064
  refine lv_aload_n hx hb d_Mod_openTold_168 rfl (lv_at hl 0 rfl) ?_
  refine w_getf (q := 63) (k := 100) (t := 12) (C := R_Mod) (T := F_Mod) (N := 167) hx hb hT hown hK hW ko_0.1 ko_0.2 (by decide) in_Mod rfl rfl (by decide) rfl fr_Mod_100 w_9_36 d_Mod_openTold_169 rfl ?_
  refine lv_iload_n hx hb d_Mod_openTold_172 rfl (lv_at hl 1 rfl) ?_
  refine lv_iconst (v := (-1)) hx hb d_Mod_openTold_173 (by decide) ?_
  obtain ⟨hi, hw⟩ := hw
  refine w_iast (o := 63) hx hb hK hW hS ko_63.1 ko_63.2 hi d_Mod_openTold_174 (fun H locs hW hS => ?_)
  obtain ⟨x1065, ex1065⟩ : ∃ y : St, y = setA x1064 63 l1 (-1) := ⟨_, rfl⟩
  rw [← ex1065] at hW
  have hw := hw x1065 ex1065
  refine lv_aload_n hx hb d_Mod_openTold_175 rfl (lv_at hl 0 rfl) ?_
  refine w_getf (q := 64) (k := 101) (t := 12) (C := R_Mod) (T := F_Mod) (N := 167) hx hb hT hown hK hW ko_0.1 ko_0.2 (by decide) in_Mod rfl rfl (by decide) rfl fr_Mod_101 w_9_37 d_Mod_openTold_176 rfl ?_
  refine lv_iload_n hx hb d_Mod_openTold_179 rfl (lv_at hl 1 rfl) ?_
  refine lv_iconst (v := (-1)) hx hb d_Mod_openTold_180 (by decide) ?_
  obtain ⟨hi, hw⟩ := hw
  refine w_iast (o := 64) hx hb hK hW hS ko_64.1 ko_64.2 hi d_Mod_openTold_181 (fun H locs hW hS => ?_)
  obtain ⟨x1066, ex1066⟩ : ∃ y : St, y = setA x1065 64 l1 (-1) := ⟨_, rfl⟩
  rw [← ex1066] at hW
  have hw := hw x1066 ex1066
  refine lv_aload_n hx hb d_Mod_openTold_182 rfl (lv_at hl 0 rfl) ?_
  refine w_geti (k := 69) (t := 12) (C := R_Mod) (T := F_Mod) (N := 167) hx hb hT hown hK hW ko_0.1 ko_0.2 (by decide) in_Mod rfl rfl (by decide) rfl fr_Mod_69 w_9_5 d_Mod_openTold_183 ?_
  refine lv_if_ne (tgt := 204) hx hb d_Mod_openTold_186 (by decide) (fun c1067 => ?_) (fun c1067 => ?_)
  · have hw := hw.1 c1067
    exact hret x1066 H locs 204 ls d_Mod_openTold_204 hw hW hS
  · have hw := hw.2 c1067
    refine lv_aload_n hx hb d_Mod_openTold_189 rfl (lv_at hl 0 rfl) ?_
    refine w_getf (q := 62) (k := 99) (t := 12) (C := R_Mod) (T := F_Mod) (N := 167) hx hb hT hown hK hW ko_0.1 ko_0.2 (by decide) in_Mod rfl rfl (by decide) rfl fr_Mod_99 w_9_35 d_Mod_openTold_190 rfl ?_
    refine lv_iload_n hx hb d_Mod_openTold_193 rfl (lv_at hl 1 rfl) ?_
    obtain ⟨hi, hw⟩ := hw
    refine w_iald (o := 62) hx hb hK hW ko_62.1 ko_62.2 hi d_Mod_openTold_194 ?_
    refine lv_aload_n hx hb d_Mod_openTold_195 rfl (lv_at hl 0 rfl) ?_
    refine w_getf (q := 61) (k := 98) (t := 12) (C := R_Mod) (T := F_Mod) (N := 167) hx hb hT hown hK hW ko_0.1 ko_0.2 (by decide) in_Mod rfl rfl (by decide) rfl fr_Mod_98 w_9_34 d_Mod_openTold_196 rfl ?_
    refine lv_iload_n hx hb d_Mod_openTold_199 rfl (lv_at hl 1 rfl) ?_
    obtain ⟨hi, hw⟩ := hw
    refine w_iald (o := 61) hx hb hK hW ko_61.1 ko_61.2 hi d_Mod_openTold_200 ?_
    refine lv_icmp_ne (tgt := 205) hx hb d_Mod_openTold_201 (by decide) (fun c1068 => ?_) (fun c1068 => ?_)
    · have hw := hw.1 c1068
      refine lv_aload_n hx hb d_Mod_openTold_205 rfl (lv_at hl 0 rfl) ?_
      refine lv_aload_n hx hb d_Mod_openTold_206 rfl (lv_at hl 0 rfl) ?_
      refine lv_iconst (v := 1) hx hb d_Mod_openTold_207 (by decide) ?_
      refine lv_iload_n hx hb d_Mod_openTold_208 rfl (lv_at hl 2 rfl) ?_
      have hF := hW.free hS hA
      refine va_calli (va_runV (C := R_Mod) (As := [.int 1, .int l2]) (rest := [.ref (ad 0)]) ⟨hx, hb, hml, hown, hT⟩ (k_Mod_typeOf l dC dI cI cB cJ cZ ad H.size 1 l2 x1066  hw) ⟨callB_of 2 hT (gwt_in w_11_158) rfl rfl rfl (hT _ w_1_15) (hT _ w_11_155) (by decide +kernel) ⟨Nat.le_trans (Nat.le_of_ble_eq_true rfl) hRf, Nat.le_trans (Nat.le_of_ble_eq_true rfl) hRl⟩, hT _ w_11_157, hT _ ws_144⟩ ⟨PW.blind, va_recv hK hW.1 (ci := 12) (q0 := 0) rfl (pic_obj ko_0.1 ko_0.2 (by decide)), PW.at _ hW hK hN⟩ rfl rfl hl.1 rfl (lv_room (Nat.le_of_ble_eq_true rfl)) d_Mod_openTold_209 ⟨hRc, hRs⟩) hS (fun q _ h => hF q h) hF (fun r1070 x1069 t H locs ht hvm hw hB hz1 hk1 hS => ?_)
      have hW := Wd.back hB ht hF
      clear hB ht hF hz1 hk1 hvm
      refine w_puti (ty := .int) (k := 38) (t := 12) (C := R_Mod) (T := F_Mod) (N := 167) hx hb hT hown hK hW hS ko_0.1 ko_0.2 (by decide) in_Mod t_Mod t_Mod_ok n_Mod rfl rfl (by decide) rfl fr_Mod_38 w_8_214 (by decide +kernel) rfl rfl d_Mod_openTold_212 (fun H locs hW hS => ?_)
      obtain ⟨x1071, ex1071⟩ : ∃ y : St, y = setI x1069 0 38 r1070 := ⟨_, rfl⟩
      rw [← ex1071] at hW
      have hw := hw x1071 ex1071
      refine lv_aload_n hx hb d_Mod_openTold_215 rfl (lv_at hl 0 rfl) ?_
      refine lv_iload_n hx hb d_Mod_openTold_216 rfl (lv_at hl 3 rfl) ?_
      refine w_puti (ty := .int) (k := 68) (t := 12) (C := R_Mod) (T := F_Mod) (N := 167) hx hb hT hown hK hW hS ko_0.1 ko_0.2 (by decide) in_Mod t_Mod t_Mod_ok n_Mod rfl rfl (by decide) rfl fr_Mod_68 w_9_4 (by decide +kernel) rfl rfl d_Mod_openTold_217 (fun H locs hW hS => ?_)
      obtain ⟨x1072, ex1072⟩ : ∃ y : St, y = setI x1071 0 68 l3 := ⟨_, rfl⟩
      rw [← ex1072] at hW
      have hw := hw x1072 ex1072
      refine lv_aload_n hx hb d_Mod_openTold_220 rfl (lv_at hl 0 rfl) ?_
      refine w_getf (q := 63) (k := 100) (t := 12) (C := R_Mod) (T := F_Mod) (N := 167) hx hb hT hown hK hW ko_0.1 ko_0.2 (by decide) in_Mod rfl rfl (by decide) rfl fr_Mod_100 w_9_36 d_Mod_openTold_221 rfl ?_
      refine lv_iload_n hx hb d_Mod_openTold_224 rfl (lv_at hl 1 rfl) ?_
      refine lv_aload_n hx hb d_Mod_openTold_225 rfl (lv_at hl 0 rfl) ?_
      have hF := hW.free hS hA
      refine va_calli (va_runV (C := R_Mod) (As := []) (rest := [.int l1, .ref (ad 63)]) ⟨hx, hb, hml, hown, hT⟩ (k_Mod_openOne l dC dI cI cB cJ cZ ad H.size  x1072  hw) ⟨callB_of 0 hT (gwt_in w_12_140) rfl rfl rfl (hT _ w_1_15) (hT _ w_12_137) (by decide +kernel) ⟨Nat.le_trans (Nat.le_of_ble_eq_true rfl) hRf, Nat.le_trans (Nat.le_of_ble_eq_true rfl) hRl⟩, hT _ w_12_139, hT _ ws_190⟩ ⟨PW.blind, va_recv hK hW.1 (ci := 12) (q0 := 0) rfl (pic_obj ko_0.1 ko_0.2 (by decide)), PW.at _ hW hK hN⟩ rfl rfl hl.1 rfl (lv_room (Nat.le_of_ble_eq_true rfl)) d_Mod_openTold_226 ⟨hRc, hRs⟩) hS (fun q _ h => hF q h) hF (fun r1074 x1073 t H locs ht hvm hw hB hz1 hk1 hS => ?_)
      have hW := Wd.back hB ht hF
      clear hB ht hF hz1 hk1 hvm
      obtain ⟨hi, hw⟩ := hw
      refine w_iast (o := 63) hx hb hK hW hS ko_63.1 ko_63.2 hi d_Mod_openTold_229 (fun H locs hW hS => ?_)
      obtain ⟨x1075, ex1075⟩ : ∃ y : St, y = setA x1073 63 l1 r1074 := ⟨_, rfl⟩
      rw [← ex1075] at hW
      have hw := hw x1075 ex1075
      refine lv_aload_n hx hb d_Mod_openTold_230 rfl (lv_at hl 0 rfl) ?_
      refine w_getf (q := 64) (k := 101) (t := 12) (C := R_Mod) (T := F_Mod) (N := 167) hx hb hT hown hK hW ko_0.1 ko_0.2 (by decide) in_Mod rfl rfl (by decide) rfl fr_Mod_101 w_9_37 d_Mod_openTold_231 rfl ?_
      refine lv_iload_n hx hb d_Mod_openTold_234 rfl (lv_at hl 1 rfl) ?_
      refine lv_aload_n hx hb d_Mod_openTold_235 rfl (lv_at hl 0 rfl) ?_
      refine w_geti (k := 69) (t := 12) (C := R_Mod) (T := F_Mod) (N := 167) hx hb hT hown hK hW ko_0.1 ko_0.2 (by decide) in_Mod rfl rfl (by decide) rfl fr_Mod_69 w_9_5 d_Mod_openTold_236 ?_
      refine lv_if_ne (tgt := 249) hx hb d_Mod_openTold_239 (by decide) (fun c1076 => ?_) (fun c1076 => ?_)
      · have hw := hw.1 c1076
        refine lv_iconst (v := (-1)) hx hb d_Mod_openTold_249 (by decide) ?_
        exact t_Mod_openTold_250 hx hb hml hown hT hK hN hA hRc hRs hRf hRl hret  l1 l2 l3 l4 l6 l8 (-1) l1 64 x1075 H locs ls ko_64 hw hW hS (lv_sub hl [0, 1, 2, 3, 4, 5, 6] rfl)
      · have hw := hw.2 c1076
        refine lv_aload_n hx hb d_Mod_openTold_242 rfl (lv_at hl 0 rfl) ?_
        have hF := hW.free hS hA
        refine va_calli (va_runV (C := R_Mod) (As := []) (rest := [.int l1, .ref (ad 64)]) ⟨hx, hb, hml, hown, hT⟩ (k_Mod_openOne l dC dI cI cB cJ cZ ad H.size  x1075  hw) ⟨callB_of 0 hT (gwt_in w_12_140) rfl rfl rfl (hT _ w_1_15) (hT _ w_12_137) (by decide +kernel) ⟨Nat.le_trans (Nat.le_of_ble_eq_true rfl) hRf, Nat.le_trans (Nat.le_of_ble_eq_true rfl) hRl⟩, hT _ w_12_139, hT _ ws_190⟩ ⟨PW.blind, va_recv hK hW.1 (ci := 12) (q0 := 0) rfl (pic_obj ko_0.1 ko_0.2 (by decide)), PW.at _ hW hK hN⟩ rfl rfl hl.1 rfl (lv_room (Nat.le_of_ble_eq_true rfl)) d_Mod_openTold_243 ⟨hRc, hRs⟩) hS (fun q _ h => hF q h) hF (fun r1078 x1077 t H locs ht hvm hw hB hz1 hk1 hS => ?_)
        have hW := Wd.back hB ht hF
        clear hB ht hF hz1 hk1 hvm
        refine lv_goto (tgt := 250) hx hb d_Mod_openTold_246 (by decide) ?_
        exact t_Mod_openTold_250 hx hb hml hown hT hK hN hA hRc hRs hRf hRl hret  l1 l2 l3 l4 l6 l8 r1078 l1 64 x1077 H locs ls ko_64 hw hW hS (lv_sub hl [0, 1, 2, 3, 4, 5, 6] rfl)
    · have hw := hw.2 c1068
      exact hret x1066 H locs 204 ls d_Mod_openTold_204 hw hW hS
set_option maxRecDepth 100000 in
set_option maxHeartbeats 4000000 in
set_option maxRecDepth 100000 in
theorem t_Mod_openTold_143 {p : Program} {l : Launch} {e : Env} {R : Room} {s : State} {m : MethodId} {args : Array Value} {below : List Frame} {meth : Method} {c : Code} {cells slots : Nat} {Q : State → Prop} {dC : Nat → ClassId} {dI : Nat → Nat → Nat} {cI cB cJ cZ : ClassId} {A : Nat → Prop} {ad : Nat → Nat} {post : St → Prop} (hx : p.tables.exec = Jvm.exec) (hb : c.code = b_Mod_openTold) (hml : c.maxLocals = 10) (hown : s.vm.findClass R_Mod = some m.cls) (hT : ∀ w ∈ TG, w.before args s = true) (hK : va_K (dC, dI) CL (TY cI cB cJ cZ) s) (hN : NW s) (hA : ∀ q : Nat, s.heap.size ≤ q → A q) (hRc : cells ≤ R.cells) (hRs : slots ≤ R.slots) (hRf : 3 ≤ R.frames) (hRl : 69 ≤ R.locals) (hret : ∀ (x : St) (H : Heap) (locs : List Loc) (pc : Nat) (ls : Array Slot), decode b_Mod_openTold pc = .ok (.return_, 1) → post x → Wd dC dI cI cB cJ cZ ad stM kcM 115 A x H → va_S A s.heap H locs → W p l e R s m args below meth c H locs cells slots Q (F0 m pc ls []))  : ∀ (l1 : Int32) (l2 : Int32) (l3 : Int32) (l4 : Int64) (l6 : Int64) (l8 : Int64) (s0 : Int32) (x : St) (H : Heap) (locs : List Loc) (ls : Array Slot), j_Mod_openTold_143 post l1 l2 l3 l4 l6 l8 s0 x → Wd dC dI cI cB cJ cZ ad stM kcM 115 A x H → va_S A s.heap H locs → lv_has ls 10 [(0, .ref (ad 0)), (1, .int l1), (2, .int l2), (3, .int l3), (4, .long l4), (6, .long l6), (8, .long l8)] → W p l e R s m args below meth c H locs cells slots Q (F0 m 143 ls [.int s0, .ref (ad 0)]) := by
  intro l1 l2 l3 l4 l6 l8 s0 x H locs ls  hw hW hS hl
  unfold j_Mod_openTold_143 at hw
  refine lv_bipush (v := 7) hx hb d_Mod_openTold_143 (by decide) ?_
  have hF := hW.free hS hA
  refine va_callv (va_runV (C := R_Mod) (As := [.int s0, .int 7]) (rest := []) ⟨hx, hb, hml, hown, hT⟩ (k_Mod_faults l dC dI cI cB cJ cZ ad H.size s0 7 x  hw) ⟨callB_of 2 hT (gwt_in w_12_107) rfl rfl rfl (hT _ w_1_15) (hT _ w_12_104) (by decide +kernel) ⟨Nat.le_trans (Nat.le_of_ble_eq_true rfl) hRf, Nat.le_trans (Nat.le_of_ble_eq_true rfl) hRl⟩, hT _ w_12_106, hT _ ws_183⟩ ⟨PW.blind, va_recv hK hW.1 (ci := 12) (q0 := 0) rfl (pic_obj ko_0.1 ko_0.2 (by decide)), PW.at _ hW hK hN⟩ rfl rfl hl.1 rfl (lv_room (Nat.le_of_ble_eq_true rfl)) d_Mod_openTold_145 ⟨hRc, hRs⟩) hS (fun q _ h => hF q h) hF (fun  x1079 t H locs ht hvm hw hB hz1 hk1 hS => ?_)
  have hW := Wd.back hB ht hF
  clear hB ht hF hz1 hk1 hvm
  refine lv_aload_n hx hb d_Mod_openTold_148 rfl (lv_at hl 0 rfl) ?_
  refine w_getf (q := 62) (k := 99) (t := 12) (C := R_Mod) (T := F_Mod) (N := 167) hx hb hT hown hK hW ko_0.1 ko_0.2 (by decide) in_Mod rfl rfl (by decide) rfl fr_Mod_99 w_9_35 d_Mod_openTold_149 rfl ?_
  refine lv_iload_n hx hb d_Mod_openTold_152 rfl (lv_at hl 1 rfl) ?_
  refine lv_aload_n hx hb d_Mod_openTold_153 rfl (lv_at hl 0 rfl) ?_
  refine w_geti (k := 69) (t := 12) (C := R_Mod) (T := F_Mod) (N := 167) hx hb hT hown hK hW ko_0.1 ko_0.2 (by decide) in_Mod rfl rfl (by decide) rfl fr_Mod_69 w_9_5 d_Mod_openTold_154 ?_
  refine lv_if_ne (tgt := 166) hx hb d_Mod_openTold_157 (by decide) (fun c1080 => ?_) (fun c1080 => ?_)
  · have hw := hw.1 c1080
    refine lv_iconst (v := 0) hx hb d_Mod_openTold_166 (by decide) ?_
    exact t_Mod_openTold_167 hx hb hml hown hT hK hN hA hRc hRs hRf hRl hret  l1 l2 l3 l4 l6 l8 0 l1 62 x1079 H locs ls ko_62 hw hW hS (lv_sub hl [0, 1, 2, 3, 4, 5, 6] rfl)
  · have hw := hw.2 c1080
    refine lv_lload hx hb d_Mod_openTold_160 (lv_at hl 6 rfl) ?_
    refine lv_l2i hx hb d_Mod_openTold_162 rfl ?_
    refine lv_goto (tgt := 167) hx hb d_Mod_openTold_163 (by decide) ?_
    exact t_Mod_openTold_167 hx hb hml hown hT hK hN hA hRc hRs hRf hRl hret  l1 l2 l3 l4 l6 l8 (l8 : Int64).toInt32 l1 62 x1079 H locs ls ko_62 hw hW hS (lv_sub hl [0, 1, 2, 3, 4, 5, 6] rfl)
set_option maxRecDepth 100000 in
set_option maxHeartbeats 4000000 in
set_option maxRecDepth 100000 in
theorem t_Mod_openTold_138 {p : Program} {l : Launch} {e : Env} {R : Room} {s : State} {m : MethodId} {args : Array Value} {below : List Frame} {meth : Method} {c : Code} {cells slots : Nat} {Q : State → Prop} {dC : Nat → ClassId} {dI : Nat → Nat → Nat} {cI cB cJ cZ : ClassId} {A : Nat → Prop} {ad : Nat → Nat} {post : St → Prop} (hx : p.tables.exec = Jvm.exec) (hb : c.code = b_Mod_openTold) (hml : c.maxLocals = 10) (hown : s.vm.findClass R_Mod = some m.cls) (hT : ∀ w ∈ TG, w.before args s = true) (hK : va_K (dC, dI) CL (TY cI cB cJ cZ) s) (hN : NW s) (hA : ∀ q : Nat, s.heap.size ≤ q → A q) (hRc : cells ≤ R.cells) (hRs : slots ≤ R.slots) (hRf : 3 ≤ R.frames) (hRl : 69 ≤ R.locals) (hret : ∀ (x : St) (H : Heap) (locs : List Loc) (pc : Nat) (ls : Array Slot), decode b_Mod_openTold pc = .ok (.return_, 1) → post x → Wd dC dI cI cB cJ cZ ad stM kcM 115 A x H → va_S A s.heap H locs → W p l e R s m args below meth c H locs cells slots Q (F0 m pc ls []))  : ∀ (l1 : Int32) (l2 : Int32) (l3 : Int32) (l4 : Int64) (l6 : Int64) (l8 : Int64) (x : St) (H : Heap) (locs : List Loc) (ls : Array Slot), j_Mod_openTold_138 post l1 l2 l3 l4 l6 l8 x → Wd dC dI cI cB cJ cZ ad stM kcM 115 A x H → va_S A s.heap H locs → lv_has ls 10 [(0, .ref (ad 0)), (1, .int l1), (2, .int l2), (3, .int l3), (4, .long l4), (6, .long l6), (8, .long l8)] → W p l e R s m args below meth c H locs cells slots Q (F0 m 138 ls [.ref (ad 0)]) := by
  intro l1 l2 l3 l4 l6 l8 x H locs ls  hw hW hS hl
  unfold j_Mod_openTold_138 at hw
  refine lv_iconst (v := 1) hx hb d_Mod_openTold_138 (by decide) ?_
  refine lv_goto (tgt := 143) hx hb d_Mod_openTold_139 (by decide) ?_
  exact t_Mod_openTold_143 hx hb hml hown hT hK hN hA hRc hRs hRf hRl hret  l1 l2 l3 l4 l6 l8 1 x H locs ls  hw hW hS (lv_sub hl [0, 1, 2, 3, 4, 5, 6] rfl)
set_option maxRecDepth 100000 in
set_option maxHeartbeats 4000000 in
set_option maxRecDepth 100000 in
theorem t_Mod_openTold_93 {p : Program} {l : Launch} {e : Env} {R : Room} {s : State} {m : MethodId} {args : Array Value} {below : List Frame} {meth : Method} {c : Code} {cells slots : Nat} {Q : State → Prop} {dC : Nat → ClassId} {dI : Nat → Nat → Nat} {cI cB cJ cZ : ClassId} {A : Nat → Prop} {ad : Nat → Nat} {post : St → Prop} (hx : p.tables.exec = Jvm.exec) (hb : c.code = b_Mod_openTold) (hml : c.maxLocals = 10) (hown : s.vm.findClass R_Mod = some m.cls) (hT : ∀ w ∈ TG, w.before args s = true) (hK : va_K (dC, dI) CL (TY cI cB cJ cZ) s) (hN : NW s) (hA : ∀ q : Nat, s.heap.size ≤ q → A q) (hRc : cells ≤ R.cells) (hRs : slots ≤ R.slots) (hRf : 3 ≤ R.frames) (hRl : 69 ≤ R.locals) (hret : ∀ (x : St) (H : Heap) (locs : List Loc) (pc : Nat) (ls : Array Slot), decode b_Mod_openTold pc = .ok (.return_, 1) → post x → Wd dC dI cI cB cJ cZ ad stM kcM 115 A x H → va_S A s.heap H locs → W p l e R s m args below meth c H locs cells slots Q (F0 m pc ls []))  : ∀ (l1 : Int32) (l2 : Int32) (l3 : Int32) (l4 : Int64) (l6 : Int64) (s0 : Int32) (s1 : Int32) (s2 : Nat) (x : St) (H : Heap) (locs : List Loc) (ls : Array Slot), (s2 < 115 ∧ kcM s2 = 20) → j_Mod_openTold_93 post l1 l2 l3 l4 l6 s0 s1 s2 x → Wd dC dI cI cB cJ cZ ad stM kcM 115 A x H → va_S A s.heap H locs → lv_has ls 10 [(0, .ref (ad 0)), (1, .int l1), (2, .int l2), (3, .int l3), (4, .long l4), (6, .long l6)] → W p l e R s m args below meth c H locs cells slots Q (F0 m 93 ls [.int s0, .int s1, .ref (ad s2)]) := by
  intro l1 l2 l3 l4 l6 s0 s1 s2 x H locs ls fs2 hw hW hS hl
  unfold j_Mod_openTold_93 at hw
  obtain ⟨hi, hw⟩ := hw
  refine w_iast (o := s2) hx hb hK hW hS fs2.1 fs2.2 hi d_Mod_openTold_93 (fun H locs hW hS => ?_)
  obtain ⟨x1081, ex1081⟩ : ∃ y : St, y = setA x s2 s1 s0 := ⟨_, rfl⟩
  rw [← ex1081] at hW
  have hw := hw x1081 ex1081
  refine lv_aload_n hx hb d_Mod_openTold_94 rfl (lv_at hl 0 rfl) ?_
  refine w_getf (q := 61) (k := 98) (t := 12) (C := R_Mod) (T := F_Mod) (N := 167) hx hb hT hown hK hW ko_0.1 ko_0.2 (by decide) in_Mod rfl rfl (by decide) rfl fr_Mod_98 w_9_34 d_Mod_openTold_95 rfl ?_
  refine lv_iload_n hx hb d_Mod_openTold_98 rfl (lv_at hl 1 rfl) ?_
  refine lv_aload_n hx hb d_Mod_openTold_99 rfl (lv_at hl 0 rfl) ?_
  refine lv_iload_n hx hb d_Mod_openTold_100 rfl (lv_at hl 3 rfl) ?_
  refine lv_sipush (v := 10000) hx hb d_Mod_openTold_101 (by decide) ?_
  refine lv_bipush (v := 16) hx hb d_Mod_openTold_104 (by decide) ?_
  have hF := hW.free hS hA
  refine va_calli (va_runV (C := R_Mod) (As := [.int l3, .int 10000, .int 16]) (rest := [.int l1, .ref (ad 61)]) ⟨hx, hb, hml, hown, hT⟩ (k_Mod_number4 l dC dI cI cB cJ cZ ad H.size l3 10000 16 x1081  hw) ⟨callB_of 3 hT (gwt_in w_12_120) rfl rfl rfl (hT _ w_1_15) (hT _ w_12_117) (by decide +kernel) ⟨Nat.le_trans (Nat.le_of_ble_eq_true rfl) hRf, Nat.le_trans (Nat.le_of_ble_eq_true rfl) hRl⟩, hT _ w_12_119, hT _ ws_186⟩ ⟨PW.blind, va_recv hK hW.1 (ci := 12) (q0 := 0) rfl (pic_obj ko_0.1 ko_0.2 (by decide)), PW.at _ hW hK hN⟩ rfl rfl hl.1 rfl (lv_room (Nat.le_of_ble_eq_true rfl)) d_Mod_openTold_106 ⟨hRc, hRs⟩) hS (fun q _ h => hF q h) hF (fun r1083 x1082 t H locs ht hvm hw hB hz1 hk1 hS => ?_)
  have hW := Wd.back hB ht hF
  clear hB ht hF hz1 hk1 hvm
  obtain ⟨hi, hw⟩ := hw
  refine w_iast (o := 61) hx hb hK hW hS ko_61.1 ko_61.2 hi d_Mod_openTold_109 (fun H locs hW hS => ?_)
  obtain ⟨x1084, ex1084⟩ : ∃ y : St, y = setA x1082 61 l1 r1083 := ⟨_, rfl⟩
  rw [← ex1084] at hW
  have hw := hw x1084 ex1084
  refine lv_aload_n hx hb d_Mod_openTold_110 rfl (lv_at hl 0 rfl) ?_
  refine lv_iload_n hx hb d_Mod_openTold_111 rfl (lv_at hl 3 rfl) ?_
  have hF := hW.free hS hA
  refine va_calll (va_runV (C := R_Mod) (As := [.int l3]) (rest := []) ⟨hx, hb, hml, hown, hT⟩ (k_Mod_varint l dC dI cI cB cJ cZ ad H.size l3 x1084  hw) ⟨callB_of 1 hT (gwt_in w_12_124) rfl rfl rfl (hT _ w_1_15) (hT _ w_12_121) (by decide +kernel) ⟨Nat.le_trans (Nat.le_of_ble_eq_true rfl) hRf, Nat.le_trans (Nat.le_of_ble_eq_true rfl) hRl⟩, hT _ w_12_123, hT _ ws_187⟩ ⟨PW.blind, va_recv hK hW.1 (ci := 12) (q0 := 0) rfl (pic_obj ko_0.1 ko_0.2 (by decide)), PW.at _ hW hK hN⟩ rfl rfl hl.1 rfl (lv_room (Nat.le_of_ble_eq_true rfl)) d_Mod_openTold_112 ⟨hRc, hRs⟩) hS (fun q _ h => hF q h) hF (fun r1086 x1085 t H locs ht hvm hw hB hz1 hk1 hS => ?_)
  have hW := Wd.back hB ht hF
  clear hB ht hF hz1 hk1 hvm
  refine lv_lstore (lv' := [(8, .long r1086), (0, .ref (ad 0)), (1, .int l1), (2, .int l2), (3, .int l3), (4, .long l4), (6, .long l6)]) hx hb d_Mod_openTold_115 hl (by decide) rfl (fun ls hl => ?_)
  refine lv_aload_n hx hb d_Mod_openTold_117 rfl (lv_at hl 1 rfl) ?_
  refine lv_lload hx hb d_Mod_openTold_118 (lv_at hl 0 rfl) ?_
  refine lv_lconst (v := 0) hx hb d_Mod_openTold_120 (by decide) ?_
  refine W.lcmp hx hb d_Mod_openTold_121 ?_
  refine lv_if_lt (tgt := 138) hx hb d_Mod_openTold_122 (by decide) (fun c1087 => ?_) (fun c1087 => ?_)
  · have hw := hw.1 c1087
    exact t_Mod_openTold_138 hx hb hml hown hT hK hN hA hRc hRs hRf hRl hret  l1 l2 l3 l4 l6 r1086 x1085 H locs ls  hw hW hS (lv_sub hl [1, 2, 3, 4, 5, 6, 0] rfl)
  · have hw := hw.2 c1087
    refine lv_lload hx hb d_Mod_openTold_125 (lv_at hl 0 rfl) ?_
    refine lv_aload_n hx hb d_Mod_openTold_127 rfl (lv_at hl 1 rfl) ?_
    refine w_getf (q := 61) (k := 98) (t := 12) (C := R_Mod) (T := F_Mod) (N := 167) hx hb hT hown hK hW ko_0.1 ko_0.2 (by decide) in_Mod rfl rfl (by decide) rfl fr_Mod_98 w_9_34 d_Mod_openTold_128 rfl ?_
    refine lv_iload_n hx hb d_Mod_openTold_131 rfl (lv_at hl 2 rfl) ?_
    obtain ⟨hi, hw⟩ := hw
    refine w_iald (o := 61) hx hb hK hW ko_61.1 ko_61.2 hi d_Mod_openTold_132 ?_
    refine lv_i2l hx hb d_Mod_openTold_133 rfl ?_
    refine W.lcmp hx hb d_Mod_openTold_134 ?_
    refine lv_if_le (tgt := 142) hx hb d_Mod_openTold_135 (by decide) (fun c1088 => ?_) (fun c1088 => ?_)
    · have hw := hw.1 c1088
      refine lv_iconst (v := 0) hx hb d_Mod_openTold_142 (by decide) ?_
      exact t_Mod_openTold_143 hx hb hml hown hT hK hN hA hRc hRs hRf hRl hret  l1 l2 l3 l4 l6 r1086 0 x1085 H locs ls  hw hW hS (lv_sub hl [1, 2, 3, 4, 5, 6, 0] rfl)
    · have hw := hw.2 c1088
      exact t_Mod_openTold_138 hx hb hml hown hT hK hN hA hRc hRs hRf hRl hret  l1 l2 l3 l4 l6 r1086 x1085 H locs ls  hw hW hS (lv_sub hl [1, 2, 3, 4, 5, 6, 0] rfl)
set_option maxRecDepth 100000 in
set_option maxHeartbeats 4000000 in
set_option maxRecDepth 100000 in
theorem t_Mod_openTold_84 {p : Program} {l : Launch} {e : Env} {R : Room} {s : State} {m : MethodId} {args : Array Value} {below : List Frame} {meth : Method} {c : Code} {cells slots : Nat} {Q : State → Prop} {dC : Nat → ClassId} {dI : Nat → Nat → Nat} {cI cB cJ cZ : ClassId} {A : Nat → Prop} {ad : Nat → Nat} {post : St → Prop} (hx : p.tables.exec = Jvm.exec) (hb : c.code = b_Mod_openTold) (hml : c.maxLocals = 10) (hown : s.vm.findClass R_Mod = some m.cls) (hT : ∀ w ∈ TG, w.before args s = true) (hK : va_K (dC, dI) CL (TY cI cB cJ cZ) s) (hN : NW s) (hA : ∀ q : Nat, s.heap.size ≤ q → A q) (hRc : cells ≤ R.cells) (hRs : slots ≤ R.slots) (hRf : 3 ≤ R.frames) (hRl : 69 ≤ R.locals) (hret : ∀ (x : St) (H : Heap) (locs : List Loc) (pc : Nat) (ls : Array Slot), decode b_Mod_openTold pc = .ok (.return_, 1) → post x → Wd dC dI cI cB cJ cZ ad stM kcM 115 A x H → va_S A s.heap H locs → W p l e R s m args below meth c H locs cells slots Q (F0 m pc ls []))  : ∀ (l1 : Int32) (l2 : Int32) (l3 : Int32) (l4 : Int64) (l6 : Int64) (s0 : Int32) (s1 : Nat) (x : St) (H : Heap) (locs : List Loc) (ls : Array Slot), (s1 < 115 ∧ kcM s1 = 20) → j_Mod_openTold_84 post l1 l2 l3 l4 l6 s0 s1 x → Wd dC dI cI cB cJ cZ ad stM kcM 115 A x H → va_S A s.heap H locs → lv_has ls 10 [(0, .ref (ad 0)), (1, .int l1), (2, .int l2), (3, .int l3), (4, .long l4), (6, .long l6)] → W p l e R s m args below meth c H locs cells slots Q (F0 m 84 ls [.int s0, .ref (ad s1)]) := by
  intro l1 l2 l3 l4 l6 s0 s1 x H locs ls fs1 hw hW hS hl
  unfold j_Mod_openTold_84 at hw
  refine lv_ldcw hx hb hown (hT _ w_12_136) d_Mod_openTold_84 ?_
  refine lv_goto (tgt := 93) hx hb d_Mod_openTold_87 (by decide) ?_
  exact t_Mod_openTold_93 hx hb hml hown hT hK hN hA hRc hRs hRf hRl hret  l1 l2 l3 l4 l6 80000 s0 s1 x H locs ls fs1 hw hW hS (lv_sub hl [0, 1, 2, 3, 4, 5] rfl)
set_option maxRecDepth 100000 in
set_option maxHeartbeats 4000000 in
set_option maxRecDepth 100000 in
theorem t_Mod_openTold_58 {p : Program} {l : Launch} {e : Env} {R : Room} {s : State} {m : MethodId} {args : Array Value} {below : List Frame} {meth : Method} {c : Code} {cells slots : Nat} {Q : State → Prop} {dC : Nat → ClassId} {dI : Nat → Nat → Nat} {cI cB cJ cZ : ClassId} {A : Nat → Prop} {ad : Nat → Nat} {post : St → Prop} (hx : p.tables.exec = Jvm.exec) (hb : c.code = b_Mod_openTold) (hml : c.maxLocals = 10) (hown : s.vm.findClass R_Mod = some m.cls) (hT : ∀ w ∈ TG, w.before args s = true) (hK : va_K (dC, dI) CL (TY cI cB cJ cZ) s) (hN : NW s) (hA : ∀ q : Nat, s.heap.size ≤ q → A q) (hRc : cells ≤ R.cells) (hRs : slots ≤ R.slots) (hRf : 3 ≤ R.frames) (hRl : 69 ≤ R.locals) (hret : ∀ (x : St) (H : Heap) (locs : List Loc) (pc : Nat) (ls : Array Slot), decode b_Mod_openTold pc = .ok (.return_, 1) → post x → Wd dC dI cI cB cJ cZ ad stM kcM 115 A x H → va_S A s.heap H locs → W p l e R s m args below meth c H locs cells slots Q (F0 m pc ls []))  : ∀ (l1 : Int32) (l2 : Int32) (l3 : Int32) (l4 : Int64) (l6 : Int64) (s0 : Int32) (x : St) (H : Heap) (locs : List Loc) (ls : Array Slot), j_Mod_openTold_58 post l1 l2 l3 l4 l6 s0 x → Wd dC dI cI cB cJ cZ ad stM kcM 115 A x H → va_S A s.heap H locs → lv_has ls 10 [(0, .ref (ad 0)), (1, .int l1), (2, .int l2), (3, .int l3), (4, .long l4), (6, .long l6)] → W p l e R s m args below meth c H locs cells slots Q (F0 m 58 ls [.int s0, .ref (ad 0)]) := by
  intro l1 l2 l3 l4 l6 s0 x H locs ls  hw hW hS hl
  unfold j_Mod_openTold_58 at hw
  refine lv_bipush (v := 18) hx hb d_Mod_openTold_58 (by decide) ?_
  have hF := hW.free hS hA
  refine va_callv (va_runV (C := R_Mod) (As := [.int s0, .int 18]) (rest := []) ⟨hx, hb, hml, hown, hT⟩ (k_Mod_faults l dC dI cI cB cJ cZ ad H.size s0 18 x  hw) ⟨callB_of 2 hT (gwt_in w_12_107) rfl rfl rfl (hT _ w_1_15) (hT _ w_12_104) (by decide +kernel) ⟨Nat.le_trans (Nat.le_of_ble_eq_true rfl) hRf, Nat.le_trans (Nat.le_of_ble_eq_true rfl) hRl⟩, hT _ w_12_106, hT _ ws_183⟩ ⟨PW.blind, va_recv hK hW.1 (ci := 12) (q0 := 0) rfl (pic_obj ko_0.1 ko_0.2 (by decide)), PW.at _ hW hK hN⟩ rfl rfl hl.1 rfl (lv_room (Nat.le_of_ble_eq_true rfl)) d_Mod_openTold_60 ⟨hRc, hRs⟩) hS (fun q _ h => hF q h) hF (fun  x1089 t H locs ht hvm hw hB hz1 hk1 hS => ?_)
  have hW := Wd.back hB ht hF
  clear hB ht hF hz1 hk1 hvm
  refine lv_aload_n hx hb d_Mod_openTold_63 rfl (lv_at hl 0 rfl) ?_
  refine w_getf (q := 51) (k := 79) (t := 12) (C := R_Mod) (T := F_Mod) (N := 167) hx hb hT hown hK hW ko_0.1 ko_0.2 (by decide) in_Mod rfl rfl (by decide) rfl fr_Mod_79 w_9_15 d_Mod_openTold_64 rfl ?_
  refine lv_iload_n hx hb d_Mod_openTold_67 rfl (lv_at hl 1 rfl) ?_
  refine lv_lload hx hb d_Mod_openTold_68 (lv_at hl 5 rfl) ?_
  refine lv_lconst (v := 0) hx hb d_Mod_openTold_70 (by decide) ?_
  refine W.lcmp hx hb d_Mod_openTold_71 ?_
  refine lv_if_lt (tgt := 84) hx hb d_Mod_openTold_72 (by decide) (fun c1090 => ?_) (fun c1090 => ?_)
  · have hw := hw.1 c1090
    exact t_Mod_openTold_84 hx hb hml hown hT hK hN hA hRc hRs hRf hRl hret  l1 l2 l3 l4 l6 l1 51 x1089 H locs ls ko_51 hw hW hS (lv_sub hl [0, 1, 2, 3, 4, 5] rfl)
  · have hw := hw.2 c1090
    refine lv_lload hx hb d_Mod_openTold_75 (lv_at hl 5 rfl) ?_
    refine lv_ldc2 hx hb hown (hT _ w_12_135) d_Mod_openTold_77 ?_
    refine W.lcmp hx hb d_Mod_openTold_80 ?_
    refine lv_if_le (tgt := 90) hx hb d_Mod_openTold_81 (by decide) (fun c1091 => ?_) (fun c1091 => ?_)
    · have hw := hw.1 c1091
      refine lv_lload hx hb d_Mod_openTold_90 (lv_at hl 5 rfl) ?_
      refine lv_l2i hx hb d_Mod_openTold_92 rfl ?_
      exact t_Mod_openTold_93 hx hb hml hown hT hK hN hA hRc hRs hRf hRl hret  l1 l2 l3 l4 l6 (l6 : Int64).toInt32 l1 51 x1089 H locs ls ko_51 hw hW hS (lv_sub hl [0, 1, 2, 3, 4, 5] rfl)
    · have hw := hw.2 c1091
      exact t_Mod_openTold_84 hx hb hml hown hT hK hN hA hRc hRs hRf hRl hret  l1 l2 l3 l4 l6 l1 51 x1089 H locs ls ko_51 hw hW hS (lv_sub hl [0, 1, 2, 3, 4, 5] rfl)
set_option maxRecDepth 100000 in
set_option maxHeartbeats 4000000 in
set_option maxRecDepth 100000 in
theorem t_Mod_openTold_37 {p : Program} {l : Launch} {e : Env} {R : Room} {s : State} {m : MethodId} {args : Array Value} {below : List Frame} {meth : Method} {c : Code} {cells slots : Nat} {Q : State → Prop} {dC : Nat → ClassId} {dI : Nat → Nat → Nat} {cI cB cJ cZ : ClassId} {A : Nat → Prop} {ad : Nat → Nat} {post : St → Prop} (hx : p.tables.exec = Jvm.exec) (hb : c.code = b_Mod_openTold) (hml : c.maxLocals = 10) (hown : s.vm.findClass R_Mod = some m.cls) (hT : ∀ w ∈ TG, w.before args s = true) (hK : va_K (dC, dI) CL (TY cI cB cJ cZ) s) (hN : NW s) (hA : ∀ q : Nat, s.heap.size ≤ q → A q) (hRc : cells ≤ R.cells) (hRs : slots ≤ R.slots) (hRf : 3 ≤ R.frames) (hRl : 69 ≤ R.locals) (hret : ∀ (x : St) (H : Heap) (locs : List Loc) (pc : Nat) (ls : Array Slot), decode b_Mod_openTold pc = .ok (.return_, 1) → post x → Wd dC dI cI cB cJ cZ ad stM kcM 115 A x H → va_S A s.heap H locs → W p l e R s m args below meth c H locs cells slots Q (F0 m pc ls []))  : ∀ (l1 : Int32) (l2 : Int32) (l3 : Int32) (l4 : Int64) (s0 : Int32) (s1 : Int32) (s2 : Nat) (x : St) (H : Heap) (locs : List Loc) (ls : Array Slot), (s2 < 115 ∧ kcM s2 = 20) → j_Mod_openTold_37 post l1 l2 l3 l4 s0 s1 s2 x → Wd dC dI cI cB cJ cZ ad stM kcM 115 A x H → va_S A s.heap H locs → lv_has ls 10 [(0, .ref (ad 0)), (1, .int l1), (2, .int l2), (3, .int l3), (4, .long l4)] → W p l e R s m args below meth c H locs cells slots Q (F0 m 37 ls [.int s0, .int s1, .ref (ad s2)]) := by
  intro l1 l2 l3 l4 s0 s1 s2 x H locs ls fs2 hw hW hS hl
  unfold j_Mod_openTold_37 at hw
  obtain ⟨hi, hw⟩ := hw
  refine w_iast (o := s2) hx hb hK hW hS fs2.1 fs2.2 hi d_Mod_openTold_37 (fun H locs hW hS => ?_)
  obtain ⟨x1092, ex1092⟩ : ∃ y : St, y = setA x s2 s1 s0 := ⟨_, rfl⟩
  rw [← ex1092] at hW
  have hw := hw x1092 ex1092
  refine lv_aload_n hx hb d_Mod_openTold_38 rfl (lv_at hl 0 rfl) ?_
  refine lv_iload_n hx hb d_Mod_openTold_39 rfl (lv_at hl 3 rfl) ?_
  have hF := hW.free hS hA
  refine va_calll (va_runV (C := R_Mod) (As := [.int l3]) (rest := []) ⟨hx, hb, hml, hown, hT⟩ (k_Mod_varint l dC dI cI cB cJ cZ ad H.size l3 x1092  hw) ⟨callB_of 1 hT (gwt_in w_12_124) rfl rfl rfl (hT _ w_1_15) (hT _ w_12_121) (by decide +kernel) ⟨Nat.le_trans (Nat.le_of_ble_eq_true rfl) hRf, Nat.le_trans (Nat.le_of_ble_eq_true rfl) hRl⟩, hT _ w_12_123, hT _ ws_187⟩ ⟨PW.blind, va_recv hK hW.1 (ci := 12) (q0 := 0) rfl (pic_obj ko_0.1 ko_0.2 (by decide)), PW.at _ hW hK hN⟩ rfl rfl hl.1 rfl (lv_room (Nat.le_of_ble_eq_true rfl)) d_Mod_openTold_40 ⟨hRc, hRs⟩) hS (fun q _ h => hF q h) hF (fun r1094 x1093 t H locs ht hvm hw hB hz1 hk1 hS => ?_)
  have hW := Wd.back hB ht hF
  clear hB ht hF hz1 hk1 hvm
  refine lv_lstore (lv' := [(6, .long r1094), (0, .ref (ad 0)), (1, .int l1), (2, .int l2), (3, .int l3), (4, .long l4)]) hx hb d_Mod_openTold_43 hl (by decide) rfl (fun ls hl => ?_)
  refine lv_aload_n hx hb d_Mod_openTold_45 rfl (lv_at hl 1 rfl) ?_
  refine lv_lload hx hb d_Mod_openTold_46 (lv_at hl 0 rfl) ?_
  refine lv_lconst (v := 0) hx hb d_Mod_openTold_48 (by decide) ?_
  refine W.lcmp hx hb d_Mod_openTold_49 ?_
  refine lv_if_ne (tgt := 57) hx hb d_Mod_openTold_50 (by decide) (fun c1095 => ?_) (fun c1095 => ?_)
  · have hw := hw.1 c1095
    refine lv_iconst (v := 0) hx hb d_Mod_openTold_57 (by decide) ?_
    exact t_Mod_openTold_58 hx hb hml hown hT hK hN hA hRc hRs hRf hRl hret  l1 l2 l3 l4 r1094 0 x1093 H locs ls  hw hW hS (lv_sub hl [1, 2, 3, 4, 5, 0] rfl)
  · have hw := hw.2 c1095
    refine lv_iconst (v := 1) hx hb d_Mod_openTold_53 (by decide) ?_
    refine lv_goto (tgt := 58) hx hb d_Mod_openTold_54 (by decide) ?_
    exact t_Mod_openTold_58 hx hb hml hown hT hK hN hA hRc hRs hRf hRl hret  l1 l2 l3 l4 r1094 1 x1093 H locs ls  hw hW hS (lv_sub hl [1, 2, 3, 4, 5, 0] rfl)
set_option maxRecDepth 100000 in
set_option maxHeartbeats 4000000 in
set_option maxRecDepth 100000 in
theorem t_Mod_openTold_28 {p : Program} {l : Launch} {e : Env} {R : Room} {s : State} {m : MethodId} {args : Array Value} {below : List Frame} {meth : Method} {c : Code} {cells slots : Nat} {Q : State → Prop} {dC : Nat → ClassId} {dI : Nat → Nat → Nat} {cI cB cJ cZ : ClassId} {A : Nat → Prop} {ad : Nat → Nat} {post : St → Prop} (hx : p.tables.exec = Jvm.exec) (hb : c.code = b_Mod_openTold) (hml : c.maxLocals = 10) (hown : s.vm.findClass R_Mod = some m.cls) (hT : ∀ w ∈ TG, w.before args s = true) (hK : va_K (dC, dI) CL (TY cI cB cJ cZ) s) (hN : NW s) (hA : ∀ q : Nat, s.heap.size ≤ q → A q) (hRc : cells ≤ R.cells) (hRs : slots ≤ R.slots) (hRf : 3 ≤ R.frames) (hRl : 69 ≤ R.locals) (hret : ∀ (x : St) (H : Heap) (locs : List Loc) (pc : Nat) (ls : Array Slot), decode b_Mod_openTold pc = .ok (.return_, 1) → post x → Wd dC dI cI cB cJ cZ ad stM kcM 115 A x H → va_S A s.heap H locs → W p l e R s m args below meth c H locs cells slots Q (F0 m pc ls []))  : ∀ (l1 : Int32) (l2 : Int32) (l3 : Int32) (l4 : Int64) (s0 : Int32) (s1 : Nat) (x : St) (H : Heap) (locs : List Loc) (ls : Array Slot), (s1 < 115 ∧ kcM s1 = 20) → j_Mod_openTold_28 post l1 l2 l3 l4 s0 s1 x → Wd dC dI cI cB cJ cZ ad stM kcM 115 A x H → va_S A s.heap H locs → lv_has ls 10 [(0, .ref (ad 0)), (1, .int l1), (2, .int l2), (3, .int l3), (4, .long l4)] → W p l e R s m args below meth c H locs cells slots Q (F0 m 28 ls [.int s0, .ref (ad s1)]) := by
  intro l1 l2 l3 l4 s0 s1 x H locs ls fs1 hw hW hS hl
  unfold j_Mod_openTold_28 at hw
  refine lv_ldcw hx hb hown (hT _ w_12_136) d_Mod_openTold_28 ?_
  refine lv_goto (tgt := 37) hx hb d_Mod_openTold_31 (by decide) ?_
  exact t_Mod_openTold_37 hx hb hml hown hT hK hN hA hRc hRs hRf hRl hret  l1 l2 l3 l4 80000 s0 s1 x H locs ls fs1 hw hW hS (lv_sub hl [0, 1, 2, 3, 4] rfl)
set_option maxRecDepth 100000 in
set_option maxHeartbeats 4000000 in
set_option maxRecDepth 100000 in
theorem t_Mod_openTold_e {p : Program} {l : Launch} {e : Env} {R : Room} {s : State} {m : MethodId} {args : Array Value} {below : List Frame} {meth : Method} {c : Code} {cells slots : Nat} {Q : State → Prop} {dC : Nat → ClassId} {dI : Nat → Nat → Nat} {cI cB cJ cZ : ClassId} {A : Nat → Prop} {ad : Nat → Nat} {post : St → Prop} (hx : p.tables.exec = Jvm.exec) (hb : c.code = b_Mod_openTold) (hml : c.maxLocals = 10) (hown : s.vm.findClass R_Mod = some m.cls) (hT : ∀ w ∈ TG, w.before args s = true) (hK : va_K (dC, dI) CL (TY cI cB cJ cZ) s) (hN : NW s) (hA : ∀ q : Nat, s.heap.size ≤ q → A q) (hRc : cells ≤ R.cells) (hRs : slots ≤ R.slots) (hRf : 3 ≤ R.frames) (hRl : 69 ≤ R.locals) (hret : ∀ (x : St) (H : Heap) (locs : List Loc) (pc : Nat) (ls : Array Slot), decode b_Mod_openTold pc = .ok (.return_, 1) → post x → Wd dC dI cI cB cJ cZ ad stM kcM 115 A x H → va_S A s.heap H locs → W p l e R s m args below meth c H locs cells slots Q (F0 m pc ls [])) : ∀ (l1 : Int32) (l2 : Int32) (l3 : Int32) (x : St) (H : Heap) (locs : List Loc) (ls : Array Slot), wp_Mod_openTold post l1 l2 l3 x → Wd dC dI cI cB cJ cZ ad stM kcM 115 A x H → va_S A s.heap H locs → lv_has ls 10 [(0, .ref (ad 0)), (1, .int l1), (2, .int l2), (3, .int l3)] → W p l e R s m args below meth c H locs cells slots Q (F0 m 0 ls []) := by
  intro l1 l2 l3 x H locs ls  hw hW hS hl
  unfold wp_Mod_openTold at hw
  refine lv_aload_n hx hb d_Mod_openTold_0 rfl (lv_at hl 0 rfl) ?_
  refine lv_iload_n hx hb d_Mod_openTold_1 rfl (lv_at hl 3 rfl) ?_
  have hF := hW.free hS hA
  refine va_calll (va_runV (C := R_Mod) (As := [.int l3]) (rest := []) ⟨hx, hb, hml, hown, hT⟩ (k_Mod_varint l dC dI cI cB cJ cZ ad H.size l3 x  hw) ⟨callB_of 1 hT (gwt_in w_12_124) rfl rfl rfl (hT _ w_1_15) (hT _ w_12_121) (by decide +kernel) ⟨Nat.le_trans (Nat.le_of_ble_eq_true rfl) hRf, Nat.le_trans (Nat.le_of_ble_eq_true rfl) hRl⟩, hT _ w_12_123, hT _ ws_187⟩ ⟨PW.blind, va_recv hK hW.1 (ci := 12) (q0 := 0) rfl (pic_obj ko_0.1 ko_0.2 (by decide)), PW.at _ hW hK hN⟩ rfl rfl hl.1 rfl (lv_room (Nat.le_of_ble_eq_true rfl)) d_Mod_openTold_2 ⟨hRc, hRs⟩) hS (fun q _ h => hF q h) hF (fun r1097 x1096 t H locs ht hvm hw hB hz1 hk1 hS => ?_)
  have hW := Wd.back hB ht hF
  clear hB ht hF hz1 hk1 hvm
  refine lv_lstore (lv' := [(4, .long r1097), (0, .ref (ad 0)), (1, .int l1), (2, .int l2), (3, .int l3)]) hx hb d_Mod_openTold_5 hl (by decide) rfl (fun ls hl => ?_)
  refine lv_aload_n hx hb d_Mod_openTold_7 rfl (lv_at hl 1 rfl) ?_
  refine w_getf (q := 50) (k := 78) (t := 12) (C := R_Mod) (T := F_Mod) (N := 167) hx hb hT hown hK hW ko_0.1 ko_0.2 (by decide) in_Mod rfl rfl (by decide) rfl fr_Mod_78 w_9_14 d_Mod_openTold_8 rfl ?_
  refine lv_iload_n hx hb d_Mod_openTold_11 rfl (lv_at hl 2 rfl) ?_
  refine lv_lload hx hb d_Mod_openTold_12 (lv_at hl 0 rfl) ?_
  refine lv_lconst (v := 0) hx hb d_Mod_openTold_14 (by decide) ?_
  refine W.lcmp hx hb d_Mod_openTold_15 ?_
  refine lv_if_lt (tgt := 28) hx hb d_Mod_openTold_16 (by decide) (fun c1098 => ?_) (fun c1098 => ?_)
  · have hw := hw.1 c1098
    exact t_Mod_openTold_28 hx hb hml hown hT hK hN hA hRc hRs hRf hRl hret  l1 l2 l3 r1097 l1 50 x1096 H locs ls ko_50 hw hW hS (lv_sub hl [1, 2, 3, 4, 0] rfl)
  · have hw := hw.2 c1098
    refine lv_lload hx hb d_Mod_openTold_19 (lv_at hl 0 rfl) ?_
    refine lv_ldc2 hx hb hown (hT _ w_12_135) d_Mod_openTold_21 ?_
    refine W.lcmp hx hb d_Mod_openTold_24 ?_
    refine lv_if_le (tgt := 34) hx hb d_Mod_openTold_25 (by decide) (fun c1099 => ?_) (fun c1099 => ?_)
    · have hw := hw.1 c1099
      refine lv_lload hx hb d_Mod_openTold_34 (lv_at hl 0 rfl) ?_
      refine lv_l2i hx hb d_Mod_openTold_36 rfl ?_
      exact t_Mod_openTold_37 hx hb hml hown hT hK hN hA hRc hRs hRf hRl hret  l1 l2 l3 r1097 (r1097 : Int64).toInt32 l1 50 x1096 H locs ls ko_50 hw hW hS (lv_sub hl [1, 2, 3, 4, 0] rfl)
    · have hw := hw.2 c1099
      exact t_Mod_openTold_28 hx hb hml hown hT hK hN hA hRc hRs hRf hRl hret  l1 l2 l3 r1097 l1 50 x1096 H locs ls ko_50 hw hW hS (lv_sub hl [1, 2, 3, 4, 0] rfl)
set_option maxHeartbeats 4000000 in
set_option maxRecDepth 100000 in
theorem k_Mod_openTold (l : Launch) (dC : Nat → ClassId) (dI : Nat → Nat → Nat) (cI cB cJ cZ : ClassId) (ad : Nat → Nat) (sz : Nat) (l1 : Int32) (l2 : Int32) (l3 : Int32) (x : St) {post : St → Prop} (hw : wp_Mod_openTold post l1 l2 l3 x) : Met l y_Mod_openTold (wsOf y_Mod_openTold b_Mod_openTold 10 (none)) ({ frames := 3, cells := 0, slots := 0, locals := 69 }) (va_Pc [.ref (ad 0), .int l1, .int l2, .int l3] (PW dC dI cI cB cJ cZ ad stM kcM 115 sz x)) (va_Qv (fun (y : St) => post y) (fun y t => Wd dC dI cI cB cJ cZ ad stM kcM 115 (va_A (pic ad stM kcM 115 cI cB cJ cZ x) sz) y t.heap) (va_A (pic ad stM kcM 115 cI cB cJ cZ x) sz)) 0 0 (va_A (pic ad stM kcM 115 cI cB cJ cZ x) sz) := by
  refine Met.ofW (cc := b_Mod_openTold) (maxL := 10) (ret := none) (by decide) rfl ?_
  intro p e s m args below meth c s₁ B hml hv
  obtain ⟨rfl, hsz, hW0, hK, hN⟩ := hv
  have hx := B.exec
  have hb := B.bytes
  have hr := B.returns
  have hts := atoms_spec B.pre
  have hT : ∀ w ∈ TG, w.before _ s = true := fun w h => hts w (List.mem_cons_of_mem _ h)
  have hown : s.vm.findClass R_Mod = some m.cls := findClass_of_methodNamed B.named
  have hlocks := B.notSynchronized
  subst hsz
  have hW : Wd dC dI cI cB cJ cZ ad stM kcM 115 (va_A (pic ad stM kcM 115 cI cB cJ cZ x) s.heap.size) x s.heap := ⟨hW0.1, hW0.2.1.self (sz := s.heap.size), hW0.2.2⟩
  generalize hAe : va_A (pic ad stM kcM 115 cI cB cJ cZ x) s.heap.size = A at hW ⊢
  have hA : ∀ q : Nat, s.heap.size ≤ q → A q := fun q h => by rw [← hAe]; exact Or.inr h
  have hS : va_S A s.heap s.heap [] := va_S.rf
  have hl := lv_entry ([.ref (ad 0), .int l1, .int l2, .int l3]) (n := 10) (Nat.le_of_ble_eq_true rfl)
  rw [lg_entry_eq]
  generalize (lg_sl ([.ref (ad 0), .int l1, .int l2, .int l3]) ++ List.replicate (10 - (lg_sl ([.ref (ad 0), .int l1, .int l2, .int l3])).length) Slot.unset).toArray = ls at hl ⊢
  have hl : lv_has ls 10 [(0, .ref (ad 0)), (1, .int l1), (2, .int l2), (3, .int l3)] := hl
  exact t_Mod_openTold_e hx hb hml hown hT hK hN hA (Nat.le_refl 0) (Nat.le_refl 0) (Nat.le_refl 3) (Nat.le_refl 69) (fun x H locs pc ls hd hp hW hS => W.vret hx hb hr (fun t ht hM => ⟨⟨x, rfl, hp, Wd.back hW ht.symm (fun _ z => z)⟩, hS.F ht⟩) hS.2.2 hd hlocks)  l1 l2 l3 x _ _ ls  hw hW hS hl
set_option maxRecDepth 100000 in
set_option maxHeartbeats 4000000 in
set_option maxRecDepth 100000 in
theorem t_Mod_openFooter_413 {p : Program} {l : Launch} {e : Env} {R : Room} {s : State} {m : MethodId} {args : Array Value} {below : List Frame} {meth : Method} {c : Code} {cells slots : Nat} {Q : State → Prop} {dC : Nat → ClassId} {dI : Nat → Nat → Nat} {cI cB cJ cZ : ClassId} {A : Nat → Prop} {ad : Nat → Nat} {post : St → Prop} (hx : p.tables.exec = Jvm.exec) (hb : c.code = b_Mod_openFooter) (hml : c.maxLocals = 12) (hown : s.vm.findClass R_Mod = some m.cls) (hT : ∀ w ∈ TG, w.before args s = true) (hK : va_K (dC, dI) CL (TY cI cB cJ cZ) s) (hN : NW s) (hA : ∀ q : Nat, s.heap.size ≤ q → A q) (hRc : cells ≤ R.cells) (hRs : slots ≤ R.slots) (hRf : 5 ≤ R.frames) (hRl : 122 ≤ R.locals) (hret : ∀ (x : St) (H : Heap) (locs : List Loc) (pc : Nat) (ls : Array Slot), decode b_Mod_openFooter pc = .ok (.return_, 1) → post x → Wd dC dI cI cB cJ cZ ad stM kcM 115 A x H → va_S A s.heap H locs → W p l e R s m args below meth c H locs cells slots Q (F0 m pc ls []))  : ∀ (l1 : Int32) (l2 : Int64) (l4 : Int32) (l5 : Int32) (l6 : Int32) (l7 : Int32) (l8 : Int64) (l10 : Int32) (s0 : Int32) (x : St) (H : Heap) (locs : List Loc) (ls : Array Slot), j_Mod_openFooter_413 post l1 l2 l4 l5 l6 l7 l8 l10 s0 x → Wd dC dI cI cB cJ cZ ad stM kcM 115 A x H → va_S A s.heap H locs → lv_has ls 12 [(0, .ref (ad 0)), (1, .int l1), (2, .long l2), (4, .int l4), (5, .int l5), (6, .int l6), (7, .int l7), (8, .long l8), (10, .int l10)] → W p l e R s m args below meth c H locs cells slots Q (F0 m 413 ls [.int s0, .ref (ad 0)]) := by
  intro l1 l2 l4 l5 l6 l7 l8 l10 s0 x H locs ls  hw hW hS hl
  unfold j_Mod_openFooter_413 at hw
  refine lv_bipush (v := 17) hx hb d_Mod_openFooter_413 (by decide) ?_
  have hF := hW.free hS hA
  refine va_callv (va_runV (C := R_Mod) (As := [.int s0, .int 17]) (rest := []) ⟨hx, hb, hml, hown, hT⟩ (k_Mod_faults l dC dI cI cB cJ cZ ad H.size s0 17 x  hw) ⟨callB_of 2 hT (gwt_in w_12_107) rfl rfl rfl (hT _ w_1_15) (hT _ w_12_104) (by decide +kernel) ⟨Nat.le_trans (Nat.le_of_ble_eq_true rfl) hRf, Nat.le_trans (Nat.le_of_ble_eq_true rfl) hRl⟩, hT _ w_12_106, hT _ ws_183⟩ ⟨PW.blind, va_recv hK hW.1 (ci := 12) (q0 := 0) rfl (pic_obj ko_0.1 ko_0.2 (by decide)), PW.at _ hW hK hN⟩ rfl rfl hl.1 rfl (lv_room (Nat.le_of_ble_eq_true rfl)) d_Mod_openFooter_415 ⟨hRc, hRs⟩) hS (fun q _ h => hF q h) hF (fun  x1100 t H locs ht hvm hw hB hz1 hk1 hS => ?_)
  have hW := Wd.back hB ht hF
  clear hB ht hF hz1 hk1 hvm
  exact hret x1100 H locs 418 ls d_Mod_openFooter_418 hw hW hS
set_option maxRecDepth 100000 in
set_option maxHeartbeats 4000000 in
set_option maxRecDepth 100000 in
theorem t_Mod_openFooter_393 {p : Program} {l : Launch} {e : Env} {R : Room} {s : State} {m : MethodId} {args : Array Value} {below : List Frame} {meth : Method} {c : Code} {cells slots : Nat} {Q : State → Prop} {dC : Nat → ClassId} {dI : Nat → Nat → Nat} {cI cB cJ cZ : ClassId} {A : Nat → Prop} {ad : Nat → Nat} {post : St → Prop} (hx : p.tables.exec = Jvm.exec) (hb : c.code = b_Mod_openFooter) (hml : c.maxLocals = 12) (hown : s.vm.findClass R_Mod = some m.cls) (hT : ∀ w ∈ TG, w.before args s = true) (hK : va_K (dC, dI) CL (TY cI cB cJ cZ) s) (hN : NW s) (hA : ∀ q : Nat, s.heap.size ≤ q → A q) (hRc : cells ≤ R.cells) (hRs : slots ≤ R.slots) (hRf : 5 ≤ R.frames) (hRl : 122 ≤ R.locals) (hret : ∀ (x : St) (H : Heap) (locs : List Loc) (pc : Nat) (ls : Array Slot), decode b_Mod_openFooter pc = .ok (.return_, 1) → post x → Wd dC dI cI cB cJ cZ ad stM kcM 115 A x H → va_S A s.heap H locs → W p l e R s m args below meth c H locs cells slots Q (F0 m pc ls []))  : ∀ (l1 : Int32) (l2 : Int64) (l4 : Int32) (l5 : Int32) (l6 : Int32) (l7 : Int32) (l8 : Int64) (l10 : Int32) (s0 : Int32) (x : St) (H : Heap) (locs : List Loc) (ls : Array Slot), j_Mod_openFooter_393 post l1 l2 l4 l5 l6 l7 l8 l10 s0 x → Wd dC dI cI cB cJ cZ ad stM kcM 115 A x H → va_S A s.heap H locs → lv_has ls 12 [(0, .ref (ad 0)), (1, .int l1), (2, .long l2), (4, .int l4), (5, .int l5), (6, .int l6), (7, .int l7), (8, .long l8), (10, .int l10)] → W p l e R s m args below meth c H locs cells slots Q (F0 m 393 ls [.int s0, .ref (ad 0)]) := by
  intro l1 l2 l4 l5 l6 l7 l8 l10 s0 x H locs ls  hw hW hS hl
  unfold j_Mod_openFooter_393 at hw
  refine lv_bipush (v := 6) hx hb d_Mod_openFooter_393 (by decide) ?_
  have hF := hW.free hS hA
  refine va_callv (va_runV (C := R_Mod) (As := [.int s0, .int 6]) (rest := []) ⟨hx, hb, hml, hown, hT⟩ (k_Mod_faults l dC dI cI cB cJ cZ ad H.size s0 6 x  hw) ⟨callB_of 2 hT (gwt_in w_12_107) rfl rfl rfl (hT _ w_1_15) (hT _ w_12_104) (by decide +kernel) ⟨Nat.le_trans (Nat.le_of_ble_eq_true rfl) hRf, Nat.le_trans (Nat.le_of_ble_eq_true rfl) hRl⟩, hT _ w_12_106, hT _ ws_183⟩ ⟨PW.blind, va_recv hK hW.1 (ci := 12) (q0 := 0) rfl (pic_obj ko_0.1 ko_0.2 (by decide)), PW.at _ hW hK hN⟩ rfl rfl hl.1 rfl (lv_room (Nat.le_of_ble_eq_true rfl)) d_Mod_openFooter_395 ⟨hRc, hRs⟩) hS (fun q _ h => hF q h) hF (fun  x1101 t H locs ht hvm hw hB hz1 hk1 hS => ?_)
  have hW := Wd.back hB ht hF
  clear hB ht hF hz1 hk1 hvm
  refine lv_aload_n hx hb d_Mod_openFooter_398 rfl (lv_at hl 0 rfl) ?_
  refine lv_lload hx hb d_Mod_openFooter_399 (lv_at hl 7 rfl) ?_
  refine lv_iload hx hb d_Mod_openFooter_401 (lv_at hl 4 rfl) ?_
  refine lv_i2l hx hb d_Mod_openFooter_403 rfl ?_
  refine W.lcmp hx hb d_Mod_openFooter_404 ?_
  refine lv_if_eq (tgt := 412) hx hb d_Mod_openFooter_405 (by decide) (fun c1102 => ?_) (fun c1102 => ?_)
  · have hw := hw.1 c1102
    refine lv_iconst (v := 0) hx hb d_Mod_openFooter_412 (by decide) ?_
    exact t_Mod_openFooter_413 hx hb hml hown hT hK hN hA hRc hRs hRf hRl hret  l1 l2 l4 l5 l6 l7 l8 l10 0 x1101 H locs ls  hw hW hS (lv_sub hl [0, 1, 2, 3, 4, 5, 6, 7, 8] rfl)
  · have hw := hw.2 c1102
    refine lv_iconst (v := 1) hx hb d_Mod_openFooter_408 (by decide) ?_
    refine lv_goto (tgt := 413) hx hb d_Mod_openFooter_409 (by decide) ?_
    exact t_Mod_openFooter_413 hx hb hml hown hT hK hN hA hRc hRs hRf hRl hret  l1 l2 l4 l5 l6 l7 l8 l10 1 x1101 H locs ls  hw hW hS (lv_sub hl [0, 1, 2, 3, 4, 5, 6, 7, 8] rfl)
set_option maxRecDepth 100000 in
set_option maxHeartbeats 4000000 in
set_option maxRecDepth 100000 in
theorem t_Mod_openFooter_373 {p : Program} {l : Launch} {e : Env} {R : Room} {s : State} {m : MethodId} {args : Array Value} {below : List Frame} {meth : Method} {c : Code} {cells slots : Nat} {Q : State → Prop} {dC : Nat → ClassId} {dI : Nat → Nat → Nat} {cI cB cJ cZ : ClassId} {A : Nat → Prop} {ad : Nat → Nat} {post : St → Prop} (hx : p.tables.exec = Jvm.exec) (hb : c.code = b_Mod_openFooter) (hml : c.maxLocals = 12) (hown : s.vm.findClass R_Mod = some m.cls) (hT : ∀ w ∈ TG, w.before args s = true) (hK : va_K (dC, dI) CL (TY cI cB cJ cZ) s) (hN : NW s) (hA : ∀ q : Nat, s.heap.size ≤ q → A q) (hRc : cells ≤ R.cells) (hRs : slots ≤ R.slots) (hRf : 5 ≤ R.frames) (hRl : 122 ≤ R.locals) (hret : ∀ (x : St) (H : Heap) (locs : List Loc) (pc : Nat) (ls : Array Slot), decode b_Mod_openFooter pc = .ok (.return_, 1) → post x → Wd dC dI cI cB cJ cZ ad stM kcM 115 A x H → va_S A s.heap H locs → W p l e R s m args below meth c H locs cells slots Q (F0 m pc ls []))  : ∀ (l1 : Int32) (l2 : Int64) (l4 : Int32) (l5 : Int32) (l6 : Int32) (l7 : Int32) (l8 : Int64) (l10 : Int32) (s0 : Int32) (x : St) (H : Heap) (locs : List Loc) (ls : Array Slot), j_Mod_openFooter_373 post l1 l2 l4 l5 l6 l7 l8 l10 s0 x → Wd dC dI cI cB cJ cZ ad stM kcM 115 A x H → va_S A s.heap H locs → lv_has ls 12 [(0, .ref (ad 0)), (1, .int l1), (2, .long l2), (4, .int l4), (5, .int l5), (6, .int l6), (7, .int l7), (8, .long l8), (10, .int l10)] → W p l e R s m args below meth c H locs cells slots Q (F0 m 373 ls [.int s0, .ref (ad 0)]) := by
  intro l1 l2 l4 l5 l6 l7 l8 l10 s0 x H locs ls  hw hW hS hl
  unfold j_Mod_openFooter_373 at hw
  refine lv_bipush (v := 16) hx hb d_Mod_openFooter_373 (by decide) ?_
  have hF := hW.free hS hA
  refine va_callv (va_runV (C := R_Mod) (As := [.int s0, .int 16]) (rest := []) ⟨hx, hb, hml, hown, hT⟩ (k_Mod_faults l dC dI cI cB cJ cZ ad H.size s0 16 x  hw) ⟨callB_of 2 hT (gwt_in w_12_107) rfl rfl rfl (hT _ w_1_15) (hT _ w_12_104) (by decide +kernel) ⟨Nat.le_trans (Nat.le_of_ble_eq_true rfl) hRf, Nat.le_trans (Nat.le_of_ble_eq_true rfl) hRl⟩, hT _ w_12_106, hT _ ws_183⟩ ⟨PW.blind, va_recv hK hW.1 (ci := 12) (q0 := 0) rfl (pic_obj ko_0.1 ko_0.2 (by decide)), PW.at _ hW hK hN⟩ rfl rfl hl.1 rfl (lv_room (Nat.le_of_ble_eq_true rfl)) d_Mod_openFooter_375 ⟨hRc, hRs⟩) hS (fun q _ h => hF q h) hF (fun  x1103 t H locs ht hvm hw hB hz1 hk1 hS => ?_)
  have hW := Wd.back hB ht hF
  clear hB ht hF hz1 hk1 hvm
  refine lv_aload_n hx hb d_Mod_openFooter_378 rfl (lv_at hl 0 rfl) ?_
  refine lv_aload_n hx hb d_Mod_openFooter_379 rfl (lv_at hl 0 rfl) ?_
  refine w_geti (k := 67) (t := 12) (C := R_Mod) (T := F_Mod) (N := 167) hx hb hT hown hK hW ko_0.1 ko_0.2 (by decide) in_Mod rfl rfl (by decide) rfl fr_Mod_67 w_9_3 d_Mod_openFooter_380 ?_
  refine lv_iload hx hb d_Mod_openFooter_383 (lv_at hl 5 rfl) ?_
  refine lv_icmp_ge (tgt := 392) hx hb d_Mod_openFooter_385 (by decide) (fun c1104 => ?_) (fun c1104 => ?_)
  · have hw := hw.1 c1104
    refine lv_iconst (v := 0) hx hb d_Mod_openFooter_392 (by decide) ?_
    exact t_Mod_openFooter_393 hx hb hml hown hT hK hN hA hRc hRs hRf hRl hret  l1 l2 l4 l5 l6 l7 l8 l10 0 x1103 H locs ls  hw hW hS (lv_sub hl [0, 1, 2, 3, 4, 5, 6, 7, 8] rfl)
  · have hw := hw.2 c1104
    refine lv_iconst (v := 1) hx hb d_Mod_openFooter_388 (by decide) ?_
    refine lv_goto (tgt := 393) hx hb d_Mod_openFooter_389 (by decide) ?_
    exact t_Mod_openFooter_393 hx hb hml hown hT hK hN hA hRc hRs hRf hRl hret  l1 l2 l4 l5 l6 l7 l8 l10 1 x1103 H locs ls  hw hW hS (lv_sub hl [0, 1, 2, 3, 4, 5, 6, 7, 8] rfl)
set_option maxRecDepth 100000 in
set_option maxHeartbeats 4000000 in
set_option maxRecDepth 100000 in
theorem t_Mod_openFooter_358 {p : Program} {l : Launch} {e : Env} {R : Room} {s : State} {m : MethodId} {args : Array Value} {below : List Frame} {meth : Method} {c : Code} {cells slots : Nat} {Q : State → Prop} {dC : Nat → ClassId} {dI : Nat → Nat → Nat} {cI cB cJ cZ : ClassId} {A : Nat → Prop} {ad : Nat → Nat} {post : St → Prop} (hx : p.tables.exec = Jvm.exec) (hb : c.code = b_Mod_openFooter) (hml : c.maxLocals = 12) (hown : s.vm.findClass R_Mod = some m.cls) (hT : ∀ w ∈ TG, w.before args s = true) (hK : va_K (dC, dI) CL (TY cI cB cJ cZ) s) (hN : NW s) (hA : ∀ q : Nat, s.heap.size ≤ q → A q) (hRc : cells ≤ R.cells) (hRs : slots ≤ R.slots) (hRf : 5 ≤ R.frames) (hRl : 122 ≤ R.locals) (hret : ∀ (x : St) (H : Heap) (locs : List Loc) (pc : Nat) (ls : Array Slot), decode b_Mod_openFooter pc = .ok (.return_, 1) → post x → Wd dC dI cI cB cJ cZ ad stM kcM 115 A x H → va_S A s.heap H locs → W p l e R s m args below meth c H locs cells slots Q (F0 m pc ls []))  : ∀ (l1 : Int32) (l2 : Int64) (l4 : Int32) (l5 : Int32) (l6 : Int32) (l7 : Int32) (l8 : Int64) (l10 : Int32) (x : St) (H : Heap) (locs : List Loc) (ls : Array Slot), j_Mod_openFooter_358 post l1 l2 l4 l5 l6 l7 l8 l10 x → Wd dC dI cI cB cJ cZ ad stM kcM 115 A x H → va_S A s.heap H locs → lv_has ls 12 [(0, .ref (ad 0)), (1, .int l1), (2, .long l2), (4, .int l4), (5, .int l5), (6, .int l6), (7, .int l7), (8, .long l8), (10, .int l10)] → W p l e R s m args below meth c H locs cells slots Q (F0 m 358 ls []) := by
  intro l1 l2 l4 l5 l6 l7 l8 l10 x H locs ls  hw hW hS hl
  unfold j_Mod_openFooter_358 at hw
  refine lv_aload_n hx hb d_Mod_openFooter_358 rfl (lv_at hl 0 rfl) ?_
  refine lv_iload hx hb d_Mod_openFooter_359 (lv_at hl 6 rfl) ?_
  refine lv_aload_n hx hb d_Mod_openFooter_361 rfl (lv_at hl 0 rfl) ?_
  refine w_geti (k := 84) (t := 12) (C := R_Mod) (T := F_Mod) (N := 167) hx hb hT hown hK hW ko_0.1 ko_0.2 (by decide) in_Mod rfl rfl (by decide) rfl fr_Mod_84 w_9_20 d_Mod_openFooter_362 ?_
  refine lv_icmp_eq (tgt := 372) hx hb d_Mod_openFooter_365 (by decide) (fun c1105 => ?_) (fun c1105 => ?_)
  · have hw := hw.1 c1105
    refine lv_iconst (v := 0) hx hb d_Mod_openFooter_372 (by decide) ?_
    exact t_Mod_openFooter_373 hx hb hml hown hT hK hN hA hRc hRs hRf hRl hret  l1 l2 l4 l5 l6 l7 l8 l10 0 x H locs ls  hw hW hS (lv_sub hl [0, 1, 2, 3, 4, 5, 6, 7, 8] rfl)
  · have hw := hw.2 c1105
    refine lv_iconst (v := 1) hx hb d_Mod_openFooter_368 (by decide) ?_
    refine lv_goto (tgt := 373) hx hb d_Mod_openFooter_369 (by decide) ?_
    exact t_Mod_openFooter_373 hx hb hml hown hT hK hN hA hRc hRs hRf hRl hret  l1 l2 l4 l5 l6 l7 l8 l10 1 x H locs ls  hw hW hS (lv_sub hl [0, 1, 2, 3, 4, 5, 6, 7, 8] rfl)
set_option maxRecDepth 100000 in
set_option maxHeartbeats 4000000 in
set_option maxRecDepth 100000 in
theorem t_Mod_openFooter_352 {p : Program} {l : Launch} {e : Env} {R : Room} {s : State} {m : MethodId} {args : Array Value} {below : List Frame} {meth : Method} {c : Code} {cells slots : Nat} {Q : State → Prop} {dC : Nat → ClassId} {dI : Nat → Nat → Nat} {cI cB cJ cZ : ClassId} {A : Nat → Prop} {ad : Nat → Nat} {post : St → Prop} {rec215 : Int32 → Int64 → Int32 → Int32 → Int32 → Int32 → Int64 → Int32 → St → Prop} (hx : p.tables.exec = Jvm.exec) (hb : c.code = b_Mod_openFooter) (hml : c.maxLocals = 12) (hown : s.vm.findClass R_Mod = some m.cls) (hT : ∀ w ∈ TG, w.before args s = true) (hK : va_K (dC, dI) CL (TY cI cB cJ cZ) s) (hN : NW s) (hA : ∀ q : Nat, s.heap.size ≤ q → A q) (hRc : cells ≤ R.cells) (hRs : slots ≤ R.slots) (hRf : 5 ≤ R.frames) (hRl : 122 ≤ R.locals) (hret : ∀ (x : St) (H : Heap) (locs : List Loc) (pc : Nat) (ls : Array Slot), decode b_Mod_openFooter pc = .ok (.return_, 1) → post x → Wd dC dI cI cB cJ cZ ad stM kcM 115 A x H → va_S A s.heap H locs → W p l e R s m args below meth c H locs cells slots Q (F0 m pc ls [])) (hrec215 : ∀ (l1 : Int32) (l2 : Int64) (l4 : Int32) (l5 : Int32) (l6 : Int32) (l7 : Int32) (l8 : Int64) (l10 : Int32) (x : St) (H : Heap) (locs : List Loc) (ls : Array Slot), rec215 l1 l2 l4 l5 l6 l7 l8 l10 x → Wd dC dI cI cB cJ cZ ad stM kcM 115 A x H → va_S A s.heap H locs → lv_has ls 12 [(0, .ref (ad 0)), (1, .int l1), (2, .long l2), (4, .int l4), (5, .int l5), (6, .int l6), (7, .int l7), (8, .long l8), (10, .int l10)] → W p l e R s m args below meth c H locs cells slots Q (F0 m 215 ls [])) : ∀ (l1 : Int32) (l2 : Int64) (l4 : Int32) (l5 : Int32) (l6 : Int32) (l7 : Int32) (l8 : Int64) (l10 : Int32) (l11 : Int32) (x : St) (H : Heap) (locs : List Loc) (ls : Array Slot), j_Mod_openFooter_352 post rec215 l1 l2 l4 l5 l6 l7 l8 l10 l11 x → Wd dC dI cI cB cJ cZ ad stM kcM 115 A x H → va_S A s.heap H locs → lv_has ls 12 [(0, .ref (ad 0)), (1, .int l1), (2, .long l2), (4, .int l4), (5, .int l5), (6, .int l6), (7, .int l7), (8, .long l8), (10, .int l10), (11, .int l11)] → W p l e R s m args below meth c H locs cells slots Q (F0 m 352 ls []) := by
  intro l1 l2 l4 l5 l6 l7 l8 l10 l11 x H locs ls  hw hW hS hl
  unfold j_Mod_openFooter_352 at hw
  refine lv_iinc (v := (l10 + 1)) (lv' := [(10, .int (l10 + 1)), (0, .ref (ad 0)), (1, .int l1), (2, .long l2), (4, .int l4), (5, .int l5), (6, .int l6), (7, .int l7), (8, .long l8), (11, .int l11)]) hx hb d_Mod_openFooter_352 hl (k := 8) rfl rfl (by decide) rfl (fun ls hl => ?_)
  refine lv_goto (tgt := 215) hx hb d_Mod_openFooter_355 (by decide) ?_
  exact hrec215 l1 l2 l4 l5 l6 l7 l8 (l10 + 1) x H locs ls  hw hW hS (lv_sub hl [1, 2, 3, 4, 5, 6, 7, 8, 0] rfl)
set_option maxRecDepth 100000 in
set_option maxHeartbeats 4000000 in
set_option maxRecDepth 100000 in
theorem t_Mod_openFooter_285 {p : Program} {l : Launch} {e : Env} {R : Room} {s : State} {m : MethodId} {args : Array Value} {below : List Frame} {meth : Method} {c : Code} {cells slots : Nat} {Q : State → Prop} {dC : Nat → ClassId} {dI : Nat → Nat → Nat} {cI cB cJ cZ : ClassId} {A : Nat → Prop} {ad : Nat → Nat} {post : St → Prop} {rec215 : Int32 → Int64 → Int32 → Int32 → Int32 → Int32 → Int64 → Int32 → St → Prop} {rec285 : Int32 → Int64 → Int32 → Int32 → Int32 → Int32 → Int64 → Int32 → Int32 → St → Prop} (hx : p.tables.exec = Jvm.exec) (hb : c.code = b_Mod_openFooter) (hml : c.maxLocals = 12) (hown : s.vm.findClass R_Mod = some m.cls) (hT : ∀ w ∈ TG, w.before args s = true) (hK : va_K (dC, dI) CL (TY cI cB cJ cZ) s) (hN : NW s) (hA : ∀ q : Nat, s.heap.size ≤ q → A q) (hRc : cells ≤ R.cells) (hRs : slots ≤ R.slots) (hRf : 5 ≤ R.frames) (hRl : 122 ≤ R.locals) (hret : ∀ (x : St) (H : Heap) (locs : List Loc) (pc : Nat) (ls : Array Slot), decode b_Mod_openFooter pc = .ok (.return_, 1) → post x → Wd dC dI cI cB cJ cZ ad stM kcM 115 A x H → va_S A s.heap H locs → W p l e R s m args below meth c H locs cells slots Q (F0 m pc ls [])) (hrec215 : ∀ (l1 : Int32) (l2 : Int64) (l4 : Int32) (l5 : Int32) (l6 : Int32) (l7 : Int32) (l8 : Int64) (l10 : Int32) (x : St) (H : Heap) (locs : List Loc) (ls : Array Slot), rec215 l1 l2 l4 l5 l6 l7 l8 l10 x → Wd dC dI cI cB cJ cZ ad stM kcM 115 A x H → va_S A s.heap H locs → lv_has ls 12 [(0, .ref (ad 0)), (1, .int l1), (2, .long l2), (4, .int l4), (5, .int l5), (6, .int l6), (7, .int l7), (8, .long l8), (10, .int l10)] → W p l e R s m args below meth c H locs cells slots Q (F0 m 215 ls [])) (hrec285 : ∀ (l1 : Int32) (l2 : Int64) (l4 : Int32) (l5 : Int32) (l6 : Int32) (l7 : Int32) (l8 : Int64) (l10 : Int32) (l11 : Int32) (x : St) (H : Heap) (locs : List Loc) (ls : Array Slot), rec285 l1 l2 l4 l5 l6 l7 l8 l10 l11 x → Wd dC dI cI cB cJ cZ ad stM kcM 115 A x H → va_S A s.heap H locs → lv_has ls 12 [(0, .ref (ad 0)), (1, .int l1), (2, .long l2), (4, .int l4), (5, .int l5), (6, .int l6), (7, .int l7), (8, .long l8), (10, .int l10), (11, .int l11)] → W p l e R s m args below meth c H locs cells slots Q (F0 m 285 ls [])) : ∀ (l1 : Int32) (l2 : Int64) (l4 : Int32) (l5 : Int32) (l6 : Int32) (l7 : Int32) (l8 : Int64) (l10 : Int32) (l11 : Int32) (x : St) (H : Heap) (locs : List Loc) (ls : Array Slot), j_Mod_openFooter_285 post rec215 rec285 l1 l2 l4 l5 l6 l7 l8 l10 l11 x → Wd dC dI cI cB cJ cZ ad stM kcM 115 A x H → va_S A s.heap H locs → lv_has ls 12 [(0, .ref (ad 0)), (1, .int l1), (2, .long l2), (4, .int l4), (5, .int l5), (6, .int l6), (7, .int l7), (8, .long l8), (10, .int l10), (11, .int l11)] → W p l e R s m args below meth c H locs cells slots Q (F0 m 285 ls []) := by
  intro l1 l2 l4 l5 l6 l7 l8 l10 l11 x H locs ls  hw hW hS hl
  unfold j_Mod_openFooter_285 at hw
  refine lv_iload hx hb d_Mod_openFooter_285 (lv_at hl 9 rfl) ?_
  refine lv_aload_n hx hb d_Mod_openFooter_287 rfl (lv_at hl 0 rfl) ?_
  refine w_getf (q := 10) (k := 12) (t := 12) (C := R_Mod) (T := F_Mod) (N := 167) hx hb hT hown hK hW ko_0.1 ko_0.2 (by decide) in_Mod rfl rfl (by decide) rfl fr_Mod_12 w_8_188 d_Mod_openFooter_288 rfl ?_
  refine lv_iconst (v := 1) hx hb d_Mod_openFooter_291 (by decide) ?_
  obtain ⟨hi, hw⟩ := hw
  refine w_iald (o := 10) hx hb hK hW ko_10.1 ko_10.2 hi d_Mod_openFooter_292 ?_
  refine lv_icmp_ge (tgt := 352) hx hb d_Mod_openFooter_293 (by decide) (fun c1106 => ?_) (fun c1106 => ?_)
  · have hw := hw.1 c1106
    exact t_Mod_openFooter_352 hx hb hml hown hT hK hN hA hRc hRs hRf hRl hret hrec215 l1 l2 l4 l5 l6 l7 l8 l10 l11 x H locs ls  hw hW hS (lv_sub hl [0, 1, 2, 3, 4, 5, 6, 7, 8, 9] rfl)
  · have hw := hw.2 c1106
    refine lv_aload_n hx hb d_Mod_openFooter_296 rfl (lv_at hl 0 rfl) ?_
    refine w_geti (k := 69) (t := 12) (C := R_Mod) (T := F_Mod) (N := 167) hx hb hT hown hK hW ko_0.1 ko_0.2 (by decide) in_Mod rfl rfl (by decide) rfl fr_Mod_69 w_9_5 d_Mod_openFooter_297 ?_
    refine lv_if_ne (tgt := 352) hx hb d_Mod_openFooter_300 (by decide) (fun c1107 => ?_) (fun c1107 => ?_)
    · have hw := hw.1 c1107
      exact t_Mod_openFooter_352 hx hb hml hown hT hK hN hA hRc hRs hRf hRl hret hrec215 l1 l2 l4 l5 l6 l7 l8 l10 l11 x H locs ls  hw hW hS (lv_sub hl [0, 1, 2, 3, 4, 5, 6, 7, 8, 9] rfl)
    · have hw := hw.2 c1107
      refine lv_aload_n hx hb d_Mod_openFooter_303 rfl (lv_at hl 0 rfl) ?_
      refine lv_aload_n hx hb d_Mod_openFooter_304 rfl (lv_at hl 0 rfl) ?_
      refine w_getf (q := 10) (k := 12) (t := 12) (C := R_Mod) (T := F_Mod) (N := 167) hx hb hT hown hK hW ko_0.1 ko_0.2 (by decide) in_Mod rfl rfl (by decide) rfl fr_Mod_12 w_8_188 d_Mod_openFooter_305 rfl ?_
      refine lv_iconst (v := 1) hx hb d_Mod_openFooter_308 (by decide) ?_
      obtain ⟨hi, hw⟩ := hw
      refine w_iald (o := 10) hx hb hK hW ko_10.1 ko_10.2 hi d_Mod_openFooter_309 ?_
      refine lv_iload hx hb d_Mod_openFooter_310 (lv_at hl 8 rfl) ?_
      refine lv_imul hx hb d_Mod_openFooter_312 ?_
      refine lv_iload hx hb d_Mod_openFooter_313 (lv_at hl 9 rfl) ?_
      refine lv_iadd hx hb d_Mod_openFooter_315 ?_
      refine lv_iload hx hb d_Mod_openFooter_316 (lv_at hl 9 rfl) ?_
      refine lv_iload hx hb d_Mod_openFooter_318 (lv_at hl 5 rfl) ?_
      have hF := hW.free hS hA
      refine va_callv (va_runV (C := R_Mod) (As := [.int (((rA x 10 1) * l10) + l11), .int l11, .int l6]) (rest := []) ⟨hx, hb, hml, hown, hT⟩ (k_Mod_openTold l dC dI cI cB cJ cZ ad H.size (((rA x 10 1) * l10) + l11) l11 l6 x  hw) ⟨callB_of 3 hT (gwt_in w_12_134) rfl rfl rfl (hT _ w_1_15) (hT _ w_12_131) (by decide +kernel) ⟨Nat.le_trans (Nat.le_of_ble_eq_true rfl) hRf, Nat.le_trans (Nat.le_of_ble_eq_true rfl) hRl⟩, hT _ w_12_133, hT _ ws_189⟩ ⟨PW.blind, va_recv hK hW.1 (ci := 12) (q0 := 0) rfl (pic_obj ko_0.1 ko_0.2 (by decide)), PW.at _ hW hK hN⟩ rfl rfl hl.1 rfl (lv_room (Nat.le_of_ble_eq_true rfl)) d_Mod_openFooter_320 ⟨hRc, hRs⟩) hS (fun q _ h => hF q h) hF (fun  x1108 t H locs ht hvm hw hB hz1 hk1 hS => ?_)
      have hW := Wd.back hB ht hF
      clear hB ht hF hz1 hk1 hvm
      refine lv_lload hx hb d_Mod_openFooter_323 (lv_at hl 7 rfl) ?_
      refine lv_aload_n hx hb d_Mod_openFooter_325 rfl (lv_at hl 0 rfl) ?_
      refine w_getf (q := 50) (k := 78) (t := 12) (C := R_Mod) (T := F_Mod) (N := 167) hx hb hT hown hK hW ko_0.1 ko_0.2 (by decide) in_Mod rfl rfl (by decide) rfl fr_Mod_78 w_9_14 d_Mod_openFooter_326 rfl ?_
      refine lv_aload_n hx hb d_Mod_openFooter_329 rfl (lv_at hl 0 rfl) ?_
      refine w_getf (q := 10) (k := 12) (t := 12) (C := R_Mod) (T := F_Mod) (N := 167) hx hb hT hown hK hW ko_0.1 ko_0.2 (by decide) in_Mod rfl rfl (by decide) rfl fr_Mod_12 w_8_188 d_Mod_openFooter_330 rfl ?_
      refine lv_iconst (v := 1) hx hb d_Mod_openFooter_333 (by decide) ?_
      obtain ⟨hi, hw⟩ := hw
      refine w_iald (o := 10) hx hb hK hW ko_10.1 ko_10.2 hi d_Mod_openFooter_334 ?_
      refine lv_iload hx hb d_Mod_openFooter_335 (lv_at hl 8 rfl) ?_
      refine lv_imul hx hb d_Mod_openFooter_337 ?_
      refine lv_iload hx hb d_Mod_openFooter_338 (lv_at hl 9 rfl) ?_
      refine lv_iadd hx hb d_Mod_openFooter_340 ?_
      obtain ⟨hi, hw⟩ := hw
      refine w_iald (o := 50) hx hb hK hW ko_50.1 ko_50.2 hi d_Mod_openFooter_341 ?_
      refine lv_i2l hx hb d_Mod_openFooter_342 rfl ?_
      refine lv_ladd hx hb d_Mod_openFooter_343 ?_
      refine lv_topl (fun v1109 ev1109 => ?_)
      have hw := hw v1109 ev1109
      refine lv_lstore (lv' := [(8, .long v1109), (0, .ref (ad 0)), (1, .int l1), (2, .long l2), (4, .int l4), (5, .int l5), (6, .int l6), (7, .int l7), (10, .int l10), (11, .int l11)]) hx hb d_Mod_openFooter_344 hl (by decide) rfl (fun ls hl => ?_)
      refine lv_iinc (v := (l11 + 1)) (lv' := [(11, .int (l11 + 1)), (8, .long v1109), (0, .ref (ad 0)), (1, .int l1), (2, .long l2), (4, .int l4), (5, .int l5), (6, .int l6), (7, .int l7), (10, .int l10)]) hx hb d_Mod_openFooter_346 hl (k := 9) rfl rfl (by decide) rfl (fun ls hl => ?_)
      refine lv_goto (tgt := 285) hx hb d_Mod_openFooter_349 (by decide) ?_
      exact hrec285 l1 l2 l4 l5 l6 l7 v1109 l10 (l11 + 1) x1108 H locs ls  hw hW hS (lv_sub hl [2, 3, 4, 5, 6, 7, 8, 1, 9, 0] rfl)
set_option maxHeartbeats 4000000 in
set_option maxRecDepth 100000 in
theorem tl_Mod_openFooter_285 {p : Program} {l : Launch} {e : Env} {R : Room} {s : State} {m : MethodId} {args : Array Value} {below : List Frame} {meth : Method} {c : Code} {cells slots : Nat} {Q : State → Prop} {dC : Nat → ClassId} {dI : Nat → Nat → Nat} {cI cB cJ cZ : ClassId} {A : Nat → Prop} {ad : Nat → Nat} {post : St → Prop} {rec215 : Int32 → Int64 → Int32 → Int32 → Int32 → Int32 → Int64 → Int32 → St → Prop} (hx : p.tables.exec = Jvm.exec) (hb : c.code = b_Mod_openFooter) (hml : c.maxLocals = 12) (hown : s.vm.findClass R_Mod = some m.cls) (hT : ∀ w ∈ TG, w.before args s = true) (hK : va_K (dC, dI) CL (TY cI cB cJ cZ) s) (hN : NW s) (hA : ∀ q : Nat, s.heap.size ≤ q → A q) (hRc : cells ≤ R.cells) (hRs : slots ≤ R.slots) (hRf : 5 ≤ R.frames) (hRl : 122 ≤ R.locals) (hret : ∀ (x : St) (H : Heap) (locs : List Loc) (pc : Nat) (ls : Array Slot), decode b_Mod_openFooter pc = .ok (.return_, 1) → post x → Wd dC dI cI cB cJ cZ ad stM kcM 115 A x H → va_S A s.heap H locs → W p l e R s m args below meth c H locs cells slots Q (F0 m pc ls [])) (hrec215 : ∀ (l1 : Int32) (l2 : Int64) (l4 : Int32) (l5 : Int32) (l6 : Int32) (l7 : Int32) (l8 : Int64) (l10 : Int32) (x : St) (H : Heap) (locs : List Loc) (ls : Array Slot), rec215 l1 l2 l4 l5 l6 l7 l8 l10 x → Wd dC dI cI cB cJ cZ ad stM kcM 115 A x H → va_S A s.heap H locs → lv_has ls 12 [(0, .ref (ad 0)), (1, .int l1), (2, .long l2), (4, .int l4), (5, .int l5), (6, .int l6), (7, .int l7), (8, .long l8), (10, .int l10)] → W p l e R s m args below meth c H locs cells slots Q (F0 m 215 ls [])) : ∀ n : Nat, ∀ (l1 : Int32) (l2 : Int64) (l4 : Int32) (l5 : Int32) (l6 : Int32) (l7 : Int32) (l8 : Int64) (l10 : Int32) (l11 : Int32) (x : St) (H : Heap) (locs : List Loc) (ls : Array Slot), wl_Mod_openFooter_285 post rec215 n l1 l2 l4 l5 l6 l7 l8 l10 l11 x → Wd dC dI cI cB cJ cZ ad stM kcM 115 A x H → va_S A s.heap H locs → lv_has ls 12 [(0, .ref (ad 0)), (1, .int l1), (2, .long l2), (4, .int l4), (5, .int l5), (6, .int l6), (7, .int l7), (8, .long l8), (10, .int l10), (11, .int l11)] → W p l e R s m args below meth c H locs cells slots Q (F0 m 285 ls []) := by
  intro n
  induction n with
  | zero => intro l1 l2 l4 l5 l6 l7 l8 l10 l11 x H locs ls  hw; exact hw.elim
  | succ n ih => intro l1 l2 l4 l5 l6 l7 l8 l10 l11 x H locs ls  hw hW hS hl; exact t_Mod_openFooter_285 hx hb hml hown hT hK hN hA hRc hRs hRf hRl hret hrec215 ih l1 l2 l4 l5 l6 l7 l8 l10 l11 x H locs ls  hw hW hS hl
set_option maxRecDepth 100000 in
set_option maxHeartbeats 4000000 in
set_option maxRecDepth 100000 in
theorem t_Mod_openFooter_265 {p : Program} {l : Launch} {e : Env} {R : Room} {s : State} {m : MethodId} {args : Array Value} {below : List Frame} {meth : Method} {c : Code} {cells slots : Nat} {Q : State → Prop} {dC : Nat → ClassId} {dI : Nat → Nat → Nat} {cI cB cJ cZ : ClassId} {A : Nat → Prop} {ad : Nat → Nat} {post : St → Prop} {rec215 : Int32 → Int64 → Int32 → Int32 → Int32 → Int32 → Int64 → Int32 → St → Prop} (hx : p.tables.exec = Jvm.exec) (hb : c.code = b_Mod_openFooter) (hml : c.maxLocals = 12) (hown : s.vm.findClass R_Mod = some m.cls) (hT : ∀ w ∈ TG, w.before args s = true) (hK : va_K (dC, dI) CL (TY cI cB cJ cZ) s) (hN : NW s) (hA : ∀ q : Nat, s.heap.size ≤ q → A q) (hRc : cells ≤ R.cells) (hRs : slots ≤ R.slots) (hRf : 5 ≤ R.frames) (hRl : 122 ≤ R.locals) (hret : ∀ (x : St) (H : Heap) (locs : List Loc) (pc : Nat) (ls : Array Slot), decode b_Mod_openFooter pc = .ok (.return_, 1) → post x → Wd dC dI cI cB cJ cZ ad stM kcM 115 A x H → va_S A s.heap H locs → W p l e R s m args below meth c H locs cells slots Q (F0 m pc ls [])) (hrec215 : ∀ (l1 : Int32) (l2 : Int64) (l4 : Int32) (l5 : Int32) (l6 : Int32) (l7 : Int32) (l8 : Int64) (l10 : Int32) (x : St) (H : Heap) (locs : List Loc) (ls : Array Slot), rec215 l1 l2 l4 l5 l6 l7 l8 l10 x → Wd dC dI cI cB cJ cZ ad stM kcM 115 A x H → va_S A s.heap H locs → lv_has ls 12 [(0, .ref (ad 0)), (1, .int l1), (2, .long l2), (4, .int l4), (5, .int l5), (6, .int l6), (7, .int l7), (8, .long l8), (10, .int l10)] → W p l e R s m args below meth c H locs cells slots Q (F0 m 215 ls [])) : ∀ (l1 : Int32) (l2 : Int64) (l4 : Int32) (l5 : Int32) (l6 : Int32) (l7 : Int32) (l8 : Int64) (l10 : Int32) (s0 : Int32) (x : St) (H : Heap) (locs : List Loc) (ls : Array Slot), j_Mod_openFooter_265 post rec215 l1 l2 l4 l5 l6 l7 l8 l10 s0 x → Wd dC dI cI cB cJ cZ ad stM kcM 115 A x H → va_S A s.heap H locs → lv_has ls 12 [(0, .ref (ad 0)), (1, .int l1), (2, .long l2), (4, .int l4), (5, .int l5), (6, .int l6), (7, .int l7), (8, .long l8), (10, .int l10)] → W p l e R s m args below meth c H locs cells slots Q (F0 m 265 ls [.int s0, .ref (ad 0)]) := by
  intro l1 l2 l4 l5 l6 l7 l8 l10 s0 x H locs ls  hw hW hS hl
  unfold j_Mod_openFooter_265 at hw
  refine lv_bipush (v := 16) hx hb d_Mod_openFooter_265 (by decide) ?_
  have hF := hW.free hS hA
  refine va_callv (va_runV (C := R_Mod) (As := [.int s0, .int 16]) (rest := []) ⟨hx, hb, hml, hown, hT⟩ (k_Mod_faults l dC dI cI cB cJ cZ ad H.size s0 16 x  hw) ⟨callB_of 2 hT (gwt_in w_12_107) rfl rfl rfl (hT _ w_1_15) (hT _ w_12_104) (by decide +kernel) ⟨Nat.le_trans (Nat.le_of_ble_eq_true rfl) hRf, Nat.le_trans (Nat.le_of_ble_eq_true rfl) hRl⟩, hT _ w_12_106, hT _ ws_183⟩ ⟨PW.blind, va_recv hK hW.1 (ci := 12) (q0 := 0) rfl (pic_obj ko_0.1 ko_0.2 (by decide)), PW.at _ hW hK hN⟩ rfl rfl hl.1 rfl (lv_room (Nat.le_of_ble_eq_true rfl)) d_Mod_openFooter_267 ⟨hRc, hRs⟩) hS (fun q _ h => hF q h) hF (fun  x1110 t H locs ht hvm hw hB hz1 hk1 hS => ?_)
  have hW := Wd.back hB ht hF
  clear hB ht hF hz1 hk1 hvm
  refine lv_iload hx hb d_Mod_openFooter_270 (lv_at hl 6 rfl) ?_
  refine lv_aload_n hx hb d_Mod_openFooter_272 rfl (lv_at hl 0 rfl) ?_
  refine w_getf (q := 53) (k := 81) (t := 12) (C := R_Mod) (T := F_Mod) (N := 167) hx hb hT hown hK hW ko_0.1 ko_0.2 (by decide) in_Mod rfl rfl (by decide) rfl fr_Mod_81 w_9_17 d_Mod_openFooter_273 rfl ?_
  refine lv_iload hx hb d_Mod_openFooter_276 (lv_at hl 8 rfl) ?_
  obtain ⟨hi, hw⟩ := hw
  refine w_iald (o := 53) hx hb hK hW ko_53.1 ko_53.2 hi d_Mod_openFooter_278 ?_
  refine lv_iadd hx hb d_Mod_openFooter_279 ?_
  refine lv_topi (fun v1111 ev1111 => ?_)
  have hw := hw v1111 ev1111
  refine lv_istore (lv' := [(7, .int v1111), (0, .ref (ad 0)), (1, .int l1), (2, .long l2), (4, .int l4), (5, .int l5), (6, .int l6), (8, .long l8), (10, .int l10)]) hx hb d_Mod_openFooter_280 hl (by decide) rfl (fun ls hl => ?_)
  refine lv_iconst (v := 0) hx hb d_Mod_openFooter_282 (by decide) ?_
  refine lv_istore (lv' := [(11, .int 0), (7, .int v1111), (0, .ref (ad 0)), (1, .int l1), (2, .long l2), (4, .int l4), (5, .int l5), (6, .int l6), (8, .long l8), (10, .int l10)]) hx hb d_Mod_openFooter_283 hl (by decide) rfl (fun ls hl => ?_)
  obtain ⟨n, hw⟩ := hw
  exact tl_Mod_openFooter_285 hx hb hml hown hT hK hN hA hRc hRs hRf hRl hret hrec215 n l1 l2 l4 l5 l6 v1111 l8 l10 0 x1110 H locs ls  hw hW hS (lv_sub hl [2, 3, 4, 5, 6, 7, 1, 8, 9, 0] rfl)
set_option maxRecDepth 100000 in
set_option maxHeartbeats 4000000 in
set_option maxRecDepth 100000 in
theorem t_Mod_openFooter_215 {p : Program} {l : Launch} {e : Env} {R : Room} {s : State} {m : MethodId} {args : Array Value} {below : List Frame} {meth : Method} {c : Code} {cells slots : Nat} {Q : State → Prop} {dC : Nat → ClassId} {dI : Nat → Nat → Nat} {cI cB cJ cZ : ClassId} {A : Nat → Prop} {ad : Nat → Nat} {post : St → Prop} {rec215 : Int32 → Int64 → Int32 → Int32 → Int32 → Int32 → Int64 → Int32 → St → Prop} (hx : p.tables.exec = Jvm.exec) (hb : c.code = b_Mod_openFooter) (hml : c.maxLocals = 12) (hown : s.vm.findClass R_Mod = some m.cls) (hT : ∀ w ∈ TG, w.before args s = true) (hK : va_K (dC, dI) CL (TY cI cB cJ cZ) s) (hN : NW s) (hA : ∀ q : Nat, s.heap.size ≤ q → A q) (hRc : cells ≤ R.cells) (hRs : slots ≤ R.slots) (hRf : 5 ≤ R.frames) (hRl : 122 ≤ R.locals) (hret : ∀ (x : St) (H : Heap) (locs : List Loc) (pc : Nat) (ls : Array Slot), decode b_Mod_openFooter pc = .ok (.return_, 1) → post x → Wd dC dI cI cB cJ cZ ad stM kcM 115 A x H → va_S A s.heap H locs → W p l e R s m args below meth c H locs cells slots Q (F0 m pc ls [])) (hrec215 : ∀ (l1 : Int32) (l2 : Int64) (l4 : Int32) (l5 : Int32) (l6 : Int32) (l7 : Int32) (l8 : Int64) (l10 : Int32) (x : St) (H : Heap) (locs : List Loc) (ls : Array Slot), rec215 l1 l2 l4 l5 l6 l7 l8 l10 x → Wd dC dI cI cB cJ cZ ad stM kcM 115 A x H → va_S A s.heap H locs → lv_has ls 12 [(0, .ref (ad 0)), (1, .int l1), (2, .long l2), (4, .int l4), (5, .int l5), (6, .int l6), (7, .int l7), (8, .long l8), (10, .int l10)] → W p l e R s m args below meth c H locs cells slots Q (F0 m 215 ls [])) : ∀ (l1 : Int32) (l2 : Int64) (l4 : Int32) (l5 : Int32) (l6 : Int32) (l7 : Int32) (l8 : Int64) (l10 : Int32) (x : St) (H : Heap) (locs : List Loc) (ls : Array Slot), j_Mod_openFooter_215 post rec215 l1 l2 l4 l5 l6 l7 l8 l10 x → Wd dC dI cI cB cJ cZ ad stM kcM 115 A x H → va_S A s.heap H locs → lv_has ls 12 [(0, .ref (ad 0)), (1, .int l1), (2, .long l2), (4, .int l4), (5, .int l5), (6, .int l6), (7, .int l7), (8, .long l8), (10, .int l10)] → W p l e R s m args below meth c H locs cells slots Q (F0 m 215 ls []) := by
  intro l1 l2 l4 l5 l6 l7 l8 l10 x H locs ls  hw hW hS hl
  unfold j_Mod_openFooter_215 at hw
  refine lv_iload hx hb d_Mod_openFooter_215 (lv_at hl 8 rfl) ?_
  refine lv_aload_n hx hb d_Mod_openFooter_217 rfl (lv_at hl 0 rfl) ?_
  refine w_geti (k := 85) (t := 12) (C := R_Mod) (T := F_Mod) (N := 167) hx hb hT hown hK hW ko_0.1 ko_0.2 (by decide) in_Mod rfl rfl (by decide) rfl fr_Mod_85 w_9_21 d_Mod_openFooter_218 ?_
  refine lv_icmp_ge (tgt := 358) hx hb d_Mod_openFooter_221 (by decide) (fun c1112 => ?_) (fun c1112 => ?_)
  · have hw := hw.1 c1112
    exact t_Mod_openFooter_358 hx hb hml hown hT hK hN hA hRc hRs hRf hRl hret  l1 l2 l4 l5 l6 l7 l8 l10 x H locs ls  hw hW hS (lv_sub hl [0, 1, 2, 3, 4, 5, 6, 7, 8] rfl)
  · have hw := hw.2 c1112
    refine lv_aload_n hx hb d_Mod_openFooter_224 rfl (lv_at hl 0 rfl) ?_
    refine w_geti (k := 69) (t := 12) (C := R_Mod) (T := F_Mod) (N := 167) hx hb hT hown hK hW ko_0.1 ko_0.2 (by decide) in_Mod rfl rfl (by decide) rfl fr_Mod_69 w_9_5 d_Mod_openFooter_225 ?_
    refine lv_if_ne (tgt := 358) hx hb d_Mod_openFooter_228 (by decide) (fun c1113 => ?_) (fun c1113 => ?_)
    · have hw := hw.1 c1113
      exact t_Mod_openFooter_358 hx hb hml hown hT hK hN hA hRc hRs hRf hRl hret  l1 l2 l4 l5 l6 l7 l8 l10 x H locs ls  hw hW hS (lv_sub hl [0, 1, 2, 3, 4, 5, 6, 7, 8] rfl)
    · have hw := hw.2 c1113
      refine lv_aload_n hx hb d_Mod_openFooter_231 rfl (lv_at hl 0 rfl) ?_
      refine w_getf (q := 53) (k := 81) (t := 12) (C := R_Mod) (T := F_Mod) (N := 167) hx hb hT hown hK hW ko_0.1 ko_0.2 (by decide) in_Mod rfl rfl (by decide) rfl fr_Mod_81 w_9_17 d_Mod_openFooter_232 rfl ?_
      refine lv_iload hx hb d_Mod_openFooter_235 (lv_at hl 8 rfl) ?_
      refine lv_aload_n hx hb d_Mod_openFooter_237 rfl (lv_at hl 0 rfl) ?_
      refine lv_iload hx hb d_Mod_openFooter_238 (lv_at hl 5 rfl) ?_
      refine lv_sipush (v := 2000) hx hb d_Mod_openFooter_240 (by decide) ?_
      refine lv_bipush (v := 16) hx hb d_Mod_openFooter_243 (by decide) ?_
      have hF := hW.free hS hA
      refine va_calli (va_runV (C := R_Mod) (As := [.int l6, .int 2000, .int 16]) (rest := [.int l10, .ref (ad 53)]) ⟨hx, hb, hml, hown, hT⟩ (k_Mod_number4 l dC dI cI cB cJ cZ ad H.size l6 2000 16 x  hw) ⟨callB_of 3 hT (gwt_in w_12_120) rfl rfl rfl (hT _ w_1_15) (hT _ w_12_117) (by decide +kernel) ⟨Nat.le_trans (Nat.le_of_ble_eq_true rfl) hRf, Nat.le_trans (Nat.le_of_ble_eq_true rfl) hRl⟩, hT _ w_12_119, hT _ ws_186⟩ ⟨PW.blind, va_recv hK hW.1 (ci := 12) (q0 := 0) rfl (pic_obj ko_0.1 ko_0.2 (by decide)), PW.at _ hW hK hN⟩ rfl rfl hl.1 rfl (lv_room (Nat.le_of_ble_eq_true rfl)) d_Mod_openFooter_245 ⟨hRc, hRs⟩) hS (fun q _ h => hF q h) hF (fun r1115 x1114 t H locs ht hvm hw hB hz1 hk1 hS => ?_)
      have hW := Wd.back hB ht hF
      clear hB ht hF hz1 hk1 hvm
      obtain ⟨hi, hw⟩ := hw
      refine w_iast (o := 53) hx hb hK hW hS ko_53.1 ko_53.2 hi d_Mod_openFooter_248 (fun H locs hW hS => ?_)
      obtain ⟨x1116, ex1116⟩ : ∃ y : St, y = setA x1114 53 l10 r1115 := ⟨_, rfl⟩
      rw [← ex1116] at hW
      have hw := hw x1116 ex1116
      refine lv_aload_n hx hb d_Mod_openFooter_249 rfl (lv_at hl 0 rfl) ?_
      refine lv_aload_n hx hb d_Mod_openFooter_250 rfl (lv_at hl 0 rfl) ?_
      refine w_getf (q := 53) (k := 81) (t := 12) (C := R_Mod) (T := F_Mod) (N := 167) hx hb hT hown hK hW ko_0.1 ko_0.2 (by decide) in_Mod rfl rfl (by decide) rfl fr_Mod_81 w_9_17 d_Mod_openFooter_251 rfl ?_
      refine lv_iload hx hb d_Mod_openFooter_254 (lv_at hl 8 rfl) ?_
      obtain ⟨hi, hw⟩ := hw
      refine w_iald (o := 53) hx hb hK hW ko_53.1 ko_53.2 hi d_Mod_openFooter_256 ?_
      refine lv_if_ne (tgt := 264) hx hb d_Mod_openFooter_257 (by decide) (fun c1117 => ?_) (fun c1117 => ?_)
      · have hw := hw.1 c1117
        refine lv_iconst (v := 0) hx hb d_Mod_openFooter_264 (by decide) ?_
        exact t_Mod_openFooter_265 hx hb hml hown hT hK hN hA hRc hRs hRf hRl hret hrec215 l1 l2 l4 l5 l6 l7 l8 l10 0 x1116 H locs ls  hw hW hS (lv_sub hl [0, 1, 2, 3, 4, 5, 6, 7, 8] rfl)
      · have hw := hw.2 c1117
        refine lv_iconst (v := 1) hx hb d_Mod_openFooter_260 (by decide) ?_
        refine lv_goto (tgt := 265) hx hb d_Mod_openFooter_261 (by decide) ?_
        exact t_Mod_openFooter_265 hx hb hml hown hT hK hN hA hRc hRs hRf hRl hret hrec215 l1 l2 l4 l5 l6 l7 l8 l10 1 x1116 H locs ls  hw hW hS (lv_sub hl [0, 1, 2, 3, 4, 5, 6, 7, 8] rfl)
set_option maxHeartbeats 4000000 in
set_option maxRecDepth 100000 in
theorem tl_Mod_openFooter_215 {p : Program} {l : Launch} {e : Env} {R : Room} {s : State} {m : MethodId} {args : Array Value} {below : List Frame} {meth : Method} {c : Code} {cells slots : Nat} {Q : State → Prop} {dC : Nat → ClassId} {dI : Nat → Nat → Nat} {cI cB cJ cZ : ClassId} {A : Nat → Prop} {ad : Nat → Nat} {post : St → Prop} (hx : p.tables.exec = Jvm.exec) (hb : c.code = b_Mod_openFooter) (hml : c.maxLocals = 12) (hown : s.vm.findClass R_Mod = some m.cls) (hT : ∀ w ∈ TG, w.before args s = true) (hK : va_K (dC, dI) CL (TY cI cB cJ cZ) s) (hN : NW s) (hA : ∀ q : Nat, s.heap.size ≤ q → A q) (hRc : cells ≤ R.cells) (hRs : slots ≤ R.slots) (hRf : 5 ≤ R.frames) (hRl : 122 ≤ R.locals) (hret : ∀ (x : St) (H : Heap) (locs : List Loc) (pc : Nat) (ls : Array Slot), decode b_Mod_openFooter pc = .ok (.return_, 1) → post x → Wd dC dI cI cB cJ cZ ad stM kcM 115 A x H → va_S A s.heap H locs → W p l e R s m args below meth c H locs cells slots Q (F0 m pc ls []))  : ∀ n : Nat, ∀ (l1 : Int32) (l2 : Int64) (l4 : Int32) (l5 : Int32) (l6 : Int32) (l7 : Int32) (l8 : Int64) (l10 : Int32) (x : St) (H : Heap) (locs : List Loc) (ls : Array Slot), wl_Mod_openFooter_215 post n l1 l2 l4 l5 l6 l7 l8 l10 x → Wd dC dI cI cB cJ cZ ad stM kcM 115 A x H → va_S A s.heap H locs → lv_has ls 12 [(0, .ref (ad 0)), (1, .int l1), (2, .long l2), (4, .int l4), (5, .int l5), (6, .int l6), (7, .int l7), (8, .long l8), (10, .int l10)] → W p l e R s m args below meth c H locs cells slots Q (F0 m 215 ls []) := by
  intro n
  induction n with
  | zero => intro l1 l2 l4 l5 l6 l7 l8 l10 x H locs ls  hw; exact hw.elim
  | succ n ih => intro l1 l2 l4 l5 l6 l7 l8 l10 x H locs ls  hw hW hS hl; exact t_Mod_openFooter_215 hx hb hml hown hT hK hN hA hRc hRs hRf hRl hret  ih l1 l2 l4 l5 l6 l7 l8 l10 x H locs ls  hw hW hS hl
set_option maxRecDepth 100000 in
set_option maxHeartbeats 4000000 in
set_option maxRecDepth 100000 in
theorem t_Mod_openFooter_166 {p : Program} {l : Launch} {e : Env} {R : Room} {s : State} {m : MethodId} {args : Array Value} {below : List Frame} {meth : Method} {c : Code} {cells slots : Nat} {Q : State → Prop} {dC : Nat → ClassId} {dI : Nat → Nat → Nat} {cI cB cJ cZ : ClassId} {A : Nat → Prop} {ad : Nat → Nat} {post : St → Prop} (hx : p.tables.exec = Jvm.exec) (hb : c.code = b_Mod_openFooter) (hml : c.maxLocals = 12) (hown : s.vm.findClass R_Mod = some m.cls) (hT : ∀ w ∈ TG, w.before args s = true) (hK : va_K (dC, dI) CL (TY cI cB cJ cZ) s) (hN : NW s) (hA : ∀ q : Nat, s.heap.size ≤ q → A q) (hRc : cells ≤ R.cells) (hRs : slots ≤ R.slots) (hRf : 5 ≤ R.frames) (hRl : 122 ≤ R.locals) (hret : ∀ (x : St) (H : Heap) (locs : List Loc) (pc : Nat) (ls : Array Slot), decode b_Mod_openFooter pc = .ok (.return_, 1) → post x → Wd dC dI cI cB cJ cZ ad stM kcM 115 A x H → va_S A s.heap H locs → W p l e R s m args below meth c H locs cells slots Q (F0 m pc ls []))  : ∀ (l1 : Int32) (l2 : Int64) (l4 : Int32) (l5 : Int32) (l6 : Int32) (x : St) (H : Heap) (locs : List Loc) (ls : Array Slot), j_Mod_openFooter_166 post l1 l2 l4 l5 l6 x → Wd dC dI cI cB cJ cZ ad stM kcM 115 A x H → va_S A s.heap H locs → lv_has ls 12 [(0, .ref (ad 0)), (1, .int l1), (2, .long l2), (4, .int l4), (5, .int l5), (6, .int l6)] → W p l e R s m args below meth c H locs cells slots Q (F0 m 166 ls []) := by
  intro l1 l2 l4 l5 l6 x H locs ls  hw hW hS hl
  unfold j_Mod_openFooter_166 at hw
  refine lv_aload_n hx hb d_Mod_openFooter_166 rfl (lv_at hl 0 rfl) ?_
  refine w_geti (k := 69) (t := 12) (C := R_Mod) (T := F_Mod) (N := 167) hx hb hT hown hK hW ko_0.1 ko_0.2 (by decide) in_Mod rfl rfl (by decide) rfl fr_Mod_69 w_9_5 d_Mod_openFooter_167 ?_
  refine lv_if_eq (tgt := 174) hx hb d_Mod_openFooter_170 (by decide) (fun c1118 => ?_) (fun c1118 => ?_)
  · have hw := hw.1 c1118
    refine lv_aload_n hx hb d_Mod_openFooter_174 rfl (lv_at hl 0 rfl) ?_
    refine lv_aload_n hx hb d_Mod_openFooter_175 rfl (lv_at hl 0 rfl) ?_
    refine lv_iload hx hb d_Mod_openFooter_176 (lv_at hl 5 rfl) ?_
    refine lv_sipush (v := 2000) hx hb d_Mod_openFooter_178 (by decide) ?_
    refine lv_bipush (v := 16) hx hb d_Mod_openFooter_181 (by decide) ?_
    have hF := hW.free hS hA
    refine va_calli (va_runV (C := R_Mod) (As := [.int l6, .int 2000, .int 16]) (rest := [.ref (ad 0)]) ⟨hx, hb, hml, hown, hT⟩ (k_Mod_number4 l dC dI cI cB cJ cZ ad H.size l6 2000 16 x  hw) ⟨callB_of 3 hT (gwt_in w_12_120) rfl rfl rfl (hT _ w_1_15) (hT _ w_12_117) (by decide +kernel) ⟨Nat.le_trans (Nat.le_of_ble_eq_true rfl) hRf, Nat.le_trans (Nat.le_of_ble_eq_true rfl) hRl⟩, hT _ w_12_119, hT _ ws_186⟩ ⟨PW.blind, va_recv hK hW.1 (ci := 12) (q0 := 0) rfl (pic_obj ko_0.1 ko_0.2 (by decide)), PW.at _ hW hK hN⟩ rfl rfl hl.1 rfl (lv_room (Nat.le_of_ble_eq_true rfl)) d_Mod_openFooter_183 ⟨hRc, hRs⟩) hS (fun q _ h => hF q h) hF (fun r1120 x1119 t H locs ht hvm hw hB hz1 hk1 hS => ?_)
    have hW := Wd.back hB ht hF
    clear hB ht hF hz1 hk1 hvm
    refine w_puti (ty := .int) (k := 84) (t := 12) (C := R_Mod) (T := F_Mod) (N := 167) hx hb hT hown hK hW hS ko_0.1 ko_0.2 (by decide) in_Mod t_Mod t_Mod_ok n_Mod rfl rfl (by decide) rfl fr_Mod_84 w_9_20 (by decide +kernel) rfl rfl d_Mod_openFooter_186 (fun H locs hW hS => ?_)
    obtain ⟨x1121, ex1121⟩ : ∃ y : St, y = setI x1119 0 84 r1120 := ⟨_, rfl⟩
    rw [← ex1121] at hW
    have hw := hw x1121 ex1121
    refine lv_aload_n hx hb d_Mod_openFooter_189 rfl (lv_at hl 0 rfl) ?_
    refine lv_aload_n hx hb d_Mod_openFooter_190 rfl (lv_at hl 0 rfl) ?_
    refine lv_iload hx hb d_Mod_openFooter_191 (lv_at hl 5 rfl) ?_
    refine lv_sipush (v := 500) hx hb d_Mod_openFooter_193 (by decide) ?_
    refine lv_bipush (v := 16) hx hb d_Mod_openFooter_196 (by decide) ?_
    have hF := hW.free hS hA
    refine va_calli (va_runV (C := R_Mod) (As := [.int l6, .int 500, .int 16]) (rest := [.ref (ad 0)]) ⟨hx, hb, hml, hown, hT⟩ (k_Mod_number4 l dC dI cI cB cJ cZ ad H.size l6 500 16 x1121  hw) ⟨callB_of 3 hT (gwt_in w_12_120) rfl rfl rfl (hT _ w_1_15) (hT _ w_12_117) (by decide +kernel) ⟨Nat.le_trans (Nat.le_of_ble_eq_true rfl) hRf, Nat.le_trans (Nat.le_of_ble_eq_true rfl) hRl⟩, hT _ w_12_119, hT _ ws_186⟩ ⟨PW.blind, va_recv hK hW.1 (ci := 12) (q0 := 0) rfl (pic_obj ko_0.1 ko_0.2 (by decide)), PW.at _ hW hK hN⟩ rfl rfl hl.1 rfl (lv_room (Nat.le_of_ble_eq_true rfl)) d_Mod_openFooter_198 ⟨hRc, hRs⟩) hS (fun q _ h => hF q h) hF (fun r1123 x1122 t H locs ht hvm hw hB hz1 hk1 hS => ?_)
    have hW := Wd.back hB ht hF
    clear hB ht hF hz1 hk1 hvm
    refine w_puti (ty := .int) (k := 85) (t := 12) (C := R_Mod) (T := F_Mod) (N := 167) hx hb hT hown hK hW hS ko_0.1 ko_0.2 (by decide) in_Mod t_Mod t_Mod_ok n_Mod rfl rfl (by decide) rfl fr_Mod_85 w_9_21 (by decide +kernel) rfl rfl d_Mod_openFooter_201 (fun H locs hW hS => ?_)
    obtain ⟨x1124, ex1124⟩ : ∃ y : St, y = setI x1122 0 85 r1123 := ⟨_, rfl⟩
    rw [← ex1124] at hW
    have hw := hw x1124 ex1124
    refine lv_iconst (v := 0) hx hb d_Mod_openFooter_204 (by decide) ?_
    refine lv_istore (lv' := [(7, .int 0), (0, .ref (ad 0)), (1, .int l1), (2, .long l2), (4, .int l4), (5, .int l5), (6, .int l6)]) hx hb d_Mod_openFooter_205 hl (by decide) rfl (fun ls hl => ?_)
    refine lv_ldc2 hx hb hown (hT _ w_12_130) d_Mod_openFooter_207 ?_
    refine lv_lstore (lv' := [(8, .long 4), (7, .int 0), (0, .ref (ad 0)), (1, .int l1), (2, .long l2), (4, .int l4), (5, .int l5), (6, .int l6)]) hx hb d_Mod_openFooter_210 hl (by decide) rfl (fun ls hl => ?_)
    refine lv_iconst (v := 0) hx hb d_Mod_openFooter_212 (by decide) ?_
    refine lv_istore (lv' := [(10, .int 0), (8, .long 4), (7, .int 0), (0, .ref (ad 0)), (1, .int l1), (2, .long l2), (4, .int l4), (5, .int l5), (6, .int l6)]) hx hb d_Mod_openFooter_213 hl (by decide) rfl (fun ls hl => ?_)
    obtain ⟨n, hw⟩ := hw
    exact tl_Mod_openFooter_215 hx hb hml hown hT hK hN hA hRc hRs hRf hRl hret  n l1 l2 l4 l5 l6 0 4 0 x1124 H locs ls  hw hW hS (lv_sub hl [3, 4, 5, 6, 7, 8, 2, 1, 0] rfl)
  · have hw := hw.2 c1118
    exact hret x H locs 173 ls d_Mod_openFooter_173 hw hW hS
set_option maxRecDepth 100000 in
set_option maxHeartbeats 4000000 in
set_option maxRecDepth 100000 in
theorem t_Mod_openFooter_142 {p : Program} {l : Launch} {e : Env} {R : Room} {s : State} {m : MethodId} {args : Array Value} {below : List Frame} {meth : Method} {c : Code} {cells slots : Nat} {Q : State → Prop} {dC : Nat → ClassId} {dI : Nat → Nat → Nat} {cI cB cJ cZ : ClassId} {A : Nat → Prop} {ad : Nat → Nat} {post : St → Prop} (hx : p.tables.exec = Jvm.exec) (hb : c.code = b_Mod_openFooter) (hml : c.maxLocals = 12) (hown : s.vm.findClass R_Mod = some m.cls) (hT : ∀ w ∈ TG, w.before args s = true) (hK : va_K (dC, dI) CL (TY cI cB cJ cZ) s) (hN : NW s) (hA : ∀ q : Nat, s.heap.size ≤ q → A q) (hRc : cells ≤ R.cells) (hRs : slots ≤ R.slots) (hRf : 5 ≤ R.frames) (hRl : 122 ≤ R.locals) (hret : ∀ (x : St) (H : Heap) (locs : List Loc) (pc : Nat) (ls : Array Slot), decode b_Mod_openFooter pc = .ok (.return_, 1) → post x → Wd dC dI cI cB cJ cZ ad stM kcM 115 A x H → va_S A s.heap H locs → W p l e R s m args below meth c H locs cells slots Q (F0 m pc ls []))  : ∀ (l1 : Int32) (l2 : Int64) (l4 : Int32) (l5 : Int32) (l6 : Int32) (s0 : Int32) (x : St) (H : Heap) (locs : List Loc) (ls : Array Slot), j_Mod_openFooter_142 post l1 l2 l4 l5 l6 s0 x → Wd dC dI cI cB cJ cZ ad stM kcM 115 A x H → va_S A s.heap H locs → lv_has ls 12 [(0, .ref (ad 0)), (1, .int l1), (2, .long l2), (4, .int l4), (5, .int l5), (6, .int l6)] → W p l e R s m args below meth c H locs cells slots Q (F0 m 142 ls [.int s0, .ref (ad 0)]) := by
  intro l1 l2 l4 l5 l6 s0 x H locs ls  hw hW hS hl
  unfold j_Mod_openFooter_142 at hw
  refine lv_bipush (v := 14) hx hb d_Mod_openFooter_142 (by decide) ?_
  have hF := hW.free hS hA
  refine va_callv (va_runV (C := R_Mod) (As := [.int s0, .int 14]) (rest := []) ⟨hx, hb, hml, hown, hT⟩ (k_Mod_faults l dC dI cI cB cJ cZ ad H.size s0 14 x  hw) ⟨callB_of 2 hT (gwt_in w_12_107) rfl rfl rfl (hT _ w_1_15) (hT _ w_12_104) (by decide +kernel) ⟨Nat.le_trans (Nat.le_of_ble_eq_true rfl) hRf, Nat.le_trans (Nat.le_of_ble_eq_true rfl) hRl⟩, hT _ w_12_106, hT _ ws_183⟩ ⟨PW.blind, va_recv hK hW.1 (ci := 12) (q0 := 0) rfl (pic_obj ko_0.1 ko_0.2 (by decide)), PW.at _ hW hK hN⟩ rfl rfl hl.1 rfl (lv_room (Nat.le_of_ble_eq_true rfl)) d_Mod_openFooter_144 ⟨hRc, hRs⟩) hS (fun q _ h => hF q h) hF (fun  x1125 t H locs ht hvm hw hB hz1 hk1 hS => ?_)
  have hW := Wd.back hB ht hF
  clear hB ht hF hz1 hk1 hvm
  refine lv_aload_n hx hb d_Mod_openFooter_147 rfl (lv_at hl 0 rfl) ?_
  refine lv_iload hx hb d_Mod_openFooter_148 (lv_at hl 4 rfl) ?_
  refine w_puti (ty := .int) (k := 67) (t := 12) (C := R_Mod) (T := F_Mod) (N := 167) hx hb hT hown hK hW hS ko_0.1 ko_0.2 (by decide) in_Mod t_Mod t_Mod_ok n_Mod rfl rfl (by decide) rfl fr_Mod_67 w_9_3 (by decide +kernel) rfl rfl d_Mod_openFooter_150 (fun H locs hW hS => ?_)
  obtain ⟨x1126, ex1126⟩ : ∃ y : St, y = setI x1125 0 67 l5 := ⟨_, rfl⟩
  rw [← ex1126] at hW
  have hw := hw x1126 ex1126
  refine lv_aload_n hx hb d_Mod_openFooter_153 rfl (lv_at hl 0 rfl) ?_
  refine w_geti (k := 69) (t := 12) (C := R_Mod) (T := F_Mod) (N := 167) hx hb hT hown hK hW ko_0.1 ko_0.2 (by decide) in_Mod rfl rfl (by decide) rfl fr_Mod_69 w_9_5 d_Mod_openFooter_154 ?_
  refine lv_if_ne (tgt := 166) hx hb d_Mod_openFooter_157 (by decide) (fun c1127 => ?_) (fun c1127 => ?_)
  · have hw := hw.1 c1127
    exact t_Mod_openFooter_166 hx hb hml hown hT hK hN hA hRc hRs hRf hRl hret  l1 l2 l4 l5 l6 x1126 H locs ls  hw hW hS (lv_sub hl [0, 1, 2, 3, 4, 5] rfl)
  · have hw := hw.2 c1127
    refine lv_aload_n hx hb d_Mod_openFooter_160 rfl (lv_at hl 0 rfl) ?_
    refine lv_iload hx hb d_Mod_openFooter_161 (lv_at hl 5 rfl) ?_
    have hF := hW.free hS hA
    refine va_callv (va_runV (C := R_Mod) (As := [.int l6]) (rest := []) ⟨hx, hb, hml, hown, hT⟩ (k_Mod_openSchema l dC dI cI cB cJ cZ ad H.size l6 x1126  hw) ⟨callB_of 1 hT (gwt_in w_12_116) rfl rfl rfl (hT _ w_1_15) (hT _ w_12_113) (by decide +kernel) ⟨Nat.le_trans (Nat.le_of_ble_eq_true rfl) hRf, Nat.le_trans (Nat.le_of_ble_eq_true rfl) hRl⟩, hT _ w_12_115, hT _ ws_185⟩ ⟨PW.blind, va_recv hK hW.1 (ci := 12) (q0 := 0) rfl (pic_obj ko_0.1 ko_0.2 (by decide)), PW.at _ hW hK hN⟩ rfl rfl hl.1 rfl (lv_room (Nat.le_of_ble_eq_true rfl)) d_Mod_openFooter_163 ⟨hRc, hRs⟩) hS (fun q _ h => hF q h) hF (fun  x1128 t H locs ht hvm hw hB hz1 hk1 hS => ?_)
    have hW := Wd.back hB ht hF
    clear hB ht hF hz1 hk1 hvm
    exact t_Mod_openFooter_166 hx hb hml hown hT hK hN hA hRc hRs hRf hRl hret  l1 l2 l4 l5 l6 x1128 H locs ls  hw hW hS (lv_sub hl [0, 1, 2, 3, 4, 5] rfl)
set_option maxRecDepth 100000 in
set_option maxHeartbeats 4000000 in
set_option maxRecDepth 100000 in
theorem t_Mod_openFooter_92 {p : Program} {l : Launch} {e : Env} {R : Room} {s : State} {m : MethodId} {args : Array Value} {below : List Frame} {meth : Method} {c : Code} {cells slots : Nat} {Q : State → Prop} {dC : Nat → ClassId} {dI : Nat → Nat → Nat} {cI cB cJ cZ : ClassId} {A : Nat → Prop} {ad : Nat → Nat} {post : St → Prop} (hx : p.tables.exec = Jvm.exec) (hb : c.code = b_Mod_openFooter) (hml : c.maxLocals = 12) (hown : s.vm.findClass R_Mod = some m.cls) (hT : ∀ w ∈ TG, w.before args s = true) (hK : va_K (dC, dI) CL (TY cI cB cJ cZ) s) (hN : NW s) (hA : ∀ q : Nat, s.heap.size ≤ q → A q) (hRc : cells ≤ R.cells) (hRs : slots ≤ R.slots) (hRf : 5 ≤ R.frames) (hRl : 122 ≤ R.locals) (hret : ∀ (x : St) (H : Heap) (locs : List Loc) (pc : Nat) (ls : Array Slot), decode b_Mod_openFooter pc = .ok (.return_, 1) → post x → Wd dC dI cI cB cJ cZ ad stM kcM 115 A x H → va_S A s.heap H locs → W p l e R s m args below meth c H locs cells slots Q (F0 m pc ls []))  : ∀ (l1 : Int32) (l2 : Int64) (l4 : Int32) (s0 : Int32) (x : St) (H : Heap) (locs : List Loc) (ls : Array Slot), j_Mod_openFooter_92 post l1 l2 l4 s0 x → Wd dC dI cI cB cJ cZ ad stM kcM 115 A x H → va_S A s.heap H locs → lv_has ls 12 [(0, .ref (ad 0)), (1, .int l1), (2, .long l2), (4, .int l4)] → W p l e R s m args below meth c H locs cells slots Q (F0 m 92 ls [.int s0, .ref (ad 0)]) := by
  intro l1 l2 l4 s0 x H locs ls  hw hW hS hl
  unfold j_Mod_openFooter_92 at hw
  refine lv_bipush (v := 13) hx hb d_Mod_openFooter_92 (by decide) ?_
  have hF := hW.free hS hA
  refine va_callv (va_runV (C := R_Mod) (As := [.int s0, .int 13]) (rest := []) ⟨hx, hb, hml, hown, hT⟩ (k_Mod_faults l dC dI cI cB cJ cZ ad H.size s0 13 x  hw) ⟨callB_of 2 hT (gwt_in w_12_107) rfl rfl rfl (hT _ w_1_15) (hT _ w_12_104) (by decide +kernel) ⟨Nat.le_trans (Nat.le_of_ble_eq_true rfl) hRf, Nat.le_trans (Nat.le_of_ble_eq_true rfl) hRl⟩, hT _ w_12_106, hT _ ws_183⟩ ⟨PW.blind, va_recv hK hW.1 (ci := 12) (q0 := 0) rfl (pic_obj ko_0.1 ko_0.2 (by decide)), PW.at _ hW hK hN⟩ rfl rfl hl.1 rfl (lv_room (Nat.le_of_ble_eq_true rfl)) d_Mod_openFooter_94 ⟨hRc, hRs⟩) hS (fun q _ h => hF q h) hF (fun  x1129 t H locs ht hvm hw hB hz1 hk1 hS => ?_)
  have hW := Wd.back hB ht hF
  clear hB ht hF hz1 hk1 hvm
  refine lv_aload_n hx hb d_Mod_openFooter_97 rfl (lv_at hl 0 rfl) ?_
  refine w_geti (k := 69) (t := 12) (C := R_Mod) (T := F_Mod) (N := 167) hx hb hT hown hK hW ko_0.1 ko_0.2 (by decide) in_Mod rfl rfl (by decide) rfl fr_Mod_69 w_9_5 d_Mod_openFooter_98 ?_
  refine lv_if_eq (tgt := 105) hx hb d_Mod_openFooter_101 (by decide) (fun c1130 => ?_) (fun c1130 => ?_)
  · have hw := hw.1 c1130
    refine lv_iload_n hx hb d_Mod_openFooter_105 rfl (lv_at hl 1 rfl) ?_
    refine lv_bipush (v := 12) hx hb d_Mod_openFooter_106 (by decide) ?_
    refine lv_isub hx hb d_Mod_openFooter_108 ?_
    refine lv_lload_n hx hb d_Mod_openFooter_109 rfl (lv_at hl 2 rfl) ?_
    refine lv_l2i hx hb d_Mod_openFooter_110 rfl ?_
    refine lv_isub hx hb d_Mod_openFooter_111 ?_
    refine lv_topi (fun v1131 ev1131 => ?_)
    have hw := hw v1131 ev1131
    refine lv_istore (lv' := [(5, .int v1131), (0, .ref (ad 0)), (1, .int l1), (2, .long l2), (4, .int l4)]) hx hb d_Mod_openFooter_112 hl (by decide) rfl (fun ls hl => ?_)
    refine lv_iload_n hx hb d_Mod_openFooter_114 rfl (lv_at hl 2 rfl) ?_
    refine lv_bipush (v := 12) hx hb d_Mod_openFooter_115 (by decide) ?_
    refine lv_isub hx hb d_Mod_openFooter_117 ?_
    refine lv_topi (fun v1132 ev1132 => ?_)
    have hw := hw v1132 ev1132
    refine lv_istore (lv' := [(6, .int v1132), (5, .int v1131), (0, .ref (ad 0)), (1, .int l1), (2, .long l2), (4, .int l4)]) hx hb d_Mod_openFooter_118 hl (by decide) rfl (fun ls hl => ?_)
    refine lv_aload_n hx hb d_Mod_openFooter_120 rfl (lv_at hl 2 rfl) ?_
    refine lv_aload_n hx hb d_Mod_openFooter_121 rfl (lv_at hl 2 rfl) ?_
    refine w_getf (q := 41) (k := 62) (t := 12) (C := R_Mod) (T := F_Mod) (N := 167) hx hb hT hown hK hW ko_0.1 ko_0.2 (by decide) in_Mod rfl rfl (by decide) rfl fr_Mod_62 w_8_238 d_Mod_openFooter_122 rfl ?_
    refine lv_iload hx hb d_Mod_openFooter_125 (lv_at hl 1 rfl) ?_
    refine lv_iload hx hb d_Mod_openFooter_127 (lv_at hl 0 rfl) ?_
    have hF := hW.free hS hA
    refine va_calli (va_runS (As := [.ref (ad 41), .int v1131, .int v1132]) (rest := [.ref (ad 0)]) ⟨hx, hb, hml, hown, hT⟩ (k_Mod_check l dC dI cI cB cJ cZ ad H.size 41 v1131 v1132 x1129 ko_41 hw) ⟨callB_of 3 hT (gwt_in w_12_50) rfl rfl rfl (hT _ w_1_15) (hT _ w_12_48) (by decide +kernel) ⟨Nat.le_trans (Nat.le_of_ble_eq_true rfl) hRf, Nat.le_trans (Nat.le_of_ble_eq_true rfl) hRl⟩, hT _ w_12_49⟩ ⟨PW.blind, PW.at _ hW hK hN⟩ rfl rfl hl.1 rfl (lv_room (Nat.le_of_ble_eq_true rfl)) d_Mod_openFooter_129 ⟨hRc, hRs⟩) hS (fun q _ h => hF q h) hF (fun r1134 x1133 t H locs ht hvm hw hB hz1 hk1 hS => ?_)
    have hW := Wd.back hB ht hF
    clear hB ht hF hz1 hk1 hvm
    refine lv_iload hx hb d_Mod_openFooter_132 (lv_at hl 5 rfl) ?_
    refine lv_icmp_eq (tgt := 141) hx hb d_Mod_openFooter_134 (by decide) (fun c1135 => ?_) (fun c1135 => ?_)
    · have hw := hw.1 c1135
      refine lv_iconst (v := 0) hx hb d_Mod_openFooter_141 (by decide) ?_
      exact t_Mod_openFooter_142 hx hb hml hown hT hK hN hA hRc hRs hRf hRl hret  l1 l2 l4 v1131 v1132 0 x1133 H locs ls  hw hW hS (lv_sub hl [2, 3, 4, 5, 1, 0] rfl)
    · have hw := hw.2 c1135
      refine lv_iconst (v := 1) hx hb d_Mod_openFooter_137 (by decide) ?_
      refine lv_goto (tgt := 142) hx hb d_Mod_openFooter_138 (by decide) ?_
      exact t_Mod_openFooter_142 hx hb hml hown hT hK hN hA hRc hRs hRf hRl hret  l1 l2 l4 v1131 v1132 1 x1133 H locs ls  hw hW hS (lv_sub hl [2, 3, 4, 5, 1, 0] rfl)
  · have hw := hw.2 c1130
    exact hret x1129 H locs 104 ls d_Mod_openFooter_104 hw hW hS
set_option maxRecDepth 100000 in
set_option maxHeartbeats 4000000 in
set_option maxRecDepth 100000 in
theorem t_Mod_openFooter_35 {p : Program} {l : Launch} {e : Env} {R : Room} {s : State} {m : MethodId} {args : Array Value} {below : List Frame} {meth : Method} {c : Code} {cells slots : Nat} {Q : State → Prop} {dC : Nat → ClassId} {dI : Nat → Nat → Nat} {cI cB cJ cZ : ClassId} {A : Nat → Prop} {ad : Nat → Nat} {post : St → Prop} (hx : p.tables.exec = Jvm.exec) (hb : c.code = b_Mod_openFooter) (hml : c.maxLocals = 12) (hown : s.vm.findClass R_Mod = some m.cls) (hT : ∀ w ∈ TG, w.before args s = true) (hK : va_K (dC, dI) CL (TY cI cB cJ cZ) s) (hN : NW s) (hA : ∀ q : Nat, s.heap.size ≤ q → A q) (hRc : cells ≤ R.cells) (hRs : slots ≤ R.slots) (hRf : 5 ≤ R.frames) (hRl : 122 ≤ R.locals) (hret : ∀ (x : St) (H : Heap) (locs : List Loc) (pc : Nat) (ls : Array Slot), decode b_Mod_openFooter pc = .ok (.return_, 1) → post x → Wd dC dI cI cB cJ cZ ad stM kcM 115 A x H → va_S A s.heap H locs → W p l e R s m args below meth c H locs cells slots Q (F0 m pc ls []))  : ∀ (l1 : Int32) (s0 : Int32) (x : St) (H : Heap) (locs : List Loc) (ls : Array Slot), j_Mod_openFooter_35 post l1 s0 x → Wd dC dI cI cB cJ cZ ad stM kcM 115 A x H → va_S A s.heap H locs → lv_has ls 12 [(0, .ref (ad 0)), (1, .int l1)] → W p l e R s m args below meth c H locs cells slots Q (F0 m 35 ls [.int s0, .ref (ad 0)]) := by
  intro l1 s0 x H locs ls  hw hW hS hl
  unfold j_Mod_openFooter_35 at hw
  refine lv_bipush (v := 13) hx hb d_Mod_openFooter_35 (by decide) ?_
  have hF := hW.free hS hA
  refine va_callv (va_runV (C := R_Mod) (As := [.int s0, .int 13]) (rest := []) ⟨hx, hb, hml, hown, hT⟩ (k_Mod_faults l dC dI cI cB cJ cZ ad H.size s0 13 x  hw) ⟨callB_of 2 hT (gwt_in w_12_107) rfl rfl rfl (hT _ w_1_15) (hT _ w_12_104) (by decide +kernel) ⟨Nat.le_trans (Nat.le_of_ble_eq_true rfl) hRf, Nat.le_trans (Nat.le_of_ble_eq_true rfl) hRl⟩, hT _ w_12_106, hT _ ws_183⟩ ⟨PW.blind, va_recv hK hW.1 (ci := 12) (q0 := 0) rfl (pic_obj ko_0.1 ko_0.2 (by decide)), PW.at _ hW hK hN⟩ rfl rfl hl.1 rfl (lv_room (Nat.le_of_ble_eq_true rfl)) d_Mod_openFooter_37 ⟨hRc, hRs⟩) hS (fun q _ h => hF q h) hF (fun  x1136 t H locs ht hvm hw hB hz1 hk1 hS => ?_)
  have hW := Wd.back hB ht hF
  clear hB ht hF hz1 hk1 hvm
  refine lv_aload_n hx hb d_Mod_openFooter_40 rfl (lv_at hl 0 rfl) ?_
  refine w_geti (k := 69) (t := 12) (C := R_Mod) (T := F_Mod) (N := 167) hx hb hT hown hK hW ko_0.1 ko_0.2 (by decide) in_Mod rfl rfl (by decide) rfl fr_Mod_69 w_9_5 d_Mod_openFooter_41 ?_
  refine lv_if_eq (tgt := 48) hx hb d_Mod_openFooter_44 (by decide) (fun c1137 => ?_) (fun c1137 => ?_)
  · have hw := hw.1 c1137
    refine lv_aload_n hx hb d_Mod_openFooter_48 rfl (lv_at hl 0 rfl) ?_
    refine lv_iload_n hx hb d_Mod_openFooter_49 rfl (lv_at hl 1 rfl) ?_
    refine lv_bipush (v := 12) hx hb d_Mod_openFooter_50 (by decide) ?_
    refine lv_isub hx hb d_Mod_openFooter_52 ?_
    refine w_puti (ty := .int) (k := 67) (t := 12) (C := R_Mod) (T := F_Mod) (N := 167) hx hb hT hown hK hW hS ko_0.1 ko_0.2 (by decide) in_Mod t_Mod t_Mod_ok n_Mod rfl rfl (by decide) rfl fr_Mod_67 w_9_3 (by decide +kernel) rfl rfl d_Mod_openFooter_53 (fun H locs hW hS => ?_)
    obtain ⟨x1138, ex1138⟩ : ∃ y : St, y = setI x1136 0 67 (l1 - 12) := ⟨_, rfl⟩
    rw [← ex1138] at hW
    have hw := hw x1138 ex1138
    refine lv_aload_n hx hb d_Mod_openFooter_56 rfl (lv_at hl 0 rfl) ?_
    refine lv_iconst (v := 4) hx hb d_Mod_openFooter_57 (by decide) ?_
    refine lv_iload_n hx hb d_Mod_openFooter_58 rfl (lv_at hl 1 rfl) ?_
    have hF := hW.free hS hA
    refine va_calll (va_runV (C := R_Mod) (As := [.int 4, .int l1]) (rest := []) ⟨hx, hb, hml, hown, hT⟩ (k_Mod_fixed l dC dI cI cB cJ cZ ad H.size 4 l1 x1138  hw) ⟨callB_of 2 hT (gwt_in w_12_111) rfl rfl rfl (hT _ w_1_15) (hT _ w_12_108) (by decide +kernel) ⟨Nat.le_trans (Nat.le_of_ble_eq_true rfl) hRf, Nat.le_trans (Nat.le_of_ble_eq_true rfl) hRl⟩, hT _ w_12_110, hT _ ws_184⟩ ⟨PW.blind, va_recv hK hW.1 (ci := 12) (q0 := 0) rfl (pic_obj ko_0.1 ko_0.2 (by decide)), PW.at _ hW hK hN⟩ rfl rfl hl.1 rfl (lv_room (Nat.le_of_ble_eq_true rfl)) d_Mod_openFooter_59 ⟨hRc, hRs⟩) hS (fun q _ h => hF q h) hF (fun r1140 x1139 t H locs ht hvm hw hB hz1 hk1 hS => ?_)
    have hW := Wd.back hB ht hF
    clear hB ht hF hz1 hk1 hvm
    refine lv_ldc2 hx hb hown (hT _ w_12_112) d_Mod_openFooter_62 ?_
    refine lv_land hx hb d_Mod_openFooter_65 ?_
    refine lv_topl (fun v1141 ev1141 => ?_)
    have hw := hw v1141 ev1141
    refine lv_lstore_n (lv' := [(2, .long v1141), (0, .ref (ad 0)), (1, .int l1)]) hx hb d_Mod_openFooter_66 rfl hl (by decide) rfl (fun ls hl => ?_)
    refine lv_aload_n hx hb d_Mod_openFooter_67 rfl (lv_at hl 1 rfl) ?_
    refine lv_iconst (v := 4) hx hb d_Mod_openFooter_68 (by decide) ?_
    refine lv_iload_n hx hb d_Mod_openFooter_69 rfl (lv_at hl 2 rfl) ?_
    have hF := hW.free hS hA
    refine va_calll (va_runV (C := R_Mod) (As := [.int 4, .int l1]) (rest := []) ⟨hx, hb, hml, hown, hT⟩ (k_Mod_fixed l dC dI cI cB cJ cZ ad H.size 4 l1 x1139  hw) ⟨callB_of 2 hT (gwt_in w_12_111) rfl rfl rfl (hT _ w_1_15) (hT _ w_12_108) (by decide +kernel) ⟨Nat.le_trans (Nat.le_of_ble_eq_true rfl) hRf, Nat.le_trans (Nat.le_of_ble_eq_true rfl) hRl⟩, hT _ w_12_110, hT _ ws_184⟩ ⟨PW.blind, va_recv hK hW.1 (ci := 12) (q0 := 0) rfl (pic_obj ko_0.1 ko_0.2 (by decide)), PW.at _ hW hK hN⟩ rfl rfl hl.1 rfl (lv_room (Nat.le_of_ble_eq_true rfl)) d_Mod_openFooter_70 ⟨hRc, hRs⟩) hS (fun q _ h => hF q h) hF (fun r1143 x1142 t H locs ht hvm hw hB hz1 hk1 hS => ?_)
    have hW := Wd.back hB ht hF
    clear hB ht hF hz1 hk1 hvm
    refine lv_l2i hx hb d_Mod_openFooter_73 rfl ?_
    refine lv_topi (fun v1144 ev1144 => ?_)
    have hw := hw v1144 ev1144
    refine lv_istore (lv' := [(4, .int v1144), (2, .long v1141), (0, .ref (ad 0)), (1, .int l1)]) hx hb d_Mod_openFooter_74 hl (by decide) rfl (fun ls hl => ?_)
    refine lv_aload_n hx hb d_Mod_openFooter_76 rfl (lv_at hl 2 rfl) ?_
    refine lv_lload_n hx hb d_Mod_openFooter_77 rfl (lv_at hl 1 rfl) ?_
    refine lv_iload_n hx hb d_Mod_openFooter_78 rfl (lv_at hl 3 rfl) ?_
    refine lv_bipush (v := 16) hx hb d_Mod_openFooter_79 (by decide) ?_
    refine lv_isub hx hb d_Mod_openFooter_81 ?_
    refine lv_i2l hx hb d_Mod_openFooter_82 rfl ?_
    refine W.lcmp hx hb d_Mod_openFooter_83 ?_
    refine lv_if_le (tgt := 91) hx hb d_Mod_openFooter_84 (by decide) (fun c1145 => ?_) (fun c1145 => ?_)
    · have hw := hw.1 c1145
      refine lv_iconst (v := 0) hx hb d_Mod_openFooter_91 (by decide) ?_
      exact t_Mod_openFooter_92 hx hb hml hown hT hK hN hA hRc hRs hRf hRl hret  l1 v1141 v1144 0 x1142 H locs ls  hw hW hS (lv_sub hl [2, 3, 1, 0] rfl)
    · have hw := hw.2 c1145
      refine lv_iconst (v := 1) hx hb d_Mod_openFooter_87 (by decide) ?_
      refine lv_goto (tgt := 92) hx hb d_Mod_openFooter_88 (by decide) ?_
      exact t_Mod_openFooter_92 hx hb hml hown hT hK hN hA hRc hRs hRf hRl hret  l1 v1141 v1144 1 x1142 H locs ls  hw hW hS (lv_sub hl [2, 3, 1, 0] rfl)
  · have hw := hw.2 c1137
    exact hret x1136 H locs 47 ls d_Mod_openFooter_47 hw hW hS
set_option maxRecDepth 100000 in
set_option maxHeartbeats 4000000 in
set_option maxRecDepth 100000 in
theorem t_Mod_openFooter_30 {p : Program} {l : Launch} {e : Env} {R : Room} {s : State} {m : MethodId} {args : Array Value} {below : List Frame} {meth : Method} {c : Code} {cells slots : Nat} {Q : State → Prop} {dC : Nat → ClassId} {dI : Nat → Nat → Nat} {cI cB cJ cZ : ClassId} {A : Nat → Prop} {ad : Nat → Nat} {post : St → Prop} (hx : p.tables.exec = Jvm.exec) (hb : c.code = b_Mod_openFooter) (hml : c.maxLocals = 12) (hown : s.vm.findClass R_Mod = some m.cls) (hT : ∀ w ∈ TG, w.before args s = true) (hK : va_K (dC, dI) CL (TY cI cB cJ cZ) s) (hN : NW s) (hA : ∀ q : Nat, s.heap.size ≤ q → A q) (hRc : cells ≤ R.cells) (hRs : slots ≤ R.slots) (hRf : 5 ≤ R.frames) (hRl : 122 ≤ R.locals) (hret : ∀ (x : St) (H : Heap) (locs : List Loc) (pc : Nat) (ls : Array Slot), decode b_Mod_openFooter pc = .ok (.return_, 1) → post x → Wd dC dI cI cB cJ cZ ad stM kcM 115 A x H → va_S A s.heap H locs → W p l e R s m args below meth c H locs cells slots Q (F0 m pc ls []))  : ∀ (l1 : Int32) (x : St) (H : Heap) (locs : List Loc) (ls : Array Slot), j_Mod_openFooter_30 post l1 x → Wd dC dI cI cB cJ cZ ad stM kcM 115 A x H → va_S A s.heap H locs → lv_has ls 12 [(0, .ref (ad 0)), (1, .int l1)] → W p l e R s m args below meth c H locs cells slots Q (F0 m 30 ls [.ref (ad 0)]) := by
  intro l1 x H locs ls  hw hW hS hl
  unfold j_Mod_openFooter_30 at hw
  refine lv_iconst (v := 1) hx hb d_Mod_openFooter_30 (by decide) ?_
  refine lv_goto (tgt := 35) hx hb d_Mod_openFooter_31 (by decide) ?_
  exact t_Mod_openFooter_35 hx hb hml hown hT hK hN hA hRc hRs hRf hRl hret  l1 1 x H locs ls  hw hW hS (lv_sub hl [0, 1] rfl)
set_option maxRecDepth 100000 in
set_option maxHeartbeats 4000000 in
set_option maxRecDepth 100000 in
theorem t_Mod_openFooter_e {p : Program} {l : Launch} {e : Env} {R : Room} {s : State} {m : MethodId} {args : Array Value} {below : List Frame} {meth : Method} {c : Code} {cells slots : Nat} {Q : State → Prop} {dC : Nat → ClassId} {dI : Nat → Nat → Nat} {cI cB cJ cZ : ClassId} {A : Nat → Prop} {ad : Nat → Nat} {post : St → Prop} (hx : p.tables.exec = Jvm.exec) (hb : c.code = b_Mod_openFooter) (hml : c.maxLocals = 12) (hown : s.vm.findClass R_Mod = some m.cls) (hT : ∀ w ∈ TG, w.before args s = true) (hK : va_K (dC, dI) CL (TY cI cB cJ cZ) s) (hN : NW s) (hA : ∀ q : Nat, s.heap.size ≤ q → A q) (hRc : cells ≤ R.cells) (hRs : slots ≤ R.slots) (hRf : 5 ≤ R.frames) (hRl : 122 ≤ R.locals) (hret : ∀ (x : St) (H : Heap) (locs : List Loc) (pc : Nat) (ls : Array Slot), decode b_Mod_openFooter pc = .ok (.return_, 1) → post x → Wd dC dI cI cB cJ cZ ad stM kcM 115 A x H → va_S A s.heap H locs → W p l e R s m args below meth c H locs cells slots Q (F0 m pc ls [])) : ∀  (x : St) (H : Heap) (locs : List Loc) (ls : Array Slot), wp_Mod_openFooter post  x → Wd dC dI cI cB cJ cZ ad stM kcM 115 A x H → va_S A s.heap H locs → lv_has ls 12 [(0, .ref (ad 0))] → W p l e R s m args below meth c H locs cells slots Q (F0 m 0 ls []) := by
  intro  x H locs ls  hw hW hS hl
  unfold wp_Mod_openFooter at hw
  refine lv_aload_n hx hb d_Mod_openFooter_0 rfl (lv_at hl 0 rfl) ?_
  refine w_geti (k := 65) (t := 12) (C := R_Mod) (T := F_Mod) (N := 167) hx hb hT hown hK hW ko_0.1 ko_0.2 (by decide) in_Mod rfl rfl (by decide) rfl fr_Mod_65 w_9_1 d_Mod_openFooter_1 ?_
  refine lv_topi (fun v1146 ev1146 => ?_)
  have hw := hw v1146 ev1146
  refine lv_istore_n (lv' := [(1, .int v1146), (0, .ref (ad 0))]) hx hb d_Mod_openFooter_4 rfl hl (by decide) rfl (fun ls hl => ?_)
  refine lv_aload_n hx hb d_Mod_openFooter_5 rfl (lv_at hl 1 rfl) ?_
  refine lv_iload_n hx hb d_Mod_openFooter_6 rfl (lv_at hl 0 rfl) ?_
  refine lv_bipush (v := 16) hx hb d_Mod_openFooter_7 (by decide) ?_
  refine lv_icmp_lt (tgt := 30) hx hb d_Mod_openFooter_9 (by decide) (fun c1147 => ?_) (fun c1147 => ?_)
  · have hw := hw.1 c1147
    exact t_Mod_openFooter_30 hx hb hml hown hT hK hN hA hRc hRs hRf hRl hret  v1146 x H locs ls  hw hW hS (lv_sub hl [1, 0] rfl)
  · have hw := hw.2 c1147
    refine lv_aload_n hx hb d_Mod_openFooter_12 rfl (lv_at hl 1 rfl) ?_
    refine lv_iconst (v := 0) hx hb d_Mod_openFooter_13 (by decide) ?_
    have hF := hW.free hS hA
    refine va_calli (va_runV (C := R_Mod) (As := [.int 0]) (rest := [.ref (ad 0)]) ⟨hx, hb, hml, hown, hT⟩ (k_Mod_isFrame l dC dI cI cB cJ cZ ad H.size 0 x  hw) ⟨callB_of 1 hT (gwt_in w_12_103) rfl rfl rfl (hT _ w_1_15) (hT _ w_12_100) (by decide +kernel) ⟨Nat.le_trans (Nat.le_of_ble_eq_true rfl) hRf, Nat.le_trans (Nat.le_of_ble_eq_true rfl) hRl⟩, hT _ w_12_102, hT _ ws_182⟩ ⟨PW.blind, va_recv hK hW.1 (ci := 12) (q0 := 0) rfl (pic_obj ko_0.1 ko_0.2 (by decide)), PW.at _ hW hK hN⟩ rfl rfl hl.1 rfl (lv_room (Nat.le_of_ble_eq_true rfl)) d_Mod_openFooter_14 ⟨hRc, hRs⟩) hS (fun q _ h => hF q h) hF (fun r1149 x1148 t H locs ht hvm hw hB hz1 hk1 hS => ?_)
    have hW := Wd.back hB ht hF
    clear hB ht hF hz1 hk1 hvm
    refine lv_if_eq (tgt := 30) hx hb d_Mod_openFooter_17 (by decide) (fun c1150 => ?_) (fun c1150 => ?_)
    · have hw := hw.1 c1150
      exact t_Mod_openFooter_30 hx hb hml hown hT hK hN hA hRc hRs hRf hRl hret  v1146 x1148 H locs ls  hw hW hS (lv_sub hl [1, 0] rfl)
    · have hw := hw.2 c1150
      refine lv_aload_n hx hb d_Mod_openFooter_20 rfl (lv_at hl 1 rfl) ?_
      refine lv_iload_n hx hb d_Mod_openFooter_21 rfl (lv_at hl 0 rfl) ?_
      refine lv_iconst (v := 4) hx hb d_Mod_openFooter_22 (by decide) ?_
      refine lv_isub hx hb d_Mod_openFooter_23 ?_
      have hF := hW.free hS hA
      refine va_calli (va_runV (C := R_Mod) (As := [.int (v1146 - 4)]) (rest := [.ref (ad 0)]) ⟨hx, hb, hml, hown, hT⟩ (k_Mod_isFrame l dC dI cI cB cJ cZ ad H.size (v1146 - 4) x1148  hw) ⟨callB_of 1 hT (gwt_in w_12_103) rfl rfl rfl (hT _ w_1_15) (hT _ w_12_100) (by decide +kernel) ⟨Nat.le_trans (Nat.le_of_ble_eq_true rfl) hRf, Nat.le_trans (Nat.le_of_ble_eq_true rfl) hRl⟩, hT _ w_12_102, hT _ ws_182⟩ ⟨PW.blind, va_recv hK hW.1 (ci := 12) (q0 := 0) rfl (pic_obj ko_0.1 ko_0.2 (by decide)), PW.at _ hW hK hN⟩ rfl rfl hl.1 rfl (lv_room (Nat.le_of_ble_eq_true rfl)) d_Mod_openFooter_24 ⟨hRc, hRs⟩) hS (fun q _ h => hF q h) hF (fun r1152 x1151 t H locs ht hvm hw hB hz1 hk1 hS => ?_)
      have hW := Wd.back hB ht hF
      clear hB ht hF hz1 hk1 hvm
      refine lv_if_ne (tgt := 34) hx hb d_Mod_openFooter_27 (by decide) (fun c1153 => ?_) (fun c1153 => ?_)
      · have hw := hw.1 c1153
        refine lv_iconst (v := 0) hx hb d_Mod_openFooter_34 (by decide) ?_
        exact t_Mod_openFooter_35 hx hb hml hown hT hK hN hA hRc hRs hRf hRl hret  v1146 0 x1151 H locs ls  hw hW hS (lv_sub hl [1, 0] rfl)
      · have hw := hw.2 c1153
        exact t_Mod_openFooter_30 hx hb hml hown hT hK hN hA hRc hRs hRf hRl hret  v1146 x1151 H locs ls  hw hW hS (lv_sub hl [1, 0] rfl)
set_option maxHeartbeats 4000000 in
set_option maxRecDepth 100000 in
theorem k_Mod_openFooter (l : Launch) (dC : Nat → ClassId) (dI : Nat → Nat → Nat) (cI cB cJ cZ : ClassId) (ad : Nat → Nat) (sz : Nat)  (x : St) {post : St → Prop} (hw : wp_Mod_openFooter post  x) : Met l y_Mod_openFooter (wsOf y_Mod_openFooter b_Mod_openFooter 12 (none)) ({ frames := 5, cells := 0, slots := 0, locals := 122 }) (va_Pc [.ref (ad 0)] (PW dC dI cI cB cJ cZ ad stM kcM 115 sz x)) (va_Qv (fun (y : St) => post y) (fun y t => Wd dC dI cI cB cJ cZ ad stM kcM 115 (va_A (pic ad stM kcM 115 cI cB cJ cZ x) sz) y t.heap) (va_A (pic ad stM kcM 115 cI cB cJ cZ x) sz)) 0 0 (va_A (pic ad stM kcM 115 cI cB cJ cZ x) sz) := by
  refine Met.ofW (cc := b_Mod_openFooter) (maxL := 12) (ret := none) (by decide) rfl ?_
  intro p e s m args below meth c s₁ B hml hv
  obtain ⟨rfl, hsz, hW0, hK, hN⟩ := hv
  have hx := B.exec
  have hb := B.bytes
  have hr := B.returns
  have hts := atoms_spec B.pre
  have hT : ∀ w ∈ TG, w.before _ s = true := fun w h => hts w (List.mem_cons_of_mem _ h)
  have hown : s.vm.findClass R_Mod = some m.cls := findClass_of_methodNamed B.named
  have hlocks := B.notSynchronized
  subst hsz
  have hW : Wd dC dI cI cB cJ cZ ad stM kcM 115 (va_A (pic ad stM kcM 115 cI cB cJ cZ x) s.heap.size) x s.heap := ⟨hW0.1, hW0.2.1.self (sz := s.heap.size), hW0.2.2⟩
  generalize hAe : va_A (pic ad stM kcM 115 cI cB cJ cZ x) s.heap.size = A at hW ⊢
  have hA : ∀ q : Nat, s.heap.size ≤ q → A q := fun q h => by rw [← hAe]; exact Or.inr h
  have hS : va_S A s.heap s.heap [] := va_S.rf
  have hl := lv_entry ([.ref (ad 0)]) (n := 12) (Nat.le_of_ble_eq_true rfl)
  rw [lg_entry_eq]
  generalize (lg_sl ([.ref (ad 0)]) ++ List.replicate (12 - (lg_sl ([.ref (ad 0)])).length) Slot.unset).toArray = ls at hl ⊢
  have hl : lv_has ls 12 [(0, .ref (ad 0))] := hl
  exact t_Mod_openFooter_e hx hb hml hown hT hK hN hA (Nat.le_refl 0) (Nat.le_refl 0) (Nat.le_refl 5) (Nat.le_refl 122) (fun x H locs pc ls hd hp hW hS => W.vret hx hb hr (fun t ht hM => ⟨⟨x, rfl, hp, Wd.back hW ht.symm (fun _ z => z)⟩, hS.F ht⟩) hS.2.2 hd hlocks)   x _ _ ls  hw hW hS hl
end
