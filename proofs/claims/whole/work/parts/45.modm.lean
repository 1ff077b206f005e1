theorem fr_Mod_14 : F_Mod 14 = (R_Mod, "hasSchema", "Z", false) := rfl
theorem fr_Mod_24 : F_Mod 24 = (R_Mod, "nodes", "I", false) := rfl
theorem fr_Mod_25 : F_Mod 25 = (R_Mod, "said", "I", false) := rfl
theorem fr_Mod_34 : F_Mod 34 = (R_Mod, "rows", "I", false) := rfl
theorem fr_Mod_35 : F_Mod 35 = (R_Mod, "entries", "I", false) := rfl
theorem fr_Mod_36 : F_Mod 36 = (R_Mod, "textSize", "I", false) := rfl
theorem w_10_210 : (Jvm.Cond.methodLink "StripedVaultModel" (460 : Nat) ({ cls := "StripedVaultModel", name := "begins", desc := "()V" } : Jvm.MethodName)) ∈ TG := tw_10 210 (by decide +kernel) (by decide +kernel)
theorem w_10_212 : (Jvm.Cond.instanceMethod ({ cls := "StripedVaultModel", name := "begins", desc := "()V" } : Jvm.MethodName)) ∈ TG := tw_10 212 (by decide +kernel) (by decide +kernel)
theorem w_10_213 : (Jvm.Cond.code ({ cls := "StripedVaultModel", name := "begins", desc := "()V" } : Jvm.MethodName) prog_14_method_5_code (1 : Nat) (Option.none : Option Jvm.ClassFile.FieldType)) ∈ TG := tw_10 213 (by decide +kernel) (by decide +kernel)
theorem w_11_47 : (Jvm.Cond.methodLink "StripedVaultModel" (463 : Nat) ({ cls := "StripedVaultModel", name := "keepSchema", desc := "(I)V" } : Jvm.MethodName)) ∈ TG := tw_11 47 (by decide +kernel) (by decide +kernel)
theorem w_11_49 : (Jvm.Cond.instanceMethod ({ cls := "StripedVaultModel", name := "keepSchema", desc := "(I)V" } : Jvm.MethodName)) ∈ TG := tw_11 49 (by decide +kernel) (by decide +kernel)
theorem w_11_50 : (Jvm.Cond.code ({ cls := "StripedVaultModel", name := "keepSchema", desc := "(I)V" } : Jvm.MethodName) prog_14_method_26_code (6 : Nat) (Option.none : Option Jvm.ClassFile.FieldType)) ∈ TG := tw_11 50 (by decide +kernel) (by decide +kernel)
theorem w_11_51 : (Jvm.Cond.methodLink "StripedVaultModel" (470 : Nat) ({ cls := "StripedVaultModel", name := "empty", desc := "()V" } : Jvm.MethodName)) ∈ TG := tw_11 51 (by decide +kernel) (by decide +kernel)
theorem w_11_53 : (Jvm.Cond.instanceMethod ({ cls := "StripedVaultModel", name := "empty", desc := "()V" } : Jvm.MethodName)) ∈ TG := tw_11 53 (by decide +kernel) (by decide +kernel)
theorem w_11_54 : (Jvm.Cond.code ({ cls := "StripedVaultModel", name := "empty", desc := "()V" } : Jvm.MethodName) prog_14_method_39_code (1 : Nat) (Option.none : Option Jvm.ClassFile.FieldType)) ∈ TG := tw_11 54 (by decide +kernel) (by decide +kernel)
theorem w_11_67 : (Jvm.Cond.methodLink "StripedVaultModel" (516 : Nat) ({ cls := "StripedVaultModel", name := "misses", desc := "(III)Z" } : Jvm.MethodName)) ∈ TG := tw_11 67 (by decide +kernel) (by decide +kernel)
theorem w_11_69 : (Jvm.Cond.instanceMethod ({ cls := "StripedVaultModel", name := "misses", desc := "(III)Z" } : Jvm.MethodName)) ∈ TG := tw_11 69 (by decide +kernel) (by decide +kernel)
theorem w_11_70 : (Jvm.Cond.code ({ cls := "StripedVaultModel", name := "misses", desc := "(III)Z" } : Jvm.MethodName) prog_14_method_36_code (6 : Nat) (Option.some Jvm.ClassFile.FieldType.boolean)) ∈ TG := tw_11 70 (by decide +kernel) (by decide +kernel)
theorem w_8_190 : (Jvm.Cond.fieldLink "StripedVaultModel" (466 : Nat) "StripedVaultModel" "hasSchema" "Z") ∈ TG := tw_8 190 (by decide +kernel) (by decide +kernel)
theorem w_8_200 : (Jvm.Cond.fieldLink "StripedVaultModel" (473 : Nat) "StripedVaultModel" "nodes" "I") ∈ TG := tw_8 200 (by decide +kernel) (by decide +kernel)
theorem w_8_201 : (Jvm.Cond.fieldLink "StripedVaultModel" (476 : Nat) "StripedVaultModel" "said" "I") ∈ TG := tw_8 201 (by decide +kernel) (by decide +kernel)
theorem w_8_210 : (Jvm.Cond.fieldLink "StripedVaultModel" (523 : Nat) "StripedVaultModel" "rows" "I") ∈ TG := tw_8 210 (by decide +kernel) (by decide +kernel)
theorem w_8_211 : (Jvm.Cond.fieldLink "StripedVaultModel" (526 : Nat) "StripedVaultModel" "entries" "I") ∈ TG := tw_8 211 (by decide +kernel) (by decide +kernel)
theorem w_8_212 : (Jvm.Cond.fieldLink "StripedVaultModel" (529 : Nat) "StripedVaultModel" "textSize" "I") ∈ TG := tw_8 212 (by decide +kernel) (by decide +kernel)
theorem ws_107 : Cond.selects R_Mod y_Mod_begins y_Mod_begins ∈ TG := tw_s 107 (by decide +kernel) (by decide +kernel)
theorem ws_122 : Cond.selects R_Mod y_Mod_keepSchema y_Mod_keepSchema ∈ TG := tw_s 122 (by decide +kernel) (by decide +kernel)
theorem ws_123 : Cond.selects R_Mod y_Mod_empty y_Mod_empty ∈ TG := tw_s 123 (by decide +kernel) (by decide +kernel)
theorem ws_126 : Cond.selects R_Mod y_Mod_misses y_Mod_misses ∈ TG := tw_s 126 (by decide +kernel) (by decide +kernel)
theorem d_Mod_empty_0 : decode b_Mod_empty 0 = .ok (.aload_n 0, 1) := by decide +kernel
theorem d_Mod_empty_1 : decode b_Mod_empty 1 = .ok (.iconst 0, 1) := by decide +kernel
theorem d_Mod_empty_2 : decode b_Mod_empty 2 = .ok (.putfield 523, 3) := by decide +kernel
theorem d_Mod_empty_5 : decode b_Mod_empty 5 = .ok (.aload_n 0, 1) := by decide +kernel
theorem d_Mod_empty_6 : decode b_Mod_empty 6 = .ok (.iconst 0, 1) := by decide +kernel
theorem d_Mod_empty_7 : decode b_Mod_empty 7 = .ok (.putfield 526, 3) := by decide +kernel
theorem d_Mod_empty_10 : decode b_Mod_empty 10 = .ok (.aload_n 0, 1) := by decide +kernel
theorem d_Mod_empty_11 : decode b_Mod_empty 11 = .ok (.iconst 0, 1) := by decide +kernel
theorem d_Mod_empty_12 : decode b_Mod_empty 12 = .ok (.putfield 529, 3) := by decide +kernel
theorem d_Mod_empty_15 : decode b_Mod_empty 15 = .ok (.aload_n 0, 1) := by decide +kernel
theorem d_Mod_empty_16 : decode b_Mod_empty 16 = .ok (.getfield 78, 3) := by decide +kernel
theorem d_Mod_empty_19 : decode b_Mod_empty 19 = .ok (.iconst 0, 1) := by decide +kernel
theorem d_Mod_empty_20 : decode b_Mod_empty 20 = .ok (.iconst 0, 1) := by decide +kernel
theorem d_Mod_empty_21 : decode b_Mod_empty 21 = .ok (.iastore, 1) := by decide +kernel
theorem d_Mod_empty_22 : decode b_Mod_empty 22 = .ok (.return_, 1) := by decide +kernel
theorem d_Mod_schema_65 : decode b_Mod_schema 65 = .ok (.aload_n 0, 1) := by decide +kernel
theorem d_Mod_schema_66 : decode b_Mod_schema 66 = .ok (.getfield 376, 3) := by decide +kernel
theorem d_Mod_schema_69 : decode b_Mod_schema 69 = .ok (.iconst (-1), 1) := by decide +kernel
theorem d_Mod_schema_70 : decode b_Mod_schema 70 = .ok (.if_icmp .eq 8, 3) := by decide +kernel
theorem d_Mod_schema_78 : decode b_Mod_schema 78 = .ok (.aload_n 0, 1) := by decide +kernel
theorem d_Mod_schema_79 : decode b_Mod_schema 79 = .ok (.iconst 0, 1) := by decide +kernel
theorem d_Mod_schema_80 : decode b_Mod_schema 80 = .ok (.invokevirtual 463, 3) := by decide +kernel
theorem d_Mod_schema_83 : decode b_Mod_schema 83 = .ok (.aload_n 0, 1) := by decide +kernel
theorem d_Mod_schema_84 : decode b_Mod_schema 84 = .ok (.iconst 1, 1) := by decide +kernel
theorem d_Mod_schema_85 : decode b_Mod_schema 85 = .ok (.putfield 466, 3) := by decide +kernel
theorem d_Mod_schema_88 : decode b_Mod_schema 88 = .ok (.aload_n 0, 1) := by decide +kernel
theorem d_Mod_schema_89 : decode b_Mod_schema 89 = .ok (.invokevirtual 470, 3) := by decide +kernel
theorem d_Mod_schema_92 : decode b_Mod_schema 92 = .ok (.iconst (-1), 1) := by decide +kernel
theorem d_Mod_schema_93 : decode b_Mod_schema 93 = .ok (.ireturn, 1) := by decide +kernel
theorem d_Mod_schema_73 : decode b_Mod_schema 73 = .ok (.aload_n 0, 1) := by decide +kernel
theorem d_Mod_schema_74 : decode b_Mod_schema 74 = .ok (.getfield 376, 3) := by decide +kernel
theorem d_Mod_schema_77 : decode b_Mod_schema 77 = .ok (.ireturn, 1) := by decide +kernel
theorem d_Mod_schema_37 : decode b_Mod_schema 37 = .ok (.aload_n 0, 1) := by decide +kernel
theorem d_Mod_schema_38 : decode b_Mod_schema 38 = .ok (.iconst (-1), 1) := by decide +kernel
theorem d_Mod_schema_39 : decode b_Mod_schema 39 = .ok (.invokevirtual 457, 3) := by decide +kernel
theorem d_Mod_schema_42 : decode b_Mod_schema 42 = .ok (.aload_n 0, 1) := by decide +kernel
theorem d_Mod_schema_43 : decode b_Mod_schema 43 = .ok (.invokevirtual 394, 3) := by decide +kernel
theorem d_Mod_schema_46 : decode b_Mod_schema 46 = .ok (.aload_n 0, 1) := by decide +kernel
theorem d_Mod_schema_47 : decode b_Mod_schema 47 = .ok (.getfield 376, 3) := by decide +kernel
theorem d_Mod_schema_50 : decode b_Mod_schema 50 = .ok (.iconst (-1), 1) := by decide +kernel
theorem d_Mod_schema_51 : decode b_Mod_schema 51 = .ok (.if_icmp .ne 14, 3) := by decide +kernel
theorem d_Mod_schema_54 : decode b_Mod_schema 54 = .ok (.aload_n 0, 1) := by decide +kernel
theorem d_Mod_schema_55 : decode b_Mod_schema 55 = .ok (.getfield 373, 3) := by decide +kernel
theorem d_Mod_schema_58 : decode b_Mod_schema 58 = .ok (.aload_n 0, 1) := by decide +kernel
theorem d_Mod_schema_59 : decode b_Mod_schema 59 = .ok (.getfield 370, 3) := by decide +kernel
theorem d_Mod_schema_62 : decode b_Mod_schema 62 = .ok (.if_icmp .lt (-25), 3) := by decide +kernel
theorem d_Mod_schema_0 : decode b_Mod_schema 0 = .ok (.aload_n 0, 1) := by decide +kernel
theorem d_Mod_schema_1 : decode b_Mod_schema 1 = .ok (.iconst 0, 1) := by decide +kernel
theorem d_Mod_schema_2 : decode b_Mod_schema 2 = .ok (.putfield 360, 3) := by decide +kernel
theorem d_Mod_schema_5 : decode b_Mod_schema 5 = .ok (.aload_n 0, 1) := by decide +kernel
theorem d_Mod_schema_6 : decode b_Mod_schema 6 = .ok (.invokevirtual 460, 3) := by decide +kernel
theorem d_Mod_schema_9 : decode b_Mod_schema 9 = .ok (.aload_n 0, 1) := by decide +kernel
theorem d_Mod_schema_10 : decode b_Mod_schema 10 = .ok (.getfield 370, 3) := by decide +kernel
theorem d_Mod_schema_13 : decode b_Mod_schema 13 = .ok (.sipush 4000, 3) := by decide +kernel
theorem d_Mod_schema_16 : decode b_Mod_schema 16 = .ok (.if_icmp .le 7, 3) := by decide +kernel
theorem d_Mod_schema_23 : decode b_Mod_schema 23 = .ok (.aload_n 0, 1) := by decide +kernel
theorem d_Mod_schema_24 : decode b_Mod_schema 24 = .ok (.getfield 35, 3) := by decide +kernel
theorem d_Mod_schema_27 : decode b_Mod_schema 27 = .ok (.iconst 2, 1) := by decide +kernel
theorem d_Mod_schema_28 : decode b_Mod_schema 28 = .ok (.iconst 0, 1) := by decide +kernel
theorem d_Mod_schema_29 : decode b_Mod_schema 29 = .ok (.iastore, 1) := by decide +kernel
theorem d_Mod_schema_30 : decode b_Mod_schema 30 = .ok (.aload_n 0, 1) := by decide +kernel
theorem d_Mod_schema_31 : decode b_Mod_schema 31 = .ok (.getfield 38, 3) := by decide +kernel
theorem d_Mod_schema_34 : decode b_Mod_schema 34 = .ok (.iconst 2, 1) := by decide +kernel
theorem d_Mod_schema_35 : decode b_Mod_schema 35 = .ok (.iconst 0, 1) := by decide +kernel
theorem d_Mod_schema_36 : decode b_Mod_schema 36 = .ok (.iastore, 1) := by decide +kernel
theorem d_Mod_schema_19 : decode b_Mod_schema 19 = .ok (.sipush 4000, 3) := by decide +kernel
theorem d_Mod_schema_22 : decode b_Mod_schema 22 = .ok (.ireturn, 1) := by decide +kernel
theorem d_Mod_misses_51 : decode b_Mod_misses 51 = .ok (.istore 4, 2) := by decide +kernel
theorem d_Mod_misses_53 : decode b_Mod_misses 53 = .ok (.iinc 5 1, 3) := by decide +kernel
theorem d_Mod_misses_56 : decode b_Mod_misses 56 = .ok (.goto (-50), 3) := by decide +kernel
theorem d_Mod_misses_50 : decode b_Mod_misses 50 = .ok (.iconst 0, 1) := by decide +kernel
theorem d_Mod_misses_46 : decode b_Mod_misses 46 = .ok (.iconst 1, 1) := by decide +kernel
theorem d_Mod_misses_47 : decode b_Mod_misses 47 = .ok (.goto 4, 3) := by decide +kernel
theorem d_Mod_misses_6 : decode b_Mod_misses 6 = .ok (.iload 5, 2) := by decide +kernel
theorem d_Mod_misses_8 : decode b_Mod_misses 8 = .ok (.iload_n 3, 1) := by decide +kernel
theorem d_Mod_misses_9 : decode b_Mod_misses 9 = .ok (.if_icmp .ge 50, 3) := by decide +kernel
theorem d_Mod_misses_59 : decode b_Mod_misses 59 = .ok (.iload 4, 2) := by decide +kernel
theorem d_Mod_misses_61 : decode b_Mod_misses 61 = .ok (.ireturn, 1) := by decide +kernel
theorem d_Mod_misses_12 : decode b_Mod_misses 12 = .ok (.iload 4, 2) := by decide +kernel
theorem d_Mod_misses_14 : decode b_Mod_misses 14 = .ok (.ifCond .ne 32, 3) := by decide +kernel
theorem d_Mod_misses_17 : decode b_Mod_misses 17 = .ok (.aload_n 0, 1) := by decide +kernel
theorem d_Mod_misses_18 : decode b_Mod_misses 18 = .ok (.getfield 23, 3) := by decide +kernel
theorem d_Mod_misses_21 : decode b_Mod_misses 21 = .ok (.iconst 0, 1) := by decide +kernel
theorem d_Mod_misses_22 : decode b_Mod_misses 22 = .ok (.iload 5, 2) := by decide +kernel
theorem d_Mod_misses_24 : decode b_Mod_misses 24 = .ok (.invokestatic 412, 3) := by decide +kernel
theorem d_Mod_misses_27 : decode b_Mod_misses 27 = .ok (.iaload, 1) := by decide +kernel
theorem d_Mod_misses_28 : decode b_Mod_misses 28 = .ok (.iload_n 1, 1) := by decide +kernel
theorem d_Mod_misses_29 : decode b_Mod_misses 29 = .ok (.if_icmp .ne 21, 3) := by decide +kernel
theorem d_Mod_misses_32 : decode b_Mod_misses 32 = .ok (.aload_n 0, 1) := by decide +kernel
theorem d_Mod_misses_33 : decode b_Mod_misses 33 = .ok (.getfield 17, 3) := by decide +kernel
theorem d_Mod_misses_36 : decode b_Mod_misses 36 = .ok (.iconst 0, 1) := by decide +kernel
theorem d_Mod_misses_37 : decode b_Mod_misses 37 = .ok (.iload 5, 2) := by decide +kernel
theorem d_Mod_misses_39 : decode b_Mod_misses 39 = .ok (.invokestatic 412, 3) := by decide +kernel
theorem d_Mod_misses_42 : decode b_Mod_misses 42 = .ok (.iaload, 1) := by decide +kernel
theorem d_Mod_misses_43 : decode b_Mod_misses 43 = .ok (.ifCond .ne 7, 3) := by decide +kernel
theorem d_Mod_misses_0 : decode b_Mod_misses 0 = .ok (.iconst 0, 1) := by decide +kernel
theorem d_Mod_misses_1 : decode b_Mod_misses 1 = .ok (.istore 4, 2) := by decide +kernel
theorem d_Mod_misses_3 : decode b_Mod_misses 3 = .ok (.iload_n 2, 1) := by decide +kernel
theorem d_Mod_misses_4 : decode b_Mod_misses 4 = .ok (.istore 5, 2) := by decide +kernel
theorem d_Mod_ends_23 : decode b_Mod_ends 23 = .ok (.aload_n 0, 1) := by decide +kernel
theorem d_Mod_ends_24 : decode b_Mod_ends 24 = .ok (.dup, 1) := by decide +kernel
theorem d_Mod_ends_25 : decode b_Mod_ends 25 = .ok (.getfield 373, 3) := by decide +kernel
theorem d_Mod_ends_28 : decode b_Mod_ends 28 = .ok (.iconst 1, 1) := by decide +kernel
theorem d_Mod_ends_29 : decode b_Mod_ends 29 = .ok (.iadd, 1) := by decide +kernel
theorem d_Mod_ends_30 : decode b_Mod_ends 30 = .ok (.putfield 373, 3) := by decide +kernel
theorem d_Mod_ends_33 : decode b_Mod_ends 33 = .ok (.return_, 1) := by decide +kernel
theorem d_Mod_ends_0 : decode b_Mod_ends 0 = .ok (.aload_n 0, 1) := by decide +kernel
theorem d_Mod_ends_1 : decode b_Mod_ends 1 = .ok (.iload_n 1, 1) := by decide +kernel
theorem d_Mod_ends_2 : decode b_Mod_ends 2 = .ok (.iload_n 2, 1) := by decide +kernel
theorem d_Mod_ends_3 : decode b_Mod_ends 3 = .ok (.aload_n 0, 1) := by decide +kernel
theorem d_Mod_ends_4 : decode b_Mod_ends 4 = .ok (.getfield 35, 3) := by decide +kernel
theorem d_Mod_ends_7 : decode b_Mod_ends 7 = .ok (.iconst 0, 1) := by decide +kernel
theorem d_Mod_ends_8 : decode b_Mod_ends 8 = .ok (.iaload, 1) := by decide +kernel
theorem d_Mod_ends_9 : decode b_Mod_ends 9 = .ok (.invokevirtual 516, 3) := by decide +kernel
theorem d_Mod_ends_12 : decode b_Mod_ends 12 = .ok (.ifCond .eq 11, 3) := by decide +kernel
theorem d_Mod_ends_15 : decode b_Mod_ends 15 = .ok (.aload_n 0, 1) := by decide +kernel
theorem d_Mod_ends_16 : decode b_Mod_ends 16 = .ok (.aload_n 0, 1) := by decide +kernel
theorem d_Mod_ends_17 : decode b_Mod_ends 17 = .ok (.getfield 373, 3) := by decide +kernel
theorem d_Mod_ends_20 : decode b_Mod_ends 20 = .ok (.invokevirtual 408, 3) := by decide +kernel
theorem d_Mod_node_0 : decode b_Mod_node 0 = .ok (.aload_n 0, 1) := by decide +kernel
theorem d_Mod_node_1 : decode b_Mod_node 1 = .ok (.getfield 44, 3) := by decide +kernel
theorem d_Mod_node_4 : decode b_Mod_node 4 = .ok (.aload_n 0, 1) := by decide +kernel
theorem d_Mod_node_5 : decode b_Mod_node 5 = .ok (.getfield 473, 3) := by decide +kernel
theorem d_Mod_node_8 : decode b_Mod_node 8 = .ok (.iload_n 2, 1) := by decide +kernel
theorem d_Mod_node_9 : decode b_Mod_node 9 = .ok (.iastore, 1) := by decide +kernel
theorem d_Mod_node_10 : decode b_Mod_node 10 = .ok (.aload_n 0, 1) := by decide +kernel
theorem d_Mod_node_11 : decode b_Mod_node 11 = .ok (.getfield 47, 3) := by decide +kernel
theorem d_Mod_node_14 : decode b_Mod_node 14 = .ok (.aload_n 0, 1) := by decide +kernel
theorem d_Mod_node_15 : decode b_Mod_node 15 = .ok (.getfield 473, 3) := by decide +kernel
theorem d_Mod_node_18 : decode b_Mod_node 18 = .ok (.iload_n 1, 1) := by decide +kernel
theorem d_Mod_node_19 : decode b_Mod_node 19 = .ok (.iastore, 1) := by decide +kernel
theorem d_Mod_node_20 : decode b_Mod_node 20 = .ok (.aload_n 0, 1) := by decide +kernel
theorem d_Mod_node_21 : decode b_Mod_node 21 = .ok (.getfield 50, 3) := by decide +kernel
theorem d_Mod_node_24 : decode b_Mod_node 24 = .ok (.aload_n 0, 1) := by decide +kernel
theorem d_Mod_node_25 : decode b_Mod_node 25 = .ok (.getfield 473, 3) := by decide +kernel
theorem d_Mod_node_28 : decode b_Mod_node 28 = .ok (.aload_n 0, 1) := by decide +kernel
theorem d_Mod_node_29 : decode b_Mod_node 29 = .ok (.getfield 476, 3) := by decide +kernel
theorem d_Mod_node_32 : decode b_Mod_node 32 = .ok (.iastore, 1) := by decide +kernel
theorem d_Mod_node_33 : decode b_Mod_node 33 = .ok (.aload_n 0, 1) := by decide +kernel
theorem d_Mod_node_34 : decode b_Mod_node 34 = .ok (.getfield 53, 3) := by decide +kernel
theorem d_Mod_node_37 : decode b_Mod_node 37 = .ok (.aload_n 0, 1) := by decide +kernel
theorem d_Mod_node_38 : decode b_Mod_node 38 = .ok (.getfield 473, 3) := by decide +kernel
theorem d_Mod_node_41 : decode b_Mod_node 41 = .ok (.iconst 0, 1) := by decide +kernel
theorem d_Mod_node_42 : decode b_Mod_node 42 = .ok (.iastore, 1) := by decide +kernel
theorem d_Mod_node_43 : decode b_Mod_node 43 = .ok (.aload_n 0, 1) := by decide +kernel
theorem d_Mod_node_44 : decode b_Mod_node 44 = .ok (.getfield 59, 3) := by decide +kernel
theorem d_Mod_node_47 : decode b_Mod_node 47 = .ok (.aload_n 0, 1) := by decide +kernel
theorem d_Mod_node_48 : decode b_Mod_node 48 = .ok (.getfield 473, 3) := by decide +kernel
theorem d_Mod_node_51 : decode b_Mod_node 51 = .ok (.lload_n 3, 1) := by decide +kernel
theorem d_Mod_node_52 : decode b_Mod_node 52 = .ok (.lastore, 1) := by decide +kernel
theorem d_Mod_node_53 : decode b_Mod_node 53 = .ok (.aload_n 0, 1) := by decide +kernel
theorem d_Mod_node_54 : decode b_Mod_node 54 = .ok (.dup, 1) := by decide +kernel
theorem d_Mod_node_55 : decode b_Mod_node 55 = .ok (.getfield 473, 3) := by decide +kernel
theorem d_Mod_node_58 : decode b_Mod_node 58 = .ok (.iconst 1, 1) := by decide +kernel
theorem d_Mod_node_59 : decode b_Mod_node 59 = .ok (.iadd, 1) := by decide +kernel
theorem d_Mod_node_60 : decode b_Mod_node 60 = .ok (.putfield 473, 3) := by decide +kernel
theorem d_Mod_node_63 : decode b_Mod_node 63 = .ok (.aload_n 0, 1) := by decide +kernel
theorem d_Mod_node_64 : decode b_Mod_node 64 = .ok (.getfield 473, 3) := by decide +kernel
theorem d_Mod_node_67 : decode b_Mod_node 67 = .ok (.iconst 1, 1) := by decide +kernel
theorem d_Mod_node_68 : decode b_Mod_node 68 = .ok (.isub, 1) := by decide +kernel
theorem d_Mod_node_69 : decode b_Mod_node 69 = .ok (.ireturn, 1) := by decide +kernel
theorem d_Mod_behind_171 : decode b_Mod_behind 171 = .ok (.iload_n 3, 1) := by decide +kernel
theorem d_Mod_behind_172 : decode b_Mod_behind 172 = .ok (.ireturn, 1) := by decide +kernel
theorem d_Mod_behind_147 : decode b_Mod_behind 147 = .ok (.bipush 16, 2) := by decide +kernel
theorem d_Mod_behind_149 : decode b_Mod_behind 149 = .ok (.iload_n 3, 1) := by decide +kernel
theorem d_Mod_behind_150 : decode b_Mod_behind 150 = .ok (.imul, 1) := by decide +kernel
theorem d_Mod_behind_151 : decode b_Mod_behind 151 = .ok (.iload 6, 2) := by decide +kernel
theorem d_Mod_behind_153 : decode b_Mod_behind 153 = .ok (.iadd, 1) := by decide +kernel
theorem d_Mod_behind_154 : decode b_Mod_behind 154 = .ok (.istore_n 3, 1) := by decide +kernel
theorem d_Mod_behind_155 : decode b_Mod_behind 155 = .ok (.aload_n 0, 1) := by decide +kernel
theorem d_Mod_behind_156 : decode b_Mod_behind 156 = .ok (.dup, 1) := by decide +kernel
theorem d_Mod_behind_157 : decode b_Mod_behind 157 = .ok (.getfield 373, 3) := by decide +kernel
theorem d_Mod_behind_160 : decode b_Mod_behind 160 = .ok (.iconst 1, 1) := by decide +kernel
theorem d_Mod_behind_161 : decode b_Mod_behind 161 = .ok (.iadd, 1) := by decide +kernel
theorem d_Mod_behind_162 : decode b_Mod_behind 162 = .ok (.putfield 373, 3) := by decide +kernel
theorem d_Mod_behind_165 : decode b_Mod_behind 165 = .ok (.iinc 4 1, 3) := by decide +kernel
theorem d_Mod_behind_168 : decode b_Mod_behind 168 = .ok (.goto (-109), 3) := by decide +kernel
theorem d_Mod_behind_144 : decode b_Mod_behind 144 = .ok (.invokevirtual 408, 3) := by decide +kernel
theorem d_Mod_behind_121 : decode b_Mod_behind 121 = .ok (.istore 6, 2) := by decide +kernel
theorem d_Mod_behind_123 : decode b_Mod_behind 123 = .ok (.iload 6, 2) := by decide +kernel
theorem d_Mod_behind_125 : decode b_Mod_behind 125 = .ok (.iconst (-1), 1) := by decide +kernel
theorem d_Mod_behind_126 : decode b_Mod_behind 126 = .ok (.if_icmp .ne 21, 3) := by decide +kernel
theorem d_Mod_behind_129 : decode b_Mod_behind 129 = .ok (.aload_n 0, 1) := by decide +kernel
theorem d_Mod_behind_130 : decode b_Mod_behind 130 = .ok (.iload 5, 2) := by decide +kernel
theorem d_Mod_behind_132 : decode b_Mod_behind 132 = .ok (.iconst (-1), 1) := by decide +kernel
theorem d_Mod_behind_133 : decode b_Mod_behind 133 = .ok (.if_icmp .ne 10, 3) := by decide +kernel
theorem d_Mod_behind_143 : decode b_Mod_behind 143 = .ok (.iload_n 1, 1) := by decide +kernel
theorem d_Mod_behind_136 : decode b_Mod_behind 136 = .ok (.aload_n 0, 1) := by decide +kernel
theorem d_Mod_behind_137 : decode b_Mod_behind 137 = .ok (.getfield 370, 3) := by decide +kernel
theorem d_Mod_behind_140 : decode b_Mod_behind 140 = .ok (.goto 4, 3) := by decide +kernel
theorem d_Mod_behind_120 : decode b_Mod_behind 120 = .ok (.iconst (-1), 1) := by decide +kernel
theorem d_Mod_behind_59 : decode b_Mod_behind 59 = .ok (.iload 4, 2) := by decide +kernel
theorem d_Mod_behind_61 : decode b_Mod_behind 61 = .ok (.iconst 2, 1) := by decide +kernel
theorem d_Mod_behind_62 : decode b_Mod_behind 62 = .ok (.if_icmp .ge 109, 3) := by decide +kernel
theorem d_Mod_behind_65 : decode b_Mod_behind 65 = .ok (.aload_n 0, 1) := by decide +kernel
theorem d_Mod_behind_66 : decode b_Mod_behind 66 = .ok (.getfield 376, 3) := by decide +kernel
theorem d_Mod_behind_69 : decode b_Mod_behind 69 = .ok (.iconst (-1), 1) := by decide +kernel
theorem d_Mod_behind_70 : decode b_Mod_behind 70 = .ok (.if_icmp .ne 101, 3) := by decide +kernel
theorem d_Mod_behind_73 : decode b_Mod_behind 73 = .ok (.aload_n 0, 1) := by decide +kernel
theorem d_Mod_behind_74 : decode b_Mod_behind 74 = .ok (.invokevirtual 379, 3) := by decide +kernel
theorem d_Mod_behind_77 : decode b_Mod_behind 77 = .ok (.istore 5, 2) := by decide +kernel
theorem d_Mod_behind_79 : decode b_Mod_behind 79 = .ok (.iload 5, 2) := by decide +kernel
theorem d_Mod_behind_81 : decode b_Mod_behind 81 = .ok (.invokestatic 387, 3) := by decide +kernel
theorem d_Mod_behind_84 : decode b_Mod_behind 84 = .ok (.ifCond .eq 11, 3) := by decide +kernel
theorem d_Mod_behind_95 : decode b_Mod_behind 95 = .ok (.iload 5, 2) := by decide +kernel
theorem d_Mod_behind_97 : decode b_Mod_behind 97 = .ok (.bipush 97, 2) := by decide +kernel
theorem d_Mod_behind_99 : decode b_Mod_behind 99 = .ok (.if_icmp .lt 21, 3) := by decide +kernel
theorem d_Mod_behind_102 : decode b_Mod_behind 102 = .ok (.iload 5, 2) := by decide +kernel
theorem d_Mod_behind_104 : decode b_Mod_behind 104 = .ok (.bipush 102, 2) := by decide +kernel
theorem d_Mod_behind_106 : decode b_Mod_behind 106 = .ok (.if_icmp .gt 14, 3) := by decide +kernel
theorem d_Mod_behind_109 : decode b_Mod_behind 109 = .ok (.iload 5, 2) := by decide +kernel
theorem d_Mod_behind_111 : decode b_Mod_behind 111 = .ok (.bipush 97, 2) := by decide +kernel
theorem d_Mod_behind_113 : decode b_Mod_behind 113 = .ok (.isub, 1) := by decide +kernel
theorem d_Mod_behind_114 : decode b_Mod_behind 114 = .ok (.bipush 10, 2) := by decide +kernel
theorem d_Mod_behind_116 : decode b_Mod_behind 116 = .ok (.iadd, 1) := by decide +kernel
theorem d_Mod_behind_117 : decode b_Mod_behind 117 = .ok (.goto 4, 3) := by decide +kernel
theorem d_Mod_behind_87 : decode b_Mod_behind 87 = .ok (.iload 5, 2) := by decide +kernel
theorem d_Mod_behind_89 : decode b_Mod_behind 89 = .ok (.bipush 48, 2) := by decide +kernel
theorem d_Mod_behind_91 : decode b_Mod_behind 91 = .ok (.isub, 1) := by decide +kernel
theorem d_Mod_behind_92 : decode b_Mod_behind 92 = .ok (.goto 29, 3) := by decide +kernel
theorem d_Mod_behind_49 : decode b_Mod_behind 49 = .ok (.invokevirtual 408, 3) := by decide +kernel
theorem d_Mod_behind_52 : decode b_Mod_behind 52 = .ok (.iconst 0, 1) := by decide +kernel
theorem d_Mod_behind_53 : decode b_Mod_behind 53 = .ok (.ireturn, 1) := by decide +kernel
theorem d_Mod_behind_27 : decode b_Mod_behind 27 = .ok (.iload_n 2, 1) := by decide +kernel
theorem d_Mod_behind_28 : decode b_Mod_behind 28 = .ok (.ireturn, 1) := by decide +kernel
theorem d_Mod_behind_0 : decode b_Mod_behind 0 = .ok (.aload_n 0, 1) := by decide +kernel
theorem d_Mod_behind_1 : decode b_Mod_behind 1 = .ok (.invokevirtual 379, 3) := by decide +kernel
theorem d_Mod_behind_4 : decode b_Mod_behind 4 = .ok (.istore_n 2, 1) := by decide +kernel
theorem d_Mod_behind_5 : decode b_Mod_behind 5 = .ok (.aload_n 0, 1) := by decide +kernel
theorem d_Mod_behind_6 : decode b_Mod_behind 6 = .ok (.dup, 1) := by decide +kernel
theorem d_Mod_behind_7 : decode b_Mod_behind 7 = .ok (.getfield 373, 3) := by decide +kernel
theorem d_Mod_behind_10 : decode b_Mod_behind 10 = .ok (.iconst 1, 1) := by decide +kernel
theorem d_Mod_behind_11 : decode b_Mod_behind 11 = .ok (.iadd, 1) := by decide +kernel
theorem d_Mod_behind_12 : decode b_Mod_behind 12 = .ok (.putfield 373, 3) := by decide +kernel
theorem d_Mod_behind_15 : decode b_Mod_behind 15 = .ok (.iload_n 2, 1) := by decide +kernel
theorem d_Mod_behind_16 : decode b_Mod_behind 16 = .ok (.bipush 39, 2) := by decide +kernel
theorem d_Mod_behind_18 : decode b_Mod_behind 18 = .ok (.if_icmp .eq 9, 3) := by decide +kernel
theorem d_Mod_behind_21 : decode b_Mod_behind 21 = .ok (.iload_n 2, 1) := by decide +kernel
theorem d_Mod_behind_22 : decode b_Mod_behind 22 = .ok (.bipush 92, 2) := by decide +kernel
theorem d_Mod_behind_24 : decode b_Mod_behind 24 = .ok (.if_icmp .ne 5, 3) := by decide +kernel
theorem d_Mod_behind_29 : decode b_Mod_behind 29 = .ok (.iload_n 2, 1) := by decide +kernel
theorem d_Mod_behind_30 : decode b_Mod_behind 30 = .ok (.bipush 120, 2) := by decide +kernel
theorem d_Mod_behind_32 : decode b_Mod_behind 32 = .ok (.if_icmp .eq 22, 3) := by decide +kernel
theorem d_Mod_behind_54 : decode b_Mod_behind 54 = .ok (.iconst 0, 1) := by decide +kernel
theorem d_Mod_behind_55 : decode b_Mod_behind 55 = .ok (.istore_n 3, 1) := by decide +kernel
theorem d_Mod_behind_56 : decode b_Mod_behind 56 = .ok (.iconst 0, 1) := by decide +kernel
theorem d_Mod_behind_57 : decode b_Mod_behind 57 = .ok (.istore 4, 2) := by decide +kernel
theorem d_Mod_behind_35 : decode b_Mod_behind 35 = .ok (.aload_n 0, 1) := by decide +kernel
theorem d_Mod_behind_36 : decode b_Mod_behind 36 = .ok (.iload_n 2, 1) := by decide +kernel
theorem d_Mod_behind_37 : decode b_Mod_behind 37 = .ok (.iconst (-1), 1) := by decide +kernel
theorem d_Mod_behind_38 : decode b_Mod_behind 38 = .ok (.if_icmp .ne 10, 3) := by decide +kernel
theorem d_Mod_behind_48 : decode b_Mod_behind 48 = .ok (.iload_n 1, 1) := by decide +kernel
theorem d_Mod_behind_41 : decode b_Mod_behind 41 = .ok (.aload_n 0, 1) := by decide +kernel
theorem d_Mod_behind_42 : decode b_Mod_behind 42 = .ok (.getfield 370, 3) := by decide +kernel
theorem d_Mod_behind_45 : decode b_Mod_behind 45 = .ok (.goto 4, 3) := by decide +kernel
section
variable (l : Launch) (dC : Nat → ClassId) (dI : Nat → Nat → Nat) (cI cB cJ cZ : ClassId)
set_option maxRecDepth 100000 in
set_option maxHeartbeats 4000000 in
set_option maxRecDepth 100000 in
theorem t_Mod_empty_e {p : Program} {l : Launch} {e : Env} {R : Room} {s : State} {m : MethodId} {args : Array Value} {below : List Frame} {meth : Method} {c : Code} {cells slots : Nat} {Q : State → Prop} {dC : Nat → ClassId} {dI : Nat → Nat → Nat} {cI cB cJ cZ : ClassId} {A : Nat → Prop} {ad : Nat → Nat} {post : St → Prop} (hx : p.tables.exec = Jvm.exec) (hb : c.code = b_Mod_empty) (hml : c.maxLocals = 1) (hown : s.vm.findClass R_Mod = some m.cls) (hT : ∀ w ∈ TG, w.before args s = true) (hK : va_K (dC, dI) CL (TY cI cB cJ cZ) s) (hN : NW s) (hA : ∀ q : Nat, s.heap.size ≤ q → A q) (hRc : cells ≤ R.cells) (hRs : slots ≤ R.slots) (hRf : 0 ≤ R.frames) (hRl : 0 ≤ R.locals) (hret : ∀ (x : St) (H : Heap) (locs : List Loc) (pc : Nat) (ls : Array Slot), decode b_Mod_empty pc = .ok (.return_, 1) → post x → Wd dC dI cI cB cJ cZ ad stM kcM 115 A x H → va_S A s.heap H locs → W p l e R s m args below meth c H locs cells slots Q (F0 m pc ls [])) : ∀  (x : St) (H : Heap) (locs : List Loc) (ls : Array Slot), wp_Mod_empty post  x → Wd dC dI cI cB cJ cZ ad stM kcM 115 A x H → va_S A s.heap H locs → lv_has ls 1 [(0, .ref (ad 0))] → W p l e R s m args below meth c H locs cells slots Q (F0 m 0 ls []) := by
  intro  x H locs ls  hw hW hS hl
  unfold wp_Mod_empty at hw
  refine lv_aload_n hx hb d_Mod_empty_0 rfl (lv_at hl 0 rfl) ?_
  refine lv_iconst (v := 0) hx hb d_Mod_empty_1 (by decide) ?_
  refine w_puti (ty := .int) (k := 34) (t := 12) (C := R_Mod) (T := F_Mod) (N := 167) hx hb hT hown hK hW hS ko_0.1 ko_0.2 (by decide) in_Mod t_Mod t_Mod_ok n_Mod rfl rfl (by decide) rfl fr_Mod_34 w_8_210 (by decide +kernel) rfl rfl d_Mod_empty_2 (fun H locs hW hS => ?_)
  obtain ⟨x173, ex173⟩ : ∃ y : St, y = setI x 0 34 0 := ⟨_, rfl⟩
  rw [← ex173] at hW
  have hw := hw x173 ex173
  refine lv_aload_n hx hb d_Mod_empty_5 rfl (lv_at hl 0 rfl) ?_
  refine lv_iconst (v := 0) hx hb d_Mod_empty_6 (by decide) ?_
  refine w_puti (ty := .int) (k := 35) (t := 12) (C := R_Mod) (T := F_Mod) (N := 167) hx hb hT hown hK hW hS ko_0.1 ko_0.2 (by decide) in_Mod t_Mod t_Mod_ok n_Mod rfl rfl (by decide) rfl fr_Mod_35 w_8_211 (by decide +kernel) rfl rfl d_Mod_empty_7 (fun H locs hW hS => ?_)
  obtain ⟨x174, ex174⟩ : ∃ y : St, y = setI x173 0 35 0 := ⟨_, rfl⟩
  rw [← ex174] at hW
  have hw := hw x174 ex174
  refine lv_aload_n hx hb d_Mod_empty_10 rfl (lv_at hl 0 rfl) ?_
  refine lv_iconst (v := 0) hx hb d_Mod_empty_11 (by decide) ?_
  refine w_puti (ty := .int) (k := 36) (t := 12) (C := R_Mod) (T := F_Mod) (N := 167) hx hb hT hown hK hW hS ko_0.1 ko_0.2 (by decide) in_Mod t_Mod t_Mod_ok n_Mod rfl rfl (by decide) rfl fr_Mod_36 w_8_212 (by decide +kernel) rfl rfl d_Mod_empty_12 (fun H locs hW hS => ?_)
  obtain ⟨x175, ex175⟩ : ∃ y : St, y = setI x174 0 36 0 := ⟨_, rfl⟩
  rw [← ex175] at hW
  have hw := hw x175 ex175
  refine lv_aload_n hx hb d_Mod_empty_15 rfl (lv_at hl 0 rfl) ?_
  refine w_getf (q := 23) (k := 31) (t := 12) (C := R_Mod) (T := F_Mod) (N := 167) hx hb hT hown hK hW ko_0.1 ko_0.2 (by decide) in_Mod rfl rfl (by decide) rfl fr_Mod_31 w_8_207 d_Mod_empty_16 rfl ?_
  refine lv_iconst (v := 0) hx hb d_Mod_empty_19 (by decide) ?_
  refine lv_iconst (v := 0) hx hb d_Mod_empty_20 (by decide) ?_
  obtain ⟨hi, hw⟩ := hw
  refine w_iast (o := 23) hx hb hK hW hS ko_23.1 ko_23.2 hi d_Mod_empty_21 (fun H locs hW hS => ?_)
  obtain ⟨x176, ex176⟩ : ∃ y : St, y = setA x175 23 0 0 := ⟨_, rfl⟩
  rw [← ex176] at hW
  have hw := hw x176 ex176
  exact hret x176 H locs 22 ls d_Mod_empty_22 hw hW hS
set_option maxHeartbeats 4000000 in
set_option maxRecDepth 100000 in
theorem k_Mod_empty (l : Launch) (dC : Nat → ClassId) (dI : Nat → Nat → Nat) (cI cB cJ cZ : ClassId) (ad : Nat → Nat) (sz : Nat)  (x : St) {post : St → Prop} (hw : wp_Mod_empty post  x) : Met l y_Mod_empty (wsOf y_Mod_empty b_Mod_empty 1 (none)) ({ frames := 0, cells := 0, slots := 0, locals := 0 }) (va_Pc [.ref (ad 0)] (PW dC dI cI cB cJ cZ ad stM kcM 115 sz x)) (va_Qv (fun (y : St) => post y) (fun y t => Wd dC dI cI cB cJ cZ ad stM kcM 115 (va_A (pic ad stM kcM 115 cI cB cJ cZ x) sz) y t.heap) (va_A (pic ad stM kcM 115 cI cB cJ cZ x) sz)) 0 0 (va_A (pic ad stM kcM 115 cI cB cJ cZ x) sz) := by
  refine Met.ofW (cc := b_Mod_empty) (maxL := 1) (ret := none) (by decide) rfl ?_
  intro p e s m args below meth c s₁ B hml hv
  obtain ⟨rfl, hsz, hW0, hK, hN⟩ := hv
  have hx := B.exec
  have hb := B.bytes
  have hr := B.returns
  have hts := atoms_spec B.pre
  have hT : ∀ w ∈ TG, w.before _ s = true := fun w h => hts w (List.mem_cons_of_mem _ h)
  have hown : s.vm.findClass R_Mod = some m.cls := findClass_of_methodNamed B.named
  have hlocks := B.notSynchronized
  subst hsz
  have hW : Wd dC dI cI cB cJ cZ ad stM kcM 115 (va_A (pic ad stM kcM 115 cI cB cJ cZ x) s.heap.size) x s.heap := ⟨hW0.1, hW0.2.1.self (sz := s.heap.size), hW0.2.2⟩
  generalize hAe : va_A (pic ad stM kcM 115 cI cB cJ cZ x) s.heap.size = A at hW ⊢
  have hA : ∀ q : Nat, s.heap.size ≤ q → A q := fun q h => by rw [← hAe]; exact Or.inr h
  have hS : va_S A s.heap s.heap [] := va_S.rf
  have hl := lv_entry ([.ref (ad 0)]) (n := 1) (Nat.le_of_ble_eq_true rfl)
  rw [lg_entry_eq]
  generalize (lg_sl ([.ref (ad 0)]) ++ List.replicate (1 - (lg_sl ([.ref (ad 0)])).length) Slot.unset).toArray = ls at hl ⊢
  have hl : lv_has ls 1 [(0, .ref (ad 0))] := hl
  exact t_Mod_empty_e hx hb hml hown hT hK hN hA (Nat.le_refl 0) (Nat.le_refl 0) (Nat.le_refl 0) (Nat.le_refl 0) (fun x H locs pc ls hd hp hW hS => W.vret hx hb hr (fun t ht hM => ⟨⟨x, rfl, hp, Wd.back hW ht.symm (fun _ z => z)⟩, hS.F ht⟩) hS.2.2 hd hlocks)   x _ _ ls  hw hW hS hl
set_option maxRecDepth 100000 in
set_option maxHeartbeats 4000000 in
set_option maxRecDepth 100000 in
theorem t_Mod_schema_65 {p : Program} {l : Launch} {e : Env} {R : Room} {s : State} {m : MethodId} {args : Array Value} {below : List Frame} {meth : Method} {c : Code} {cells slots : Nat} {Q : State → Prop} {dC : Nat → ClassId} {dI : Nat → Nat → Nat} {cI cB cJ cZ : ClassId} {A : Nat → Prop} {ad : Nat → Nat} {post : Int32 → St → Prop} (hx : p.tables.exec = Jvm.exec) (hb : c.code = b_Mod_schema) (hml : c.maxLocals = 1) (hown : s.vm.findClass R_Mod = some m.cls) (hT : ∀ w ∈ TG, w.before args s = true) (hK : va_K (dC, dI) CL (TY cI cB cJ cZ) s) (hN : NW s) (hA : ∀ q : Nat, s.heap.size ≤ q → A q) (hRc : cells ≤ R.cells) (hRs : slots ≤ R.slots) (hRf : 206 ≤ R.frames) (hRl : 5136 ≤ R.locals) (hret : ∀ (r : Int32) (x : St) (H : Heap) (locs : List Loc) (pc : Nat) (ls : Array Slot), decode b_Mod_schema pc = .ok (.ireturn, 1) → post r x → Wd dC dI cI cB cJ cZ ad stM kcM 115 A x H → va_S A s.heap H locs → W p l e R s m args below meth c H locs cells slots Q (F0 m pc ls [.int r]))  : ∀  (x : St) (H : Heap) (locs : List Loc) (ls : Array Slot), j_Mod_schema_65 post  x → Wd dC dI cI cB cJ cZ ad stM kcM 115 A x H → va_S A s.heap H locs → lv_has ls 1 [(0, .ref (ad 0))] → W p l e R s m args below meth c H locs cells slots Q (F0 m 65 ls []) := by
  intro  x H locs ls  hw hW hS hl
  unfold j_Mod_schema_65 at hw
  refine lv_aload_n hx hb d_Mod_schema_65 rfl (lv_at hl 0 rfl) ?_
  refine w_geti (k := 17) (t := 12) (C := R_Mod) (T := F_Mod) (N := 167) hx hb hT hown hK hW ko_0.1 ko_0.2 (by decide) in_Mod rfl rfl (by decide) rfl fr_Mod_17 w_8_193 d_Mod_schema_66 ?_
  refine lv_iconst (v := (-1)) hx hb d_Mod_schema_69 (by decide) ?_
  refine lv_icmp_eq (tgt := 78) hx hb d_Mod_schema_70 (by decide) (fun c177 => ?_) (fun c177 => ?_)
  · have hw := hw.1 c177
    refine lv_aload_n hx hb d_Mod_schema_78 rfl (lv_at hl 0 rfl) ?_
    refine lv_iconst (v := 0) hx hb d_Mod_schema_79 (by decide) ?_
    have hF := hW.free hS hA
    refine va_callv (va_runV (C := R_Mod) (As := [.int 0]) (rest := []) ⟨hx, hb, hml, hown, hT⟩ (k_Mod_keepSchema l dC dI cI cB cJ cZ ad H.size 0 x  hw) ⟨callB_of 1 hT (gwt_in w_11_50) rfl rfl rfl (hT _ w_1_15) (hT _ w_11_47) (by decide +kernel) ⟨Nat.le_trans (Nat.le_of_ble_eq_true rfl) hRf, Nat.le_trans (Nat.le_of_ble_eq_true rfl) hRl⟩, hT _ w_11_49, hT _ ws_122⟩ ⟨PW.blind, va_recv hK hW.1 (ci := 12) (q0 := 0) rfl (pic_obj ko_0.1 ko_0.2 (by decide)), PW.at _ hW hK hN⟩ rfl rfl hl.1 rfl (lv_room (Nat.le_of_ble_eq_true rfl)) d_Mod_schema_80 ⟨hRc, hRs⟩) hS (fun q _ h => hF q h) hF (fun  x178 t H locs ht hvm hw hB hz1 hk1 hS => ?_)
    have hW := Wd.back hB ht hF
    clear hB ht hF hz1 hk1 hvm
    refine lv_aload_n hx hb d_Mod_schema_83 rfl (lv_at hl 0 rfl) ?_
    refine lv_iconst (v := 1) hx hb d_Mod_schema_84 (by decide) ?_
    refine w_puti (ty := .boolean) (k := 14) (t := 12) (C := R_Mod) (T := F_Mod) (N := 167) hx hb hT hown hK hW hS ko_0.1 ko_0.2 (by decide) in_Mod t_Mod t_Mod_ok n_Mod rfl rfl (by decide) rfl fr_Mod_14 w_8_190 (by decide +kernel) rfl rfl d_Mod_schema_85 (fun H locs hW hS => ?_)
    obtain ⟨x179, ex179⟩ : ∃ y : St, y = setI x178 0 14 1 := ⟨_, rfl⟩
    rw [← ex179] at hW
    have hw := hw x179 ex179
    refine lv_aload_n hx hb d_Mod_schema_88 rfl (lv_at hl 0 rfl) ?_
    have hF := hW.free hS hA
    refine va_callv (va_runV (C := R_Mod) (As := []) (rest := []) ⟨hx, hb, hml, hown, hT⟩ (k_Mod_empty l dC dI cI cB cJ cZ ad H.size  x179  hw) ⟨callB_of 0 hT (gwt_in w_11_54) rfl rfl rfl (hT _ w_1_15) (hT _ w_11_51) (by decide +kernel) ⟨Nat.le_trans (Nat.le_of_ble_eq_true rfl) hRf, Nat.le_trans (Nat.le_of_ble_eq_true rfl) hRl⟩, hT _ w_11_53, hT _ ws_123⟩ ⟨PW.blind, va_recv hK hW.1 (ci := 12) (q0 := 0) rfl (pic_obj ko_0.1 ko_0.2 (by decide)), PW.at _ hW hK hN⟩ rfl rfl hl.1 rfl (lv_room (Nat.le_of_ble_eq_true rfl)) d_Mod_schema_89 ⟨hRc, hRs⟩) hS (fun q _ h => hF q h) hF (fun  x180 t H locs ht hvm hw hB hz1 hk1 hS => ?_)
    have hW := Wd.back hB ht hF
    clear hB ht hF hz1 hk1 hvm
    refine lv_iconst (v := (-1)) hx hb d_Mod_schema_92 (by decide) ?_
    exact hret (-1) x180 H locs 93 ls d_Mod_schema_93 hw hW hS
  · have hw := hw.2 c177
    refine lv_aload_n hx hb d_Mod_schema_73 rfl (lv_at hl 0 rfl) ?_
    refine w_geti (k := 17) (t := 12) (C := R_Mod) (T := F_Mod) (N := 167) hx hb hT hown hK hW ko_0.1 ko_0.2 (by decide) in_Mod rfl rfl (by decide) rfl fr_Mod_17 w_8_193 d_Mod_schema_74 ?_
    exact hret (fI x 0 17) x H locs 77 ls d_Mod_schema_77 hw hW hS
set_option maxRecDepth 100000 in
set_option maxHeartbeats 4000000 in
set_option maxRecDepth 100000 in
theorem t_Mod_schema_37 {p : Program} {l : Launch} {e : Env} {R : Room} {s : State} {m : MethodId} {args : Array Value} {below : List Frame} {meth : Method} {c : Code} {cells slots : Nat} {Q : State → Prop} {dC : Nat → ClassId} {dI : Nat → Nat → Nat} {cI cB cJ cZ : ClassId} {A : Nat → Prop} {ad : Nat → Nat} {post : Int32 → St → Prop} {rec37 : St → Prop} (hx : p.tables.exec = Jvm.exec) (hb : c.code = b_Mod_schema) (hml : c.maxLocals = 1) (hown : s.vm.findClass R_Mod = some m.cls) (hT : ∀ w ∈ TG, w.before args s = true) (hK : va_K (dC, dI) CL (TY cI cB cJ cZ) s) (hN : NW s) (hA : ∀ q : Nat, s.heap.size ≤ q → A q) (hRc : cells ≤ R.cells) (hRs : slots ≤ R.slots) (hRf : 206 ≤ R.frames) (hRl : 5136 ≤ R.locals) (hret : ∀ (r : Int32) (x : St) (H : Heap) (locs : List Loc) (pc : Nat) (ls : Array Slot), decode b_Mod_schema pc = .ok (.ireturn, 1) → post r x → Wd dC dI cI cB cJ cZ ad stM kcM 115 A x H → va_S A s.heap H locs → W p l e R s m args below meth c H locs cells slots Q (F0 m pc ls [.int r])) (hrec37 : ∀  (x : St) (H : Heap) (locs : List Loc) (ls : Array Slot), rec37  x → Wd dC dI cI cB cJ cZ ad stM kcM 115 A x H → va_S A s.heap H locs → lv_has ls 1 [(0, .ref (ad 0))] → W p l e R s m args below meth c H locs cells slots Q (F0 m 37 ls [])) : ∀  (x : St) (H : Heap) (locs : List Loc) (ls : Array Slot), j_Mod_schema_37 post rec37  x → Wd dC dI cI cB cJ cZ ad stM kcM 115 A x H → va_S A s.heap H locs → lv_has ls 1 [(0, .ref (ad 0))] → W p l e R s m args below meth c H locs cells slots Q (F0 m 37 ls []) := by
  intro  x H locs ls  hw hW hS hl
  unfold j_Mod_schema_37 at hw
  refine lv_aload_n hx hb d_Mod_schema_37 rfl (lv_at hl 0 rfl) ?_
  refine lv_iconst (v := (-1)) hx hb d_Mod_schema_38 (by decide) ?_
  have hF := hW.free hS hA
  refine va_callv (va_runV (C := R_Mod) (As := [.int (-1)]) (rest := []) ⟨hx, hb, hml, hown, hT⟩ (k_Mod_readField l dC dI cI cB cJ cZ ad H.size (-1) x  hw) ⟨callB_of 1 hT (gwt_in w_10_217) rfl rfl rfl (hT _ w_1_15) (hT _ w_10_214) (by decide +kernel) ⟨Nat.le_trans (Nat.le_of_ble_eq_true rfl) hRf, Nat.le_trans (Nat.le_of_ble_eq_true rfl) hRl⟩, hT _ w_10_216, hT _ ws_108⟩ ⟨PW.blind, va_recv hK hW.1 (ci := 12) (q0 := 0) rfl (pic_obj ko_0.1 ko_0.2 (by decide)), PW.at _ hW hK hN⟩ rfl rfl hl.1 rfl (lv_room (Nat.le_of_ble_eq_true rfl)) d_Mod_schema_39 ⟨hRc, hRs⟩) hS (fun q _ h => hF q h) hF (fun  x181 t H locs ht hvm hw hB hz1 hk1 hS => ?_)
  have hW := Wd.back hB ht hF
  clear hB ht hF hz1 hk1 hvm
  refine lv_aload_n hx hb d_Mod_schema_42 rfl (lv_at hl 0 rfl) ?_
  have hF := hW.free hS hA
  refine va_callv (va_runV (C := R_Mod) (As := []) (rest := []) ⟨hx, hb, hml, hown, hT⟩ (k_Mod_blanks l dC dI cI cB cJ cZ ad H.size  x181  hw) ⟨callB_of 0 hT (gwt_in w_10_230) rfl rfl rfl (hT _ w_1_15) (hT _ w_10_227) (by decide +kernel) ⟨Nat.le_trans (Nat.le_of_ble_eq_true rfl) hRf, Nat.le_trans (Nat.le_of_ble_eq_true rfl) hRl⟩, hT _ w_10_229, hT _ ws_111⟩ ⟨PW.blind, va_recv hK hW.1 (ci := 12) (q0 := 0) rfl (pic_obj ko_0.1 ko_0.2 (by decide)), PW.at _ hW hK hN⟩ rfl rfl hl.1 rfl (lv_room (Nat.le_of_ble_eq_true rfl)) d_Mod_schema_43 ⟨hRc, hRs⟩) hS (fun q _ h => hF q h) hF (fun  x182 t H locs ht hvm hw hB hz1 hk1 hS => ?_)
  have hW := Wd.back hB ht hF
  clear hB ht hF hz1 hk1 hvm
  refine lv_aload_n hx hb d_Mod_schema_46 rfl (lv_at hl 0 rfl) ?_
  refine w_geti (k := 17) (t := 12) (C := R_Mod) (T := F_Mod) (N := 167) hx hb hT hown hK hW ko_0.1 ko_0.2 (by decide) in_Mod rfl rfl (by decide) rfl fr_Mod_17 w_8_193 d_Mod_schema_47 ?_
  refine lv_iconst (v := (-1)) hx hb d_Mod_schema_50 (by decide) ?_
  refine lv_icmp_ne (tgt := 65) hx hb d_Mod_schema_51 (by decide) (fun c183 => ?_) (fun c183 => ?_)
  · have hw := hw.1 c183
    exact t_Mod_schema_65 hx hb hml hown hT hK hN hA hRc hRs hRf hRl hret   x182 H locs ls  hw hW hS (lv_sub hl [0] rfl)
  · have hw := hw.2 c183
    refine lv_aload_n hx hb d_Mod_schema_54 rfl (lv_at hl 0 rfl) ?_
    refine w_geti (k := 16) (t := 12) (C := R_Mod) (T := F_Mod) (N := 167) hx hb hT hown hK hW ko_0.1 ko_0.2 (by decide) in_Mod rfl rfl (by decide) rfl fr_Mod_16 w_8_192 d_Mod_schema_55 ?_
    refine lv_aload_n hx hb d_Mod_schema_58 rfl (lv_at hl 0 rfl) ?_
    refine w_geti (k := 15) (t := 12) (C := R_Mod) (T := F_Mod) (N := 167) hx hb hT hown hK hW ko_0.1 ko_0.2 (by decide) in_Mod rfl rfl (by decide) rfl fr_Mod_15 w_8_191 d_Mod_schema_59 ?_
    refine lv_icmp_lt (tgt := 37) hx hb d_Mod_schema_62 (by decide) (fun c184 => ?_) (fun c184 => ?_)
    · have hw := hw.1 c184
      exact hrec37  x182 H locs ls  hw hW hS (lv_sub hl [0] rfl)
    · have hw := hw.2 c184
      exact t_Mod_schema_65 hx hb hml hown hT hK hN hA hRc hRs hRf hRl hret   x182 H locs ls  hw hW hS (lv_sub hl [0] rfl)
set_option maxHeartbeats 4000000 in
set_option maxRecDepth 100000 in
theorem tl_Mod_schema_37 {p : Program} {l : Launch} {e : Env} {R : Room} {s : State} {m : MethodId} {args : Array Value} {below : List Frame} {meth : Method} {c : Code} {cells slots : Nat} {Q : State → Prop} {dC : Nat → ClassId} {dI : Nat → Nat → Nat} {cI cB cJ cZ : ClassId} {A : Nat → Prop} {ad : Nat → Nat} {post : Int32 → St → Prop} (hx : p.tables.exec = Jvm.exec) (hb : c.code = b_Mod_schema) (hml : c.maxLocals = 1) (hown : s.vm.findClass R_Mod = some m.cls) (hT : ∀ w ∈ TG, w.before args s = true) (hK : va_K (dC, dI) CL (TY cI cB cJ cZ) s) (hN : NW s) (hA : ∀ q : Nat, s.heap.size ≤ q → A q) (hRc : cells ≤ R.cells) (hRs : slots ≤ R.slots) (hRf : 206 ≤ R.frames) (hRl : 5136 ≤ R.locals) (hret : ∀ (r : Int32) (x : St) (H : Heap) (locs : List Loc) (pc : Nat) (ls : Array Slot), decode b_Mod_schema pc = .ok (.ireturn, 1) → post r x → Wd dC dI cI cB cJ cZ ad stM kcM 115 A x H → va_S A s.heap H locs → W p l e R s m args below meth c H locs cells slots Q (F0 m pc ls [.int r]))  : ∀ n : Nat, ∀  (x : St) (H : Heap) (locs : List Loc) (ls : Array Slot), wl_Mod_schema_37 post n  x → Wd dC dI cI cB cJ cZ ad stM kcM 115 A x H → va_S A s.heap H locs → lv_has ls 1 [(0, .ref (ad 0))] → W p l e R s m args below meth c H locs cells slots Q (F0 m 37 ls []) := by
  intro n
  induction n with
  | zero => intro  x H locs ls  hw; exact hw.elim
  | succ n ih => intro  x H locs ls  hw hW hS hl; exact t_Mod_schema_37 hx hb hml hown hT hK hN hA hRc hRs hRf hRl hret  ih  x H locs ls  hw hW hS hl
set_option maxRecDepth 100000 in
set_option maxHeartbeats 4000000 in
set_option maxRecDepth 100000 in
theorem t_Mod_schema_e {p : Program} {l : Launch} {e : Env} {R : Room} {s : State} {m : MethodId} {args : Array Value} {below : List Frame} {meth : Method} {c : Code} {cells slots : Nat} {Q : State → Prop} {dC : Nat → ClassId} {dI : Nat → Nat → Nat} {cI cB cJ cZ : ClassId} {A : Nat → Prop} {ad : Nat → Nat} {post : Int32 → St → Prop} (hx : p.tables.exec = Jvm.exec) (hb : c.code = b_Mod_schema) (hml : c.maxLocals = 1) (hown : s.vm.findClass R_Mod = some m.cls) (hT : ∀ w ∈ TG, w.before args s = true) (hK : va_K (dC, dI) CL (TY cI cB cJ cZ) s) (hN : NW s) (hA : ∀ q : Nat, s.heap.size ≤ q → A q) (hRc : cells ≤ R.cells) (hRs : slots ≤ R.slots) (hRf : 206 ≤ R.frames) (hRl : 5136 ≤ R.locals) (hret : ∀ (r : Int32) (x : St) (H : Heap) (locs : List Loc) (pc : Nat) (ls : Array Slot), decode b_Mod_schema pc = .ok (.ireturn, 1) → post r x → Wd dC dI cI cB cJ cZ ad stM kcM 115 A x H → va_S A s.heap H locs → W p l e R s m args below meth c H locs cells slots Q (F0 m pc ls [.int r])) : ∀  (x : St) (H : Heap) (locs : List Loc) (ls : Array Slot), wp_Mod_schema post  x → Wd dC dI cI cB cJ cZ ad stM kcM 115 A x H → va_S A s.heap H locs → lv_has ls 1 [(0, .ref (ad 0))] → W p l e R s m args below meth c H locs cells slots Q (F0 m 0 ls []) := by
  intro  x H locs ls  hw hW hS hl
  unfold wp_Mod_schema at hw
  refine lv_aload_n hx hb d_Mod_schema_0 rfl (lv_at hl 0 rfl) ?_
  refine lv_iconst (v := 0) hx hb d_Mod_schema_1 (by decide) ?_
  refine w_puti (ty := .int) (k := 0) (t := 12) (C := R_Mod) (T := F_Mod) (N := 167) hx hb hT hown hK hW hS ko_0.1 ko_0.2 (by decide) in_Mod t_Mod t_Mod_ok n_Mod rfl rfl (by decide) rfl fr_Mod_0 w_8_176 (by decide +kernel) rfl rfl d_Mod_schema_2 (fun H locs hW hS => ?_)
  obtain ⟨x185, ex185⟩ : ∃ y : St, y = setI x 0 0 0 := ⟨_, rfl⟩
  rw [← ex185] at hW
  have hw := hw x185 ex185
  refine lv_aload_n hx hb d_Mod_schema_5 rfl (lv_at hl 0 rfl) ?_
  have hF := hW.free hS hA
  refine va_callv (va_runV (C := R_Mod) (As := []) (rest := []) ⟨hx, hb, hml, hown, hT⟩ (k_Mod_begins l dC dI cI cB cJ cZ ad H.size  x185  hw) ⟨callB_of 0 hT (gwt_in w_10_213) rfl rfl rfl (hT _ w_1_15) (hT _ w_10_210) (by decide +kernel) ⟨Nat.le_trans (Nat.le_of_ble_eq_true rfl) hRf, Nat.le_trans (Nat.le_of_ble_eq_true rfl) hRl⟩, hT _ w_10_212, hT _ ws_107⟩ ⟨PW.blind, va_recv hK hW.1 (ci := 12) (q0 := 0) rfl (pic_obj ko_0.1 ko_0.2 (by decide)), PW.at _ hW hK hN⟩ rfl rfl hl.1 rfl (lv_room (Nat.le_of_ble_eq_true rfl)) d_Mod_schema_6 ⟨hRc, hRs⟩) hS (fun q _ h => hF q h) hF (fun  x186 t H locs ht hvm hw hB hz1 hk1 hS => ?_)
  have hW := Wd.back hB ht hF
  clear hB ht hF hz1 hk1 hvm
  refine lv_aload_n hx hb d_Mod_schema_9 rfl (lv_at hl 0 rfl) ?_
  refine w_geti (k := 15) (t := 12) (C := R_Mod) (T := F_Mod) (N := 167) hx hb hT hown hK hW ko_0.1 ko_0.2 (by decide) in_Mod rfl rfl (by decide) rfl fr_Mod_15 w_8_191 d_Mod_schema_10 ?_
  refine lv_sipush (v := 4000) hx hb d_Mod_schema_13 (by decide) ?_
  refine lv_icmp_le (tgt := 23) hx hb d_Mod_schema_16 (by decide) (fun c187 => ?_) (fun c187 => ?_)
  · have hw := hw.1 c187
    refine lv_aload_n hx hb d_Mod_schema_23 rfl (lv_at hl 0 rfl) ?_
    refine w_getf (q := 9) (k := 11) (t := 12) (C := R_Mod) (T := F_Mod) (N := 167) hx hb hT hown hK hW ko_0.1 ko_0.2 (by decide) in_Mod rfl rfl (by decide) rfl fr_Mod_11 w_8_187 d_Mod_schema_24 rfl ?_
    refine lv_iconst (v := 2) hx hb d_Mod_schema_27 (by decide) ?_
    refine lv_iconst (v := 0) hx hb d_Mod_schema_28 (by decide) ?_
    obtain ⟨hi, hw⟩ := hw
    refine w_iast (o := 9) hx hb hK hW hS ko_9.1 ko_9.2 hi d_Mod_schema_29 (fun H locs hW hS => ?_)
    obtain ⟨x188, ex188⟩ : ∃ y : St, y = setA x186 9 2 0 := ⟨_, rfl⟩
    rw [← ex188] at hW
    have hw := hw x188 ex188
    refine lv_aload_n hx hb d_Mod_schema_30 rfl (lv_at hl 0 rfl) ?_
    refine w_getf (q := 10) (k := 12) (t := 12) (C := R_Mod) (T := F_Mod) (N := 167) hx hb hT hown hK hW ko_0.1 ko_0.2 (by decide) in_Mod rfl rfl (by decide) rfl fr_Mod_12 w_8_188 d_Mod_schema_31 rfl ?_
    refine lv_iconst (v := 2) hx hb d_Mod_schema_34 (by decide) ?_
    refine lv_iconst (v := 0) hx hb d_Mod_schema_35 (by decide) ?_
    obtain ⟨hi, hw⟩ := hw
    refine w_iast (o := 10) hx hb hK hW hS ko_10.1 ko_10.2 hi d_Mod_schema_36 (fun H locs hW hS => ?_)
    obtain ⟨x189, ex189⟩ : ∃ y : St, y = setA x188 10 2 0 := ⟨_, rfl⟩
    rw [← ex189] at hW
    have hw := hw x189 ex189
    obtain ⟨n, hw⟩ := hw
    exact tl_Mod_schema_37 hx hb hml hown hT hK hN hA hRc hRs hRf hRl hret  n  x189 H locs ls  hw hW hS (lv_sub hl [0] rfl)
  · have hw := hw.2 c187
    refine lv_sipush (v := 4000) hx hb d_Mod_schema_19 (by decide) ?_
    exact hret 4000 x186 H locs 22 ls d_Mod_schema_22 hw hW hS
set_option maxHeartbeats 4000000 in
set_option maxRecDepth 100000 in
theorem k_Mod_schema (l : Launch) (dC : Nat → ClassId) (dI : Nat → Nat → Nat) (cI cB cJ cZ : ClassId) (ad : Nat → Nat) (sz : Nat)  (x : St) {post : Int32 → St → Prop} (hw : wp_Mod_schema post  x) : Met l y_Mod_schema (wsOf y_Mod_schema b_Mod_schema 1 (some (.int))) ({ frames := 206, cells := 0, slots := 0, locals := 5136 }) (va_Pc [.ref (ad 0)] (PW dC dI cI cB cJ cZ ad stM kcM 115 sz x)) (va_Qi (fun (r : Int32) (y : St) => post r y) (fun y t => Wd dC dI cI cB cJ cZ ad stM kcM 115 (va_A (pic ad stM kcM 115 cI cB cJ cZ x) sz) y t.heap) (va_A (pic ad stM kcM 115 cI cB cJ cZ x) sz)) 0 0 (va_A (pic ad stM kcM 115 cI cB cJ cZ x) sz) := by
  refine Met.ofW (cc := b_Mod_schema) (maxL := 1) (ret := some (.int)) (by decide) rfl ?_
  intro p e s m args below meth c s₁ B hml hv
  obtain ⟨rfl, hsz, hW0, hK, hN⟩ := hv
  have hx := B.exec
  have hb := B.bytes
  have hr := B.returns
  have hts := atoms_spec B.pre
  have hT : ∀ w ∈ TG, w.before _ s = true := fun w h => hts w (List.mem_cons_of_mem _ h)
  have hown : s.vm.findClass R_Mod = some m.cls := findClass_of_methodNamed B.named
  have hlocks := B.notSynchronized
  subst hsz
  have hW : Wd dC dI cI cB cJ cZ ad stM kcM 115 (va_A (pic ad stM kcM 115 cI cB cJ cZ x) s.heap.size) x s.heap := ⟨hW0.1, hW0.2.1.self (sz := s.heap.size), hW0.2.2⟩
  generalize hAe : va_A (pic ad stM kcM 115 cI cB cJ cZ x) s.heap.size = A at hW ⊢
  have hA : ∀ q : Nat, s.heap.size ≤ q → A q := fun q h => by rw [← hAe]; exact Or.inr h
  have hS : va_S A s.heap s.heap [] := va_S.rf
  have hl := lv_entry ([.ref (ad 0)]) (n := 1) (Nat.le_of_ble_eq_true rfl)
  rw [lg_entry_eq]
  generalize (lg_sl ([.ref (ad 0)]) ++ List.replicate (1 - (lg_sl ([.ref (ad 0)])).length) Slot.unset).toArray = ls at hl ⊢
  have hl : lv_has ls 1 [(0, .ref (ad 0))] := hl
  exact t_Mod_schema_e hx hb hml hown hT hK hN hA (Nat.le_refl 0) (Nat.le_refl 0) (Nat.le_refl 206) (Nat.le_refl 5136) (fun r x H locs pc ls hd hp hW hS => W.iret (v := r) hx hb hr (fun t ht hM => ⟨⟨r, x, rfl, hp, Wd.back hW ht.symm (fun _ z => z)⟩, hS.F ht⟩) hS.2.2 hd hlocks)   x _ _ ls  hw hW hS hl
set_option maxRecDepth 100000 in
set_option maxHeartbeats 4000000 in
set_option maxRecDepth 100000 in
theorem t_Mod_misses_51 {p : Program} {l : Launch} {e : Env} {R : Room} {s : State} {m : MethodId} {args : Array Value} {below : List Frame} {meth : Method} {c : Code} {cells slots : Nat} {Q : State → Prop} {dC : Nat → ClassId} {dI : Nat → Nat → Nat} {cI cB cJ cZ : ClassId} {A : Nat → Prop} {ad : Nat → Nat} {post : Int32 → St → Prop} {rec6 : Int32 → Int32 → Int32 → Int32 → Int32 → St → Prop} (hx : p.tables.exec = Jvm.exec) (hb : c.code = b_Mod_misses) (hml : c.maxLocals = 6) (hown : s.vm.findClass R_Mod = some m.cls) (hT : ∀ w ∈ TG, w.before args s = true) (hK : va_K (dC, dI) CL (TY cI cB cJ cZ) s) (hN : NW s) (hA : ∀ q : Nat, s.heap.size ≤ q → A q) (hRc : cells ≤ R.cells) (hRs : slots ≤ R.slots) (hRf : 1 ≤ R.frames) (hRl : 21 ≤ R.locals) (hret : ∀ (r : Int32) (x : St) (H : Heap) (locs : List Loc) (pc : Nat) (ls : Array Slot), decode b_Mod_misses pc = .ok (.ireturn, 1) → narrow .boolean (.int r) = .int r → post r x → Wd dC dI cI cB cJ cZ ad stM kcM 115 A x H → va_S A s.heap H locs → W p l e R s m args below meth c H locs cells slots Q (F0 m pc ls [.int r])) (hrec6 : ∀ (l1 : Int32) (l2 : Int32) (l3 : Int32) (l4 : Int32) (l5 : Int32) (x : St) (H : Heap) (locs : List Loc) (ls : Array Slot), rec6 l1 l2 l3 l4 l5 x → Wd dC dI cI cB cJ cZ ad stM kcM 115 A x H → va_S A s.heap H locs → lv_has ls 6 [(0, .ref (ad 0)), (1, .int l1), (2, .int l2), (3, .int l3), (4, .int l4), (5, .int l5)] → W p l e R s m args below meth c H locs cells slots Q (F0 m 6 ls [])) : ∀ (l1 : Int32) (l2 : Int32) (l3 : Int32) (l4 : Int32) (l5 : Int32) (s0 : Int32) (x : St) (H : Heap) (locs : List Loc) (ls : Array Slot), j_Mod_misses_51 post rec6 l1 l2 l3 l4 l5 s0 x → Wd dC dI cI cB cJ cZ ad stM kcM 115 A x H → va_S A s.heap H locs → lv_has ls 6 [(0, .ref (ad 0)), (1, .int l1), (2, .int l2), (3, .int l3), (4, .int l4), (5, .int l5)] → W p l e R s m args below meth c H locs cells slots Q (F0 m 51 ls [.int s0]) := by
  intro l1 l2 l3 l4 l5 s0 x H locs ls  hw hW hS hl
  unfold j_Mod_misses_51 at hw
  refine lv_istore (lv' := [(4, .int s0), (0, .ref (ad 0)), (1, .int l1), (2, .int l2), (3, .int l3), (5, .int l5)]) hx hb d_Mod_misses_51 hl (by decide) rfl (fun ls hl => ?_)
  refine lv_iinc (v := (l5 + 1)) (lv' := [(5, .int (l5 + 1)), (4, .int s0), (0, .ref (ad 0)), (1, .int l1), (2, .int l2), (3, .int l3)]) hx hb d_Mod_misses_53 hl (k := 5) rfl rfl (by decide) rfl (fun ls hl => ?_)
  refine lv_goto (tgt := 6) hx hb d_Mod_misses_56 (by decide) ?_
  exact hrec6 l1 l2 l3 s0 (l5 + 1) x H locs ls  hw hW hS (lv_sub hl [2, 3, 4, 5, 1, 0] rfl)
set_option maxRecDepth 100000 in
set_option maxHeartbeats 4000000 in
set_option maxRecDepth 100000 in
theorem t_Mod_misses_50 {p : Program} {l : Launch} {e : Env} {R : Room} {s : State} {m : MethodId} {args : Array Value} {below : List Frame} {meth : Method} {c : Code} {cells slots : Nat} {Q : State → Prop} {dC : Nat → ClassId} {dI : Nat → Nat → Nat} {cI cB cJ cZ : ClassId} {A : Nat → Prop} {ad : Nat → Nat} {post : Int32 → St → Prop} {rec6 : Int32 → Int32 → Int32 → Int32 → Int32 → St → Prop} (hx : p.tables.exec = Jvm.exec) (hb : c.code = b_Mod_misses) (hml : c.maxLocals = 6) (hown : s.vm.findClass R_Mod = some m.cls) (hT : ∀ w ∈ TG, w.before args s = true) (hK : va_K (dC, dI) CL (TY cI cB cJ cZ) s) (hN : NW s) (hA : ∀ q : Nat, s.heap.size ≤ q → A q) (hRc : cells ≤ R.cells) (hRs : slots ≤ R.slots) (hRf : 1 ≤ R.frames) (hRl : 21 ≤ R.locals) (hret : ∀ (r : Int32) (x : St) (H : Heap) (locs : List Loc) (pc : Nat) (ls : Array Slot), decode b_Mod_misses pc = .ok (.ireturn, 1) → narrow .boolean (.int r) = .int r → post r x → Wd dC dI cI cB cJ cZ ad stM kcM 115 A x H → va_S A s.heap H locs → W p l e R s m args below meth c H locs cells slots Q (F0 m pc ls [.int r])) (hrec6 : ∀ (l1 : Int32) (l2 : Int32) (l3 : Int32) (l4 : Int32) (l5 : Int32) (x : St) (H : Heap) (locs : List Loc) (ls : Array Slot), rec6 l1 l2 l3 l4 l5 x → Wd dC dI cI cB cJ cZ ad stM kcM 115 A x H → va_S A s.heap H locs → lv_has ls 6 [(0, .ref (ad 0)), (1, .int l1), (2, .int l2), (3, .int l3), (4, .int l4), (5, .int l5)] → W p l e R s m args below meth c H locs cells slots Q (F0 m 6 ls [])) : ∀ (l1 : Int32) (l2 : Int32) (l3 : Int32) (l4 : Int32) (l5 : Int32) (x : St) (H : Heap) (locs : List Loc) (ls : Array Slot), j_Mod_misses_50 post rec6 l1 l2 l3 l4 l5 x → Wd dC dI cI cB cJ cZ ad stM kcM 115 A x H → va_S A s.heap H locs → lv_has ls 6 [(0, .ref (ad 0)), (1, .int l1), (2, .int l2), (3, .int l3), (4, .int l4), (5, .int l5)] → W p l e R s m args below meth c H locs cells slots Q (F0 m 50 ls []) := by
  intro l1 l2 l3 l4 l5 x H locs ls  hw hW hS hl
  unfold j_Mod_misses_50 at hw
  refine lv_iconst (v := 0) hx hb d_Mod_misses_50 (by decide) ?_
  exact t_Mod_misses_51 hx hb hml hown hT hK hN hA hRc hRs hRf hRl hret hrec6 l1 l2 l3 l4 l5 0 x H locs ls  hw hW hS (lv_sub hl [0, 1, 2, 3, 4, 5] rfl)
set_option maxRecDepth 100000 in
set_option maxHeartbeats 4000000 in
set_option maxRecDepth 100000 in
theorem t_Mod_misses_46 {p : Program} {l : Launch} {e : Env} {R : Room} {s : State} {m : MethodId} {args : Array Value} {below : List Frame} {meth : Method} {c : Code} {cells slots : Nat} {Q : State → Prop} {dC : Nat → ClassId} {dI : Nat → Nat → Nat} {cI cB cJ cZ : ClassId} {A : Nat → Prop} {ad : Nat → Nat} {post : Int32 → St → Prop} {rec6 : Int32 → Int32 → Int32 → Int32 → Int32 → St → Prop} (hx : p.tables.exec = Jvm.exec) (hb : c.code = b_Mod_misses) (hml : c.maxLocals = 6) (hown : s.vm.findClass R_Mod = some m.cls) (hT : ∀ w ∈ TG, w.before args s = true) (hK : va_K (dC, dI) CL (TY cI cB cJ cZ) s) (hN : NW s) (hA : ∀ q : Nat, s.heap.size ≤ q → A q) (hRc : cells ≤ R.cells) (hRs : slots ≤ R.slots) (hRf : 1 ≤ R.frames) (hRl : 21 ≤ R.locals) (hret : ∀ (r : Int32) (x : St) (H : Heap) (locs : List Loc) (pc : Nat) (ls : Array Slot), decode b_Mod_misses pc = .ok (.ireturn, 1) → narrow .boolean (.int r) = .int r → post r x → Wd dC dI cI cB cJ cZ ad stM kcM 115 A x H → va_S A s.heap H locs → W p l e R s m args below meth c H locs cells slots Q (F0 m pc ls [.int r])) (hrec6 : ∀ (l1 : Int32) (l2 : Int32) (l3 : Int32) (l4 : Int32) (l5 : Int32) (x : St) (H : Heap) (locs : List Loc) (ls : Array Slot), rec6 l1 l2 l3 l4 l5 x → Wd dC dI cI cB cJ cZ ad stM kcM 115 A x H → va_S A s.heap H locs → lv_has ls 6 [(0, .ref (ad 0)), (1, .int l1), (2, .int l2), (3, .int l3), (4, .int l4), (5, .int l5)] → W p l e R s m args below meth c H locs cells slots Q (F0 m 6 ls [])) : ∀ (l1 : Int32) (l2 : Int32) (l3 : Int32) (l4 : Int32) (l5 : Int32) (x : St) (H : Heap) (locs : List Loc) (ls : Array Slot), j_Mod_misses_46 post rec6 l1 l2 l3 l4 l5 x → Wd dC dI cI cB cJ cZ ad stM kcM 115 A x H → va_S A s.heap H locs → lv_has ls 6 [(0, .ref (ad 0)), (1, .int l1), (2, .int l2), (3, .int l3), (4, .int l4), (5, .int l5)] → W p l e R s m args below meth c H locs cells slots Q (F0 m 46 ls []) := by
  intro l1 l2 l3 l4 l5 x H locs ls  hw hW hS hl
  unfold j_Mod_misses_46 at hw
  refine lv_iconst (v := 1) hx hb d_Mod_misses_46 (by decide) ?_
  refine lv_goto (tgt := 51) hx hb d_Mod_misses_47 (by decide) ?_
  exact t_Mod_misses_51 hx hb hml hown hT hK hN hA hRc hRs hRf hRl hret hrec6 l1 l2 l3 l4 l5 1 x H locs ls  hw hW hS (lv_sub hl [0, 1, 2, 3, 4, 5] rfl)
set_option maxRecDepth 100000 in
set_option maxHeartbeats 4000000 in
set_option maxRecDepth 100000 in
theorem t_Mod_misses_6 {p : Program} {l : Launch} {e : Env} {R : Room} {s : State} {m : MethodId} {args : Array Value} {below : List Frame} {meth : Method} {c : Code} {cells slots : Nat} {Q : State → Prop} {dC : Nat → ClassId} {dI : Nat → Nat → Nat} {cI cB cJ cZ : ClassId} {A : Nat → Prop} {ad : Nat → Nat} {post : Int32 → St → Prop} {rec6 : Int32 → Int32 → Int32 → Int32 → Int32 → St → Prop} (hx : p.tables.exec = Jvm.exec) (hb : c.code = b_Mod_misses) (hml : c.maxLocals = 6) (hown : s.vm.findClass R_Mod = some m.cls) (hT : ∀ w ∈ TG, w.before args s = true) (hK : va_K (dC, dI) CL (TY cI cB cJ cZ) s) (hN : NW s) (hA : ∀ q : Nat, s.heap.size ≤ q → A q) (hRc : cells ≤ R.cells) (hRs : slots ≤ R.slots) (hRf : 1 ≤ R.frames) (hRl : 21 ≤ R.locals) (hret : ∀ (r : Int32) (x : St) (H : Heap) (locs : List Loc) (pc : Nat) (ls : Array Slot), decode b_Mod_misses pc = .ok (.ireturn, 1) → narrow .boolean (.int r) = .int r → post r x → Wd dC dI cI cB cJ cZ ad stM kcM 115 A x H → va_S A s.heap H locs → W p l e R s m args below meth c H locs cells slots Q (F0 m pc ls [.int r])) (hrec6 : ∀ (l1 : Int32) (l2 : Int32) (l3 : Int32) (l4 : Int32) (l5 : Int32) (x : St) (H : Heap) (locs : List Loc) (ls : Array Slot), rec6 l1 l2 l3 l4 l5 x → Wd dC dI cI cB cJ cZ ad stM kcM 115 A x H → va_S A s.heap H locs → lv_has ls 6 [(0, .ref (ad 0)), (1, .int l1), (2, .int l2), (3, .int l3), (4, .int l4), (5, .int l5)] → W p l e R s m args below meth c H locs cells slots Q (F0 m 6 ls [])) : ∀ (l1 : Int32) (l2 : Int32) (l3 : Int32) (l4 : Int32) (l5 : Int32) (x : St) (H : Heap) (locs : List Loc) (ls : Array Slot), j_Mod_misses_6 post rec6 l1 l2 l3 l4 l5 x → Wd dC dI cI cB cJ cZ ad stM kcM 115 A x H → va_S A s.heap H locs → lv_has ls 6 [(0, .ref (ad 0)), (1, .int l1), (2, .int l2), (3, .int l3), (4, .int l4), (5, .int l5)] → W p l e R s m args below meth c H locs cells slots Q (F0 m 6 ls []) := by
  intro l1 l2 l3 l4 l5 x H locs ls  hw hW hS hl
  unfold j_Mod_misses_6 at hw
  refine lv_iload hx hb d_Mod_misses_6 (lv_at hl 5 rfl) ?_
  refine lv_iload_n hx hb d_Mod_misses_8 rfl (lv_at hl 3 rfl) ?_
  refine lv_icmp_ge (tgt := 59) hx hb d_Mod_misses_9 (by decide) (fun c190 => ?_) (fun c190 => ?_)
  · have hw := hw.1 c190
    refine lv_iload hx hb d_Mod_misses_59 (lv_at hl 4 rfl) ?_
    exact hret l4 x H locs 61 ls d_Mod_misses_61 hw.1 hw.2 hW hS
  · have hw := hw.2 c190
    refine lv_iload hx hb d_Mod_misses_12 (lv_at hl 4 rfl) ?_
    refine lv_if_ne (tgt := 46) hx hb d_Mod_misses_14 (by decide) (fun c191 => ?_) (fun c191 => ?_)
    · have hw := hw.1 c191
      exact t_Mod_misses_46 hx hb hml hown hT hK hN hA hRc hRs hRf hRl hret hrec6 l1 l2 l3 l4 l5 x H locs ls  hw hW hS (lv_sub hl [0, 1, 2, 3, 4, 5] rfl)
    · have hw := hw.2 c191
      refine lv_aload_n hx hb d_Mod_misses_17 rfl (lv_at hl 0 rfl) ?_
      refine w_getf (q := 5) (k := 7) (t := 12) (C := R_Mod) (T := F_Mod) (N := 167) hx hb hT hown hK hW ko_0.1 ko_0.2 (by decide) in_Mod rfl rfl (by decide) rfl fr_Mod_7 w_8_183 d_Mod_misses_18 rfl ?_
      refine lv_iconst (v := 0) hx hb d_Mod_misses_21 (by decide) ?_
      refine lv_iload hx hb d_Mod_misses_22 (lv_at hl 5 rfl) ?_
      have hF := hW.free hS hA
      refine va_calli (va_runS (As := [.int 0, .int l5]) (rest := [.ref (ad 5)]) ⟨hx, hb, hml, hown, hT⟩ (k_Mod_place l dC dI cI cB cJ cZ ad H.size 0 l5 x  hw) ⟨callB_of 2 hT (gwt_in w_11_30) rfl rfl rfl (hT _ w_1_15) (hT _ w_11_28) (by decide +kernel) ⟨Nat.le_trans (Nat.le_of_ble_eq_true rfl) hRf, Nat.le_trans (Nat.le_of_ble_eq_true rfl) hRl⟩, hT _ w_11_29⟩ ⟨PW.blind, PW.at _ hW hK hN⟩ rfl rfl hl.1 rfl (lv_room (Nat.le_of_ble_eq_true rfl)) d_Mod_misses_24 ⟨hRc, hRs⟩) hS (fun q _ h => hF q h) hF (fun r193 x192 t H locs ht hvm hw hB hz1 hk1 hS => ?_)
      have hW := Wd.back hB ht hF
      clear hB ht hF hz1 hk1 hvm
      obtain ⟨hi, hw⟩ := hw
      refine w_iald (o := 5) hx hb hK hW ko_5.1 ko_5.2 hi d_Mod_misses_27 ?_
      refine lv_iload_n hx hb d_Mod_misses_28 rfl (lv_at hl 1 rfl) ?_
      refine lv_icmp_ne (tgt := 50) hx hb d_Mod_misses_29 (by decide) (fun c194 => ?_) (fun c194 => ?_)
      · have hw := hw.1 c194
        exact t_Mod_misses_50 hx hb hml hown hT hK hN hA hRc hRs hRf hRl hret hrec6 l1 l2 l3 l4 l5 x192 H locs ls  hw hW hS (lv_sub hl [0, 1, 2, 3, 4, 5] rfl)
      · have hw := hw.2 c194
        refine lv_aload_n hx hb d_Mod_misses_32 rfl (lv_at hl 0 rfl) ?_
        refine w_getf (q := 3) (k := 5) (t := 12) (C := R_Mod) (T := F_Mod) (N := 167) hx hb hT hown hK hW ko_0.1 ko_0.2 (by decide) in_Mod rfl rfl (by decide) rfl fr_Mod_5 w_8_181 d_Mod_misses_33 rfl ?_
        refine lv_iconst (v := 0) hx hb d_Mod_misses_36 (by decide) ?_
        refine lv_iload hx hb d_Mod_misses_37 (lv_at hl 5 rfl) ?_
        have hF := hW.free hS hA
        refine va_calli (va_runS (As := [.int 0, .int l5]) (rest := [.ref (ad 3)]) ⟨hx, hb, hml, hown, hT⟩ (k_Mod_place l dC dI cI cB cJ cZ ad H.size 0 l5 x192  hw) ⟨callB_of 2 hT (gwt_in w_11_30) rfl rfl rfl (hT _ w_1_15) (hT _ w_11_28) (by decide +kernel) ⟨Nat.le_trans (Nat.le_of_ble_eq_true rfl) hRf, Nat.le_trans (Nat.le_of_ble_eq_true rfl) hRl⟩, hT _ w_11_29⟩ ⟨PW.blind, PW.at _ hW hK hN⟩ rfl rfl hl.1 rfl (lv_room (Nat.le_of_ble_eq_true rfl)) d_Mod_misses_39 ⟨hRc, hRs⟩) hS (fun q _ h => hF q h) hF (fun r196 x195 t H locs ht hvm hw hB hz1 hk1 hS => ?_)
        have hW := Wd.back hB ht hF
        clear hB ht hF hz1 hk1 hvm
        obtain ⟨hi, hw⟩ := hw
        refine w_iald (o := 3) hx hb hK hW ko_3.1 ko_3.2 hi d_Mod_misses_42 ?_
        refine lv_if_ne (tgt := 50) hx hb d_Mod_misses_43 (by decide) (fun c197 => ?_) (fun c197 => ?_)
        · have hw := hw.1 c197
          exact t_Mod_misses_50 hx hb hml hown hT hK hN hA hRc hRs hRf hRl hret hrec6 l1 l2 l3 l4 l5 x195 H locs ls  hw hW hS (lv_sub hl [0, 1, 2, 3, 4, 5] rfl)
        · have hw := hw.2 c197
          exact t_Mod_misses_46 hx hb hml hown hT hK hN hA hRc hRs hRf hRl hret hrec6 l1 l2 l3 l4 l5 x195 H locs ls  hw hW hS (lv_sub hl [0, 1, 2, 3, 4, 5] rfl)
set_option maxHeartbeats 4000000 in
set_option maxRecDepth 100000 in
theorem tl_Mod_misses_6 {p : Program} {l : Launch} {e : Env} {R : Room} {s : State} {m : MethodId} {args : Array Value} {below : List Frame} {meth : Method} {c : Code} {cells slots : Nat} {Q : State → Prop} {dC : Nat → ClassId} {dI : Nat → Nat → Nat} {cI cB cJ cZ : ClassId} {A : Nat → Prop} {ad : Nat → Nat} {post : Int32 → St → Prop} (hx : p.tables.exec = Jvm.exec) (hb : c.code = b_Mod_misses) (hml : c.maxLocals = 6) (hown : s.vm.findClass R_Mod = some m.cls) (hT : ∀ w ∈ TG, w.before args s = true) (hK : va_K (dC, dI) CL (TY cI cB cJ cZ) s) (hN : NW s) (hA : ∀ q : Nat, s.heap.size ≤ q → A q) (hRc : cells ≤ R.cells) (hRs : slots ≤ R.slots) (hRf : 1 ≤ R.frames) (hRl : 21 ≤ R.locals) (hret : ∀ (r : Int32) (x : St) (H : Heap) (locs : List Loc) (pc : Nat) (ls : Array Slot), decode b_Mod_misses pc = .ok (.ireturn, 1) → narrow .boolean (.int r) = .int r → post r x → Wd dC dI cI cB cJ cZ ad stM kcM 115 A x H → va_S A s.heap H locs → W p l e R s m args below meth c H locs cells slots Q (F0 m pc ls [.int r]))  : ∀ n : Nat, ∀ (l1 : Int32) (l2 : Int32) (l3 : Int32) (l4 : Int32) (l5 : Int32) (x : St) (H : Heap) (locs : List Loc) (ls : Array Slot), wl_Mod_misses_6 post n l1 l2 l3 l4 l5 x → Wd dC dI cI cB cJ cZ ad stM kcM 115 A x H → va_S A s.heap H locs → lv_has ls 6 [(0, .ref (ad 0)), (1, .int l1), (2, .int l2), (3, .int l3), (4, .int l4), (5, .int l5)] → W p l e R s m args below meth c H locs cells slots Q (F0 m 6 ls []) := by
  intro n
  induction n with
  | zero => intro l1 l2 l3 l4 l5 x H locs ls  hw; exact hw.elim
  | succ n ih => intro l1 l2 l3 l4 l5 x H locs ls  hw hW hS hl; exact t_Mod_misses_6 hx hb hml hown hT hK hN hA hRc hRs hRf hRl hret  ih l1 l2 l3 l4 l5 x H locs ls  hw hW hS hl
set_option maxRecDepth 100000 in
set_option maxHeartbeats 4000000 in
set_option maxRecDepth 100000 in
theorem t_Mod_misses_e {p : Program} {l : Launch} {e : Env} {R : Room} {s : State} {m : MethodId} {args : Array Value} {below : List Frame} {meth : Method} {c : Code} {cells slots : Nat} {Q : State → Prop} {dC : Nat → ClassId} {dI : Nat → Nat → Nat} {cI cB cJ cZ : ClassId} {A : Nat → Prop} {ad : Nat → Nat} {post : Int32 → St → Prop} (hx : p.tables.exec = Jvm.exec) (hb : c.code = b_Mod_misses) (hml : c.maxLocals = 6) (hown : s.vm.findClass R_Mod = some m.cls) (hT : ∀ w ∈ TG, w.before args s = true) (hK : va_K (dC, dI) CL (TY cI cB cJ cZ) s) (hN : NW s) (hA : ∀ q : Nat, s.heap.size ≤ q → A q) (hRc : cells ≤ R.cells) (hRs : slots ≤ R.slots) (hRf : 1 ≤ R.frames) (hRl : 21 ≤ R.locals) (hret : ∀ (r : Int32) (x : St) (H : Heap) (locs : List Loc) (pc : Nat) (ls : Array Slot), decode b_Mod_misses pc = .ok (.ireturn, 1) → narrow .boolean (.int r) = .int r → post r x → Wd dC dI cI cB cJ cZ ad stM kcM 115 A x H → va_S A s.heap H locs → W p l e R s m args below meth c H locs cells slots Q (F0 m pc ls [.int r])) : ∀ (l1 : Int32) (l2 : Int32) (l3 : Int32) (x : St) (H : Heap) (locs : List Loc) (ls : Array Slot), wp_Mod_misses post l1 l2 l3 x → Wd dC dI cI cB cJ cZ ad stM kcM 115 A x H → va_S A s.heap H locs → lv_has ls 6 [(0, .ref (ad 0)), (1, .int l1), (2, .int l2), (3, .int l3)] → W p l e R s m args below meth c H locs cells slots Q (F0 m 0 ls []) := by
  intro l1 l2 l3 x H locs ls  hw hW hS hl
  unfold wp_Mod_misses at hw
  refine lv_iconst (v := 0) hx hb d_Mod_misses_0 (by decide) ?_
  refine lv_istore (lv' := [(4, .int 0), (0, .ref (ad 0)), (1, .int l1), (2, .int l2), (3, .int l3)]) hx hb d_Mod_misses_1 hl (by decide) rfl (fun ls hl => ?_)
  refine lv_iload_n hx hb d_Mod_misses_3 rfl (lv_at hl 3 rfl) ?_
  refine lv_istore (lv' := [(5, .int l2), (4, .int 0), (0, .ref (ad 0)), (1, .int l1), (2, .int l2), (3, .int l3)]) hx hb d_Mod_misses_4 hl (by decide) rfl (fun ls hl => ?_)
  obtain ⟨n, hw⟩ := hw
  exact tl_Mod_misses_6 hx hb hml hown hT hK hN hA hRc hRs hRf hRl hret  n l1 l2 l3 0 l2 x H locs ls  hw hW hS (lv_sub hl [2, 3, 4, 5, 1, 0] rfl)
set_option maxHeartbeats 4000000 in
set_option maxRecDepth 100000 in
theorem k_Mod_misses (l : Launch) (dC : Nat → ClassId) (dI : Nat → Nat → Nat) (cI cB cJ cZ : ClassId) (ad : Nat → Nat) (sz : Nat) (l1 : Int32) (l2 : Int32) (l3 : Int32) (x : St) {post : Int32 → St → Prop} (hw : wp_Mod_misses post l1 l2 l3 x) : Met l y_Mod_misses (wsOf y_Mod_misses b_Mod_misses 6 (some (.boolean))) ({ frames := 1, cells := 0, slots := 0, locals := 21 }) (va_Pc [.ref (ad 0), .int l1, .int l2, .int l3] (PW dC dI cI cB cJ cZ ad stM kcM 115 sz x)) (va_Qi (fun (r : Int32) (y : St) => post r y) (fun y t => Wd dC dI cI cB cJ cZ ad stM kcM 115 (va_A (pic ad stM kcM 115 cI cB cJ cZ x) sz) y t.heap) (va_A (pic ad stM kcM 115 cI cB cJ cZ x) sz)) 0 0 (va_A (pic ad stM kcM 115 cI cB cJ cZ x) sz) := by
  refine Met.ofW (cc := b_Mod_misses) (maxL := 6) (ret := some (.boolean)) (by decide) rfl ?_
  intro p e s m args below meth c s₁ B hml hv
  obtain ⟨rfl, hsz, hW0, hK, hN⟩ := hv
  have hx := B.exec
  have hb := B.bytes
  have hr := B.returns
  have hts := atoms_spec B.pre
  have hT : ∀ w ∈ TG, w.before _ s = true := fun w h => hts w (List.mem_cons_of_mem _ h)
  have hown : s.vm.findClass R_Mod = some m.cls := findClass_of_methodNamed B.named
  have hlocks := B.notSynchronized
  subst hsz
  have hW : Wd dC dI cI cB cJ cZ ad stM kcM 115 (va_A (pic ad stM kcM 115 cI cB cJ cZ x) s.heap.size) x s.heap := ⟨hW0.1, hW0.2.1.self (sz := s.heap.size), hW0.2.2⟩
  generalize hAe : va_A (pic ad stM kcM 115 cI cB cJ cZ x) s.heap.size = A at hW ⊢
  have hA : ∀ q : Nat, s.heap.size ≤ q → A q := fun q h => by rw [← hAe]; exact Or.inr h
  have hS : va_S A s.heap s.heap [] := va_S.rf
  have hl := lv_entry ([.ref (ad 0), .int l1, .int l2, .int l3]) (n := 6) (Nat.le_of_ble_eq_true rfl)
  rw [lg_entry_eq]
  generalize (lg_sl ([.ref (ad 0), .int l1, .int l2, .int l3]) ++ List.replicate (6 - (lg_sl ([.ref (ad 0), .int l1, .int l2, .int l3])).length) Slot.unset).toArray = ls at hl ⊢
  have hl : lv_has ls 6 [(0, .ref (ad 0)), (1, .int l1), (2, .int l2), (3, .int l3)] := hl
  exact t_Mod_misses_e hx hb hml hown hT hK hN hA (Nat.le_refl 0) (Nat.le_refl 0) (Nat.le_refl 1) (Nat.le_refl 21) (fun r x H locs pc ls hd hz hp hW hS => W.zret (v := r) (ty := .boolean) hx hb hr hz (fun t ht hM => ⟨⟨r, x, rfl, hp, Wd.back hW ht.symm (fun _ z => z)⟩, hS.F ht⟩) hS.2.2 hd hlocks)  l1 l2 l3 x _ _ ls  hw hW hS hl
set_option maxRecDepth 100000 in
set_option maxHeartbeats 4000000 in
set_option maxRecDepth 100000 in
theorem t_Mod_ends_23 {p : Program} {l : Launch} {e : Env} {R : Room} {s : State} {m : MethodId} {args : Array Value} {below : List Frame} {meth : Method} {c : Code} {cells slots : Nat} {Q : State → Prop} {dC : Nat → ClassId} {dI : Nat → Nat → Nat} {cI cB cJ cZ : ClassId} {A : Nat → Prop} {ad : Nat → Nat} {post : St → Prop} (hx : p.tables.exec = Jvm.exec) (hb : c.code = b_Mod_ends) (hml : c.maxLocals = 3) (hown : s.vm.findClass R_Mod = some m.cls) (hT : ∀ w ∈ TG, w.before args s = true) (hK : va_K (dC, dI) CL (TY cI cB cJ cZ) s) (hN : NW s) (hA : ∀ q : Nat, s.heap.size ≤ q → A q) (hRc : cells ≤ R.cells) (hRs : slots ≤ R.slots) (hRf : 2 ≤ R.frames) (hRl : 46 ≤ R.locals) (hret : ∀ (x : St) (H : Heap) (locs : List Loc) (pc : Nat) (ls : Array Slot), decode b_Mod_ends pc = .ok (.return_, 1) → post x → Wd dC dI cI cB cJ cZ ad stM kcM 115 A x H → va_S A s.heap H locs → W p l e R s m args below meth c H locs cells slots Q (F0 m pc ls []))  : ∀ (l1 : Int32) (l2 : Int32) (x : St) (H : Heap) (locs : List Loc) (ls : Array Slot), j_Mod_ends_23 post l1 l2 x → Wd dC dI cI cB cJ cZ ad stM kcM 115 A x H → va_S A s.heap H locs → lv_has ls 3 [(0, .ref (ad 0)), (1, .int l1), (2, .int l2)] → W p l e R s m args below meth c H locs cells slots Q (F0 m 23 ls []) := by
  intro l1 l2 x H locs ls  hw hW hS hl
  unfold j_Mod_ends_23 at hw
  refine lv_aload_n hx hb d_Mod_ends_23 rfl (lv_at hl 0 rfl) ?_
  refine lv_dup hx hb d_Mod_ends_24 rfl ?_
  refine w_geti (k := 16) (t := 12) (C := R_Mod) (T := F_Mod) (N := 167) hx hb hT hown hK hW ko_0.1 ko_0.2 (by decide) in_Mod rfl rfl (by decide) rfl fr_Mod_16 w_8_192 d_Mod_ends_25 ?_
  refine lv_iconst (v := 1) hx hb d_Mod_ends_28 (by decide) ?_
  refine lv_iadd hx hb d_Mod_ends_29 ?_
  refine w_puti (ty := .int) (k := 16) (t := 12) (C := R_Mod) (T := F_Mod) (N := 167) hx hb hT hown hK hW hS ko_0.1 ko_0.2 (by decide) in_Mod t_Mod t_Mod_ok n_Mod rfl rfl (by decide) rfl fr_Mod_16 w_8_192 (by decide +kernel) rfl rfl d_Mod_ends_30 (fun H locs hW hS => ?_)
  obtain ⟨x198, ex198⟩ : ∃ y : St, y = setI x 0 16 ((fI x 0 16) + 1) := ⟨_, rfl⟩
  rw [← ex198] at hW
  have hw := hw x198 ex198
  exact hret x198 H locs 33 ls d_Mod_ends_33 hw hW hS
set_option maxRecDepth 100000 in
set_option maxHeartbeats 4000000 in
set_option maxRecDepth 100000 in
theorem t_Mod_ends_e {p : Program} {l : Launch} {e : Env} {R : Room} {s : State} {m : MethodId} {args : Array Value} {below : List Frame} {meth : Method} {c : Code} {cells slots : Nat} {Q : State → Prop} {dC : Nat → ClassId} {dI : Nat → Nat → Nat} {cI cB cJ cZ : ClassId} {A : Nat → Prop} {ad : Nat → Nat} {post : St → Prop} (hx : p.tables.exec = Jvm.exec) (hb : c.code = b_Mod_ends) (hml : c.maxLocals = 3) (hown : s.vm.findClass R_Mod = some m.cls) (hT : ∀ w ∈ TG, w.before args s = true) (hK : va_K (dC, dI) CL (TY cI cB cJ cZ) s) (hN : NW s) (hA : ∀ q : Nat, s.heap.size ≤ q → A q) (hRc : cells ≤ R.cells) (hRs : slots ≤ R.slots) (hRf : 2 ≤ R.frames) (hRl : 46 ≤ R.locals) (hret : ∀ (x : St) (H : Heap) (locs : List Loc) (pc : Nat) (ls : Array Slot), decode b_Mod_ends pc = .ok (.return_, 1) → post x → Wd dC dI cI cB cJ cZ ad stM kcM 115 A x H → va_S A s.heap H locs → W p l e R s m args below meth c H locs cells slots Q (F0 m pc ls [])) : ∀ (l1 : Int32) (l2 : Int32) (x : St) (H : Heap) (locs : List Loc) (ls : Array Slot), wp_Mod_ends post l1 l2 x → Wd dC dI cI cB cJ cZ ad stM kcM 115 A x H → va_S A s.heap H locs → lv_has ls 3 [(0, .ref (ad 0)), (1, .int l1), (2, .int l2)] → W p l e R s m args below meth c H locs cells slots Q (F0 m 0 ls []) := by
  intro l1 l2 x H locs ls  hw hW hS hl
  unfold wp_Mod_ends at hw
  refine lv_aload_n hx hb d_Mod_ends_0 rfl (lv_at hl 0 rfl) ?_
  refine lv_iload_n hx hb d_Mod_ends_1 rfl (lv_at hl 1 rfl) ?_
  refine lv_iload_n hx hb d_Mod_ends_2 rfl (lv_at hl 2 rfl) ?_
  refine lv_aload_n hx hb d_Mod_ends_3 rfl (lv_at hl 0 rfl) ?_
  refine w_getf (q := 9) (k := 11) (t := 12) (C := R_Mod) (T := F_Mod) (N := 167) hx hb hT hown hK hW ko_0.1 ko_0.2 (by decide) in_Mod rfl rfl (by decide) rfl fr_Mod_11 w_8_187 d_Mod_ends_4 rfl ?_
  refine lv_iconst (v := 0) hx hb d_Mod_ends_7 (by decide) ?_
  obtain ⟨hi, hw⟩ := hw
  refine w_iald (o := 9) hx hb hK hW ko_9.1 ko_9.2 hi d_Mod_ends_8 ?_
  have hF := hW.free hS hA
  refine va_calli (va_runV (C := R_Mod) (As := [.int l1, .int l2, .int (rA x 9 0)]) (rest := []) ⟨hx, hb, hml, hown, hT⟩ (k_Mod_misses l dC dI cI cB cJ cZ ad H.size l1 l2 (rA x 9 0) x  hw) ⟨callB_of 3 hT (gwt_in w_11_70) rfl rfl rfl (hT _ w_1_15) (hT _ w_11_67) (by decide +kernel) ⟨Nat.le_trans (Nat.le_of_ble_eq_true rfl) hRf, Nat.le_trans (Nat.le_of_ble_eq_true rfl) hRl⟩, hT _ w_11_69, hT _ ws_126⟩ ⟨PW.blind, va_recv hK hW.1 (ci := 12) (q0 := 0) rfl (pic_obj ko_0.1 ko_0.2 (by decide)), PW.at _ hW hK hN⟩ rfl rfl hl.1 rfl (lv_room (Nat.le_of_ble_eq_true rfl)) d_Mod_ends_9 ⟨hRc, hRs⟩) hS (fun q _ h => hF q h) hF (fun r200 x199 t H locs ht hvm hw hB hz1 hk1 hS => ?_)
  have hW := Wd.back hB ht hF
  clear hB ht hF hz1 hk1 hvm
  refine lv_if_eq (tgt := 23) hx hb d_Mod_ends_12 (by decide) (fun c201 => ?_) (fun c201 => ?_)
  · have hw := hw.1 c201
    exact t_Mod_ends_23 hx hb hml hown hT hK hN hA hRc hRs hRf hRl hret  l1 l2 x199 H locs ls  hw hW hS (lv_sub hl [0, 1, 2] rfl)
  · have hw := hw.2 c201
    refine lv_aload_n hx hb d_Mod_ends_15 rfl (lv_at hl 0 rfl) ?_
    refine lv_aload_n hx hb d_Mod_ends_16 rfl (lv_at hl 0 rfl) ?_
    refine w_geti (k := 16) (t := 12) (C := R_Mod) (T := F_Mod) (N := 167) hx hb hT hown hK hW ko_0.1 ko_0.2 (by decide) in_Mod rfl rfl (by decide) rfl fr_Mod_16 w_8_192 d_Mod_ends_17 ?_
    have hF := hW.free hS hA
    refine va_callv (va_runV (C := R_Mod) (As := [.int (fI x199 0 16)]) (rest := []) ⟨hx, hb, hml, hown, hT⟩ (k_Mod_fail l dC dI cI cB cJ cZ ad H.size (fI x199 0 16) x199  hw) ⟨callB_of 1 hT (gwt_in w_11_14) rfl rfl rfl (hT _ w_1_15) (hT _ w_11_11) (by decide +kernel) ⟨Nat.le_trans (Nat.le_of_ble_eq_true rfl) hRf, Nat.le_trans (Nat.le_of_ble_eq_true rfl) hRl⟩, hT _ w_11_13, hT _ ws_115⟩ ⟨PW.blind, va_recv hK hW.1 (ci := 12) (q0 := 0) rfl (pic_obj ko_0.1 ko_0.2 (by decide)), PW.at _ hW hK hN⟩ rfl rfl hl.1 rfl (lv_room (Nat.le_of_ble_eq_true rfl)) d_Mod_ends_20 ⟨hRc, hRs⟩) hS (fun q _ h => hF q h) hF (fun  x202 t H locs ht hvm hw hB hz1 hk1 hS => ?_)
    have hW := Wd.back hB ht hF
    clear hB ht hF hz1 hk1 hvm
    exact t_Mod_ends_23 hx hb hml hown hT hK hN hA hRc hRs hRf hRl hret  l1 l2 x202 H locs ls  hw hW hS (lv_sub hl [0, 1, 2] rfl)
set_option maxHeartbeats 4000000 in
set_option maxRecDepth 100000 in
theorem k_Mod_ends (l : Launch) (dC : Nat → ClassId) (dI : Nat → Nat → Nat) (cI cB cJ cZ : ClassId) (ad : Nat → Nat) (sz : Nat) (l1 : Int32) (l2 : Int32) (x : St) {post : St → Prop} (hw : wp_Mod_ends post l1 l2 x) : Met l y_Mod_ends (wsOf y_Mod_ends b_Mod_ends 3 (none)) ({ frames := 2, cells := 0, slots := 0, locals := 46 }) (va_Pc [.ref (ad 0), .int l1, .int l2] (PW dC dI cI cB cJ cZ ad stM kcM 115 sz x)) (va_Qv (fun (y : St) => post y) (fun y t => Wd dC dI cI cB cJ cZ ad stM kcM 115 (va_A (pic ad stM kcM 115 cI cB cJ cZ x) sz) y t.heap) (va_A (pic ad stM kcM 115 cI cB cJ cZ x) sz)) 0 0 (va_A (pic ad stM kcM 115 cI cB cJ cZ x) sz) := by
  refine Met.ofW (cc := b_Mod_ends) (maxL := 3) (ret := none) (by decide) rfl ?_
  intro p e s m args below meth c s₁ B hml hv
  obtain ⟨rfl, hsz, hW0, hK, hN⟩ := hv
  have hx := B.exec
  have hb := B.bytes
  have hr := B.returns
  have hts := atoms_spec B.pre
  have hT : ∀ w ∈ TG, w.before _ s = true := fun w h => hts w (List.mem_cons_of_mem _ h)
  have hown : s.vm.findClass R_Mod = some m.cls := findClass_of_methodNamed B.named
  have hlocks := B.notSynchronized
  subst hsz
  have hW : Wd dC dI cI cB cJ cZ ad stM kcM 115 (va_A (pic ad stM kcM 115 cI cB cJ cZ x) s.heap.size) x s.heap := ⟨hW0.1, hW0.2.1.self (sz := s.heap.size), hW0.2.2⟩
  generalize hAe : va_A (pic ad stM kcM 115 cI cB cJ cZ x) s.heap.size = A at hW ⊢
  have hA : ∀ q : Nat, s.heap.size ≤ q → A q := fun q h => by rw [← hAe]; exact Or.inr h
  have hS : va_S A s.heap s.heap [] := va_S.rf
  have hl := lv_entry ([.ref (ad 0), .int l1, .int l2]) (n := 3) (Nat.le_of_ble_eq_true rfl)
  rw [lg_entry_eq]
  generalize (lg_sl ([.ref (ad 0), .int l1, .int l2]) ++ List.replicate (3 - (lg_sl ([.ref (ad 0), .int l1, .int l2])).length) Slot.unset).toArray = ls at hl ⊢
  have hl : lv_has ls 3 [(0, .ref (ad 0)), (1, .int l1), (2, .int l2)] := hl
  exact t_Mod_ends_e hx hb hml hown hT hK hN hA (Nat.le_refl 0) (Nat.le_refl 0) (Nat.le_refl 2) (Nat.le_refl 46) (fun x H locs pc ls hd hp hW hS => W.vret hx hb hr (fun t ht hM => ⟨⟨x, rfl, hp, Wd.back hW ht.symm (fun _ z => z)⟩, hS.F ht⟩) hS.2.2 hd hlocks)  l1 l2 x _ _ ls  hw hW hS hl
set_option maxRecDepth 100000 in
set_option maxHeartbeats 4000000 in
set_option maxRecDepth 100000 in
theorem t_Mod_node_e {p : Program} {l : Launch} {e : Env} {R : Room} {s : State} {m : MethodId} {args : Array Value} {below : List Frame} {meth : Method} {c : Code} {cells slots : Nat} {Q : State → Prop} {dC : Nat → ClassId} {dI : Nat → Nat → Nat} {cI cB cJ cZ : ClassId} {A : Nat → Prop} {ad : Nat → Nat} {post : Int32 → St → Prop} (hx : p.tables.exec = Jvm.exec) (hb : c.code = b_Mod_node) (hml : c.maxLocals = 5) (hown : s.vm.findClass R_Mod = some m.cls) (hT : ∀ w ∈ TG, w.before args s = true) (hK : va_K (dC, dI) CL (TY cI cB cJ cZ) s) (hN : NW s) (hA : ∀ q : Nat, s.heap.size ≤ q → A q) (hRc : cells ≤ R.cells) (hRs : slots ≤ R.slots) (hRf : 0 ≤ R.frames) (hRl : 0 ≤ R.locals) (hret : ∀ (r : Int32) (x : St) (H : Heap) (locs : List Loc) (pc : Nat) (ls : Array Slot), decode b_Mod_node pc = .ok (.ireturn, 1) → post r x → Wd dC dI cI cB cJ cZ ad stM kcM 115 A x H → va_S A s.heap H locs → W p l e R s m args below meth c H locs cells slots Q (F0 m pc ls [.int r])) : ∀ (l1 : Int32) (l2 : Int32) (l3 : Int64) (x : St) (H : Heap) (locs : List Loc) (ls : Array Slot), wp_Mod_node post l1 l2 l3 x → Wd dC dI cI cB cJ cZ ad stM kcM 115 A x H → va_S A s.heap H locs → lv_has ls 5 [(0, .ref (ad 0)), (1, .int l1), (2, .int l2), (3, .long l3)] → W p l e R s m args below meth c H locs cells slots Q (F0 m 0 ls []) := by
  intro l1 l2 l3 x H locs ls  hw hW hS hl
  unfold wp_Mod_node at hw
  refine lv_aload_n hx hb d_Mod_node_0 rfl (lv_at hl 0 rfl) ?_
  refine w_getf (q := 12) (k := 18) (t := 12) (C := R_Mod) (T := F_Mod) (N := 167) hx hb hT hown hK hW ko_0.1 ko_0.2 (by decide) in_Mod rfl rfl (by decide) rfl fr_Mod_18 w_8_194 d_Mod_node_1 rfl ?_
  refine lv_aload_n hx hb d_Mod_node_4 rfl (lv_at hl 0 rfl) ?_
  refine w_geti (k := 24) (t := 12) (C := R_Mod) (T := F_Mod) (N := 167) hx hb hT hown hK hW ko_0.1 ko_0.2 (by decide) in_Mod rfl rfl (by decide) rfl fr_Mod_24 w_8_200 d_Mod_node_5 ?_
  refine lv_iload_n hx hb d_Mod_node_8 rfl (lv_at hl 2 rfl) ?_
  obtain ⟨hi, hw⟩ := hw
  refine w_iast (o := 12) hx hb hK hW hS ko_12.1 ko_12.2 hi d_Mod_node_9 (fun H locs hW hS => ?_)
  obtain ⟨x203, ex203⟩ : ∃ y : St, y = setA x 12 (fI x 0 24) l2 := ⟨_, rfl⟩
  rw [← ex203] at hW
  have hw := hw x203 ex203
  refine lv_aload_n hx hb d_Mod_node_10 rfl (lv_at hl 0 rfl) ?_
  refine w_getf (q := 13) (k := 19) (t := 12) (C := R_Mod) (T := F_Mod) (N := 167) hx hb hT hown hK hW ko_0.1 ko_0.2 (by decide) in_Mod rfl rfl (by decide) rfl fr_Mod_19 w_8_195 d_Mod_node_11 rfl ?_
  refine lv_aload_n hx hb d_Mod_node_14 rfl (lv_at hl 0 rfl) ?_
  refine w_geti (k := 24) (t := 12) (C := R_Mod) (T := F_Mod) (N := 167) hx hb hT hown hK hW ko_0.1 ko_0.2 (by decide) in_Mod rfl rfl (by decide) rfl fr_Mod_24 w_8_200 d_Mod_node_15 ?_
  refine lv_iload_n hx hb d_Mod_node_18 rfl (lv_at hl 1 rfl) ?_
  obtain ⟨hi, hw⟩ := hw
  refine w_iast (o := 13) hx hb hK hW hS ko_13.1 ko_13.2 hi d_Mod_node_19 (fun H locs hW hS => ?_)
  obtain ⟨x204, ex204⟩ : ∃ y : St, y = setA x203 13 (fI x203 0 24) l1 := ⟨_, rfl⟩
  rw [← ex204] at hW
  have hw := hw x204 ex204
  refine lv_aload_n hx hb d_Mod_node_20 rfl (lv_at hl 0 rfl) ?_
  refine w_getf (q := 14) (k := 20) (t := 12) (C := R_Mod) (T := F_Mod) (N := 167) hx hb hT hown hK hW ko_0.1 ko_0.2 (by decide) in_Mod rfl rfl (by decide) rfl fr_Mod_20 w_8_196 d_Mod_node_21 rfl ?_
  refine lv_aload_n hx hb d_Mod_node_24 rfl (lv_at hl 0 rfl) ?_
  refine w_geti (k := 24) (t := 12) (C := R_Mod) (T := F_Mod) (N := 167) hx hb hT hown hK hW ko_0.1 ko_0.2 (by decide) in_Mod rfl rfl (by decide) rfl fr_Mod_24 w_8_200 d_Mod_node_25 ?_
  refine lv_aload_n hx hb d_Mod_node_28 rfl (lv_at hl 0 rfl) ?_
  refine w_geti (k := 25) (t := 12) (C := R_Mod) (T := F_Mod) (N := 167) hx hb hT hown hK hW ko_0.1 ko_0.2 (by decide) in_Mod rfl rfl (by decide) rfl fr_Mod_25 w_8_201 d_Mod_node_29 ?_
  obtain ⟨hi, hw⟩ := hw
  refine w_iast (o := 14) hx hb hK hW hS ko_14.1 ko_14.2 hi d_Mod_node_32 (fun H locs hW hS => ?_)
  obtain ⟨x205, ex205⟩ : ∃ y : St, y = setA x204 14 (fI x204 0 24) (fI x204 0 25) := ⟨_, rfl⟩
  rw [← ex205] at hW
  have hw := hw x205 ex205
  refine lv_aload_n hx hb d_Mod_node_33 rfl (lv_at hl 0 rfl) ?_
  refine w_getf (q := 15) (k := 21) (t := 12) (C := R_Mod) (T := F_Mod) (N := 167) hx hb hT hown hK hW ko_0.1 ko_0.2 (by decide) in_Mod rfl rfl (by decide) rfl fr_Mod_21 w_8_197 d_Mod_node_34 rfl ?_
  refine lv_aload_n hx hb d_Mod_node_37 rfl (lv_at hl 0 rfl) ?_
  refine w_geti (k := 24) (t := 12) (C := R_Mod) (T := F_Mod) (N := 167) hx hb hT hown hK hW ko_0.1 ko_0.2 (by decide) in_Mod rfl rfl (by decide) rfl fr_Mod_24 w_8_200 d_Mod_node_38 ?_
  refine lv_iconst (v := 0) hx hb d_Mod_node_41 (by decide) ?_
  obtain ⟨hi, hw⟩ := hw
  refine w_iast (o := 15) hx hb hK hW hS ko_15.1 ko_15.2 hi d_Mod_node_42 (fun H locs hW hS => ?_)
  obtain ⟨x206, ex206⟩ : ∃ y : St, y = setA x205 15 (fI x205 0 24) 0 := ⟨_, rfl⟩
  rw [← ex206] at hW
  have hw := hw x206 ex206
  refine lv_aload_n hx hb d_Mod_node_43 rfl (lv_at hl 0 rfl) ?_
  refine w_getf (q := 17) (k := 23) (t := 12) (C := R_Mod) (T := F_Mod) (N := 167) hx hb hT hown hK hW ko_0.1 ko_0.2 (by decide) in_Mod rfl rfl (by decide) rfl fr_Mod_23 w_8_199 d_Mod_node_44 rfl ?_
  refine lv_aload_n hx hb d_Mod_node_47 rfl (lv_at hl 0 rfl) ?_
  refine w_geti (k := 24) (t := 12) (C := R_Mod) (T := F_Mod) (N := 167) hx hb hT hown hK hW ko_0.1 ko_0.2 (by decide) in_Mod rfl rfl (by decide) rfl fr_Mod_24 w_8_200 d_Mod_node_48 ?_
  refine lv_lload_n hx hb d_Mod_node_51 rfl (lv_at hl 3 rfl) ?_
  obtain ⟨hi, hw⟩ := hw
  refine w_last (o := 17) hx hb hK hW hS ko_17.1 ko_17.2 hi d_Mod_node_52 (fun H locs hW hS => ?_)
  obtain ⟨x207, ex207⟩ : ∃ y : St, y = setL x206 17 (fI x206 0 24) l3 := ⟨_, rfl⟩
  rw [← ex207] at hW
  have hw := hw x207 ex207
  refine lv_aload_n hx hb d_Mod_node_53 rfl (lv_at hl 0 rfl) ?_
  refine lv_dup hx hb d_Mod_node_54 rfl ?_
  refine w_geti (k := 24) (t := 12) (C := R_Mod) (T := F_Mod) (N := 167) hx hb hT hown hK hW ko_0.1 ko_0.2 (by decide) in_Mod rfl rfl (by decide) rfl fr_Mod_24 w_8_200 d_Mod_node_55 ?_
  refine lv_iconst (v := 1) hx hb d_Mod_node_58 (by decide) ?_
  refine lv_iadd hx hb d_Mod_node_59 ?_
  refine w_puti (ty := .int) (k := 24) (t := 12) (C := R_Mod) (T := F_Mod) (N := 167) hx hb hT hown hK hW hS ko_0.1 ko_0.2 (by decide) in_Mod t_Mod t_Mod_ok n_Mod rfl rfl (by decide) rfl fr_Mod_24 w_8_200 (by decide +kernel) rfl rfl d_Mod_node_60 (fun H locs hW hS => ?_)
  obtain ⟨x208, ex208⟩ : ∃ y : St, y = setI x207 0 24 ((fI x207 0 24) + 1) := ⟨_, rfl⟩
  rw [← ex208] at hW
  have hw := hw x208 ex208
  refine lv_aload_n hx hb d_Mod_node_63 rfl (lv_at hl 0 rfl) ?_
  refine w_geti (k := 24) (t := 12) (C := R_Mod) (T := F_Mod) (N := 167) hx hb hT hown hK hW ko_0.1 ko_0.2 (by decide) in_Mod rfl rfl (by decide) rfl fr_Mod_24 w_8_200 d_Mod_node_64 ?_
  refine lv_iconst (v := 1) hx hb d_Mod_node_67 (by decide) ?_
  refine lv_isub hx hb d_Mod_node_68 ?_
  exact hret ((fI x208 0 24) - 1) x208 H locs 69 ls d_Mod_node_69 hw hW hS
set_option maxHeartbeats 4000000 in
set_option maxRecDepth 100000 in
theorem k_Mod_node (l : Launch) (dC : Nat → ClassId) (dI : Nat → Nat → Nat) (cI cB cJ cZ : ClassId) (ad : Nat → Nat) (sz : Nat) (l1 : Int32) (l2 : Int32) (l3 : Int64) (x : St) {post : Int32 → St → Prop} (hw : wp_Mod_node post l1 l2 l3 x) : Met l y_Mod_node (wsOf y_Mod_node b_Mod_node 5 (some (.int))) ({ frames := 0, cells := 0, slots := 0, locals := 0 }) (va_Pc [.ref (ad 0), .int l1, .int l2, .long l3] (PW dC dI cI cB cJ cZ ad stM kcM 115 sz x)) (va_Qi (fun (r : Int32) (y : St) => post r y) (fun y t => Wd dC dI cI cB cJ cZ ad stM kcM 115 (va_A (pic ad stM kcM 115 cI cB cJ cZ x) sz) y t.heap) (va_A (pic ad stM kcM 115 cI cB cJ cZ x) sz)) 0 0 (va_A (pic ad stM kcM 115 cI cB cJ cZ x) sz) := by
  refine Met.ofW (cc := b_Mod_node) (maxL := 5) (ret := some (.int)) (by decide) rfl ?_
  intro p e s m args below meth c s₁ B hml hv
  obtain ⟨rfl, hsz, hW0, hK, hN⟩ := hv
  have hx := B.exec
  have hb := B.bytes
  have hr := B.returns
  have hts := atoms_spec B.pre
  have hT : ∀ w ∈ TG, w.before _ s = true := fun w h => hts w (List.mem_cons_of_mem _ h)
  have hown : s.vm.findClass R_Mod = some m.cls := findClass_of_methodNamed B.named
  have hlocks := B.notSynchronized
  subst hsz
  have hW : Wd dC dI cI cB cJ cZ ad stM kcM 115 (va_A (pic ad stM kcM 115 cI cB cJ cZ x) s.heap.size) x s.heap := ⟨hW0.1, hW0.2.1.self (sz := s.heap.size), hW0.2.2⟩
  generalize hAe : va_A (pic ad stM kcM 115 cI cB cJ cZ x) s.heap.size = A at hW ⊢
  have hA : ∀ q : Nat, s.heap.size ≤ q → A q := fun q h => by rw [← hAe]; exact Or.inr h
  have hS : va_S A s.heap s.heap [] := va_S.rf
  have hl := lv_entry ([.ref (ad 0), .int l1, .int l2, .long l3]) (n := 5) (Nat.le_of_ble_eq_true rfl)
  rw [lg_entry_eq]
  generalize (lg_sl ([.ref (ad 0), .int l1, .int l2, .long l3]) ++ List.replicate (5 - (lg_sl ([.ref (ad 0), .int l1, .int l2, .long l3])).length) Slot.unset).toArray = ls at hl ⊢
  have hl : lv_has ls 5 [(0, .ref (ad 0)), (1, .int l1), (2, .int l2), (3, .long l3)] := hl
  exact t_Mod_node_e hx hb hml hown hT hK hN hA (Nat.le_refl 0) (Nat.le_refl 0) (Nat.le_refl 0) (Nat.le_refl 0) (fun r x H locs pc ls hd hp hW hS => W.iret (v := r) hx hb hr (fun t ht hM => ⟨⟨r, x, rfl, hp, Wd.back hW ht.symm (fun _ z => z)⟩, hS.F ht⟩) hS.2.2 hd hlocks)  l1 l2 l3 x _ _ ls  hw hW hS hl
set_option maxRecDepth 100000 in
set_option maxHeartbeats 4000000 in
set_option maxRecDepth 100000 in
theorem t_Mod_behind_171 {p : Program} {l : Launch} {e : Env} {R : Room} {s : State} {m : MethodId} {args : Array Value} {below : List Frame} {meth : Method} {c : Code} {cells slots : Nat} {Q : State → Prop} {dC : Nat → ClassId} {dI : Nat → Nat → Nat} {cI cB cJ cZ : ClassId} {A : Nat → Prop} {ad : Nat → Nat} {post : Int32 → St → Prop} (hx : p.tables.exec = Jvm.exec) (hb : c.code = b_Mod_behind) (hml : c.maxLocals = 7) (hown : s.vm.findClass R_Mod = some m.cls) (hT : ∀ w ∈ TG, w.before args s = true) (hK : va_K (dC, dI) CL (TY cI cB cJ cZ) s) (hN : NW s) (hA : ∀ q : Nat, s.heap.size ≤ q → A q) (hRc : cells ≤ R.cells) (hRs : slots ≤ R.slots) (hRf : 1 ≤ R.frames) (hRl : 21 ≤ R.locals) (hret : ∀ (r : Int32) (x : St) (H : Heap) (locs : List Loc) (pc : Nat) (ls : Array Slot), decode b_Mod_behind pc = .ok (.ireturn, 1) → post r x → Wd dC dI cI cB cJ cZ ad stM kcM 115 A x H → va_S A s.heap H locs → W p l e R s m args below meth c H locs cells slots Q (F0 m pc ls [.int r]))  : ∀ (l1 : Int32) (l2 : Int32) (l3 : Int32) (l4 : Int32) (x : St) (H : Heap) (locs : List Loc) (ls : Array Slot), j_Mod_behind_171 post l1 l2 l3 l4 x → Wd dC dI cI cB cJ cZ ad stM kcM 115 A x H → va_S A s.heap H locs → lv_has ls 7 [(0, .ref (ad 0)), (1, .int l1), (2, .int l2), (3, .int l3), (4, .int l4)] → W p l e R s m args below meth c H locs cells slots Q (F0 m 171 ls []) := by
  intro l1 l2 l3 l4 x H locs ls  hw hW hS hl
  unfold j_Mod_behind_171 at hw
  refine lv_iload_n hx hb d_Mod_behind_171 rfl (lv_at hl 3 rfl) ?_
  exact hret l3 x H locs 172 ls d_Mod_behind_172 hw hW hS
set_option maxRecDepth 100000 in
set_option maxHeartbeats 4000000 in
set_option maxRecDepth 100000 in
theorem t_Mod_behind_147 {p : Program} {l : Launch} {e : Env} {R : Room} {s : State} {m : MethodId} {args : Array Value} {below : List Frame} {meth : Method} {c : Code} {cells slots : Nat} {Q : State → Prop} {dC : Nat → ClassId} {dI : Nat → Nat → Nat} {cI cB cJ cZ : ClassId} {A : Nat → Prop} {ad : Nat → Nat} {post : Int32 → St → Prop} {rec59 : Int32 → Int32 → Int32 → Int32 → St → Prop} (hx : p.tables.exec = Jvm.exec) (hb : c.code = b_Mod_behind) (hml : c.maxLocals = 7) (hown : s.vm.findClass R_Mod = some m.cls) (hT : ∀ w ∈ TG, w.before args s = true) (hK : va_K (dC, dI) CL (TY cI cB cJ cZ) s) (hN : NW s) (hA : ∀ q : Nat, s.heap.size ≤ q → A q) (hRc : cells ≤ R.cells) (hRs : slots ≤ R.slots) (hRf : 1 ≤ R.frames) (hRl : 21 ≤ R.locals) (hret : ∀ (r : Int32) (x : St) (H : Heap) (locs : List Loc) (pc : Nat) (ls : Array Slot), decode b_Mod_behind pc = .ok (.ireturn, 1) → post r x → Wd dC dI cI cB cJ cZ ad stM kcM 115 A x H → va_S A s.heap H locs → W p l e R s m args below meth c H locs cells slots Q (F0 m pc ls [.int r])) (hrec59 : ∀ (l1 : Int32) (l2 : Int32) (l3 : Int32) (l4 : Int32) (x : St) (H : Heap) (locs : List Loc) (ls : Array Slot), rec59 l1 l2 l3 l4 x → Wd dC dI cI cB cJ cZ ad stM kcM 115 A x H → va_S A s.heap H locs → lv_has ls 7 [(0, .ref (ad 0)), (1, .int l1), (2, .int l2), (3, .int l3), (4, .int l4)] → W p l e R s m args below meth c H locs cells slots Q (F0 m 59 ls [])) : ∀ (l1 : Int32) (l2 : Int32) (l3 : Int32) (l4 : Int32) (l5 : Int32) (l6 : Int32) (x : St) (H : Heap) (locs : List Loc) (ls : Array Slot), j_Mod_behind_147 post rec59 l1 l2 l3 l4 l5 l6 x → Wd dC dI cI cB cJ cZ ad stM kcM 115 A x H → va_S A s.heap H locs → lv_has ls 7 [(0, .ref (ad 0)), (1, .int l1), (2, .int l2), (3, .int l3), (4, .int l4), (5, .int l5), (6, .int l6)] → W p l e R s m args below meth c H locs cells slots Q (F0 m 147 ls []) := by
  intro l1 l2 l3 l4 l5 l6 x H locs ls  hw hW hS hl
  unfold j_Mod_behind_147 at hw
  refine lv_bipush (v := 16) hx hb d_Mod_behind_147 (by decide) ?_
  refine lv_iload_n hx hb d_Mod_behind_149 rfl (lv_at hl 3 rfl) ?_
  refine lv_imul hx hb d_Mod_behind_150 ?_
  refine lv_iload hx hb d_Mod_behind_151 (lv_at hl 6 rfl) ?_
  refine lv_iadd hx hb d_Mod_behind_153 ?_
  refine lv_topi (fun v209 ev209 => ?_)
  have hw := hw v209 ev209
  refine lv_istore_n (lv' := [(3, .int v209), (0, .ref (ad 0)), (1, .int l1), (2, .int l2), (4, .int l4), (5, .int l5), (6, .int l6)]) hx hb d_Mod_behind_154 rfl hl (by decide) rfl (fun ls hl => ?_)
  refine lv_aload_n hx hb d_Mod_behind_155 rfl (lv_at hl 1 rfl) ?_
  refine lv_dup hx hb d_Mod_behind_156 rfl ?_
  refine w_geti (k := 16) (t := 12) (C := R_Mod) (T := F_Mod) (N := 167) hx hb hT hown hK hW ko_0.1 ko_0.2 (by decide) in_Mod rfl rfl (by decide) rfl fr_Mod_16 w_8_192 d_Mod_behind_157 ?_
  refine lv_iconst (v := 1) hx hb d_Mod_behind_160 (by decide) ?_
  refine lv_iadd hx hb d_Mod_behind_161 ?_
  refine w_puti (ty := .int) (k := 16) (t := 12) (C := R_Mod) (T := F_Mod) (N := 167) hx hb hT hown hK hW hS ko_0.1 ko_0.2 (by decide) in_Mod t_Mod t_Mod_ok n_Mod rfl rfl (by decide) rfl fr_Mod_16 w_8_192 (by decide +kernel) rfl rfl d_Mod_behind_162 (fun H locs hW hS => ?_)
  obtain ⟨x210, ex210⟩ : ∃ y : St, y = setI x 0 16 ((fI x 0 16) + 1) := ⟨_, rfl⟩
  rw [← ex210] at hW
  have hw := hw x210 ex210
  refine lv_iinc (v := (l4 + 1)) (lv' := [(4, .int (l4 + 1)), (3, .int v209), (0, .ref (ad 0)), (1, .int l1), (2, .int l2), (5, .int l5), (6, .int l6)]) hx hb d_Mod_behind_165 hl (k := 4) rfl rfl (by decide) rfl (fun ls hl => ?_)
  refine lv_goto (tgt := 59) hx hb d_Mod_behind_168 (by decide) ?_
  exact hrec59 l1 l2 v209 (l4 + 1) x210 H locs ls  hw hW hS (lv_sub hl [2, 3, 4, 1, 0] rfl)
set_option maxRecDepth 100000 in
set_option maxHeartbeats 4000000 in
set_option maxRecDepth 100000 in
theorem t_Mod_behind_144 {p : Program} {l : Launch} {e : Env} {R : Room} {s : State} {m : MethodId} {args : Array Value} {below : List Frame} {meth : Method} {c : Code} {cells slots : Nat} {Q : State → Prop} {dC : Nat → ClassId} {dI : Nat → Nat → Nat} {cI cB cJ cZ : ClassId} {A : Nat → Prop} {ad : Nat → Nat} {post : Int32 → St → Prop} {rec59 : Int32 → Int32 → Int32 → Int32 → St → Prop} (hx : p.tables.exec = Jvm.exec) (hb : c.code = b_Mod_behind) (hml : c.maxLocals = 7) (hown : s.vm.findClass R_Mod = some m.cls) (hT : ∀ w ∈ TG, w.before args s = true) (hK : va_K (dC, dI) CL (TY cI cB cJ cZ) s) (hN : NW s) (hA : ∀ q : Nat, s.heap.size ≤ q → A q) (hRc : cells ≤ R.cells) (hRs : slots ≤ R.slots) (hRf : 1 ≤ R.frames) (hRl : 21 ≤ R.locals) (hret : ∀ (r : Int32) (x : St) (H : Heap) (locs : List Loc) (pc : Nat) (ls : Array Slot), decode b_Mod_behind pc = .ok (.ireturn, 1) → post r x → Wd dC dI cI cB cJ cZ ad stM kcM 115 A x H → va_S A s.heap H locs → W p l e R s m args below meth c H locs cells slots Q (F0 m pc ls [.int r])) (hrec59 : ∀ (l1 : Int32) (l2 : Int32) (l3 : Int32) (l4 : Int32) (x : St) (H : Heap) (locs : List Loc) (ls : Array Slot), rec59 l1 l2 l3 l4 x → Wd dC dI cI cB cJ cZ ad stM kcM 115 A x H → va_S A s.heap H locs → lv_has ls 7 [(0, .ref (ad 0)), (1, .int l1), (2, .int l2), (3, .int l3), (4, .int l4)] → W p l e R s m args below meth c H locs cells slots Q (F0 m 59 ls [])) : ∀ (l1 : Int32) (l2 : Int32) (l3 : Int32) (l4 : Int32) (l5 : Int32) (l6 : Int32) (s0 : Int32) (x : St) (H : Heap) (locs : List Loc) (ls : Array Slot), j_Mod_behind_144 post rec59 l1 l2 l3 l4 l5 l6 s0 x → Wd dC dI cI cB cJ cZ ad stM kcM 115 A x H → va_S A s.heap H locs → lv_has ls 7 [(0, .ref (ad 0)), (1, .int l1), (2, .int l2), (3, .int l3), (4, .int l4), (5, .int l5), (6, .int l6)] → W p l e R s m args below meth c H locs cells slots Q (F0 m 144 ls [.int s0, .ref (ad 0)]) := by
  intro l1 l2 l3 l4 l5 l6 s0 x H locs ls  hw hW hS hl
  unfold j_Mod_behind_144 at hw
  have hF := hW.free hS hA
  refine va_callv (va_runV (C := R_Mod) (As := [.int s0]) (rest := []) ⟨hx, hb, hml, hown, hT⟩ (k_Mod_fail l dC dI cI cB cJ cZ ad H.size s0 x  hw) ⟨callB_of 1 hT (gwt_in w_11_14) rfl rfl rfl (hT _ w_1_15) (hT _ w_11_11) (by decide +kernel) ⟨Nat.le_trans (Nat.le_of_ble_eq_true rfl) hRf, Nat.le_trans (Nat.le_of_ble_eq_true rfl) hRl⟩, hT _ w_11_13, hT _ ws_115⟩ ⟨PW.blind, va_recv hK hW.1 (ci := 12) (q0 := 0) rfl (pic_obj ko_0.1 ko_0.2 (by decide)), PW.at _ hW hK hN⟩ rfl rfl hl.1 rfl (lv_room (Nat.le_of_ble_eq_true rfl)) d_Mod_behind_144 ⟨hRc, hRs⟩) hS (fun q _ h => hF q h) hF (fun  x211 t H locs ht hvm hw hB hz1 hk1 hS => ?_)
  have hW := Wd.back hB ht hF
  clear hB ht hF hz1 hk1 hvm
  exact t_Mod_behind_147 hx hb hml hown hT hK hN hA hRc hRs hRf hRl hret hrec59 l1 l2 l3 l4 l5 l6 x211 H locs ls  hw hW hS (lv_sub hl [0, 1, 2, 3, 4, 5, 6] rfl)
set_option maxRecDepth 100000 in
set_option maxHeartbeats 4000000 in
set_option maxRecDepth 100000 in
theorem t_Mod_behind_121 {p : Program} {l : Launch} {e : Env} {R : Room} {s : State} {m : MethodId} {args : Array Value} {below : List Frame} {meth : Method} {c : Code} {cells slots : Nat} {Q : State → Prop} {dC : Nat → ClassId} {dI : Nat → Nat → Nat} {cI cB cJ cZ : ClassId} {A : Nat → Prop} {ad : Nat → Nat} {post : Int32 → St → Prop} {rec59 : Int32 → Int32 → Int32 → Int32 → St → Prop} (hx : p.tables.exec = Jvm.exec) (hb : c.code = b_Mod_behind) (hml : c.maxLocals = 7) (hown : s.vm.findClass R_Mod = some m.cls) (hT : ∀ w ∈ TG, w.before args s = true) (hK : va_K (dC, dI) CL (TY cI cB cJ cZ) s) (hN : NW s) (hA : ∀ q : Nat, s.heap.size ≤ q → A q) (hRc : cells ≤ R.cells) (hRs : slots ≤ R.slots) (hRf : 1 ≤ R.frames) (hRl : 21 ≤ R.locals) (hret : ∀ (r : Int32) (x : St) (H : Heap) (locs : List Loc) (pc : Nat) (ls : Array Slot), decode b_Mod_behind pc = .ok (.ireturn, 1) → post r x → Wd dC dI cI cB cJ cZ ad stM kcM 115 A x H → va_S A s.heap H locs → W p l e R s m args below meth c H locs cells slots Q (F0 m pc ls [.int r])) (hrec59 : ∀ (l1 : Int32) (l2 : Int32) (l3 : Int32) (l4 : Int32) (x : St) (H : Heap) (locs : List Loc) (ls : Array Slot), rec59 l1 l2 l3 l4 x → Wd dC dI cI cB cJ cZ ad stM kcM 115 A x H → va_S A s.heap H locs → lv_has ls 7 [(0, .ref (ad 0)), (1, .int l1), (2, .int l2), (3, .int l3), (4, .int l4)] → W p l e R s m args below meth c H locs cells slots Q (F0 m 59 ls [])) : ∀ (l1 : Int32) (l2 : Int32) (l3 : Int32) (l4 : Int32) (l5 : Int32) (s0 : Int32) (x : St) (H : Heap) (locs : List Loc) (ls : Array Slot), j_Mod_behind_121 post rec59 l1 l2 l3 l4 l5 s0 x → Wd dC dI cI cB cJ cZ ad stM kcM 115 A x H → va_S A s.heap H locs → lv_has ls 7 [(0, .ref (ad 0)), (1, .int l1), (2, .int l2), (3, .int l3), (4, .int l4), (5, .int l5)] → W p l e R s m args below meth c H locs cells slots Q (F0 m 121 ls [.int s0]) := by
  intro l1 l2 l3 l4 l5 s0 x H locs ls  hw hW hS hl
  unfold j_Mod_behind_121 at hw
  refine lv_istore (lv' := [(6, .int s0), (0, .ref (ad 0)), (1, .int l1), (2, .int l2), (3, .int l3), (4, .int l4), (5, .int l5)]) hx hb d_Mod_behind_121 hl (by decide) rfl (fun ls hl => ?_)
  refine lv_iload hx hb d_Mod_behind_123 (lv_at hl 0 rfl) ?_
  refine lv_iconst (v := (-1)) hx hb d_Mod_behind_125 (by decide) ?_
  refine lv_icmp_ne (tgt := 147) hx hb d_Mod_behind_126 (by decide) (fun c212 => ?_) (fun c212 => ?_)
  · have hw := hw.1 c212
    exact t_Mod_behind_147 hx hb hml hown hT hK hN hA hRc hRs hRf hRl hret hrec59 l1 l2 l3 l4 l5 s0 x H locs ls  hw hW hS (lv_sub hl [1, 2, 3, 4, 5, 6, 0] rfl)
  · have hw := hw.2 c212
    refine lv_aload_n hx hb d_Mod_behind_129 rfl (lv_at hl 1 rfl) ?_
    refine lv_iload hx hb d_Mod_behind_130 (lv_at hl 6 rfl) ?_
    refine lv_iconst (v := (-1)) hx hb d_Mod_behind_132 (by decide) ?_
    refine lv_icmp_ne (tgt := 143) hx hb d_Mod_behind_133 (by decide) (fun c213 => ?_) (fun c213 => ?_)
    · have hw := hw.1 c213
      refine lv_iload_n hx hb d_Mod_behind_143 rfl (lv_at hl 2 rfl) ?_
      exact t_Mod_behind_144 hx hb hml hown hT hK hN hA hRc hRs hRf hRl hret hrec59 l1 l2 l3 l4 l5 s0 l1 x H locs ls  hw hW hS (lv_sub hl [1, 2, 3, 4, 5, 6, 0] rfl)
    · have hw := hw.2 c213
      refine lv_aload_n hx hb d_Mod_behind_136 rfl (lv_at hl 1 rfl) ?_
      refine w_geti (k := 15) (t := 12) (C := R_Mod) (T := F_Mod) (N := 167) hx hb hT hown hK hW ko_0.1 ko_0.2 (by decide) in_Mod rfl rfl (by decide) rfl fr_Mod_15 w_8_191 d_Mod_behind_137 ?_
      refine lv_goto (tgt := 144) hx hb d_Mod_behind_140 (by decide) ?_
      exact t_Mod_behind_144 hx hb hml hown hT hK hN hA hRc hRs hRf hRl hret hrec59 l1 l2 l3 l4 l5 s0 (fI x 0 15) x H locs ls  hw hW hS (lv_sub hl [1, 2, 3, 4, 5, 6, 0] rfl)
set_option maxRecDepth 100000 in
set_option maxHeartbeats 4000000 in
set_option maxRecDepth 100000 in
theorem t_Mod_behind_120 {p : Program} {l : Launch} {e : Env} {R : Room} {s : State} {m : MethodId} {args : Array Value} {below : List Frame} {meth : Method} {c : Code} {cells slots : Nat} {Q : State → Prop} {dC : Nat → ClassId} {dI : Nat → Nat → Nat} {cI cB cJ cZ : ClassId} {A : Nat → Prop} {ad : Nat → Nat} {post : Int32 → St → Prop} {rec59 : Int32 → Int32 → Int32 → Int32 → St → Prop} (hx : p.tables.exec = Jvm.exec) (hb : c.code = b_Mod_behind) (hml : c.maxLocals = 7) (hown : s.vm.findClass R_Mod = some m.cls) (hT : ∀ w ∈ TG, w.before args s = true) (hK : va_K (dC, dI) CL (TY cI cB cJ cZ) s) (hN : NW s) (hA : ∀ q : Nat, s.heap.size ≤ q → A q) (hRc : cells ≤ R.cells) (hRs : slots ≤ R.slots) (hRf : 1 ≤ R.frames) (hRl : 21 ≤ R.locals) (hret : ∀ (r : Int32) (x : St) (H : Heap) (locs : List Loc) (pc : Nat) (ls : Array Slot), decode b_Mod_behind pc = .ok (.ireturn, 1) → post r x → Wd dC dI cI cB cJ cZ ad stM kcM 115 A x H → va_S A s.heap H locs → W p l e R s m args below meth c H locs cells slots Q (F0 m pc ls [.int r])) (hrec59 : ∀ (l1 : Int32) (l2 : Int32) (l3 : Int32) (l4 : Int32) (x : St) (H : Heap) (locs : List Loc) (ls : Array Slot), rec59 l1 l2 l3 l4 x → Wd dC dI cI cB cJ cZ ad stM kcM 115 A x H → va_S A s.heap H locs → lv_has ls 7 [(0, .ref (ad 0)), (1, .int l1), (2, .int l2), (3, .int l3), (4, .int l4)] → W p l e R s m args below meth c H locs cells slots Q (F0 m 59 ls [])) : ∀ (l1 : Int32) (l2 : Int32) (l3 : Int32) (l4 : Int32) (l5 : Int32) (x : St) (H : Heap) (locs : List Loc) (ls : Array Slot), j_Mod_behind_120 post rec59 l1 l2 l3 l4 l5 x → Wd dC dI cI cB cJ cZ ad stM kcM 115 A x H → va_S A s.heap H locs → lv_has ls 7 [(0, .ref (ad 0)), (1, .int l1), (2, .int l2), (3, .int l3), (4, .int l4), (5, .int l5)] → W p l e R s m args below meth c H locs cells slots Q (F0 m 120 ls []) := by
  intro l1 l2 l3 l4 l5 x H locs ls  hw hW hS hl
  unfold j_Mod_behind_120 at hw
  refine lv_iconst (v := (-1)) hx hb d_Mod_behind_120 (by decide) ?_
  exact t_Mod_behind_121 hx hb hml hown hT hK hN hA hRc hRs hRf hRl hret hrec59 l1 l2 l3 l4 l5 (-1) x H locs ls  hw hW hS (lv_sub hl [0, 1, 2, 3, 4, 5] rfl)
set_option maxRecDepth 100000 in
set_option maxHeartbeats 4000000 in
set_option maxRecDepth 100000 in
theorem t_Mod_behind_59 {p : Program} {l : Launch} {e : Env} {R : Room} {s : State} {m : MethodId} {args : Array Value} {below : List Frame} {meth : Method} {c : Code} {cells slots : Nat} {Q : State → Prop} {dC : Nat → ClassId} {dI : Nat → Nat → Nat} {cI cB cJ cZ : ClassId} {A : Nat → Prop} {ad : Nat → Nat} {post : Int32 → St → Prop} {rec59 : Int32 → Int32 → Int32 → Int32 → St → Prop} (hx : p.tables.exec = Jvm.exec) (hb : c.code = b_Mod_behind) (hml : c.maxLocals = 7) (hown : s.vm.findClass R_Mod = some m.cls) (hT : ∀ w ∈ TG, w.before args s = true) (hK : va_K (dC, dI) CL (TY cI cB cJ cZ) s) (hN : NW s) (hA : ∀ q : Nat, s.heap.size ≤ q → A q) (hRc : cells ≤ R.cells) (hRs : slots ≤ R.slots) (hRf : 1 ≤ R.frames) (hRl : 21 ≤ R.locals) (hret : ∀ (r : Int32) (x : St) (H : Heap) (locs : List Loc) (pc : Nat) (ls : Array Slot), decode b_Mod_behind pc = .ok (.ireturn, 1) → post r x → Wd dC dI cI cB cJ cZ ad stM kcM 115 A x H → va_S A s.heap H locs → W p l e R s m args below meth c H locs cells slots Q (F0 m pc ls [.int r])) (hrec59 : ∀ (l1 : Int32) (l2 : Int32) (l3 : Int32) (l4 : Int32) (x : St) (H : Heap) (locs : List Loc) (ls : Array Slot), rec59 l1 l2 l3 l4 x → Wd dC dI cI cB cJ cZ ad stM kcM 115 A x H → va_S A s.heap H locs → lv_has ls 7 [(0, .ref (ad 0)), (1, .int l1), (2, .int l2), (3, .int l3), (4, .int l4)] → W p l e R s m args below meth c H locs cells slots Q (F0 m 59 ls [])) : ∀ (l1 : Int32) (l2 : Int32) (l3 : Int32) (l4 : Int32) (x : St) (H : Heap) (locs : List Loc) (ls : Array Slot), j_Mod_behind_59 post rec59 l1 l2 l3 l4 x → Wd dC dI cI cB cJ cZ ad stM kcM 115 A x H → va_S A s.heap H locs → lv_has ls 7 [(0, .ref (ad 0)), (1, .int l1), (2, .int l2), (3, .int l3), (4, .int l4)] → W p l e R s m args below meth c H locs cells slots Q (F0 m 59 ls []) := by
  intro l1 l2 l3 l4 x H locs ls  hw hW hS hl
  unfold j_Mod_behind_59 at hw
  refine lv_iload hx hb d_Mod_behind_59 (lv_at hl 4 rfl) ?_
  refine lv_iconst (v := 2) hx hb d_Mod_behind_61 (by decide) ?_
  refine lv_icmp_ge (tgt := 171) hx hb d_Mod_behind_62 (by decide) (fun c214 => ?_) (fun c214 => ?_)
  · have hw := hw.1 c214
    exact t_Mod_behind_171 hx hb hml hown hT hK hN hA hRc hRs hRf hRl hret  l1 l2 l3 l4 x H locs ls  hw hW hS (lv_sub hl [0, 1, 2, 3, 4] rfl)
  · have hw := hw.2 c214
    refine lv_aload_n hx hb d_Mod_behind_65 rfl (lv_at hl 0 rfl) ?_
    refine w_geti (k := 17) (t := 12) (C := R_Mod) (T := F_Mod) (N := 167) hx hb hT hown hK hW ko_0.1 ko_0.2 (by decide) in_Mod rfl rfl (by decide) rfl fr_Mod_17 w_8_193 d_Mod_behind_66 ?_
    refine lv_iconst (v := (-1)) hx hb d_Mod_behind_69 (by decide) ?_
    refine lv_icmp_ne (tgt := 171) hx hb d_Mod_behind_70 (by decide) (fun c215 => ?_) (fun c215 => ?_)
    · have hw := hw.1 c215
      exact t_Mod_behind_171 hx hb hml hown hT hK hN hA hRc hRs hRf hRl hret  l1 l2 l3 l4 x H locs ls  hw hW hS (lv_sub hl [0, 1, 2, 3, 4] rfl)
    · have hw := hw.2 c215
      refine lv_aload_n hx hb d_Mod_behind_73 rfl (lv_at hl 0 rfl) ?_
      have hF := hW.free hS hA
      refine va_calli (va_runV (C := R_Mod) (As := []) (rest := []) ⟨hx, hb, hml, hown, hT⟩ (k_Mod_look l dC dI cI cB cJ cZ ad H.size  x  hw) ⟨callB_of 0 hT (gwt_in w_10_234) rfl rfl rfl (hT _ w_1_15) (hT _ w_10_231) (by decide +kernel) ⟨Nat.le_trans (Nat.le_of_ble_eq_true rfl) hRf, Nat.le_trans (Nat.le_of_ble_eq_true rfl) hRl⟩, hT _ w_10_233, hT _ ws_112⟩ ⟨PW.blind, va_recv hK hW.1 (ci := 12) (q0 := 0) rfl (pic_obj ko_0.1 ko_0.2 (by decide)), PW.at _ hW hK hN⟩ rfl rfl hl.1 rfl (lv_room (Nat.le_of_ble_eq_true rfl)) d_Mod_behind_74 ⟨hRc, hRs⟩) hS (fun q _ h => hF q h) hF (fun r217 x216 t H locs ht hvm hw hB hz1 hk1 hS => ?_)
      have hW := Wd.back hB ht hF
      clear hB ht hF hz1 hk1 hvm
      refine lv_istore (lv' := [(5, .int r217), (0, .ref (ad 0)), (1, .int l1), (2, .int l2), (3, .int l3), (4, .int l4)]) hx hb d_Mod_behind_77 hl (by decide) rfl (fun ls hl => ?_)
      refine lv_iload hx hb d_Mod_behind_79 (lv_at hl 0 rfl) ?_
      have hF := hW.free hS hA
      refine va_calli (va_runS (As := [.int r217]) (rest := []) ⟨hx, hb, hml, hown, hT⟩ (k_Mod_isDigit l dC dI cI cB cJ cZ ad H.size r217 x216  hw) ⟨callB_of 1 hT (gwt_in w_11_8) rfl rfl rfl (hT _ w_1_15) (hT _ w_11_6) (by decide +kernel) ⟨Nat.le_trans (Nat.le_of_ble_eq_true rfl) hRf, Nat.le_trans (Nat.le_of_ble_eq_true rfl) hRl⟩, hT _ w_11_7⟩ ⟨PW.blind, PW.at _ hW hK hN⟩ rfl rfl hl.1 rfl (lv_room (Nat.le_of_ble_eq_true rfl)) d_Mod_behind_81 ⟨hRc, hRs⟩) hS (fun q _ h => hF q h) hF (fun r219 x218 t H locs ht hvm hw hB hz1 hk1 hS => ?_)
      have hW := Wd.back hB ht hF
      clear hB ht hF hz1 hk1 hvm
      refine lv_if_eq (tgt := 95) hx hb d_Mod_behind_84 (by decide) (fun c220 => ?_) (fun c220 => ?_)
      · have hw := hw.1 c220
        refine lv_iload hx hb d_Mod_behind_95 (lv_at hl 0 rfl) ?_
        refine lv_bipush (v := 97) hx hb d_Mod_behind_97 (by decide) ?_
        refine lv_icmp_lt (tgt := 120) hx hb d_Mod_behind_99 (by decide) (fun c221 => ?_) (fun c221 => ?_)
        · have hw := hw.1 c221
          exact t_Mod_behind_120 hx hb hml hown hT hK hN hA hRc hRs hRf hRl hret hrec59 l1 l2 l3 l4 r217 x218 H locs ls  hw hW hS (lv_sub hl [1, 2, 3, 4, 5, 0] rfl)
        · have hw := hw.2 c221
          refine lv_iload hx hb d_Mod_behind_102 (lv_at hl 0 rfl) ?_
          refine lv_bipush (v := 102) hx hb d_Mod_behind_104 (by decide) ?_
          refine lv_icmp_gt (tgt := 120) hx hb d_Mod_behind_106 (by decide) (fun c222 => ?_) (fun c222 => ?_)
          · have hw := hw.1 c222
            exact t_Mod_behind_120 hx hb hml hown hT hK hN hA hRc hRs hRf hRl hret hrec59 l1 l2 l3 l4 r217 x218 H locs ls  hw hW hS (lv_sub hl [1, 2, 3, 4, 5, 0] rfl)
          · have hw := hw.2 c222
            refine lv_iload hx hb d_Mod_behind_109 (lv_at hl 0 rfl) ?_
            refine lv_bipush (v := 97) hx hb d_Mod_behind_111 (by decide) ?_
            refine lv_isub hx hb d_Mod_behind_113 ?_
            refine lv_bipush (v := 10) hx hb d_Mod_behind_114 (by decide) ?_
            refine lv_iadd hx hb d_Mod_behind_116 ?_
            refine lv_goto (tgt := 121) hx hb d_Mod_behind_117 (by decide) ?_
            exact t_Mod_behind_121 hx hb hml hown hT hK hN hA hRc hRs hRf hRl hret hrec59 l1 l2 l3 l4 r217 ((r217 - 97) + 10) x218 H locs ls  hw hW hS (lv_sub hl [1, 2, 3, 4, 5, 0] rfl)
      · have hw := hw.2 c220
        refine lv_iload hx hb d_Mod_behind_87 (lv_at hl 0 rfl) ?_
        refine lv_bipush (v := 48) hx hb d_Mod_behind_89 (by decide) ?_
        refine lv_isub hx hb d_Mod_behind_91 ?_
        refine lv_goto (tgt := 121) hx hb d_Mod_behind_92 (by decide) ?_
        exact t_Mod_behind_121 hx hb hml hown hT hK hN hA hRc hRs hRf hRl hret hrec59 l1 l2 l3 l4 r217 (r217 - 48) x218 H locs ls  hw hW hS (lv_sub hl [1, 2, 3, 4, 5, 0] rfl)
set_option maxHeartbeats 4000000 in
set_option maxRecDepth 100000 in
theorem tl_Mod_behind_59 {p : Program} {l : Launch} {e : Env} {R : Room} {s : State} {m : MethodId} {args : Array Value} {below : List Frame} {meth : Method} {c : Code} {cells slots : Nat} {Q : State → Prop} {dC : Nat → ClassId} {dI : Nat → Nat → Nat} {cI cB cJ cZ : ClassId} {A : Nat → Prop} {ad : Nat → Nat} {post : Int32 → St → Prop} (hx : p.tables.exec = Jvm.exec) (hb : c.code = b_Mod_behind) (hml : c.maxLocals = 7) (hown : s.vm.findClass R_Mod = some m.cls) (hT : ∀ w ∈ TG, w.before args s = true) (hK : va_K (dC, dI) CL (TY cI cB cJ cZ) s) (hN : NW s) (hA : ∀ q : Nat, s.heap.size ≤ q → A q) (hRc : cells ≤ R.cells) (hRs : slots ≤ R.slots) (hRf : 1 ≤ R.frames) (hRl : 21 ≤ R.locals) (hret : ∀ (r : Int32) (x : St) (H : Heap) (locs : List Loc) (pc : Nat) (ls : Array Slot), decode b_Mod_behind pc = .ok (.ireturn, 1) → post r x → Wd dC dI cI cB cJ cZ ad stM kcM 115 A x H → va_S A s.heap H locs → W p l e R s m args below meth c H locs cells slots Q (F0 m pc ls [.int r]))  : ∀ n : Nat, ∀ (l1 : Int32) (l2 : Int32) (l3 : Int32) (l4 : Int32) (x : St) (H : Heap) (locs : List Loc) (ls : Array Slot), wl_Mod_behind_59 post n l1 l2 l3 l4 x → Wd dC dI cI cB cJ cZ ad stM kcM 115 A x H → va_S A s.heap H locs → lv_has ls 7 [(0, .ref (ad 0)), (1, .int l1), (2, .int l2), (3, .int l3), (4, .int l4)] → W p l e R s m args below meth c H locs cells slots Q (F0 m 59 ls []) := by
  intro n
  induction n with
  | zero => intro l1 l2 l3 l4 x H locs ls  hw; exact hw.elim
  | succ n ih => intro l1 l2 l3 l4 x H locs ls  hw hW hS hl; exact t_Mod_behind_59 hx hb hml hown hT hK hN hA hRc hRs hRf hRl hret  ih l1 l2 l3 l4 x H locs ls  hw hW hS hl
set_option maxRecDepth 100000 in
set_option maxHeartbeats 4000000 in
set_option maxRecDepth 100000 in
theorem t_Mod_behind_49 {p : Program} {l : Launch} {e : Env} {R : Room} {s : State} {m : MethodId} {args : Array Value} {below : List Frame} {meth : Method} {c : Code} {cells slots : Nat} {Q : State → Prop} {dC : Nat → ClassId} {dI : Nat → Nat → Nat} {cI cB cJ cZ : ClassId} {A : Nat → Prop} {ad : Nat → Nat} {post : Int32 → St → Prop} (hx : p.tables.exec = Jvm.exec) (hb : c.code = b_Mod_behind) (hml : c.maxLocals = 7) (hown : s.vm.findClass R_Mod = some m.cls) (hT : ∀ w ∈ TG, w.before args s = true) (hK : va_K (dC, dI) CL (TY cI cB cJ cZ) s) (hN : NW s) (hA : ∀ q : Nat, s.heap.size ≤ q → A q) (hRc : cells ≤ R.cells) (hRs : slots ≤ R.slots) (hRf : 1 ≤ R.frames) (hRl : 21 ≤ R.locals) (hret : ∀ (r : Int32) (x : St) (H : Heap) (locs : List Loc) (pc : Nat) (ls : Array Slot), decode b_Mod_behind pc = .ok (.ireturn, 1) → post r x → Wd dC dI cI cB cJ cZ ad stM kcM 115 A x H → va_S A s.heap H locs → W p l e R s m args below meth c H locs cells slots Q (F0 m pc ls [.int r]))  : ∀ (l1 : Int32) (l2 : Int32) (s0 : Int32) (x : St) (H : Heap) (locs : List Loc) (ls : Array Slot), j_Mod_behind_49 post l1 l2 s0 x → Wd dC dI cI cB cJ cZ ad stM kcM 115 A x H → va_S A s.heap H locs → lv_has ls 7 [(0, .ref (ad 0)), (1, .int l1), (2, .int l2)] → W p l e R s m args below meth c H locs cells slots Q (F0 m 49 ls [.int s0, .ref (ad 0)]) := by
  intro l1 l2 s0 x H locs ls  hw hW hS hl
  unfold j_Mod_behind_49 at hw
  have hF := hW.free hS hA
  refine va_callv (va_runV (C := R_Mod) (As := [.int s0]) (rest := []) ⟨hx, hb, hml, hown, hT⟩ (k_Mod_fail l dC dI cI cB cJ cZ ad H.size s0 x  hw) ⟨callB_of 1 hT (gwt_in w_11_14) rfl rfl rfl (hT _ w_1_15) (hT _ w_11_11) (by decide +kernel) ⟨Nat.le_trans (Nat.le_of_ble_eq_true rfl) hRf, Nat.le_trans (Nat.le_of_ble_eq_true rfl) hRl⟩, hT _ w_11_13, hT _ ws_115⟩ ⟨PW.blind, va_recv hK hW.1 (ci := 12) (q0 := 0) rfl (pic_obj ko_0.1 ko_0.2 (by decide)), PW.at _ hW hK hN⟩ rfl rfl hl.1 rfl (lv_room (Nat.le_of_ble_eq_true rfl)) d_Mod_behind_49 ⟨hRc, hRs⟩) hS (fun q _ h => hF q h) hF (fun  x223 t H locs ht hvm hw hB hz1 hk1 hS => ?_)
  have hW := Wd.back hB ht hF
  clear hB ht hF hz1 hk1 hvm
  refine lv_iconst (v := 0) hx hb d_Mod_behind_52 (by decide) ?_
  exact hret 0 x223 H locs 53 ls d_Mod_behind_53 hw hW hS
set_option maxRecDepth 100000 in
set_option maxHeartbeats 4000000 in
set_option maxRecDepth 100000 in
theorem t_Mod_behind_27 {p : Program} {l : Launch} {e : Env} {R : Room} {s : State} {m : MethodId} {args : Array Value} {below : List Frame} {meth : Method} {c : Code} {cells slots : Nat} {Q : State → Prop} {dC : Nat → ClassId} {dI : Nat → Nat → Nat} {cI cB cJ cZ : ClassId} {A : Nat → Prop} {ad : Nat → Nat} {post : Int32 → St → Prop} (hx : p.tables.exec = Jvm.exec) (hb : c.code = b_Mod_behind) (hml : c.maxLocals = 7) (hown : s.vm.findClass R_Mod = some m.cls) (hT : ∀ w ∈ TG, w.before args s = true) (hK : va_K (dC, dI) CL (TY cI cB cJ cZ) s) (hN : NW s) (hA : ∀ q : Nat, s.heap.size ≤ q → A q) (hRc : cells ≤ R.cells) (hRs : slots ≤ R.slots) (hRf : 1 ≤ R.frames) (hRl : 21 ≤ R.locals) (hret : ∀ (r : Int32) (x : St) (H : Heap) (locs : List Loc) (pc : Nat) (ls : Array Slot), decode b_Mod_behind pc = .ok (.ireturn, 1) → post r x → Wd dC dI cI cB cJ cZ ad stM kcM 115 A x H → va_S A s.heap H locs → W p l e R s m args below meth c H locs cells slots Q (F0 m pc ls [.int r]))  : ∀ (l1 : Int32) (l2 : Int32) (x : St) (H : Heap) (locs : List Loc) (ls : Array Slot), j_Mod_behind_27 post l1 l2 x → Wd dC dI cI cB cJ cZ ad stM kcM 115 A x H → va_S A s.heap H locs → lv_has ls 7 [(0, .ref (ad 0)), (1, .int l1), (2, .int l2)] → W p l e R s m args below meth c H locs cells slots Q (F0 m 27 ls []) := by
  intro l1 l2 x H locs ls  hw hW hS hl
  unfold j_Mod_behind_27 at hw
  refine lv_iload_n hx hb d_Mod_behind_27 rfl (lv_at hl 2 rfl) ?_
  exact hret l2 x H locs 28 ls d_Mod_behind_28 hw hW hS
set_option maxRecDepth 100000 in
set_option maxHeartbeats 4000000 in
set_option maxRecDepth 100000 in
theorem t_Mod_behind_e {p : Program} {l : Launch} {e : Env} {R : Room} {s : State} {m : MethodId} {args : Array Value} {below : List Frame} {meth : Method} {c : Code} {cells slots : Nat} {Q : State → Prop} {dC : Nat → ClassId} {dI : Nat → Nat → Nat} {cI cB cJ cZ : ClassId} {A : Nat → Prop} {ad : Nat → Nat} {post : Int32 → St → Prop} (hx : p.tables.exec = Jvm.exec) (hb : c.code = b_Mod_behind) (hml : c.maxLocals = 7) (hown : s.vm.findClass R_Mod = some m.cls) (hT : ∀ w ∈ TG, w.before args s = true) (hK : va_K (dC, dI) CL (TY cI cB cJ cZ) s) (hN : NW s) (hA : ∀ q : Nat, s.heap.size ≤ q → A q) (hRc : cells ≤ R.cells) (hRs : slots ≤ R.slots) (hRf : 1 ≤ R.frames) (hRl : 21 ≤ R.locals) (hret : ∀ (r : Int32) (x : St) (H : Heap) (locs : List Loc) (pc : Nat) (ls : Array Slot), decode b_Mod_behind pc = .ok (.ireturn, 1) → post r x → Wd dC dI cI cB cJ cZ ad stM kcM 115 A x H → va_S A s.heap H locs → W p l e R s m args below meth c H locs cells slots Q (F0 m pc ls [.int r])) : ∀ (l1 : Int32) (x : St) (H : Heap) (locs : List Loc) (ls : Array Slot), wp_Mod_behind post l1 x → Wd dC dI cI cB cJ cZ ad stM kcM 115 A x H → va_S A s.heap H locs → lv_has ls 7 [(0, .ref (ad 0)), (1, .int l1)] → W p l e R s m args below meth c H locs cells slots Q (F0 m 0 ls []) := by
  intro l1 x H locs ls  hw hW hS hl
  unfold wp_Mod_behind at hw
  refine lv_aload_n hx hb d_Mod_behind_0 rfl (lv_at hl 0 rfl) ?_
  have hF := hW.free hS hA
  refine va_calli (va_runV (C := R_Mod) (As := []) (rest := []) ⟨hx, hb, hml, hown, hT⟩ (k_Mod_look l dC dI cI cB cJ cZ ad H.size  x  hw) ⟨callB_of 0 hT (gwt_in w_10_234) rfl rfl rfl (hT _ w_1_15) (hT _ w_10_231) (by decide +kernel) ⟨Nat.le_trans (Nat.le_of_ble_eq_true rfl) hRf, Nat.le_trans (Nat.le_of_ble_eq_true rfl) hRl⟩, hT _ w_10_233, hT _ ws_112⟩ ⟨PW.blind, va_recv hK hW.1 (ci := 12) (q0 := 0) rfl (pic_obj ko_0.1 ko_0.2 (by decide)), PW.at _ hW hK hN⟩ rfl rfl hl.1 rfl (lv_room (Nat.le_of_ble_eq_true rfl)) d_Mod_behind_1 ⟨hRc, hRs⟩) hS (fun q _ h => hF q h) hF (fun r225 x224 t H locs ht hvm hw hB hz1 hk1 hS => ?_)
  have hW := Wd.back hB ht hF
  clear hB ht hF hz1 hk1 hvm
  refine lv_istore_n (lv' := [(2, .int r225), (0, .ref (ad 0)), (1, .int l1)]) hx hb d_Mod_behind_4 rfl hl (by decide) rfl (fun ls hl => ?_)
  refine lv_aload_n hx hb d_Mod_behind_5 rfl (lv_at hl 1 rfl) ?_
  refine lv_dup hx hb d_Mod_behind_6 rfl ?_
  refine w_geti (k := 16) (t := 12) (C := R_Mod) (T := F_Mod) (N := 167) hx hb hT hown hK hW ko_0.1 ko_0.2 (by decide) in_Mod rfl rfl (by decide) rfl fr_Mod_16 w_8_192 d_Mod_behind_7 ?_
  refine lv_iconst (v := 1) hx hb d_Mod_behind_10 (by decide) ?_
  refine lv_iadd hx hb d_Mod_behind_11 ?_
  refine w_puti (ty := .int) (k := 16) (t := 12) (C := R_Mod) (T := F_Mod) (N := 167) hx hb hT hown hK hW hS ko_0.1 ko_0.2 (by decide) in_Mod t_Mod t_Mod_ok n_Mod rfl rfl (by decide) rfl fr_Mod_16 w_8_192 (by decide +kernel) rfl rfl d_Mod_behind_12 (fun H locs hW hS => ?_)
  obtain ⟨x226, ex226⟩ : ∃ y : St, y = setI x224 0 16 ((fI x224 0 16) + 1) := ⟨_, rfl⟩
  rw [← ex226] at hW
  have hw := hw x226 ex226
  refine lv_iload_n hx hb d_Mod_behind_15 rfl (lv_at hl 0 rfl) ?_
  refine lv_bipush (v := 39) hx hb d_Mod_behind_16 (by decide) ?_
  refine lv_icmp_eq (tgt := 27) hx hb d_Mod_behind_18 (by decide) (fun c227 => ?_) (fun c227 => ?_)
  · have hw := hw.1 c227
    exact t_Mod_behind_27 hx hb hml hown hT hK hN hA hRc hRs hRf hRl hret  l1 r225 x226 H locs ls  hw hW hS (lv_sub hl [1, 2, 0] rfl)
  · have hw := hw.2 c227
    refine lv_iload_n hx hb d_Mod_behind_21 rfl (lv_at hl 0 rfl) ?_
    refine lv_bipush (v := 92) hx hb d_Mod_behind_22 (by decide) ?_
    refine lv_icmp_ne (tgt := 29) hx hb d_Mod_behind_24 (by decide) (fun c228 => ?_) (fun c228 => ?_)
    · have hw := hw.1 c228
      refine lv_iload_n hx hb d_Mod_behind_29 rfl (lv_at hl 0 rfl) ?_
      refine lv_bipush (v := 120) hx hb d_Mod_behind_30 (by decide) ?_
      refine lv_icmp_eq (tgt := 54) hx hb d_Mod_behind_32 (by decide) (fun c229 => ?_) (fun c229 => ?_)
      · have hw := hw.1 c229
        refine lv_iconst (v := 0) hx hb d_Mod_behind_54 (by decide) ?_
        refine lv_istore_n (lv' := [(3, .int 0), (2, .int r225), (0, .ref (ad 0)), (1, .int l1)]) hx hb d_Mod_behind_55 rfl hl (by decide) rfl (fun ls hl => ?_)
        refine lv_iconst (v := 0) hx hb d_Mod_behind_56 (by decide) ?_
        refine lv_istore (lv' := [(4, .int 0), (3, .int 0), (2, .int r225), (0, .ref (ad 0)), (1, .int l1)]) hx hb d_Mod_behind_57 hl (by decide) rfl (fun ls hl => ?_)
        obtain ⟨n, hw⟩ := hw
        exact tl_Mod_behind_59 hx hb hml hown hT hK hN hA hRc hRs hRf hRl hret  n l1 r225 0 0 x226 H locs ls  hw hW hS (lv_sub hl [3, 4, 2, 1, 0] rfl)
      · have hw := hw.2 c229
        refine lv_aload_n hx hb d_Mod_behind_35 rfl (lv_at hl 1 rfl) ?_
        refine lv_iload_n hx hb d_Mod_behind_36 rfl (lv_at hl 0 rfl) ?_
        refine lv_iconst (v := (-1)) hx hb d_Mod_behind_37 (by decide) ?_
        refine lv_icmp_ne (tgt := 48) hx hb d_Mod_behind_38 (by decide) (fun c230 => ?_) (fun c230 => ?_)
        · have hw := hw.1 c230
          refine lv_iload_n hx hb d_Mod_behind_48 rfl (lv_at hl 2 rfl) ?_
          exact t_Mod_behind_49 hx hb hml hown hT hK hN hA hRc hRs hRf hRl hret  l1 r225 l1 x226 H locs ls  hw hW hS (lv_sub hl [1, 2, 0] rfl)
        · have hw := hw.2 c230
          refine lv_aload_n hx hb d_Mod_behind_41 rfl (lv_at hl 1 rfl) ?_
          refine w_geti (k := 15) (t := 12) (C := R_Mod) (T := F_Mod) (N := 167) hx hb hT hown hK hW ko_0.1 ko_0.2 (by decide) in_Mod rfl rfl (by decide) rfl fr_Mod_15 w_8_191 d_Mod_behind_42 ?_
          refine lv_goto (tgt := 49) hx hb d_Mod_behind_45 (by decide) ?_
          exact t_Mod_behind_49 hx hb hml hown hT hK hN hA hRc hRs hRf hRl hret  l1 r225 (fI x226 0 15) x226 H locs ls  hw hW hS (lv_sub hl [1, 2, 0] rfl)
    · have hw := hw.2 c228
      exact t_Mod_behind_27 hx hb hml hown hT hK hN hA hRc hRs hRf hRl hret  l1 r225 x226 H locs ls  hw hW hS (lv_sub hl [1, 2, 0] rfl)
set_option maxHeartbeats 4000000 in
set_option maxRecDepth 100000 in
theorem k_Mod_behind (l : Launch) (dC : Nat → ClassId) (dI : Nat → Nat → Nat) (cI cB cJ cZ : ClassId) (ad : Nat → Nat) (sz : Nat) (l1 : Int32) (x : St) {post : Int32 → St → Prop} (hw : wp_Mod_behind post l1 x) : Met l y_Mod_behind (wsOf y_Mod_behind b_Mod_behind 7 (some (.int))) ({ frames := 1, cells := 0, slots := 0, locals := 21 }) (va_Pc [.ref (ad 0), .int l1] (PW dC dI cI cB cJ cZ ad stM kcM 115 sz x)) (va_Qi (fun (r : Int32) (y : St) => post r y) (fun y t => Wd dC dI cI cB cJ cZ ad stM kcM 115 (va_A (pic ad stM kcM 115 cI cB cJ cZ x) sz) y t.heap) (va_A (pic ad stM kcM 115 cI cB cJ cZ x) sz)) 0 0 (va_A (pic ad stM kcM 115 cI cB cJ cZ x) sz) := by
  refine Met.ofW (cc := b_Mod_behind) (maxL := 7) (ret := some (.int)) (by decide) rfl ?_
  intro p e s m args below meth c s₁ B hml hv
  obtain ⟨rfl, hsz, hW0, hK, hN⟩ := hv
  have hx := B.exec
  have hb := B.bytes
  have hr := B.returns
  have hts := atoms_spec B.pre
  have hT : ∀ w ∈ TG, w.before _ s = true := fun w h => hts w (List.mem_cons_of_mem _ h)
  have hown : s.vm.findClass R_Mod = some m.cls := findClass_of_methodNamed B.named
  have hlocks := B.notSynchronized
  subst hsz
  have hW : Wd dC dI cI cB cJ cZ ad stM kcM 115 (va_A (pic ad stM kcM 115 cI cB cJ cZ x) s.heap.size) x s.heap := ⟨hW0.1, hW0.2.1.self (sz := s.heap.size), hW0.2.2⟩
  generalize hAe : va_A (pic ad stM kcM 115 cI cB cJ cZ x) s.heap.size = A at hW ⊢
  have hA : ∀ q : Nat, s.heap.size ≤ q → A q := fun q h => by rw [← hAe]; exact Or.inr h
  have hS : va_S A s.heap s.heap [] := va_S.rf
  have hl := lv_entry ([.ref (ad 0), .int l1]) (n := 7) (Nat.le_of_ble_eq_true rfl)
  rw [lg_entry_eq]
  generalize (lg_sl ([.ref (ad 0), .int l1]) ++ List.replicate (7 - (lg_sl ([.ref (ad 0), .int l1])).length) Slot.unset).toArray = ls at hl ⊢
  have hl : lv_has ls 7 [(0, .ref (ad 0)), (1, .int l1)] := hl
  exact t_Mod_behind_e hx hb hml hown hT hK hN hA (Nat.le_refl 0) (Nat.le_refl 0) (Nat.le_refl 1) (Nat.le_refl 21) (fun r x H locs pc ls hd hp hW hS => W.iret (v := r) hx hb hr (fun t ht hM => ⟨⟨r, x, rfl, hp, Wd.back hW ht.symm (fun _ z => z)⟩, hS.F ht⟩) hS.2.2 hd hlocks)  l1 x _ _ ls  hw hW hS hl
end
