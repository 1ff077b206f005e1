theorem w_12_64 : (Jvm.Cond.methodLink "StripedVaultModel" (819 : Nat) ({ cls := "StripedVaultModel", name := "putChunk", desc := "(IIII)V" } : Jvm.MethodName)) ∈ TG := tw_12 64 (by decide +kernel) (by decide +kernel)
theorem w_12_66 : (Jvm.Cond.instanceMethod ({ cls := "StripedVaultModel", name := "putChunk", desc := "(IIII)V" } : Jvm.MethodName)) ∈ TG := tw_12 66 (by decide +kernel) (by decide +kernel)
theorem w_12_67 : (Jvm.Cond.code ({ cls := "StripedVaultModel", name := "putChunk", desc := "(IIII)V" } : Jvm.MethodName) prog_14_method_113_code (10 : Nat) (Option.none : Option Jvm.ClassFile.FieldType)) ∈ TG := tw_12 67 (by decide +kernel) (by decide +kernel)
theorem w_12_68 : (Jvm.Cond.methodLink "StripedVaultModel" (810 : Nat) ({ cls := "StripedVaultModel", name := "has", desc := "(I)Z" } : Jvm.MethodName)) ∈ TG := tw_12 68 (by decide +kernel) (by decide +kernel)
theorem w_12_70 : (Jvm.Cond.instanceMethod ({ cls := "StripedVaultModel", name := "has", desc := "(I)Z" } : Jvm.MethodName)) ∈ TG := tw_12 70 (by decide +kernel) (by decide +kernel)
theorem w_12_71 : (Jvm.Cond.code ({ cls := "StripedVaultModel", name := "has", desc := "(I)Z" } : Jvm.MethodName) prog_14_method_107_code (2 : Nat) (Option.some Jvm.ClassFile.FieldType.boolean)) ∈ TG := tw_12 71 (by decide +kernel) (by decide +kernel)
theorem w_12_72 : (Jvm.Cond.methodLink "StripedVaultModel" (813 : Nat) ({ cls := "StripedVaultModel", name := "against2", desc := "(III)I" } : Jvm.MethodName)) ∈ TG := tw_12 72 (by decide +kernel) (by decide +kernel)
theorem w_12_74 : (Jvm.Cond.instanceMethod ({ cls := "StripedVaultModel", name := "against2", desc := "(III)I" } : Jvm.MethodName)) ∈ TG := tw_12 74 (by decide +kernel) (by decide +kernel)
theorem w_12_75 : (Jvm.Cond.code ({ cls := "StripedVaultModel", name := "against2", desc := "(III)I" } : Jvm.MethodName) prog_14_method_111_code (5 : Nat) (Option.some Jvm.ClassFile.FieldType.int)) ∈ TG := tw_12 75 (by decide +kernel) (by decide +kernel)
theorem w_12_76 : (Jvm.Cond.methodLink "StripedVaultModel" (816 : Nat) ({ cls := "StripedVaultModel", name := "putEntry", desc := "(II)V" } : Jvm.MethodName)) ∈ TG := tw_12 76 (by decide +kernel) (by decide +kernel)
theorem w_12_78 : (Jvm.Cond.instanceMethod ({ cls := "StripedVaultModel", name := "putEntry", desc := "(II)V" } : Jvm.MethodName)) ∈ TG := tw_12 78 (by decide +kernel) (by decide +kernel)
theorem w_12_79 : (Jvm.Cond.code ({ cls := "StripedVaultModel", name := "putEntry", desc := "(II)V" } : Jvm.MethodName) prog_14_method_112_code (4 : Nat) (Option.none : Option Jvm.ClassFile.FieldType)) ∈ TG := tw_12 79 (by decide +kernel) (by decide +kernel)
theorem ws_178 : Cond.selects R_Mod y_Mod_putChunk y_Mod_putChunk ∈ TG := tw_s 178 (by decide +kernel) (by decide +kernel)
theorem ws_179 : Cond.selects R_Mod y_Mod_has y_Mod_has ∈ TG := tw_s 179 (by decide +kernel) (by decide +kernel)
theorem ws_180 : Cond.selects R_Mod y_Mod_against2 y_Mod_against2 ∈ TG := tw_s 180 (by decide +kernel) (by decide +kernel)
theorem ws_181 : Cond.selects R_Mod y_Mod_putEntry y_Mod_putEntry ∈ TG := tw_s 181 (by decide +kernel) (by decide +kernel)
theorem d_Mod_against2_139 : decode b_Mod_against2 139 = .ok (.aload_n 0, 1) := by decide +kernel
theorem d_Mod_against2_140 : decode b_Mod_against2 140 = .ok (.getfield 75, 3) := by decide +kernel
theorem d_Mod_against2_143 : decode b_Mod_against2 143 = .ok (.iload_n 1, 1) := by decide +kernel
theorem d_Mod_against2_144 : decode b_Mod_against2 144 = .ok (.iaload, 1) := by decide +kernel
theorem d_Mod_against2_145 : decode b_Mod_against2 145 = .ok (.aload_n 0, 1) := by decide +kernel
theorem d_Mod_against2_146 : decode b_Mod_against2 146 = .ok (.getfield 75, 3) := by decide +kernel
theorem d_Mod_against2_149 : decode b_Mod_against2 149 = .ok (.iload_n 2, 1) := by decide +kernel
theorem d_Mod_against2_150 : decode b_Mod_against2 150 = .ok (.iaload, 1) := by decide +kernel
theorem d_Mod_against2_151 : decode b_Mod_against2 151 = .ok (.isub, 1) := by decide +kernel
theorem d_Mod_against2_152 : decode b_Mod_against2 152 = .ok (.ireturn, 1) := by decide +kernel
theorem d_Mod_against2_50 : decode b_Mod_against2 50 = .ok (.iload 4, 2) := by decide +kernel
theorem d_Mod_against2_52 : decode b_Mod_against2 52 = .ok (.aload_n 0, 1) := by decide +kernel
theorem d_Mod_against2_53 : decode b_Mod_against2 53 = .ok (.getfield 75, 3) := by decide +kernel
theorem d_Mod_against2_56 : decode b_Mod_against2 56 = .ok (.iload_n 1, 1) := by decide +kernel
theorem d_Mod_against2_57 : decode b_Mod_against2 57 = .ok (.iaload, 1) := by decide +kernel
theorem d_Mod_against2_58 : decode b_Mod_against2 58 = .ok (.if_icmp .ge 81, 3) := by decide +kernel
theorem d_Mod_against2_61 : decode b_Mod_against2 61 = .ok (.iload 4, 2) := by decide +kernel
theorem d_Mod_against2_63 : decode b_Mod_against2 63 = .ok (.aload_n 0, 1) := by decide +kernel
theorem d_Mod_against2_64 : decode b_Mod_against2 64 = .ok (.getfield 75, 3) := by decide +kernel
theorem d_Mod_against2_67 : decode b_Mod_against2 67 = .ok (.iload_n 2, 1) := by decide +kernel
theorem d_Mod_against2_68 : decode b_Mod_against2 68 = .ok (.iaload, 1) := by decide +kernel
theorem d_Mod_against2_69 : decode b_Mod_against2 69 = .ok (.if_icmp .ge 70, 3) := by decide +kernel
theorem d_Mod_against2_72 : decode b_Mod_against2 72 = .ok (.aload_n 0, 1) := by decide +kernel
theorem d_Mod_against2_73 : decode b_Mod_against2 73 = .ok (.getfield 82, 3) := by decide +kernel
theorem d_Mod_against2_76 : decode b_Mod_against2 76 = .ok (.aload_n 0, 1) := by decide +kernel
theorem d_Mod_against2_77 : decode b_Mod_against2 77 = .ok (.getfield 72, 3) := by decide +kernel
theorem d_Mod_against2_80 : decode b_Mod_against2 80 = .ok (.iload_n 1, 1) := by decide +kernel
theorem d_Mod_against2_81 : decode b_Mod_against2 81 = .ok (.iaload, 1) := by decide +kernel
theorem d_Mod_against2_82 : decode b_Mod_against2 82 = .ok (.iload 4, 2) := by decide +kernel
theorem d_Mod_against2_84 : decode b_Mod_against2 84 = .ok (.iadd, 1) := by decide +kernel
theorem d_Mod_against2_85 : decode b_Mod_against2 85 = .ok (.iaload, 1) := by decide +kernel
theorem d_Mod_against2_86 : decode b_Mod_against2 86 = .ok (.aload_n 0, 1) := by decide +kernel
theorem d_Mod_against2_87 : decode b_Mod_against2 87 = .ok (.getfield 82, 3) := by decide +kernel
theorem d_Mod_against2_90 : decode b_Mod_against2 90 = .ok (.aload_n 0, 1) := by decide +kernel
theorem d_Mod_against2_91 : decode b_Mod_against2 91 = .ok (.getfield 72, 3) := by decide +kernel
theorem d_Mod_against2_94 : decode b_Mod_against2 94 = .ok (.iload_n 2, 1) := by decide +kernel
theorem d_Mod_against2_95 : decode b_Mod_against2 95 = .ok (.iaload, 1) := by decide +kernel
theorem d_Mod_against2_96 : decode b_Mod_against2 96 = .ok (.iload 4, 2) := by decide +kernel
theorem d_Mod_against2_98 : decode b_Mod_against2 98 = .ok (.iadd, 1) := by decide +kernel
theorem d_Mod_against2_99 : decode b_Mod_against2 99 = .ok (.iaload, 1) := by decide +kernel
theorem d_Mod_against2_100 : decode b_Mod_against2 100 = .ok (.if_icmp .eq 33, 3) := by decide +kernel
theorem d_Mod_against2_133 : decode b_Mod_against2 133 = .ok (.iinc 4 1, 3) := by decide +kernel
theorem d_Mod_against2_136 : decode b_Mod_against2 136 = .ok (.goto (-86), 3) := by decide +kernel
theorem d_Mod_against2_103 : decode b_Mod_against2 103 = .ok (.aload_n 0, 1) := by decide +kernel
theorem d_Mod_against2_104 : decode b_Mod_against2 104 = .ok (.getfield 82, 3) := by decide +kernel
theorem d_Mod_against2_107 : decode b_Mod_against2 107 = .ok (.aload_n 0, 1) := by decide +kernel
theorem d_Mod_against2_108 : decode b_Mod_against2 108 = .ok (.getfield 72, 3) := by decide +kernel
theorem d_Mod_against2_111 : decode b_Mod_against2 111 = .ok (.iload_n 1, 1) := by decide +kernel
theorem d_Mod_against2_112 : decode b_Mod_against2 112 = .ok (.iaload, 1) := by decide +kernel
theorem d_Mod_against2_113 : decode b_Mod_against2 113 = .ok (.iload 4, 2) := by decide +kernel
theorem d_Mod_against2_115 : decode b_Mod_against2 115 = .ok (.iadd, 1) := by decide +kernel
theorem d_Mod_against2_116 : decode b_Mod_against2 116 = .ok (.iaload, 1) := by decide +kernel
theorem d_Mod_against2_117 : decode b_Mod_against2 117 = .ok (.aload_n 0, 1) := by decide +kernel
theorem d_Mod_against2_118 : decode b_Mod_against2 118 = .ok (.getfield 82, 3) := by decide +kernel
theorem d_Mod_against2_121 : decode b_Mod_against2 121 = .ok (.aload_n 0, 1) := by decide +kernel
theorem d_Mod_against2_122 : decode b_Mod_against2 122 = .ok (.getfield 72, 3) := by decide +kernel
theorem d_Mod_against2_125 : decode b_Mod_against2 125 = .ok (.iload_n 2, 1) := by decide +kernel
theorem d_Mod_against2_126 : decode b_Mod_against2 126 = .ok (.iaload, 1) := by decide +kernel
theorem d_Mod_against2_127 : decode b_Mod_against2 127 = .ok (.iload 4, 2) := by decide +kernel
theorem d_Mod_against2_129 : decode b_Mod_against2 129 = .ok (.iadd, 1) := by decide +kernel
theorem d_Mod_against2_130 : decode b_Mod_against2 130 = .ok (.iaload, 1) := by decide +kernel
theorem d_Mod_against2_131 : decode b_Mod_against2 131 = .ok (.isub, 1) := by decide +kernel
theorem d_Mod_against2_132 : decode b_Mod_against2 132 = .ok (.ireturn, 1) := by decide +kernel
theorem d_Mod_against2_0 : decode b_Mod_against2 0 = .ok (.iload_n 3, 1) := by decide +kernel
theorem d_Mod_against2_1 : decode b_Mod_against2 1 = .ok (.iconst 3, 1) := by decide +kernel
theorem d_Mod_against2_2 : decode b_Mod_against2 2 = .ok (.if_icmp .eq 45, 3) := by decide +kernel
theorem d_Mod_against2_47 : decode b_Mod_against2 47 = .ok (.iconst 0, 1) := by decide +kernel
theorem d_Mod_against2_48 : decode b_Mod_against2 48 = .ok (.istore 4, 2) := by decide +kernel
theorem d_Mod_against2_5 : decode b_Mod_against2 5 = .ok (.aload_n 0, 1) := by decide +kernel
theorem d_Mod_against2_6 : decode b_Mod_against2 6 = .ok (.getfield 85, 3) := by decide +kernel
theorem d_Mod_against2_9 : decode b_Mod_against2 9 = .ok (.iload_n 1, 1) := by decide +kernel
theorem d_Mod_against2_10 : decode b_Mod_against2 10 = .ok (.laload, 1) := by decide +kernel
theorem d_Mod_against2_11 : decode b_Mod_against2 11 = .ok (.aload_n 0, 1) := by decide +kernel
theorem d_Mod_against2_12 : decode b_Mod_against2 12 = .ok (.getfield 85, 3) := by decide +kernel
theorem d_Mod_against2_15 : decode b_Mod_against2 15 = .ok (.iload_n 2, 1) := by decide +kernel
theorem d_Mod_against2_16 : decode b_Mod_against2 16 = .ok (.laload, 1) := by decide +kernel
theorem d_Mod_against2_17 : decode b_Mod_against2 17 = .ok (.lcmp, 1) := by decide +kernel
theorem d_Mod_against2_18 : decode b_Mod_against2 18 = .ok (.ifCond .ge 7, 3) := by decide +kernel
theorem d_Mod_against2_25 : decode b_Mod_against2 25 = .ok (.aload_n 0, 1) := by decide +kernel
theorem d_Mod_against2_26 : decode b_Mod_against2 26 = .ok (.getfield 85, 3) := by decide +kernel
theorem d_Mod_against2_29 : decode b_Mod_against2 29 = .ok (.iload_n 1, 1) := by decide +kernel
theorem d_Mod_against2_30 : decode b_Mod_against2 30 = .ok (.laload, 1) := by decide +kernel
theorem d_Mod_against2_31 : decode b_Mod_against2 31 = .ok (.aload_n 0, 1) := by decide +kernel
theorem d_Mod_against2_32 : decode b_Mod_against2 32 = .ok (.getfield 85, 3) := by decide +kernel
theorem d_Mod_against2_35 : decode b_Mod_against2 35 = .ok (.iload_n 2, 1) := by decide +kernel
theorem d_Mod_against2_36 : decode b_Mod_against2 36 = .ok (.laload, 1) := by decide +kernel
theorem d_Mod_against2_37 : decode b_Mod_against2 37 = .ok (.lcmp, 1) := by decide +kernel
theorem d_Mod_against2_38 : decode b_Mod_against2 38 = .ok (.ifCond .le 7, 3) := by decide +kernel
theorem d_Mod_against2_45 : decode b_Mod_against2 45 = .ok (.iconst 0, 1) := by decide +kernel
theorem d_Mod_against2_46 : decode b_Mod_against2 46 = .ok (.ireturn, 1) := by decide +kernel
theorem d_Mod_against2_41 : decode b_Mod_against2 41 = .ok (.iconst 1, 1) := by decide +kernel
theorem d_Mod_against2_42 : decode b_Mod_against2 42 = .ok (.goto 4, 3) := by decide +kernel
theorem d_Mod_against2_21 : decode b_Mod_against2 21 = .ok (.iconst (-1), 1) := by decide +kernel
theorem d_Mod_against2_22 : decode b_Mod_against2 22 = .ok (.goto 24, 3) := by decide +kernel
theorem d_Mod_putEntry_52 : decode b_Mod_putEntry 52 = .ok (.iload_n 3, 1) := by decide +kernel
theorem d_Mod_putEntry_53 : decode b_Mod_putEntry 53 = .ok (.aload_n 0, 1) := by decide +kernel
theorem d_Mod_putEntry_54 : decode b_Mod_putEntry 54 = .ok (.getfield 75, 3) := by decide +kernel
theorem d_Mod_putEntry_57 : decode b_Mod_putEntry 57 = .ok (.iload_n 1, 1) := by decide +kernel
theorem d_Mod_putEntry_58 : decode b_Mod_putEntry 58 = .ok (.iaload, 1) := by decide +kernel
theorem d_Mod_putEntry_59 : decode b_Mod_putEntry 59 = .ok (.if_icmp .ge 26, 3) := by decide +kernel
theorem d_Mod_putEntry_85 : decode b_Mod_putEntry 85 = .ok (.return_, 1) := by decide +kernel
theorem d_Mod_putEntry_62 : decode b_Mod_putEntry 62 = .ok (.aload_n 0, 1) := by decide +kernel
theorem d_Mod_putEntry_63 : decode b_Mod_putEntry 63 = .ok (.aload_n 0, 1) := by decide +kernel
theorem d_Mod_putEntry_64 : decode b_Mod_putEntry 64 = .ok (.getfield 82, 3) := by decide +kernel
theorem d_Mod_putEntry_67 : decode b_Mod_putEntry 67 = .ok (.aload_n 0, 1) := by decide +kernel
theorem d_Mod_putEntry_68 : decode b_Mod_putEntry 68 = .ok (.getfield 72, 3) := by decide +kernel
theorem d_Mod_putEntry_71 : decode b_Mod_putEntry 71 = .ok (.iload_n 1, 1) := by decide +kernel
theorem d_Mod_putEntry_72 : decode b_Mod_putEntry 72 = .ok (.iaload, 1) := by decide +kernel
theorem d_Mod_putEntry_73 : decode b_Mod_putEntry 73 = .ok (.iload_n 3, 1) := by decide +kernel
theorem d_Mod_putEntry_74 : decode b_Mod_putEntry 74 = .ok (.iadd, 1) := by decide +kernel
theorem d_Mod_putEntry_75 : decode b_Mod_putEntry 75 = .ok (.iaload, 1) := by decide +kernel
theorem d_Mod_putEntry_76 : decode b_Mod_putEntry 76 = .ok (.invokevirtual 558, 3) := by decide +kernel
theorem d_Mod_putEntry_79 : decode b_Mod_putEntry 79 = .ok (.iinc 3 1, 3) := by decide +kernel
theorem d_Mod_putEntry_82 : decode b_Mod_putEntry 82 = .ok (.goto (-30), 3) := by decide +kernel
theorem d_Mod_putEntry_0 : decode b_Mod_putEntry 0 = .ok (.iload_n 2, 1) := by decide +kernel
theorem d_Mod_putEntry_1 : decode b_Mod_putEntry 1 = .ok (.ifCond .ne 17, 3) := by decide +kernel
theorem d_Mod_putEntry_18 : decode b_Mod_putEntry 18 = .ok (.iload_n 2, 1) := by decide +kernel
theorem d_Mod_putEntry_19 : decode b_Mod_putEntry 19 = .ok (.iconst 3, 1) := by decide +kernel
theorem d_Mod_putEntry_20 : decode b_Mod_putEntry 20 = .ok (.if_icmp .eq 19, 3) := by decide +kernel
theorem d_Mod_putEntry_39 : decode b_Mod_putEntry 39 = .ok (.aload_n 0, 1) := by decide +kernel
theorem d_Mod_putEntry_40 : decode b_Mod_putEntry 40 = .ok (.aload_n 0, 1) := by decide +kernel
theorem d_Mod_putEntry_41 : decode b_Mod_putEntry 41 = .ok (.getfield 75, 3) := by decide +kernel
theorem d_Mod_putEntry_44 : decode b_Mod_putEntry 44 = .ok (.iload_n 1, 1) := by decide +kernel
theorem d_Mod_putEntry_45 : decode b_Mod_putEntry 45 = .ok (.iaload, 1) := by decide +kernel
theorem d_Mod_putEntry_46 : decode b_Mod_putEntry 46 = .ok (.i2l, 1) := by decide +kernel
theorem d_Mod_putEntry_47 : decode b_Mod_putEntry 47 = .ok (.invokevirtual 567, 3) := by decide +kernel
theorem d_Mod_putEntry_50 : decode b_Mod_putEntry 50 = .ok (.iconst 0, 1) := by decide +kernel
theorem d_Mod_putEntry_51 : decode b_Mod_putEntry 51 = .ok (.istore_n 3, 1) := by decide +kernel
theorem d_Mod_putEntry_23 : decode b_Mod_putEntry 23 = .ok (.aload_n 0, 1) := by decide +kernel
theorem d_Mod_putEntry_24 : decode b_Mod_putEntry 24 = .ok (.aload_n 0, 1) := by decide +kernel
theorem d_Mod_putEntry_25 : decode b_Mod_putEntry 25 = .ok (.getfield 85, 3) := by decide +kernel
theorem d_Mod_putEntry_28 : decode b_Mod_putEntry 28 = .ok (.iload_n 1, 1) := by decide +kernel
theorem d_Mod_putEntry_29 : decode b_Mod_putEntry 29 = .ok (.laload, 1) := by decide +kernel
theorem d_Mod_putEntry_30 : decode b_Mod_putEntry 30 = .ok (.invokestatic 594, 3) := by decide +kernel
theorem d_Mod_putEntry_33 : decode b_Mod_putEntry 33 = .ok (.invokevirtual 567, 3) := by decide +kernel
theorem d_Mod_putEntry_36 : decode b_Mod_putEntry 36 = .ok (.goto 49, 3) := by decide +kernel
theorem d_Mod_putEntry_4 : decode b_Mod_putEntry 4 = .ok (.aload_n 0, 1) := by decide +kernel
theorem d_Mod_putEntry_5 : decode b_Mod_putEntry 5 = .ok (.aload_n 0, 1) := by decide +kernel
theorem d_Mod_putEntry_6 : decode b_Mod_putEntry 6 = .ok (.getfield 85, 3) := by decide +kernel
theorem d_Mod_putEntry_9 : decode b_Mod_putEntry 9 = .ok (.iload_n 1, 1) := by decide +kernel
theorem d_Mod_putEntry_10 : decode b_Mod_putEntry 10 = .ok (.laload, 1) := by decide +kernel
theorem d_Mod_putEntry_11 : decode b_Mod_putEntry 11 = .ok (.l2i, 1) := by decide +kernel
theorem d_Mod_putEntry_12 : decode b_Mod_putEntry 12 = .ok (.invokevirtual 558, 3) := by decide +kernel
theorem d_Mod_putEntry_15 : decode b_Mod_putEntry 15 = .ok (.goto 70, 3) := by decide +kernel
theorem d_Mod_putChunk_122 : decode b_Mod_putChunk 122 = .ok (.iinc 9 1, 3) := by decide +kernel
theorem d_Mod_putChunk_125 : decode b_Mod_putChunk 125 = .ok (.goto (-100), 3) := by decide +kernel
theorem d_Mod_putChunk_120 : decode b_Mod_putChunk 120 = .ok (.istore 6, 2) := by decide +kernel
theorem d_Mod_putChunk_113 : decode b_Mod_putChunk 113 = .ok (.iload 9, 2) := by decide +kernel
theorem d_Mod_putChunk_115 : decode b_Mod_putChunk 115 = .ok (.goto 5, 3) := by decide +kernel
theorem d_Mod_putChunk_92 : decode b_Mod_putChunk 92 = .ok (.istore 5, 2) := by decide +kernel
theorem d_Mod_putChunk_94 : decode b_Mod_putChunk 94 = .ok (.iload 6, 2) := by decide +kernel
theorem d_Mod_putChunk_96 : decode b_Mod_putChunk 96 = .ok (.iconst (-1), 1) := by decide +kernel
theorem d_Mod_putChunk_97 : decode b_Mod_putChunk 97 = .ok (.if_icmp .eq 16, 3) := by decide +kernel
theorem d_Mod_putChunk_100 : decode b_Mod_putChunk 100 = .ok (.aload_n 0, 1) := by decide +kernel
theorem d_Mod_putChunk_101 : decode b_Mod_putChunk 101 = .ok (.iload 9, 2) := by decide +kernel
theorem d_Mod_putChunk_103 : decode b_Mod_putChunk 103 = .ok (.iload 6, 2) := by decide +kernel
theorem d_Mod_putChunk_105 : decode b_Mod_putChunk 105 = .ok (.iload 8, 2) := by decide +kernel
theorem d_Mod_putChunk_107 : decode b_Mod_putChunk 107 = .ok (.invokevirtual 813, 3) := by decide +kernel
theorem d_Mod_putChunk_110 : decode b_Mod_putChunk 110 = .ok (.ifCond .le 8, 3) := by decide +kernel
theorem d_Mod_putChunk_118 : decode b_Mod_putChunk 118 = .ok (.iload 6, 2) := by decide +kernel
theorem d_Mod_putChunk_85 : decode b_Mod_putChunk 85 = .ok (.iload 9, 2) := by decide +kernel
theorem d_Mod_putChunk_87 : decode b_Mod_putChunk 87 = .ok (.goto 5, 3) := by decide +kernel
theorem d_Mod_putChunk_25 : decode b_Mod_putChunk 25 = .ok (.iload 9, 2) := by decide +kernel
theorem d_Mod_putChunk_27 : decode b_Mod_putChunk 27 = .ok (.aload_n 0, 1) := by decide +kernel
theorem d_Mod_putChunk_28 : decode b_Mod_putChunk 28 = .ok (.getfield 78, 3) := by decide +kernel
theorem d_Mod_putChunk_31 : decode b_Mod_putChunk 31 = .ok (.iload 4, 2) := by decide +kernel
theorem d_Mod_putChunk_33 : decode b_Mod_putChunk 33 = .ok (.iaload, 1) := by decide +kernel
theorem d_Mod_putChunk_34 : decode b_Mod_putChunk 34 = .ok (.if_icmp .ge 94, 3) := by decide +kernel
theorem d_Mod_putChunk_128 : decode b_Mod_putChunk 128 = .ok (.aload_n 0, 1) := by decide +kernel
theorem d_Mod_putChunk_129 : decode b_Mod_putChunk 129 = .ok (.aload_n 0, 1) := by decide +kernel
theorem d_Mod_putChunk_130 : decode b_Mod_putChunk 130 = .ok (.getfield 160, 3) := by decide +kernel
theorem d_Mod_putChunk_133 : decode b_Mod_putChunk 133 = .ok (.iload_n 1, 1) := by decide +kernel
theorem d_Mod_putChunk_134 : decode b_Mod_putChunk 134 = .ok (.iaload, 1) := by decide +kernel
theorem d_Mod_putChunk_135 : decode b_Mod_putChunk 135 = .ok (.i2l, 1) := by decide +kernel
theorem d_Mod_putChunk_136 : decode b_Mod_putChunk 136 = .ok (.invokevirtual 567, 3) := by decide +kernel
theorem d_Mod_putChunk_139 : decode b_Mod_putChunk 139 = .ok (.aload_n 0, 1) := by decide +kernel
theorem d_Mod_putChunk_140 : decode b_Mod_putChunk 140 = .ok (.aload_n 0, 1) := by decide +kernel
theorem d_Mod_putChunk_141 : decode b_Mod_putChunk 141 = .ok (.getfield 163, 3) := by decide +kernel
theorem d_Mod_putChunk_144 : decode b_Mod_putChunk 144 = .ok (.iload_n 1, 1) := by decide +kernel
theorem d_Mod_putChunk_145 : decode b_Mod_putChunk 145 = .ok (.iaload, 1) := by decide +kernel
theorem d_Mod_putChunk_146 : decode b_Mod_putChunk 146 = .ok (.i2l, 1) := by decide +kernel
theorem d_Mod_putChunk_147 : decode b_Mod_putChunk 147 = .ok (.invokevirtual 567, 3) := by decide +kernel
theorem d_Mod_putChunk_150 : decode b_Mod_putChunk 150 = .ok (.aload_n 0, 1) := by decide +kernel
theorem d_Mod_putChunk_151 : decode b_Mod_putChunk 151 = .ok (.aload_n 0, 1) := by decide +kernel
theorem d_Mod_putChunk_152 : decode b_Mod_putChunk 152 = .ok (.iload_n 2, 1) := by decide +kernel
theorem d_Mod_putChunk_153 : decode b_Mod_putChunk 153 = .ok (.iload_n 3, 1) := by decide +kernel
theorem d_Mod_putChunk_154 : decode b_Mod_putChunk 154 = .ok (.iload 4, 2) := by decide +kernel
theorem d_Mod_putChunk_156 : decode b_Mod_putChunk 156 = .ok (.invokevirtual 795, 3) := by decide +kernel
theorem d_Mod_putChunk_159 : decode b_Mod_putChunk 159 = .ok (.i2l, 1) := by decide +kernel
theorem d_Mod_putChunk_160 : decode b_Mod_putChunk 160 = .ok (.invokevirtual 567, 3) := by decide +kernel
theorem d_Mod_putChunk_163 : decode b_Mod_putChunk 163 = .ok (.aload_n 0, 1) := by decide +kernel
theorem d_Mod_putChunk_164 : decode b_Mod_putChunk 164 = .ok (.iload 7, 2) := by decide +kernel
theorem d_Mod_putChunk_166 : decode b_Mod_putChunk 166 = .ok (.i2l, 1) := by decide +kernel
theorem d_Mod_putChunk_167 : decode b_Mod_putChunk 167 = .ok (.invokevirtual 567, 3) := by decide +kernel
theorem d_Mod_putChunk_170 : decode b_Mod_putChunk 170 = .ok (.iload 5, 2) := by decide +kernel
theorem d_Mod_putChunk_172 : decode b_Mod_putChunk 172 = .ok (.iconst (-1), 1) := by decide +kernel
theorem d_Mod_putChunk_173 : decode b_Mod_putChunk 173 = .ok (.if_icmp .ne 4, 3) := by decide +kernel
theorem d_Mod_putChunk_177 : decode b_Mod_putChunk 177 = .ok (.aload_n 0, 1) := by decide +kernel
theorem d_Mod_putChunk_178 : decode b_Mod_putChunk 178 = .ok (.iload 5, 2) := by decide +kernel
theorem d_Mod_putChunk_180 : decode b_Mod_putChunk 180 = .ok (.iload 8, 2) := by decide +kernel
theorem d_Mod_putChunk_182 : decode b_Mod_putChunk 182 = .ok (.invokevirtual 816, 3) := by decide +kernel
theorem d_Mod_putChunk_185 : decode b_Mod_putChunk 185 = .ok (.aload_n 0, 1) := by decide +kernel
theorem d_Mod_putChunk_186 : decode b_Mod_putChunk 186 = .ok (.iload 6, 2) := by decide +kernel
theorem d_Mod_putChunk_188 : decode b_Mod_putChunk 188 = .ok (.iload 8, 2) := by decide +kernel
theorem d_Mod_putChunk_190 : decode b_Mod_putChunk 190 = .ok (.invokevirtual 816, 3) := by decide +kernel
theorem d_Mod_putChunk_193 : decode b_Mod_putChunk 193 = .ok (.return_, 1) := by decide +kernel
theorem d_Mod_putChunk_176 : decode b_Mod_putChunk 176 = .ok (.return_, 1) := by decide +kernel
theorem d_Mod_putChunk_37 : decode b_Mod_putChunk 37 = .ok (.aload_n 0, 1) := by decide +kernel
theorem d_Mod_putChunk_38 : decode b_Mod_putChunk 38 = .ok (.getfield 69, 3) := by decide +kernel
theorem d_Mod_putChunk_41 : decode b_Mod_putChunk 41 = .ok (.iload 9, 2) := by decide +kernel
theorem d_Mod_putChunk_43 : decode b_Mod_putChunk 43 = .ok (.iaload, 1) := by decide +kernel
theorem d_Mod_putChunk_44 : decode b_Mod_putChunk 44 = .ok (.iload_n 2, 1) := by decide +kernel
theorem d_Mod_putChunk_45 : decode b_Mod_putChunk 45 = .ok (.if_icmp .eq 6, 3) := by decide +kernel
theorem d_Mod_putChunk_51 : decode b_Mod_putChunk 51 = .ok (.aload_n 0, 1) := by decide +kernel
theorem d_Mod_putChunk_52 : decode b_Mod_putChunk 52 = .ok (.iload 9, 2) := by decide +kernel
theorem d_Mod_putChunk_54 : decode b_Mod_putChunk 54 = .ok (.invokevirtual 810, 3) := by decide +kernel
theorem d_Mod_putChunk_57 : decode b_Mod_putChunk 57 = .ok (.ifCond .ne 9, 3) := by decide +kernel
theorem d_Mod_putChunk_66 : decode b_Mod_putChunk 66 = .ok (.iload 5, 2) := by decide +kernel
theorem d_Mod_putChunk_68 : decode b_Mod_putChunk 68 = .ok (.iconst (-1), 1) := by decide +kernel
theorem d_Mod_putChunk_69 : decode b_Mod_putChunk 69 = .ok (.if_icmp .eq 16, 3) := by decide +kernel
theorem d_Mod_putChunk_72 : decode b_Mod_putChunk 72 = .ok (.aload_n 0, 1) := by decide +kernel
theorem d_Mod_putChunk_73 : decode b_Mod_putChunk 73 = .ok (.iload 9, 2) := by decide +kernel
theorem d_Mod_putChunk_75 : decode b_Mod_putChunk 75 = .ok (.iload 5, 2) := by decide +kernel
theorem d_Mod_putChunk_77 : decode b_Mod_putChunk 77 = .ok (.iload 8, 2) := by decide +kernel
theorem d_Mod_putChunk_79 : decode b_Mod_putChunk 79 = .ok (.invokevirtual 813, 3) := by decide +kernel
theorem d_Mod_putChunk_82 : decode b_Mod_putChunk 82 = .ok (.ifCond .ge 8, 3) := by decide +kernel
theorem d_Mod_putChunk_90 : decode b_Mod_putChunk 90 = .ok (.iload 5, 2) := by decide +kernel
theorem d_Mod_putChunk_60 : decode b_Mod_putChunk 60 = .ok (.iinc 7 1, 3) := by decide +kernel
theorem d_Mod_putChunk_63 : decode b_Mod_putChunk 63 = .ok (.goto 59, 3) := by decide +kernel
theorem d_Mod_putChunk_48 : decode b_Mod_putChunk 48 = .ok (.goto 74, 3) := by decide +kernel
theorem d_Mod_putChunk_0 : decode b_Mod_putChunk 0 = .ok (.iconst (-1), 1) := by decide +kernel
theorem d_Mod_putChunk_1 : decode b_Mod_putChunk 1 = .ok (.istore 5, 2) := by decide +kernel
theorem d_Mod_putChunk_3 : decode b_Mod_putChunk 3 = .ok (.iconst (-1), 1) := by decide +kernel
theorem d_Mod_putChunk_4 : decode b_Mod_putChunk 4 = .ok (.istore 6, 2) := by decide +kernel
theorem d_Mod_putChunk_6 : decode b_Mod_putChunk 6 = .ok (.iconst 0, 1) := by decide +kernel
theorem d_Mod_putChunk_7 : decode b_Mod_putChunk 7 = .ok (.istore 7, 2) := by decide +kernel
theorem d_Mod_putChunk_9 : decode b_Mod_putChunk 9 = .ok (.aload_n 0, 1) := by decide +kernel
theorem d_Mod_putChunk_10 : decode b_Mod_putChunk 10 = .ok (.iconst 0, 1) := by decide +kernel
theorem d_Mod_putChunk_11 : decode b_Mod_putChunk 11 = .ok (.iload_n 2, 1) := by decide +kernel
theorem d_Mod_putChunk_12 : decode b_Mod_putChunk 12 = .ok (.invokevirtual 789, 3) := by decide +kernel
theorem d_Mod_putChunk_15 : decode b_Mod_putChunk 15 = .ok (.istore 8, 2) := by decide +kernel
theorem d_Mod_putChunk_17 : decode b_Mod_putChunk 17 = .ok (.aload_n 0, 1) := by decide +kernel
theorem d_Mod_putChunk_18 : decode b_Mod_putChunk 18 = .ok (.getfield 78, 3) := by decide +kernel
theorem d_Mod_putChunk_21 : decode b_Mod_putChunk 21 = .ok (.iload_n 3, 1) := by decide +kernel
theorem d_Mod_putChunk_22 : decode b_Mod_putChunk 22 = .ok (.iaload, 1) := by decide +kernel
theorem d_Mod_putChunk_23 : decode b_Mod_putChunk 23 = .ok (.istore 9, 2) := by decide +kernel
theorem d_Mod_putFooter_180 : decode b_Mod_putFooter 180 = .ok (.iload 5, 2) := by decide +kernel
theorem d_Mod_putFooter_182 : decode b_Mod_putFooter 182 = .ok (.aload_n 0, 1) := by decide +kernel
theorem d_Mod_putFooter_183 : decode b_Mod_putFooter 183 = .ok (.getfield 38, 3) := by decide +kernel
theorem d_Mod_putFooter_186 : decode b_Mod_putFooter 186 = .ok (.iconst 0, 1) := by decide +kernel
theorem d_Mod_putFooter_187 : decode b_Mod_putFooter 187 = .ok (.iaload, 1) := by decide +kernel
theorem d_Mod_putFooter_188 : decode b_Mod_putFooter 188 = .ok (.if_icmp .ge 22, 3) := by decide +kernel
theorem d_Mod_putFooter_210 : decode b_Mod_putFooter 210 = .ok (.iload_n 3, 1) := by decide +kernel
theorem d_Mod_putFooter_211 : decode b_Mod_putFooter 211 = .ok (.iload_n 1, 1) := by decide +kernel
theorem d_Mod_putFooter_212 : decode b_Mod_putFooter 212 = .ok (.iadd, 1) := by decide +kernel
theorem d_Mod_putFooter_213 : decode b_Mod_putFooter 213 = .ok (.istore_n 3, 1) := by decide +kernel
theorem d_Mod_putFooter_214 : decode b_Mod_putFooter 214 = .ok (.goto (-76), 3) := by decide +kernel
theorem d_Mod_putFooter_191 : decode b_Mod_putFooter 191 = .ok (.aload_n 0, 1) := by decide +kernel
theorem d_Mod_putFooter_192 : decode b_Mod_putFooter 192 = .ok (.iload_n 2, 1) := by decide +kernel
theorem d_Mod_putFooter_193 : decode b_Mod_putFooter 193 = .ok (.iload 5, 2) := by decide +kernel
theorem d_Mod_putFooter_195 : decode b_Mod_putFooter 195 = .ok (.iload_n 3, 1) := by decide +kernel
theorem d_Mod_putFooter_196 : decode b_Mod_putFooter 196 = .ok (.iload 4, 2) := by decide +kernel
theorem d_Mod_putFooter_198 : decode b_Mod_putFooter 198 = .ok (.invokevirtual 819, 3) := by decide +kernel
theorem d_Mod_putFooter_201 : decode b_Mod_putFooter 201 = .ok (.iinc 2 1, 3) := by decide +kernel
theorem d_Mod_putFooter_204 : decode b_Mod_putFooter 204 = .ok (.iinc 5 1, 3) := by decide +kernel
theorem d_Mod_putFooter_207 : decode b_Mod_putFooter 207 = .ok (.goto (-27), 3) := by decide +kernel
theorem d_Mod_putFooter_166 : decode b_Mod_putFooter 166 = .ok (.istore 4, 2) := by decide +kernel
theorem d_Mod_putFooter_168 : decode b_Mod_putFooter 168 = .ok (.aload_n 0, 1) := by decide +kernel
theorem d_Mod_putFooter_169 : decode b_Mod_putFooter 169 = .ok (.iload 4, 2) := by decide +kernel
theorem d_Mod_putFooter_171 : decode b_Mod_putFooter 171 = .ok (.iload_n 3, 1) := by decide +kernel
theorem d_Mod_putFooter_172 : decode b_Mod_putFooter 172 = .ok (.isub, 1) := by decide +kernel
theorem d_Mod_putFooter_173 : decode b_Mod_putFooter 173 = .ok (.i2l, 1) := by decide +kernel
theorem d_Mod_putFooter_174 : decode b_Mod_putFooter 174 = .ok (.invokevirtual 567, 3) := by decide +kernel
theorem d_Mod_putFooter_177 : decode b_Mod_putFooter 177 = .ok (.iconst 0, 1) := by decide +kernel
theorem d_Mod_putFooter_178 : decode b_Mod_putFooter 178 = .ok (.istore 5, 2) := by decide +kernel
theorem d_Mod_putFooter_138 : decode b_Mod_putFooter 138 = .ok (.iload_n 3, 1) := by decide +kernel
theorem d_Mod_putFooter_139 : decode b_Mod_putFooter 139 = .ok (.aload_n 0, 1) := by decide +kernel
theorem d_Mod_putFooter_140 : decode b_Mod_putFooter 140 = .ok (.getfield 523, 3) := by decide +kernel
theorem d_Mod_putFooter_143 : decode b_Mod_putFooter 143 = .ok (.if_icmp .ge 74, 3) := by decide +kernel
theorem d_Mod_putFooter_217 : decode b_Mod_putFooter 217 = .ok (.return_, 1) := by decide +kernel
theorem d_Mod_putFooter_146 : decode b_Mod_putFooter 146 = .ok (.iload_n 3, 1) := by decide +kernel
theorem d_Mod_putFooter_147 : decode b_Mod_putFooter 147 = .ok (.iload_n 1, 1) := by decide +kernel
theorem d_Mod_putFooter_148 : decode b_Mod_putFooter 148 = .ok (.iadd, 1) := by decide +kernel
theorem d_Mod_putFooter_149 : decode b_Mod_putFooter 149 = .ok (.aload_n 0, 1) := by decide +kernel
theorem d_Mod_putFooter_150 : decode b_Mod_putFooter 150 = .ok (.getfield 523, 3) := by decide +kernel
theorem d_Mod_putFooter_153 : decode b_Mod_putFooter 153 = .ok (.if_icmp .ge 9, 3) := by decide +kernel
theorem d_Mod_putFooter_162 : decode b_Mod_putFooter 162 = .ok (.aload_n 0, 1) := by decide +kernel
theorem d_Mod_putFooter_163 : decode b_Mod_putFooter 163 = .ok (.getfield 523, 3) := by decide +kernel
theorem d_Mod_putFooter_156 : decode b_Mod_putFooter 156 = .ok (.iload_n 3, 1) := by decide +kernel
theorem d_Mod_putFooter_157 : decode b_Mod_putFooter 157 = .ok (.iload_n 1, 1) := by decide +kernel
theorem d_Mod_putFooter_158 : decode b_Mod_putFooter 158 = .ok (.iadd, 1) := by decide +kernel
theorem d_Mod_putFooter_159 : decode b_Mod_putFooter 159 = .ok (.goto 7, 3) := by decide +kernel
theorem d_Mod_putFooter_73 : decode b_Mod_putFooter 73 = .ok (.iload_n 3, 1) := by decide +kernel
theorem d_Mod_putFooter_74 : decode b_Mod_putFooter 74 = .ok (.aload_n 0, 1) := by decide +kernel
theorem d_Mod_putFooter_75 : decode b_Mod_putFooter 75 = .ok (.getfield 29, 3) := by decide +kernel
theorem d_Mod_putFooter_78 : decode b_Mod_putFooter 78 = .ok (.iload_n 2, 1) := by decide +kernel
theorem d_Mod_putFooter_79 : decode b_Mod_putFooter 79 = .ok (.iaload, 1) := by decide +kernel
theorem d_Mod_putFooter_80 : decode b_Mod_putFooter 80 = .ok (.if_icmp .ge 24, 3) := by decide +kernel
theorem d_Mod_putFooter_104 : decode b_Mod_putFooter 104 = .ok (.iinc 2 1, 3) := by decide +kernel
theorem d_Mod_putFooter_107 : decode b_Mod_putFooter 107 = .ok (.goto (-89), 3) := by decide +kernel
theorem d_Mod_putFooter_83 : decode b_Mod_putFooter 83 = .ok (.aload_n 0, 1) := by decide +kernel
theorem d_Mod_putFooter_84 : decode b_Mod_putFooter 84 = .ok (.aload_n 0, 1) := by decide +kernel
theorem d_Mod_putFooter_85 : decode b_Mod_putFooter 85 = .ok (.getfield 32, 3) := by decide +kernel
theorem d_Mod_putFooter_88 : decode b_Mod_putFooter 88 = .ok (.bipush 16, 2) := by decide +kernel
theorem d_Mod_putFooter_90 : decode b_Mod_putFooter 90 = .ok (.iload_n 2, 1) := by decide +kernel
theorem d_Mod_putFooter_91 : decode b_Mod_putFooter 91 = .ok (.imul, 1) := by decide +kernel
theorem d_Mod_putFooter_92 : decode b_Mod_putFooter 92 = .ok (.iload_n 3, 1) := by decide +kernel
theorem d_Mod_putFooter_93 : decode b_Mod_putFooter 93 = .ok (.iadd, 1) := by decide +kernel
theorem d_Mod_putFooter_94 : decode b_Mod_putFooter 94 = .ok (.iaload, 1) := by decide +kernel
theorem d_Mod_putFooter_95 : decode b_Mod_putFooter 95 = .ok (.invokevirtual 558, 3) := by decide +kernel
theorem d_Mod_putFooter_98 : decode b_Mod_putFooter 98 = .ok (.iinc 3 1, 3) := by decide +kernel
theorem d_Mod_putFooter_101 : decode b_Mod_putFooter 101 = .ok (.goto (-28), 3) := by decide +kernel
theorem d_Mod_putFooter_18 : decode b_Mod_putFooter 18 = .ok (.iload_n 2, 1) := by decide +kernel
theorem d_Mod_putFooter_19 : decode b_Mod_putFooter 19 = .ok (.aload_n 0, 1) := by decide +kernel
theorem d_Mod_putFooter_20 : decode b_Mod_putFooter 20 = .ok (.getfield 35, 3) := by decide +kernel
theorem d_Mod_putFooter_23 : decode b_Mod_putFooter 23 = .ok (.iconst 0, 1) := by decide +kernel
theorem d_Mod_putFooter_24 : decode b_Mod_putFooter 24 = .ok (.iaload, 1) := by decide +kernel
theorem d_Mod_putFooter_25 : decode b_Mod_putFooter 25 = .ok (.if_icmp .ge 85, 3) := by decide +kernel
theorem d_Mod_putFooter_110 : decode b_Mod_putFooter 110 = .ok (.aload_n 0, 1) := by decide +kernel
theorem d_Mod_putFooter_111 : decode b_Mod_putFooter 111 = .ok (.aload_n 0, 1) := by decide +kernel
theorem d_Mod_putFooter_112 : decode b_Mod_putFooter 112 = .ok (.getfield 523, 3) := by decide +kernel
theorem d_Mod_putFooter_115 : decode b_Mod_putFooter 115 = .ok (.i2l, 1) := by decide +kernel
theorem d_Mod_putFooter_116 : decode b_Mod_putFooter 116 = .ok (.invokevirtual 567, 3) := by decide +kernel
theorem d_Mod_putFooter_119 : decode b_Mod_putFooter 119 = .ok (.aload_n 0, 1) := by decide +kernel
theorem d_Mod_putFooter_120 : decode b_Mod_putFooter 120 = .ok (.aload_n 0, 1) := by decide +kernel
theorem d_Mod_putFooter_121 : decode b_Mod_putFooter 121 = .ok (.getfield 523, 3) := by decide +kernel
theorem d_Mod_putFooter_124 : decode b_Mod_putFooter 124 = .ok (.iload_n 1, 1) := by decide +kernel
theorem d_Mod_putFooter_125 : decode b_Mod_putFooter 125 = .ok (.iadd, 1) := by decide +kernel
theorem d_Mod_putFooter_126 : decode b_Mod_putFooter 126 = .ok (.iconst 1, 1) := by decide +kernel
theorem d_Mod_putFooter_127 : decode b_Mod_putFooter 127 = .ok (.isub, 1) := by decide +kernel
theorem d_Mod_putFooter_128 : decode b_Mod_putFooter 128 = .ok (.iload_n 1, 1) := by decide +kernel
theorem d_Mod_putFooter_129 : decode b_Mod_putFooter 129 = .ok (.idiv, 1) := by decide +kernel
theorem d_Mod_putFooter_130 : decode b_Mod_putFooter 130 = .ok (.i2l, 1) := by decide +kernel
theorem d_Mod_putFooter_131 : decode b_Mod_putFooter 131 = .ok (.invokevirtual 567, 3) := by decide +kernel
theorem d_Mod_putFooter_134 : decode b_Mod_putFooter 134 = .ok (.iconst 0, 1) := by decide +kernel
theorem d_Mod_putFooter_135 : decode b_Mod_putFooter 135 = .ok (.istore_n 2, 1) := by decide +kernel
theorem d_Mod_putFooter_136 : decode b_Mod_putFooter 136 = .ok (.iconst 0, 1) := by decide +kernel
theorem d_Mod_putFooter_137 : decode b_Mod_putFooter 137 = .ok (.istore_n 3, 1) := by decide +kernel
theorem d_Mod_putFooter_28 : decode b_Mod_putFooter 28 = .ok (.aload_n 0, 1) := by decide +kernel
theorem d_Mod_putFooter_29 : decode b_Mod_putFooter 29 = .ok (.aload_n 0, 1) := by decide +kernel
theorem d_Mod_putFooter_30 : decode b_Mod_putFooter 30 = .ok (.getfield 17, 3) := by decide +kernel
theorem d_Mod_putFooter_33 : decode b_Mod_putFooter 33 = .ok (.iload_n 2, 1) := by decide +kernel
theorem d_Mod_putFooter_34 : decode b_Mod_putFooter 34 = .ok (.iaload, 1) := by decide +kernel
theorem d_Mod_putFooter_35 : decode b_Mod_putFooter 35 = .ok (.iconst 3, 1) := by decide +kernel
theorem d_Mod_putFooter_36 : decode b_Mod_putFooter 36 = .ok (.aload_n 0, 1) := by decide +kernel
theorem d_Mod_putFooter_37 : decode b_Mod_putFooter 37 = .ok (.getfield 20, 3) := by decide +kernel
theorem d_Mod_putFooter_40 : decode b_Mod_putFooter 40 = .ok (.iload_n 2, 1) := by decide +kernel
theorem d_Mod_putFooter_41 : decode b_Mod_putFooter 41 = .ok (.iaload, 1) := by decide +kernel
theorem d_Mod_putFooter_42 : decode b_Mod_putFooter 42 = .ok (.imul, 1) := by decide +kernel
theorem d_Mod_putFooter_43 : decode b_Mod_putFooter 43 = .ok (.iadd, 1) := by decide +kernel
theorem d_Mod_putFooter_44 : decode b_Mod_putFooter 44 = .ok (.invokevirtual 558, 3) := by decide +kernel
theorem d_Mod_putFooter_47 : decode b_Mod_putFooter 47 = .ok (.aload_n 0, 1) := by decide +kernel
theorem d_Mod_putFooter_48 : decode b_Mod_putFooter 48 = .ok (.aload_n 0, 1) := by decide +kernel
theorem d_Mod_putFooter_49 : decode b_Mod_putFooter 49 = .ok (.getfield 23, 3) := by decide +kernel
theorem d_Mod_putFooter_52 : decode b_Mod_putFooter 52 = .ok (.iload_n 2, 1) := by decide +kernel
theorem d_Mod_putFooter_53 : decode b_Mod_putFooter 53 = .ok (.iaload, 1) := by decide +kernel
theorem d_Mod_putFooter_54 : decode b_Mod_putFooter 54 = .ok (.iconst 1, 1) := by decide +kernel
theorem d_Mod_putFooter_55 : decode b_Mod_putFooter 55 = .ok (.iadd, 1) := by decide +kernel
theorem d_Mod_putFooter_56 : decode b_Mod_putFooter 56 = .ok (.i2l, 1) := by decide +kernel
theorem d_Mod_putFooter_57 : decode b_Mod_putFooter 57 = .ok (.invokevirtual 567, 3) := by decide +kernel
theorem d_Mod_putFooter_60 : decode b_Mod_putFooter 60 = .ok (.aload_n 0, 1) := by decide +kernel
theorem d_Mod_putFooter_61 : decode b_Mod_putFooter 61 = .ok (.aload_n 0, 1) := by decide +kernel
theorem d_Mod_putFooter_62 : decode b_Mod_putFooter 62 = .ok (.getfield 29, 3) := by decide +kernel
theorem d_Mod_putFooter_65 : decode b_Mod_putFooter 65 = .ok (.iload_n 2, 1) := by decide +kernel
theorem d_Mod_putFooter_66 : decode b_Mod_putFooter 66 = .ok (.iaload, 1) := by decide +kernel
theorem d_Mod_putFooter_67 : decode b_Mod_putFooter 67 = .ok (.i2l, 1) := by decide +kernel
theorem d_Mod_putFooter_68 : decode b_Mod_putFooter 68 = .ok (.invokevirtual 567, 3) := by decide +kernel
theorem d_Mod_putFooter_71 : decode b_Mod_putFooter 71 = .ok (.iconst 0, 1) := by decide +kernel
theorem d_Mod_putFooter_72 : decode b_Mod_putFooter 72 = .ok (.istore_n 3, 1) := by decide +kernel
theorem d_Mod_putFooter_0 : decode b_Mod_putFooter 0 = .ok (.aload_n 0, 1) := by decide +kernel
theorem d_Mod_putFooter_1 : decode b_Mod_putFooter 1 = .ok (.iconst 0, 1) := by decide +kernel
theorem d_Mod_putFooter_2 : decode b_Mod_putFooter 2 = .ok (.putfield 547, 3) := by decide +kernel
theorem d_Mod_putFooter_5 : decode b_Mod_putFooter 5 = .ok (.aload_n 0, 1) := by decide +kernel
theorem d_Mod_putFooter_6 : decode b_Mod_putFooter 6 = .ok (.aload_n 0, 1) := by decide +kernel
theorem d_Mod_putFooter_7 : decode b_Mod_putFooter 7 = .ok (.getfield 35, 3) := by decide +kernel
theorem d_Mod_putFooter_10 : decode b_Mod_putFooter 10 = .ok (.iconst 0, 1) := by decide +kernel
theorem d_Mod_putFooter_11 : decode b_Mod_putFooter 11 = .ok (.iaload, 1) := by decide +kernel
theorem d_Mod_putFooter_12 : decode b_Mod_putFooter 12 = .ok (.i2l, 1) := by decide +kernel
theorem d_Mod_putFooter_13 : decode b_Mod_putFooter 13 = .ok (.invokevirtual 567, 3) := by decide +kernel
theorem d_Mod_putFooter_16 : decode b_Mod_putFooter 16 = .ok (.iconst 0, 1) := by decide +kernel
theorem d_Mod_putFooter_17 : decode b_Mod_putFooter 17 = .ok (.istore_n 2, 1) := by decide +kernel
section
variable (l : Launch) (dC : Nat → ClassId) (dI : Nat → Nat → Nat) (cI cB cJ cZ : ClassId)
set_option maxRecDepth 100000 in
def j_Mod_against2_139 (post : Int32 → St → Prop) (l1 : Int32) (l2 : Int32) (l3 : Int32) (l4 : Int32) (x : St) : Prop := (vp_in l1 (fN x 22) ∧ (vp_in l2 (fN x 22) ∧ post ((rA x 22 l1) - (rA x 22 l2)) x))
set_option maxHeartbeats 4000000 in
set_option maxRecDepth 100000 in
theorem t_Mod_against2_139 {p : Program} {l : Launch} {e : Env} {R : Room} {s : State} {m : MethodId} {args : Array Value} {below : List Frame} {meth : Method} {c : Code} {cells slots : Nat} {Q : State → Prop} {dC : Nat → ClassId} {dI : Nat → Nat → Nat} {cI cB cJ cZ : ClassId} {A : Nat → Prop} {ad : Nat → Nat} {post : Int32 → St → Prop} (hx : p.tables.exec = Jvm.exec) (hb : c.code = b_Mod_against2) (hml : c.maxLocals = 5) (hown : s.vm.findClass R_Mod = some m.cls) (hT : ∀ w ∈ TG, w.before args s = true) (hK : va_K (dC, dI) CL (TY cI cB cJ cZ) s) (hN : NW s) (hA : ∀ q : Nat, s.heap.size ≤ q → A q) (hRc : cells ≤ R.cells) (hRs : slots ≤ R.slots) (hRf : 0 ≤ R.frames) (hRl : 0 ≤ R.locals) (hret : ∀ (r : Int32) (x : St) (H : Heap) (locs : List Loc) (pc : Nat) (ls : Array Slot), decode b_Mod_against2 pc = .ok (.ireturn, 1) → post r x → Wd dC dI cI cB cJ cZ ad stM kcM 115 A x H → va_S A s.heap H locs → W p l e R s m args below meth c H locs cells slots Q (F0 m pc ls [.int r]))  : ∀ (l1 : Int32) (l2 : Int32) (l3 : Int32) (l4 : Int32) (x : St) (H : Heap) (locs : List Loc) (ls : Array Slot), j_Mod_against2_139 post l1 l2 l3 l4 x → Wd dC dI cI cB cJ cZ ad stM kcM 115 A x H → va_S A s.heap H locs → lv_has ls 5 [(0, .ref (ad 0)), (1, .int l1), (2, .int l2), (3, .int l3), (4, .int l4)] → W p l e R s m args below meth c H locs cells slots Q (F0 m 139 ls []) := by
  intro l1 l2 l3 l4 x H locs ls  hw hW hS hl
  unfold j_Mod_against2_139 at hw
  refine lv_aload_n hx hb d_Mod_against2_139 rfl (lv_at hl 0 rfl) ?_
  refine w_getf (q := 22) (k := 30) (t := 12) (C := R_Mod) (T := F_Mod) (N := 167) hx hb hT hown hK hW ko_0.1 ko_0.2 (by decide) in_Mod rfl rfl (by decide) rfl fr_Mod_30 w_8_210 d_Mod_against2_140 rfl ?_
  refine lv_iload_n hx hb d_Mod_against2_143 rfl (lv_at hl 1 rfl) ?_
  obtain ⟨hi, hw⟩ := hw
  refine w_iald (o := 22) hx hb hK hW ko_22.1 ko_22.2 hi d_Mod_against2_144 ?_
  refine lv_aload_n hx hb d_Mod_against2_145 rfl (lv_at hl 0 rfl) ?_
  refine w_getf (q := 22) (k := 30) (t := 12) (C := R_Mod) (T := F_Mod) (N := 167) hx hb hT hown hK hW ko_0.1 ko_0.2 (by decide) in_Mod rfl rfl (by decide) rfl fr_Mod_30 w_8_210 d_Mod_against2_146 rfl ?_
  refine lv_iload_n hx hb d_Mod_against2_149 rfl (lv_at hl 2 rfl) ?_
  obtain ⟨hi, hw⟩ := hw
  refine w_iald (o := 22) hx hb hK hW ko_22.1 ko_22.2 hi d_Mod_against2_150 ?_
  refine lv_isub hx hb d_Mod_against2_151 ?_
  exact hret ((rA x 22 l1) - (rA x 22 l2)) x H locs 152 ls d_Mod_against2_152 hw hW hS
set_option maxRecDepth 100000 in
def j_Mod_against2_50 (post : Int32 → St → Prop) (rec50 : Int32 → Int32 → Int32 → Int32 → St → Prop) (l1 : Int32) (l2 : Int32) (l3 : Int32) (l4 : Int32) (x : St) : Prop := (vp_in l1 (fN x 22) ∧ (((rA x 22 l1) ≤ l4 → j_Mod_against2_139 post l1 l2 l3 l4 x) ∧ (¬ (rA x 22 l1) ≤ l4 → (vp_in l2 (fN x 22) ∧ (((rA x 22 l2) ≤ l4 → j_Mod_against2_139 post l1 l2 l3 l4 x) ∧ (¬ (rA x 22 l2) ≤ l4 → (vp_in l1 (fN x 21) ∧ (vp_in ((rA x 21 l1) + l4) (fN x 24) ∧ (vp_in l2 (fN x 21) ∧ (vp_in ((rA x 21 l2) + l4) (fN x 24) ∧ (((rA x 24 ((rA x 21 l1) + l4)) = (rA x 24 ((rA x 21 l2) + l4)) → rec50 l1 l2 l3 (l4 + 1) x) ∧ (¬ (rA x 24 ((rA x 21 l1) + l4)) = (rA x 24 ((rA x 21 l2) + l4)) → (vp_in l1 (fN x 21) ∧ (vp_in ((rA x 21 l1) + l4) (fN x 24) ∧ (vp_in l2 (fN x 21) ∧ (vp_in ((rA x 21 l2) + l4) (fN x 24) ∧ post ((rA x 24 ((rA x 21 l1) + l4)) - (rA x 24 ((rA x 21 l2) + l4))) x))))))))))))))))
set_option maxHeartbeats 4000000 in
set_option maxRecDepth 100000 in
theorem t_Mod_against2_50 {p : Program} {l : Launch} {e : Env} {R : Room} {s : State} {m : MethodId} {args : Array Value} {below : List Frame} {meth : Method} {c : Code} {cells slots : Nat} {Q : State → Prop} {dC : Nat → ClassId} {dI : Nat → Nat → Nat} {cI cB cJ cZ : ClassId} {A : Nat → Prop} {ad : Nat → Nat} {post : Int32 → St → Prop} {rec50 : Int32 → Int32 → Int32 → Int32 → St → Prop} (hx : p.tables.exec = Jvm.exec) (hb : c.code = b_Mod_against2) (hml : c.maxLocals = 5) (hown : s.vm.findClass R_Mod = some m.cls) (hT : ∀ w ∈ TG, w.before args s = true) (hK : va_K (dC, dI) CL (TY cI cB cJ cZ) s) (hN : NW s) (hA : ∀ q : Nat, s.heap.size ≤ q → A q) (hRc : cells ≤ R.cells) (hRs : slots ≤ R.slots) (hRf : 0 ≤ R.frames) (hRl : 0 ≤ R.locals) (hret : ∀ (r : Int32) (x : St) (H : Heap) (locs : List Loc) (pc : Nat) (ls : Array Slot), decode b_Mod_against2 pc = .ok (.ireturn, 1) → post r x → Wd dC dI cI cB cJ cZ ad stM kcM 115 A x H → va_S A s.heap H locs → W p l e R s m args below meth c H locs cells slots Q (F0 m pc ls [.int r])) (hrec50 : ∀ (l1 : Int32) (l2 : Int32) (l3 : Int32) (l4 : Int32) (x : St) (H : Heap) (locs : List Loc) (ls : Array Slot), rec50 l1 l2 l3 l4 x → Wd dC dI cI cB cJ cZ ad stM kcM 115 A x H → va_S A s.heap H locs → lv_has ls 5 [(0, .ref (ad 0)), (1, .int l1), (2, .int l2), (3, .int l3), (4, .int l4)] → W p l e R s m args below meth c H locs cells slots Q (F0 m 50 ls [])) : ∀ (l1 : Int32) (l2 : Int32) (l3 : Int32) (l4 : Int32) (x : St) (H : Heap) (locs : List Loc) (ls : Array Slot), j_Mod_against2_50 post rec50 l1 l2 l3 l4 x → Wd dC dI cI cB cJ cZ ad stM kcM 115 A x H → va_S A s.heap H locs → lv_has ls 5 [(0, .ref (ad 0)), (1, .int l1), (2, .int l2), (3, .int l3), (4, .int l4)] → W p l e R s m args below meth c H locs cells slots Q (F0 m 50 ls []) := by
  intro l1 l2 l3 l4 x H locs ls  hw hW hS hl
  unfold j_Mod_against2_50 at hw
  refine lv_iload hx hb d_Mod_against2_50 (lv_at hl 4 rfl) ?_
  refine lv_aload_n hx hb d_Mod_against2_52 rfl (lv_at hl 0 rfl) ?_
  refine w_getf (q := 22) (k := 30) (t := 12) (C := R_Mod) (T := F_Mod) (N := 167) hx hb hT hown hK hW ko_0.1 ko_0.2 (by decide) in_Mod rfl rfl (by decide) rfl fr_Mod_30 w_8_210 d_Mod_against2_53 rfl ?_
  refine lv_iload_n hx hb d_Mod_against2_56 rfl (lv_at hl 1 rfl) ?_
  obtain ⟨hi, hw⟩ := hw
  refine w_iald (o := 22) hx hb hK hW ko_22.1 ko_22.2 hi d_Mod_against2_57 ?_
  refine lv_icmp_ge (tgt := 139) hx hb d_Mod_against2_58 (by decide) (fun c805 => ?_) (fun c805 => ?_)
  · have hw := hw.1 c805
    exact t_Mod_against2_139 hx hb hml hown hT hK hN hA hRc hRs hRf hRl hret  l1 l2 l3 l4 x H locs ls  hw hW hS (lv_sub hl [0, 1, 2, 3, 4] rfl)
  · have hw := hw.2 c805
    refine lv_iload hx hb d_Mod_against2_61 (lv_at hl 4 rfl) ?_
    refine lv_aload_n hx hb d_Mod_against2_63 rfl (lv_at hl 0 rfl) ?_
    refine w_getf (q := 22) (k := 30) (t := 12) (C := R_Mod) (T := F_Mod) (N := 167) hx hb hT hown hK hW ko_0.1 ko_0.2 (by decide) in_Mod rfl rfl (by decide) rfl fr_Mod_30 w_8_210 d_Mod_against2_64 rfl ?_
    refine lv_iload_n hx hb d_Mod_against2_67 rfl (lv_at hl 2 rfl) ?_
    obtain ⟨hi, hw⟩ := hw
    refine w_iald (o := 22) hx hb hK hW ko_22.1 ko_22.2 hi d_Mod_against2_68 ?_
    refine lv_icmp_ge (tgt := 139) hx hb d_Mod_against2_69 (by decide) (fun c806 => ?_) (fun c806 => ?_)
    · have hw := hw.1 c806
      exact t_Mod_against2_139 hx hb hml hown hT hK hN hA hRc hRs hRf hRl hret  l1 l2 l3 l4 x H locs ls  hw hW hS (lv_sub hl [0, 1, 2, 3, 4] rfl)
    · have hw := hw.2 c806
      refine lv_aload_n hx hb d_Mod_against2_72 rfl (lv_at hl 0 rfl) ?_
      refine w_getf (q := 24) (k := 32) (t := 12) (C := R_Mod) (T := F_Mod) (N := 167) hx hb hT hown hK hW ko_0.1 ko_0.2 (by decide) in_Mod rfl rfl (by decide) rfl fr_Mod_32 w_8_212 d_Mod_against2_73 rfl ?_
      refine lv_aload_n hx hb d_Mod_against2_76 rfl (lv_at hl 0 rfl) ?_
      refine w_getf (q := 21) (k := 29) (t := 12) (C := R_Mod) (T := F_Mod) (N := 167) hx hb hT hown hK hW ko_0.1 ko_0.2 (by decide) in_Mod rfl rfl (by decide) rfl fr_Mod_29 w_8_209 d_Mod_against2_77 rfl ?_
      refine lv_iload_n hx hb d_Mod_against2_80 rfl (lv_at hl 1 rfl) ?_
      obtain ⟨hi, hw⟩ := hw
      refine w_iald (o := 21) hx hb hK hW ko_21.1 ko_21.2 hi d_Mod_against2_81 ?_
      refine lv_iload hx hb d_Mod_against2_82 (lv_at hl 4 rfl) ?_
      refine lv_iadd hx hb d_Mod_against2_84 ?_
      obtain ⟨hi, hw⟩ := hw
      refine w_iald (o := 24) hx hb hK hW ko_24.1 ko_24.2 hi d_Mod_against2_85 ?_
      refine lv_aload_n hx hb d_Mod_against2_86 rfl (lv_at hl 0 rfl) ?_
      refine w_getf (q := 24) (k := 32) (t := 12) (C := R_Mod) (T := F_Mod) (N := 167) hx hb hT hown hK hW ko_0.1 ko_0.2 (by decide) in_Mod rfl rfl (by decide) rfl fr_Mod_32 w_8_212 d_Mod_against2_87 rfl ?_
      refine lv_aload_n hx hb d_Mod_against2_90 rfl (lv_at hl 0 rfl) ?_
      refine w_getf (q := 21) (k := 29) (t := 12) (C := R_Mod) (T := F_Mod) (N := 167) hx hb hT hown hK hW ko_0.1 ko_0.2 (by decide) in_Mod rfl rfl (by decide) rfl fr_Mod_29 w_8_209 d_Mod_against2_91 rfl ?_
      refine lv_iload_n hx hb d_Mod_against2_94 rfl (lv_at hl 2 rfl) ?_
      obtain ⟨hi, hw⟩ := hw
      refine w_iald (o := 21) hx hb hK hW ko_21.1 ko_21.2 hi d_Mod_against2_95 ?_
      refine lv_iload hx hb d_Mod_against2_96 (lv_at hl 4 rfl) ?_
      refine lv_iadd hx hb d_Mod_against2_98 ?_
      obtain ⟨hi, hw⟩ := hw
      refine w_iald (o := 24) hx hb hK hW ko_24.1 ko_24.2 hi d_Mod_against2_99 ?_
      refine lv_icmp_eq (tgt := 133) hx hb d_Mod_against2_100 (by decide) (fun c807 => ?_) (fun c807 => ?_)
      · have hw := hw.1 c807
        refine lv_iinc (v := (l4 + 1)) (lv' := [(4, .int (l4 + 1)), (0, .ref (ad 0)), (1, .int l1), (2, .int l2), (3, .int l3)]) hx hb d_Mod_against2_133 hl (k := 4) rfl rfl (by decide) rfl (fun ls hl => ?_)
        refine lv_goto (tgt := 50) hx hb d_Mod_against2_136 (by decide) ?_
        exact hrec50 l1 l2 l3 (l4 + 1) x H locs ls  hw hW hS (lv_sub hl [1, 2, 3, 4, 0] rfl)
      · have hw := hw.2 c807
        refine lv_aload_n hx hb d_Mod_against2_103 rfl (lv_at hl 0 rfl) ?_
        refine w_getf (q := 24) (k := 32) (t := 12) (C := R_Mod) (T := F_Mod) (N := 167) hx hb hT hown hK hW ko_0.1 ko_0.2 (by decide) in_Mod rfl rfl (by decide) rfl fr_Mod_32 w_8_212 d_Mod_against2_104 rfl ?_
        refine lv_aload_n hx hb d_Mod_against2_107 rfl (lv_at hl 0 rfl) ?_
        refine w_getf (q := 21) (k := 29) (t := 12) (C := R_Mod) (T := F_Mod) (N := 167) hx hb hT hown hK hW ko_0.1 ko_0.2 (by decide) in_Mod rfl rfl (by decide) rfl fr_Mod_29 w_8_209 d_Mod_against2_108 rfl ?_
        refine lv_iload_n hx hb d_Mod_against2_111 rfl (lv_at hl 1 rfl) ?_
        obtain ⟨hi, hw⟩ := hw
        refine w_iald (o := 21) hx hb hK hW ko_21.1 ko_21.2 hi d_Mod_against2_112 ?_
        refine lv_iload hx hb d_Mod_against2_113 (lv_at hl 4 rfl) ?_
        refine lv_iadd hx hb d_Mod_against2_115 ?_
        obtain ⟨hi, hw⟩ := hw
        refine w_iald (o := 24) hx hb hK hW ko_24.1 ko_24.2 hi d_Mod_against2_116 ?_
        refine lv_aload_n hx hb d_Mod_against2_117 rfl (lv_at hl 0 rfl) ?_
        refine w_getf (q := 24) (k := 32) (t := 12) (C := R_Mod) (T := F_Mod) (N := 167) hx hb hT hown hK hW ko_0.1 ko_0.2 (by decide) in_Mod rfl rfl (by decide) rfl fr_Mod_32 w_8_212 d_Mod_against2_118 rfl ?_
        refine lv_aload_n hx hb d_Mod_against2_121 rfl (lv_at hl 0 rfl) ?_
        refine w_getf (q := 21) (k := 29) (t := 12) (C := R_Mod) (T := F_Mod) (N := 167) hx hb hT hown hK hW ko_0.1 ko_0.2 (by decide) in_Mod rfl rfl (by decide) rfl fr_Mod_29 w_8_209 d_Mod_against2_122 rfl ?_
        refine lv_iload_n hx hb d_Mod_against2_125 rfl (lv_at hl 2 rfl) ?_
        obtain ⟨hi, hw⟩ := hw
        refine w_iald (o := 21) hx hb hK hW ko_21.1 ko_21.2 hi d_Mod_against2_126 ?_
        refine lv_iload hx hb d_Mod_against2_127 (lv_at hl 4 rfl) ?_
        refine lv_iadd hx hb d_Mod_against2_129 ?_
        obtain ⟨hi, hw⟩ := hw
        refine w_iald (o := 24) hx hb hK hW ko_24.1 ko_24.2 hi d_Mod_against2_130 ?_
        refine lv_isub hx hb d_Mod_against2_131 ?_
        exact hret ((rA x 24 ((rA x 21 l1) + l4)) - (rA x 24 ((rA x 21 l2) + l4))) x H locs 132 ls d_Mod_against2_132 hw hW hS
def wl_Mod_against2_50 (post : Int32 → St → Prop) : Nat → Int32 → Int32 → Int32 → Int32 → St → Prop
  | 0 => fun _ _ _ _ _ => False
  | n + 1 => j_Mod_against2_50 post (wl_Mod_against2_50 post n)
set_option maxHeartbeats 4000000 in
set_option maxRecDepth 100000 in
theorem tl_Mod_against2_50 {p : Program} {l : Launch} {e : Env} {R : Room} {s : State} {m : MethodId} {args : Array Value} {below : List Frame} {meth : Method} {c : Code} {cells slots : Nat} {Q : State → Prop} {dC : Nat → ClassId} {dI : Nat → Nat → Nat} {cI cB cJ cZ : ClassId} {A : Nat → Prop} {ad : Nat → Nat} {post : Int32 → St → Prop} (hx : p.tables.exec = Jvm.exec) (hb : c.code = b_Mod_against2) (hml : c.maxLocals = 5) (hown : s.vm.findClass R_Mod = some m.cls) (hT : ∀ w ∈ TG, w.before args s = true) (hK : va_K (dC, dI) CL (TY cI cB cJ cZ) s) (hN : NW s) (hA : ∀ q : Nat, s.heap.size ≤ q → A q) (hRc : cells ≤ R.cells) (hRs : slots ≤ R.slots) (hRf : 0 ≤ R.frames) (hRl : 0 ≤ R.locals) (hret : ∀ (r : Int32) (x : St) (H : Heap) (locs : List Loc) (pc : Nat) (ls : Array Slot), decode b_Mod_against2 pc = .ok (.ireturn, 1) → post r x → Wd dC dI cI cB cJ cZ ad stM kcM 115 A x H → va_S A s.heap H locs → W p l e R s m args below meth c H locs cells slots Q (F0 m pc ls [.int r]))  : ∀ n : Nat, ∀ (l1 : Int32) (l2 : Int32) (l3 : Int32) (l4 : Int32) (x : St) (H : Heap) (locs : List Loc) (ls : Array Slot), wl_Mod_against2_50 post n l1 l2 l3 l4 x → Wd dC dI cI cB cJ cZ ad stM kcM 115 A x H → va_S A s.heap H locs → lv_has ls 5 [(0, .ref (ad 0)), (1, .int l1), (2, .int l2), (3, .int l3), (4, .int l4)] → W p l e R s m args below meth c H locs cells slots Q (F0 m 50 ls []) := by
  intro n
  induction n with
  | zero => intro l1 l2 l3 l4 x H locs ls  hw; exact hw.elim
  | succ n ih => intro l1 l2 l3 l4 x H locs ls  hw hW hS hl; exact t_Mod_against2_50 hx hb hml hown hT hK hN hA hRc hRs hRf hRl hret  ih l1 l2 l3 l4 x H locs ls  hw hW hS hl
set_option maxRecDepth 100000 in
def wp_Mod_against2 (post : Int32 → St → Prop) (l1 : Int32) (l2 : Int32) (l3 : Int32) (x : St) : Prop := ((l3 = 3 → ∃ n : Nat, wl_Mod_against2_50 post n l1 l2 l3 0 x) ∧ (¬ l3 = 3 → (vp_in l1 (fN x 25) ∧ (vp_in l2 (fN x 25) ∧ ((0 ≤ (lg_cmp (rL x 25 l1) (rL x 25 l2)) → (vp_in l1 (fN x 25) ∧ (vp_in l2 (fN x 25) ∧ (((lg_cmp (rL x 25 l1) (rL x 25 l2)) ≤ 0 → post 0 x) ∧ (¬ (lg_cmp (rL x 25 l1) (rL x 25 l2)) ≤ 0 → post 1 x))))) ∧ (¬ 0 ≤ (lg_cmp (rL x 25 l1) (rL x 25 l2)) → post (-1) x))))))
set_option maxHeartbeats 4000000 in
set_option maxRecDepth 100000 in
theorem t_Mod_against2_e {p : Program} {l : Launch} {e : Env} {R : Room} {s : State} {m : MethodId} {args : Array Value} {below : List Frame} {meth : Method} {c : Code} {cells slots : Nat} {Q : State → Prop} {dC : Nat → ClassId} {dI : Nat → Nat → Nat} {cI cB cJ cZ : ClassId} {A : Nat → Prop} {ad : Nat → Nat} {post : Int32 → St → Prop} (hx : p.tables.exec = Jvm.exec) (hb : c.code = b_Mod_against2) (hml : c.maxLocals = 5) (hown : s.vm.findClass R_Mod = some m.cls) (hT : ∀ w ∈ TG, w.before args s = true) (hK : va_K (dC, dI) CL (TY cI cB cJ cZ) s) (hN : NW s) (hA : ∀ q : Nat, s.heap.size ≤ q → A q) (hRc : cells ≤ R.cells) (hRs : slots ≤ R.slots) (hRf : 0 ≤ R.frames) (hRl : 0 ≤ R.locals) (hret : ∀ (r : Int32) (x : St) (H : Heap) (locs : List Loc) (pc : Nat) (ls : Array Slot), decode b_Mod_against2 pc = .ok (.ireturn, 1) → post r x → Wd dC dI cI cB cJ cZ ad stM kcM 115 A x H → va_S A s.heap H locs → W p l e R s m args below meth c H locs cells slots Q (F0 m pc ls [.int r])) : ∀ (l1 : Int32) (l2 : Int32) (l3 : Int32) (x : St) (H : Heap) (locs : List Loc) (ls : Array Slot), wp_Mod_against2 post l1 l2 l3 x → Wd dC dI cI cB cJ cZ ad stM kcM 115 A x H → va_S A s.heap H locs → lv_has ls 5 [(0, .ref (ad 0)), (1, .int l1), (2, .int l2), (3, .int l3)] → W p l e R s m args below meth c H locs cells slots Q (F0 m 0 ls []) := by
  intro l1 l2 l3 x H locs ls  hw hW hS hl
  unfold wp_Mod_against2 at hw
  refine lv_iload_n hx hb d_Mod_against2_0 rfl (lv_at hl 3 rfl) ?_
  refine lv_iconst (v := 3) hx hb d_Mod_against2_1 (by decide) ?_
  refine lv_icmp_eq (tgt := 47) hx hb d_Mod_against2_2 (by decide) (fun c808 => ?_) (fun c808 => ?_)
  · have hw := hw.1 c808
    refine lv_iconst (v := 0) hx hb d_Mod_against2_47 (by decide) ?_
    refine lv_istore (lv' := [(4, .int 0), (0, .ref (ad 0)), (1, .int l1), (2, .int l2), (3, .int l3)]) hx hb d_Mod_against2_48 hl (by decide) rfl (fun ls hl => ?_)
    obtain ⟨n, hw⟩ := hw
    exact tl_Mod_against2_50 hx hb hml hown hT hK hN hA hRc hRs hRf hRl hret  n l1 l2 l3 0 x H locs ls  hw hW hS (lv_sub hl [1, 2, 3, 4, 0] rfl)
  · have hw := hw.2 c808
    refine lv_aload_n hx hb d_Mod_against2_5 rfl (lv_at hl 0 rfl) ?_
    refine w_getf (q := 25) (k := 33) (t := 12) (C := R_Mod) (T := F_Mod) (N := 167) hx hb hT hown hK hW ko_0.1 ko_0.2 (by decide) in_Mod rfl rfl (by decide) rfl fr_Mod_33 w_8_213 d_Mod_against2_6 rfl ?_
    refine lv_iload_n hx hb d_Mod_against2_9 rfl (lv_at hl 1 rfl) ?_
    obtain ⟨hi, hw⟩ := hw
    refine w_lald (o := 25) hx hb hK hW ko_25.1 ko_25.2 hi d_Mod_against2_10 ?_
    refine lv_aload_n hx hb d_Mod_against2_11 rfl (lv_at hl 0 rfl) ?_
    refine w_getf (q := 25) (k := 33) (t := 12) (C := R_Mod) (T := F_Mod) (N := 167) hx hb hT hown hK hW ko_0.1 ko_0.2 (by decide) in_Mod rfl rfl (by decide) rfl fr_Mod_33 w_8_213 d_Mod_against2_12 rfl ?_
    refine lv_iload_n hx hb d_Mod_against2_15 rfl (lv_at hl 2 rfl) ?_
    obtain ⟨hi, hw⟩ := hw
    refine w_lald (o := 25) hx hb hK hW ko_25.1 ko_25.2 hi d_Mod_against2_16 ?_
    refine W.lcmp hx hb d_Mod_against2_17 ?_
    refine lv_if_ge (tgt := 25) hx hb d_Mod_against2_18 (by decide) (fun c809 => ?_) (fun c809 => ?_)
    · have hw := hw.1 c809
      refine lv_aload_n hx hb d_Mod_against2_25 rfl (lv_at hl 0 rfl) ?_
      refine w_getf (q := 25) (k := 33) (t := 12) (C := R_Mod) (T := F_Mod) (N := 167) hx hb hT hown hK hW ko_0.1 ko_0.2 (by decide) in_Mod rfl rfl (by decide) rfl fr_Mod_33 w_8_213 d_Mod_against2_26 rfl ?_
      refine lv_iload_n hx hb d_Mod_against2_29 rfl (lv_at hl 1 rfl) ?_
      obtain ⟨hi, hw⟩ := hw
      refine w_lald (o := 25) hx hb hK hW ko_25.1 ko_25.2 hi d_Mod_against2_30 ?_
      refine lv_aload_n hx hb d_Mod_against2_31 rfl (lv_at hl 0 rfl) ?_
      refine w_getf (q := 25) (k := 33) (t := 12) (C := R_Mod) (T := F_Mod) (N := 167) hx hb hT hown hK hW ko_0.1 ko_0.2 (by decide) in_Mod rfl rfl (by decide) rfl fr_Mod_33 w_8_213 d_Mod_against2_32 rfl ?_
      refine lv_iload_n hx hb d_Mod_against2_35 rfl (lv_at hl 2 rfl) ?_
      obtain ⟨hi, hw⟩ := hw
      refine w_lald (o := 25) hx hb hK hW ko_25.1 ko_25.2 hi d_Mod_against2_36 ?_
      refine W.lcmp hx hb d_Mod_against2_37 ?_
      refine lv_if_le (tgt := 45) hx hb d_Mod_against2_38 (by decide) (fun c810 => ?_) (fun c810 => ?_)
      · have hw := hw.1 c810
        refine lv_iconst (v := 0) hx hb d_Mod_against2_45 (by decide) ?_
        exact hret 0 x H locs 46 ls d_Mod_against2_46 hw hW hS
      · have hw := hw.2 c810
        refine lv_iconst (v := 1) hx hb d_Mod_against2_41 (by decide) ?_
        refine lv_goto (tgt := 46) hx hb d_Mod_against2_42 (by decide) ?_
        exact hret 1 x H locs 46 ls d_Mod_against2_46 hw hW hS
    · have hw := hw.2 c809
      refine lv_iconst (v := (-1)) hx hb d_Mod_against2_21 (by decide) ?_
      refine lv_goto (tgt := 46) hx hb d_Mod_against2_22 (by decide) ?_
      exact hret (-1) x H locs 46 ls d_Mod_against2_46 hw hW hS
set_option maxHeartbeats 4000000 in
set_option maxRecDepth 100000 in
theorem k_Mod_against2 (l : Launch) (dC : Nat → ClassId) (dI : Nat → Nat → Nat) (cI cB cJ cZ : ClassId) (ad : Nat → Nat) (sz : Nat) (l1 : Int32) (l2 : Int32) (l3 : Int32) (x : St) {post : Int32 → St → Prop} (hw : wp_Mod_against2 post l1 l2 l3 x) : Met l y_Mod_against2 (wsOf y_Mod_against2 b_Mod_against2 5 (some (.int))) ({ frames := 0, cells := 0, slots := 0, locals := 0 }) (va_Pc [.ref (ad 0), .int l1, .int l2, .int l3] (PW dC dI cI cB cJ cZ ad stM kcM 115 sz x)) (va_Qi (fun (r : Int32) (y : St) => post r y) (fun y t => Wd dC dI cI cB cJ cZ ad stM kcM 115 (va_A (pic ad stM kcM 115 cI cB cJ cZ x) sz) y t.heap) (va_A (pic ad stM kcM 115 cI cB cJ cZ x) sz)) 0 0 (va_A (pic ad stM kcM 115 cI cB cJ cZ x) sz) := by
  refine Met.ofW (cc := b_Mod_against2) (maxL := 5) (ret := some (.int)) (by decide) rfl ?_
  intro p e s m args below meth c s₁ B hml hv
  obtain ⟨rfl, hsz, hW0, hK, hN⟩ := hv
  have hx := B.exec
  have hb := B.bytes
  have hr := B.returns
  have hts := atoms_spec B.pre
  have hT : ∀ w ∈ TG, w.before _ s = true := fun w h => hts w (List.mem_cons_of_mem _ h)
  have hown : s.vm.findClass R_Mod = some m.cls := findClass_of_methodNamed B.named
  have hlocks := B.notSynchronized
  subst hsz
  have hW : Wd dC dI cI cB cJ cZ ad stM kcM 115 (va_A (pic ad stM kcM 115 cI cB cJ cZ x) s.heap.size) x s.heap := ⟨hW0.1, hW0.2.1.self (sz := s.heap.size), hW0.2.2⟩
  generalize hAe : va_A (pic ad stM kcM 115 cI cB cJ cZ x) s.heap.size = A at hW ⊢
  have hA : ∀ q : Nat, s.heap.size ≤ q → A q := fun q h => by rw [← hAe]; exact Or.inr h
  have hS : va_S A s.heap s.heap [] := va_S.rf
  have hl := lv_entry ([.ref (ad 0), .int l1, .int l2, .int l3]) (n := 5) (Nat.le_of_ble_eq_true rfl)
  rw [lg_entry_eq]
  generalize (lg_sl ([.ref (ad 0), .int l1, .int l2, .int l3]) ++ List.replicate (5 - (lg_sl ([.ref (ad 0), .int l1, .int l2, .int l3])).length) Slot.unset).toArray = ls at hl ⊢
  have hl : lv_has ls 5 [(0, .ref (ad 0)), (1, .int l1), (2, .int l2), (3, .int l3)] := hl
  exact t_Mod_against2_e hx hb hml hown hT hK hN hA (Nat.le_refl 0) (Nat.le_refl 0) (Nat.le_refl 0) (Nat.le_refl 0) (fun r x H locs pc ls hd hp hW hS => W.iret (v := r) hx hb hr (fun t ht hM => ⟨⟨r, x, rfl, hp, Wd.back hW ht.symm (fun _ z => z)⟩, hS.F ht⟩) hS.2.2 hd hlocks)  l1 l2 l3 x _ _ ls  hw hW hS hl
set_option maxRecDepth 100000 in
def j_Mod_putEntry_52 (post : St → Prop) (rec52 : Int32 → Int32 → Int32 → St → Prop) (l1 : Int32) (l2 : Int32) (l3 : Int32) (x : St) : Prop := (vp_in l1 (fN x 22) ∧ (((rA x 22 l1) ≤ l3 → post x) ∧ (¬ (rA x 22 l1) ≤ l3 → (vp_in l1 (fN x 21) ∧ (vp_in ((rA x 21 l1) + l3) (fN x 24) ∧ wp_Mod_put (fun (x812 : St) => rec52 l1 l2 (l3 + 1) x812) (rA x 24 ((rA x 21 l1) + l3)) x)))))
set_option maxHeartbeats 4000000 in
set_option maxRecDepth 100000 in
theorem t_Mod_putEntry_52 {p : Program} {l : Launch} {e : Env} {R : Room} {s : State} {m : MethodId} {args : Array Value} {below : List Frame} {meth : Method} {c : Code} {cells slots : Nat} {Q : State → Prop} {dC : Nat → ClassId} {dI : Nat → Nat → Nat} {cI cB cJ cZ : ClassId} {A : Nat → Prop} {ad : Nat → Nat} {post : St → Prop} {rec52 : Int32 → Int32 → Int32 → St → Prop} (hx : p.tables.exec = Jvm.exec) (hb : c.code = b_Mod_putEntry) (hml : c.maxLocals = 4) (hown : s.vm.findClass R_Mod = some m.cls) (hT : ∀ w ∈ TG, w.before args s = true) (hK : va_K (dC, dI) CL (TY cI cB cJ cZ) s) (hN : NW s) (hA : ∀ q : Nat, s.heap.size ≤ q → A q) (hRc : cells ≤ R.cells) (hRs : slots ≤ R.slots) (hRf : 2 ≤ R.frames) (hRl : 45 ≤ R.locals) (hret : ∀ (x : St) (H : Heap) (locs : List Loc) (pc : Nat) (ls : Array Slot), decode b_Mod_putEntry pc = .ok (.return_, 1) → post x → Wd dC dI cI cB cJ cZ ad stM kcM 115 A x H → va_S A s.heap H locs → W p l e R s m args below meth c H locs cells slots Q (F0 m pc ls [])) (hrec52 : ∀ (l1 : Int32) (l2 : Int32) (l3 : Int32) (x : St) (H : Heap) (locs : List Loc) (ls : Array Slot), rec52 l1 l2 l3 x → Wd dC dI cI cB cJ cZ ad stM kcM 115 A x H → va_S A s.heap H locs → lv_has ls 4 [(0, .ref (ad 0)), (1, .int l1), (2, .int l2), (3, .int l3)] → W p l e R s m args below meth c H locs cells slots Q (F0 m 52 ls [])) : ∀ (l1 : Int32) (l2 : Int32) (l3 : Int32) (x : St) (H : Heap) (locs : List Loc) (ls : Array Slot), j_Mod_putEntry_52 post rec52 l1 l2 l3 x → Wd dC dI cI cB cJ cZ ad stM kcM 115 A x H → va_S A s.heap H locs → lv_has ls 4 [(0, .ref (ad 0)), (1, .int l1), (2, .int l2), (3, .int l3)] → W p l e R s m args below meth c H locs cells slots Q (F0 m 52 ls []) := by
  intro l1 l2 l3 x H locs ls  hw hW hS hl
  unfold j_Mod_putEntry_52 at hw
  refine lv_iload_n hx hb d_Mod_putEntry_52 rfl (lv_at hl 3 rfl) ?_
  refine lv_aload_n hx hb d_Mod_putEntry_53 rfl (lv_at hl 0 rfl) ?_
  refine w_getf (q := 22) (k := 30) (t := 12) (C := R_Mod) (T := F_Mod) (N := 167) hx hb hT hown hK hW ko_0.1 ko_0.2 (by decide) in_Mod rfl rfl (by decide) rfl fr_Mod_30 w_8_210 d_Mod_putEntry_54 rfl ?_
  refine lv_iload_n hx hb d_Mod_putEntry_57 rfl (lv_at hl 1 rfl) ?_
  obtain ⟨hi, hw⟩ := hw
  refine w_iald (o := 22) hx hb hK hW ko_22.1 ko_22.2 hi d_Mod_putEntry_58 ?_
  refine lv_icmp_ge (tgt := 85) hx hb d_Mod_putEntry_59 (by decide) (fun c811 => ?_) (fun c811 => ?_)
  · have hw := hw.1 c811
    exact hret x H locs 85 ls d_Mod_putEntry_85 hw hW hS
  · have hw := hw.2 c811
    refine lv_aload_n hx hb d_Mod_putEntry_62 rfl (lv_at hl 0 rfl) ?_
    refine lv_aload_n hx hb d_Mod_putEntry_63 rfl (lv_at hl 0 rfl) ?_
    refine w_getf (q := 24) (k := 32) (t := 12) (C := R_Mod) (T := F_Mod) (N := 167) hx hb hT hown hK hW ko_0.1 ko_0.2 (by decide) in_Mod rfl rfl (by decide) rfl fr_Mod_32 w_8_212 d_Mod_putEntry_64 rfl ?_
    refine lv_aload_n hx hb d_Mod_putEntry_67 rfl (lv_at hl 0 rfl) ?_
    refine w_getf (q := 21) (k := 29) (t := 12) (C := R_Mod) (T := F_Mod) (N := 167) hx hb hT hown hK hW ko_0.1 ko_0.2 (by decide) in_Mod rfl rfl (by decide) rfl fr_Mod_29 w_8_209 d_Mod_putEntry_68 rfl ?_
    refine lv_iload_n hx hb d_Mod_putEntry_71 rfl (lv_at hl 1 rfl) ?_
    obtain ⟨hi, hw⟩ := hw
    refine w_iald (o := 21) hx hb hK hW ko_21.1 ko_21.2 hi d_Mod_putEntry_72 ?_
    refine lv_iload_n hx hb d_Mod_putEntry_73 rfl (lv_at hl 3 rfl) ?_
    refine lv_iadd hx hb d_Mod_putEntry_74 ?_
    obtain ⟨hi, hw⟩ := hw
    refine w_iald (o := 24) hx hb hK hW ko_24.1 ko_24.2 hi d_Mod_putEntry_75 ?_
    have hF := hW.free hS hA
    refine va_callv (va_runV (C := R_Mod) (As := [.int (rA x 24 ((rA x 21 l1) + l3))]) (rest := []) ⟨hx, hb, hml, hown, hT⟩ (k_Mod_put l dC dI cI cB cJ cZ ad H.size (rA x 24 ((rA x 21 l1) + l3)) x  hw) ⟨callB_of 1 hT (gw_in w_11_203) rfl rfl rfl (hT _ w_1_15) (hT _ w_11_200) (by decide +kernel) ⟨Nat.le_trans (by decide) hRf, Nat.le_trans (by decide) hRl⟩, hT _ w_11_202, hT _ ws_154⟩ ⟨PW.blind, va_recv hK hW.1 (ci := 12) (q0 := 0) rfl (pic_obj ko_0.1 ko_0.2 (by decide)), PW.at _ hW hK hN⟩ rfl rfl hl.1 rfl (lv_room (Nat.le_of_ble_eq_true rfl)) d_Mod_putEntry_76 ⟨hRc, hRs⟩) hS (fun q _ h => hF q h) hF (fun  x812 t H locs ht hvm hw hB hz1 hk1 hS => ?_)
    have hW := Wd.back hB ht hF
    clear hB ht hF hz1 hk1 hvm
    refine lv_iinc (v := (l3 + 1)) (lv' := [(3, .int (l3 + 1)), (0, .ref (ad 0)), (1, .int l1), (2, .int l2)]) hx hb d_Mod_putEntry_79 hl (k := 3) rfl rfl (by decide) rfl (fun ls hl => ?_)
    refine lv_goto (tgt := 52) hx hb d_Mod_putEntry_82 (by decide) ?_
    exact hrec52 l1 l2 (l3 + 1) x812 H locs ls  hw hW hS (lv_sub hl [1, 2, 3, 0] rfl)
def wl_Mod_putEntry_52 (post : St → Prop) : Nat → Int32 → Int32 → Int32 → St → Prop
  | 0 => fun _ _ _ _ => False
  | n + 1 => j_Mod_putEntry_52 post (wl_Mod_putEntry_52 post n)
set_option maxHeartbeats 4000000 in
set_option maxRecDepth 100000 in
theorem tl_Mod_putEntry_52 {p : Program} {l : Launch} {e : Env} {R : Room} {s : State} {m : MethodId} {args : Array Value} {below : List Frame} {meth : Method} {c : Code} {cells slots : Nat} {Q : State → Prop} {dC : Nat → ClassId} {dI : Nat → Nat → Nat} {cI cB cJ cZ : ClassId} {A : Nat → Prop} {ad : Nat → Nat} {post : St → Prop} (hx : p.tables.exec = Jvm.exec) (hb : c.code = b_Mod_putEntry) (hml : c.maxLocals = 4) (hown : s.vm.findClass R_Mod = some m.cls) (hT : ∀ w ∈ TG, w.before args s = true) (hK : va_K (dC, dI) CL (TY cI cB cJ cZ) s) (hN : NW s) (hA : ∀ q : Nat, s.heap.size ≤ q → A q) (hRc : cells ≤ R.cells) (hRs : slots ≤ R.slots) (hRf : 2 ≤ R.frames) (hRl : 45 ≤ R.locals) (hret : ∀ (x : St) (H : Heap) (locs : List Loc) (pc : Nat) (ls : Array Slot), decode b_Mod_putEntry pc = .ok (.return_, 1) → post x → Wd dC dI cI cB cJ cZ ad stM kcM 115 A x H → va_S A s.heap H locs → W p l e R s m args below meth c H locs cells slots Q (F0 m pc ls []))  : ∀ n : Nat, ∀ (l1 : Int32) (l2 : Int32) (l3 : Int32) (x : St) (H : Heap) (locs : List Loc) (ls : Array Slot), wl_Mod_putEntry_52 post n l1 l2 l3 x → Wd dC dI cI cB cJ cZ ad stM kcM 115 A x H → va_S A s.heap H locs → lv_has ls 4 [(0, .ref (ad 0)), (1, .int l1), (2, .int l2), (3, .int l3)] → W p l e R s m args below meth c H locs cells slots Q (F0 m 52 ls []) := by
  intro n
  induction n with
  | zero => intro l1 l2 l3 x H locs ls  hw; exact hw.elim
  | succ n ih => intro l1 l2 l3 x H locs ls  hw hW hS hl; exact t_Mod_putEntry_52 hx hb hml hown hT hK hN hA hRc hRs hRf hRl hret  ih l1 l2 l3 x H locs ls  hw hW hS hl
set_option maxRecDepth 100000 in
def wp_Mod_putEntry (post : St → Prop) (l1 : Int32) (l2 : Int32) (x : St) : Prop := ((¬ l2 = 0 → ((l2 = 3 → (vp_in l1 (fN x 22) ∧ wp_Mod_putVarint (fun (x815 : St) => ∃ n : Nat, wl_Mod_putEntry_52 post n l1 l2 0 x815) ((rA x 22 l1) : Int32).toInt64 x)) ∧ (¬ l2 = 3 → (vp_in l1 (fN x 25) ∧ wp_Mod_zigzag (fun (r817 : Int64) (x816 : St) => wp_Mod_putVarint (fun (x818 : St) => post x818) r817 x816) (rL x 25 l1) x)))) ∧ (l2 = 0 → (vp_in l1 (fN x 25) ∧ wp_Mod_put (fun (x819 : St) => post x819) ((rL x 25 l1) : Int64).toInt32 x)))
set_option maxHeartbeats 4000000 in
set_option maxRecDepth 100000 in
theorem t_Mod_putEntry_e {p : Program} {l : Launch} {e : Env} {R : Room} {s : State} {m : MethodId} {args : Array Value} {below : List Frame} {meth : Method} {c : Code} {cells slots : Nat} {Q : State → Prop} {dC : Nat → ClassId} {dI : Nat → Nat → Nat} {cI cB cJ cZ : ClassId} {A : Nat → Prop} {ad : Nat → Nat} {post : St → Prop} (hx : p.tables.exec = Jvm.exec) (hb : c.code = b_Mod_putEntry) (hml : c.maxLocals = 4) (hown : s.vm.findClass R_Mod = some m.cls) (hT : ∀ w ∈ TG, w.before args s = true) (hK : va_K (dC, dI) CL (TY cI cB cJ cZ) s) (hN : NW s) (hA : ∀ q : Nat, s.heap.size ≤ q → A q) (hRc : cells ≤ R.cells) (hRs : slots ≤ R.slots) (hRf : 2 ≤ R.frames) (hRl : 45 ≤ R.locals) (hret : ∀ (x : St) (H : Heap) (locs : List Loc) (pc : Nat) (ls : Array Slot), decode b_Mod_putEntry pc = .ok (.return_, 1) → post x → Wd dC dI cI cB cJ cZ ad stM kcM 115 A x H → va_S A s.heap H locs → W p l e R s m args below meth c H locs cells slots Q (F0 m pc ls [])) : ∀ (l1 : Int32) (l2 : Int32) (x : St) (H : Heap) (locs : List Loc) (ls : Array Slot), wp_Mod_putEntry post l1 l2 x → Wd dC dI cI cB cJ cZ ad stM kcM 115 A x H → va_S A s.heap H locs → lv_has ls 4 [(0, .ref (ad 0)), (1, .int l1), (2, .int l2)] → W p l e R s m args below meth c H locs cells slots Q (F0 m 0 ls []) := by
  intro l1 l2 x H locs ls  hw hW hS hl
  unfold wp_Mod_putEntry at hw
  refine lv_iload_n hx hb d_Mod_putEntry_0 rfl (lv_at hl 2 rfl) ?_
  refine lv_if_ne (tgt := 18) hx hb d_Mod_putEntry_1 (by decide) (fun c813 => ?_) (fun c813 => ?_)
  · have hw := hw.1 c813
    refine lv_iload_n hx hb d_Mod_putEntry_18 rfl (lv_at hl 2 rfl) ?_
    refine lv_iconst (v := 3) hx hb d_Mod_putEntry_19 (by decide) ?_
    refine lv_icmp_eq (tgt := 39) hx hb d_Mod_putEntry_20 (by decide) (fun c814 => ?_) (fun c814 => ?_)
    · have hw := hw.1 c814
      refine lv_aload_n hx hb d_Mod_putEntry_39 rfl (lv_at hl 0 rfl) ?_
      refine lv_aload_n hx hb d_Mod_putEntry_40 rfl (lv_at hl 0 rfl) ?_
      refine w_getf (q := 22) (k := 30) (t := 12) (C := R_Mod) (T := F_Mod) (N := 167) hx hb hT hown hK hW ko_0.1 ko_0.2 (by decide) in_Mod rfl rfl (by decide) rfl fr_Mod_30 w_8_210 d_Mod_putEntry_41 rfl ?_
      refine lv_iload_n hx hb d_Mod_putEntry_44 rfl (lv_at hl 1 rfl) ?_
      obtain ⟨hi, hw⟩ := hw
      refine w_iald (o := 22) hx hb hK hW ko_22.1 ko_22.2 hi d_Mod_putEntry_45 ?_
      refine lv_i2l hx hb d_Mod_putEntry_46 rfl ?_
      have hF := hW.free hS hA
      refine va_callv (va_runV (C := R_Mod) (As := [.long ((rA x 22 l1) : Int32).toInt64]) (rest := []) ⟨hx, hb, hml, hown, hT⟩ (k_Mod_putVarint l dC dI cI cB cJ cZ ad H.size ((rA x 22 l1) : Int32).toInt64 x  hw) ⟨callB_of 1 hT (gw_in w_11_198) rfl rfl rfl (hT _ w_1_15) (hT _ w_11_195) (by decide +kernel) ⟨Nat.le_trans (by decide) hRf, Nat.le_trans (by decide) hRl⟩, hT _ w_11_197, hT _ ws_153⟩ ⟨PW.blind, va_recv hK hW.1 (ci := 12) (q0 := 0) rfl (pic_obj ko_0.1 ko_0.2 (by decide)), PW.at _ hW hK hN⟩ rfl rfl hl.1 rfl (lv_room (Nat.le_of_ble_eq_true rfl)) d_Mod_putEntry_47 ⟨hRc, hRs⟩) hS (fun q _ h => hF q h) hF (fun  x815 t H locs ht hvm hw hB hz1 hk1 hS => ?_)
      have hW := Wd.back hB ht hF
      clear hB ht hF hz1 hk1 hvm
      refine lv_iconst (v := 0) hx hb d_Mod_putEntry_50 (by decide) ?_
      refine lv_istore_n (lv' := [(3, .int 0), (0, .ref (ad 0)), (1, .int l1), (2, .int l2)]) hx hb d_Mod_putEntry_51 rfl hl (by decide) rfl (fun ls hl => ?_)
      obtain ⟨n, hw⟩ := hw
      exact tl_Mod_putEntry_52 hx hb hml hown hT hK hN hA hRc hRs hRf hRl hret  n l1 l2 0 x815 H locs ls  hw hW hS (lv_sub hl [1, 2, 3, 0] rfl)
    · have hw := hw.2 c814
      refine lv_aload_n hx hb d_Mod_putEntry_23 rfl (lv_at hl 0 rfl) ?_
      refine lv_aload_n hx hb d_Mod_putEntry_24 rfl (lv_at hl 0 rfl) ?_
      refine w_getf (q := 25) (k := 33) (t := 12) (C := R_Mod) (T := F_Mod) (N := 167) hx hb hT hown hK hW ko_0.1 ko_0.2 (by decide) in_Mod rfl rfl (by decide) rfl fr_Mod_33 w_8_213 d_Mod_putEntry_25 rfl ?_
      refine lv_iload_n hx hb d_Mod_putEntry_28 rfl (lv_at hl 1 rfl) ?_
      obtain ⟨hi, hw⟩ := hw
      refine w_lald (o := 25) hx hb hK hW ko_25.1 ko_25.2 hi d_Mod_putEntry_29 ?_
      have hF := hW.free hS hA
      refine va_calll (va_runS (As := [.long (rL x 25 l1)]) (rest := [.ref (ad 0)]) ⟨hx, hb, hml, hown, hT⟩ (k_Mod_zigzag l dC dI cI cB cJ cZ ad H.size (rL x 25 l1) x  hw) ⟨callB_of 1 hT (gw_in w_11_222) rfl rfl rfl (hT _ w_1_15) (hT _ w_11_220) (by decide +kernel) ⟨Nat.le_trans (by decide) hRf, Nat.le_trans (by decide) hRl⟩, hT _ w_11_221⟩ ⟨PW.blind, PW.at _ hW hK hN⟩ rfl rfl hl.1 rfl (lv_room (Nat.le_of_ble_eq_true rfl)) d_Mod_putEntry_30 ⟨hRc, hRs⟩) hS (fun q _ h => hF q h) hF (fun r817 x816 t H locs ht hvm hw hB hz1 hk1 hS => ?_)
      have hW := Wd.back hB ht hF
      clear hB ht hF hz1 hk1 hvm
      have hF := hW.free hS hA
      refine va_callv (va_runV (C := R_Mod) (As := [.long r817]) (rest := []) ⟨hx, hb, hml, hown, hT⟩ (k_Mod_putVarint l dC dI cI cB cJ cZ ad H.size r817 x816  hw) ⟨callB_of 1 hT (gw_in w_11_198) rfl rfl rfl (hT _ w_1_15) (hT _ w_11_195) (by decide +kernel) ⟨Nat.le_trans (by decide) hRf, Nat.le_trans (by decide) hRl⟩, hT _ w_11_197, hT _ ws_153⟩ ⟨PW.blind, va_recv hK hW.1 (ci := 12) (q0 := 0) rfl (pic_obj ko_0.1 ko_0.2 (by decide)), PW.at _ hW hK hN⟩ rfl rfl hl.1 rfl (lv_room (Nat.le_of_ble_eq_true rfl)) d_Mod_putEntry_33 ⟨hRc, hRs⟩) hS (fun q _ h => hF q h) hF (fun  x818 t H locs ht hvm hw hB hz1 hk1 hS => ?_)
      have hW := Wd.back hB ht hF
      clear hB ht hF hz1 hk1 hvm
      refine lv_goto (tgt := 85) hx hb d_Mod_putEntry_36 (by decide) ?_
      exact hret x818 H locs 85 ls d_Mod_putEntry_85 hw hW hS
  · have hw := hw.2 c813
    refine lv_aload_n hx hb d_Mod_putEntry_4 rfl (lv_at hl 0 rfl) ?_
    refine lv_aload_n hx hb d_Mod_putEntry_5 rfl (lv_at hl 0 rfl) ?_
    refine w_getf (q := 25) (k := 33) (t := 12) (C := R_Mod) (T := F_Mod) (N := 167) hx hb hT hown hK hW ko_0.1 ko_0.2 (by decide) in_Mod rfl rfl (by decide) rfl fr_Mod_33 w_8_213 d_Mod_putEntry_6 rfl ?_
    refine lv_iload_n hx hb d_Mod_putEntry_9 rfl (lv_at hl 1 rfl) ?_
    obtain ⟨hi, hw⟩ := hw
    refine w_lald (o := 25) hx hb hK hW ko_25.1 ko_25.2 hi d_Mod_putEntry_10 ?_
    refine lv_l2i hx hb d_Mod_putEntry_11 rfl ?_
    have hF := hW.free hS hA
    refine va_callv (va_runV (C := R_Mod) (As := [.int ((rL x 25 l1) : Int64).toInt32]) (rest := []) ⟨hx, hb, hml, hown, hT⟩ (k_Mod_put l dC dI cI cB cJ cZ ad H.size ((rL x 25 l1) : Int64).toInt32 x  hw) ⟨callB_of 1 hT (gw_in w_11_203) rfl rfl rfl (hT _ w_1_15) (hT _ w_11_200) (by decide +kernel) ⟨Nat.le_trans (by decide) hRf, Nat.le_trans (by decide) hRl⟩, hT _ w_11_202, hT _ ws_154⟩ ⟨PW.blind, va_recv hK hW.1 (ci := 12) (q0 := 0) rfl (pic_obj ko_0.1 ko_0.2 (by decide)), PW.at _ hW hK hN⟩ rfl rfl hl.1 rfl (lv_room (Nat.le_of_ble_eq_true rfl)) d_Mod_putEntry_12 ⟨hRc, hRs⟩) hS (fun q _ h => hF q h) hF (fun  x819 t H locs ht hvm hw hB hz1 hk1 hS => ?_)
    have hW := Wd.back hB ht hF
    clear hB ht hF hz1 hk1 hvm
    refine lv_goto (tgt := 85) hx hb d_Mod_putEntry_15 (by decide) ?_
    exact hret x819 H locs 85 ls d_Mod_putEntry_85 hw hW hS
set_option maxHeartbeats 4000000 in
set_option maxRecDepth 100000 in
theorem k_Mod_putEntry (l : Launch) (dC : Nat → ClassId) (dI : Nat → Nat → Nat) (cI cB cJ cZ : ClassId) (ad : Nat → Nat) (sz : Nat) (l1 : Int32) (l2 : Int32) (x : St) {post : St → Prop} (hw : wp_Mod_putEntry post l1 l2 x) : Met l y_Mod_putEntry (wsOf y_Mod_putEntry b_Mod_putEntry 4 (none)) ({ frames := 2, cells := 0, slots := 0, locals := 45 }) (va_Pc [.ref (ad 0), .int l1, .int l2] (PW dC dI cI cB cJ cZ ad stM kcM 115 sz x)) (va_Qv (fun (y : St) => post y) (fun y t => Wd dC dI cI cB cJ cZ ad stM kcM 115 (va_A (pic ad stM kcM 115 cI cB cJ cZ x) sz) y t.heap) (va_A (pic ad stM kcM 115 cI cB cJ cZ x) sz)) 0 0 (va_A (pic ad stM kcM 115 cI cB cJ cZ x) sz) := by
  refine Met.ofW (cc := b_Mod_putEntry) (maxL := 4) (ret := none) (by decide) rfl ?_
  intro p e s m args below meth c s₁ B hml hv
  obtain ⟨rfl, hsz, hW0, hK, hN⟩ := hv
  have hx := B.exec
  have hb := B.bytes
  have hr := B.returns
  have hts := atoms_spec B.pre
  have hT : ∀ w ∈ TG, w.before _ s = true := fun w h => hts w (List.mem_cons_of_mem _ h)
  have hown : s.vm.findClass R_Mod = some m.cls := findClass_of_methodNamed B.named
  have hlocks := B.notSynchronized
  subst hsz
  have hW : Wd dC dI cI cB cJ cZ ad stM kcM 115 (va_A (pic ad stM kcM 115 cI cB cJ cZ x) s.heap.size) x s.heap := ⟨hW0.1, hW0.2.1.self (sz := s.heap.size), hW0.2.2⟩
  generalize hAe : va_A (pic ad stM kcM 115 cI cB cJ cZ x) s.heap.size = A at hW ⊢
  have hA : ∀ q : Nat, s.heap.size ≤ q → A q := fun q h => by rw [← hAe]; exact Or.inr h
  have hS : va_S A s.heap s.heap [] := va_S.rf
  have hl := lv_entry ([.ref (ad 0), .int l1, .int l2]) (n := 4) (Nat.le_of_ble_eq_true rfl)
  rw [lg_entry_eq]
  generalize (lg_sl ([.ref (ad 0), .int l1, .int l2]) ++ List.replicate (4 - (lg_sl ([.ref (ad 0), .int l1, .int l2])).length) Slot.unset).toArray = ls at hl ⊢
  have hl : lv_has ls 4 [(0, .ref (ad 0)), (1, .int l1), (2, .int l2)] := hl
  exact t_Mod_putEntry_e hx hb hml hown hT hK hN hA (Nat.le_refl 0) (Nat.le_refl 0) (Nat.le_refl 2) (Nat.le_refl 45) (fun x H locs pc ls hd hp hW hS => W.vret hx hb hr (fun t ht hM => ⟨⟨x, rfl, hp, Wd.back hW ht.symm (fun _ z => z)⟩, hS.F ht⟩) hS.2.2 hd hlocks)  l1 l2 x _ _ ls  hw hW hS hl
set_option maxRecDepth 100000 in
def j_Mod_putChunk_122 (post : St → Prop) (rec25 : Int32 → Int32 → Int32 → Int32 → Int32 → Int32 → Int32 → Int32 → Int32 → St → Prop) (l1 : Int32) (l2 : Int32) (l3 : Int32) (l4 : Int32) (l5 : Int32) (l6 : Int32) (l7 : Int32) (l8 : Int32) (l9 : Int32) (x : St) : Prop := rec25 l1 l2 l3 l4 l5 l6 l7 l8 (l9 + 1) x
set_option maxHeartbeats 4000000 in
set_option maxRecDepth 100000 in
theorem t_Mod_putChunk_122 {p : Program} {l : Launch} {e : Env} {R : Room} {s : State} {m : MethodId} {args : Array Value} {below : List Frame} {meth : Method} {c : Code} {cells slots : Nat} {Q : State → Prop} {dC : Nat → ClassId} {dI : Nat → Nat → Nat} {cI cB cJ cZ : ClassId} {A : Nat → Prop} {ad : Nat → Nat} {post : St → Prop} {rec25 : Int32 → Int32 → Int32 → Int32 → Int32 → Int32 → Int32 → Int32 → Int32 → St → Prop} (hx : p.tables.exec = Jvm.exec) (hb : c.code = b_Mod_putChunk) (hml : c.maxLocals = 10) (hown : s.vm.findClass R_Mod = some m.cls) (hT : ∀ w ∈ TG, w.before args s = true) (hK : va_K (dC, dI) CL (TY cI cB cJ cZ) s) (hN : NW s) (hA : ∀ q : Nat, s.heap.size ≤ q → A q) (hRc : cells ≤ R.cells) (hRs : slots ≤ R.slots) (hRf : 4 ≤ R.frames) (hRl : 90 ≤ R.locals) (hret : ∀ (x : St) (H : Heap) (locs : List Loc) (pc : Nat) (ls : Array Slot), decode b_Mod_putChunk pc = .ok (.return_, 1) → post x → Wd dC dI cI cB cJ cZ ad stM kcM 115 A x H → va_S A s.heap H locs → W p l e R s m args below meth c H locs cells slots Q (F0 m pc ls [])) (hrec25 : ∀ (l1 : Int32) (l2 : Int32) (l3 : Int32) (l4 : Int32) (l5 : Int32) (l6 : Int32) (l7 : Int32) (l8 : Int32) (l9 : Int32) (x : St) (H : Heap) (locs : List Loc) (ls : Array Slot), rec25 l1 l2 l3 l4 l5 l6 l7 l8 l9 x → Wd dC dI cI cB cJ cZ ad stM kcM 115 A x H → va_S A s.heap H locs → lv_has ls 10 [(0, .ref (ad 0)), (1, .int l1), (2, .int l2), (3, .int l3), (4, .int l4), (5, .int l5), (6, .int l6), (7, .int l7), (8, .int l8), (9, .int l9)] → W p l e R s m args below meth c H locs cells slots Q (F0 m 25 ls [])) : ∀ (l1 : Int32) (l2 : Int32) (l3 : Int32) (l4 : Int32) (l5 : Int32) (l6 : Int32) (l7 : Int32) (l8 : Int32) (l9 : Int32) (x : St) (H : Heap) (locs : List Loc) (ls : Array Slot), j_Mod_putChunk_122 post rec25 l1 l2 l3 l4 l5 l6 l7 l8 l9 x → Wd dC dI cI cB cJ cZ ad stM kcM 115 A x H → va_S A s.heap H locs → lv_has ls 10 [(0, .ref (ad 0)), (1, .int l1), (2, .int l2), (3, .int l3), (4, .int l4), (5, .int l5), (6, .int l6), (7, .int l7), (8, .int l8), (9, .int l9)] → W p l e R s m args below meth c H locs cells slots Q (F0 m 122 ls []) := by
  intro l1 l2 l3 l4 l5 l6 l7 l8 l9 x H locs ls  hw hW hS hl
  unfold j_Mod_putChunk_122 at hw
  refine lv_iinc (v := (l9 + 1)) (lv' := [(9, .int (l9 + 1)), (0, .ref (ad 0)), (1, .int l1), (2, .int l2), (3, .int l3), (4, .int l4), (5, .int l5), (6, .int l6), (7, .int l7), (8, .int l8)]) hx hb d_Mod_putChunk_122 hl (k := 9) rfl rfl (by decide) rfl (fun ls hl => ?_)
  refine lv_goto (tgt := 25) hx hb d_Mod_putChunk_125 (by decide) ?_
  exact hrec25 l1 l2 l3 l4 l5 l6 l7 l8 (l9 + 1) x H locs ls  hw hW hS (lv_sub hl [1, 2, 3, 4, 5, 6, 7, 8, 9, 0] rfl)
set_option maxRecDepth 100000 in
def j_Mod_putChunk_120 (post : St → Prop) (rec25 : Int32 → Int32 → Int32 → Int32 → Int32 → Int32 → Int32 → Int32 → Int32 → St → Prop) (l1 : Int32) (l2 : Int32) (l3 : Int32) (l4 : Int32) (l5 : Int32) (l6 : Int32) (l7 : Int32) (l8 : Int32) (l9 : Int32) (s0 : Int32) (x : St) : Prop := j_Mod_putChunk_122 post rec25 l1 l2 l3 l4 l5 s0 l7 l8 l9 x
set_option maxHeartbeats 4000000 in
set_option maxRecDepth 100000 in
theorem t_Mod_putChunk_120 {p : Program} {l : Launch} {e : Env} {R : Room} {s : State} {m : MethodId} {args : Array Value} {below : List Frame} {meth : Method} {c : Code} {cells slots : Nat} {Q : State → Prop} {dC : Nat → ClassId} {dI : Nat → Nat → Nat} {cI cB cJ cZ : ClassId} {A : Nat → Prop} {ad : Nat → Nat} {post : St → Prop} {rec25 : Int32 → Int32 → Int32 → Int32 → Int32 → Int32 → Int32 → Int32 → Int32 → St → Prop} (hx : p.tables.exec = Jvm.exec) (hb : c.code = b_Mod_putChunk) (hml : c.maxLocals = 10) (hown : s.vm.findClass R_Mod = some m.cls) (hT : ∀ w ∈ TG, w.before args s = true) (hK : va_K (dC, dI) CL (TY cI cB cJ cZ) s) (hN : NW s) (hA : ∀ q : Nat, s.heap.size ≤ q → A q) (hRc : cells ≤ R.cells) (hRs : slots ≤ R.slots) (hRf : 4 ≤ R.frames) (hRl : 90 ≤ R.locals) (hret : ∀ (x : St) (H : Heap) (locs : List Loc) (pc : Nat) (ls : Array Slot), decode b_Mod_putChunk pc = .ok (.return_, 1) → post x → Wd dC dI cI cB cJ cZ ad stM kcM 115 A x H → va_S A s.heap H locs → W p l e R s m args below meth c H locs cells slots Q (F0 m pc ls [])) (hrec25 : ∀ (l1 : Int32) (l2 : Int32) (l3 : Int32) (l4 : Int32) (l5 : Int32) (l6 : Int32) (l7 : Int32) (l8 : Int32) (l9 : Int32) (x : St) (H : Heap) (locs : List Loc) (ls : Array Slot), rec25 l1 l2 l3 l4 l5 l6 l7 l8 l9 x → Wd dC dI cI cB cJ cZ ad stM kcM 115 A x H → va_S A s.heap H locs → lv_has ls 10 [(0, .ref (ad 0)), (1, .int l1), (2, .int l2), (3, .int l3), (4, .int l4), (5, .int l5), (6, .int l6), (7, .int l7), (8, .int l8), (9, .int l9)] → W p l e R s m args below meth c H locs cells slots Q (F0 m 25 ls [])) : ∀ (l1 : Int32) (l2 : Int32) (l3 : Int32) (l4 : Int32) (l5 : Int32) (l6 : Int32) (l7 : Int32) (l8 : Int32) (l9 : Int32) (s0 : Int32) (x : St) (H : Heap) (locs : List Loc) (ls : Array Slot), j_Mod_putChunk_120 post rec25 l1 l2 l3 l4 l5 l6 l7 l8 l9 s0 x → Wd dC dI cI cB cJ cZ ad stM kcM 115 A x H → va_S A s.heap H locs → lv_has ls 10 [(0, .ref (ad 0)), (1, .int l1), (2, .int l2), (3, .int l3), (4, .int l4), (5, .int l5), (6, .int l6), (7, .int l7), (8, .int l8), (9, .int l9)] → W p l e R s m args below meth c H locs cells slots Q (F0 m 120 ls [.int s0]) := by
  intro l1 l2 l3 l4 l5 l6 l7 l8 l9 s0 x H locs ls  hw hW hS hl
  unfold j_Mod_putChunk_120 at hw
  refine lv_istore (lv' := [(6, .int s0), (0, .ref (ad 0)), (1, .int l1), (2, .int l2), (3, .int l3), (4, .int l4), (5, .int l5), (7, .int l7), (8, .int l8), (9, .int l9)]) hx hb d_Mod_putChunk_120 hl (by decide) rfl (fun ls hl => ?_)
  exact t_Mod_putChunk_122 hx hb hml hown hT hK hN hA hRc hRs hRf hRl hret hrec25 l1 l2 l3 l4 l5 s0 l7 l8 l9 x H locs ls  hw hW hS (lv_sub hl [1, 2, 3, 4, 5, 6, 0, 7, 8, 9] rfl)
set_option maxRecDepth 100000 in
def j_Mod_putChunk_113 (post : St → Prop) (rec25 : Int32 → Int32 → Int32 → Int32 → Int32 → Int32 → Int32 → Int32 → Int32 → St → Prop) (l1 : Int32) (l2 : Int32) (l3 : Int32) (l4 : Int32) (l5 : Int32) (l6 : Int32) (l7 : Int32) (l8 : Int32) (l9 : Int32) (x : St) : Prop := j_Mod_putChunk_120 post rec25 l1 l2 l3 l4 l5 l6 l7 l8 l9 l9 x
set_option maxHeartbeats 4000000 in
set_option maxRecDepth 100000 in
theorem t_Mod_putChunk_113 {p : Program} {l : Launch} {e : Env} {R : Room} {s : State} {m : MethodId} {args : Array Value} {below : List Frame} {meth : Method} {c : Code} {cells slots : Nat} {Q : State → Prop} {dC : Nat → ClassId} {dI : Nat → Nat → Nat} {cI cB cJ cZ : ClassId} {A : Nat → Prop} {ad : Nat → Nat} {post : St → Prop} {rec25 : Int32 → Int32 → Int32 → Int32 → Int32 → Int32 → Int32 → Int32 → Int32 → St → Prop} (hx : p.tables.exec = Jvm.exec) (hb : c.code = b_Mod_putChunk) (hml : c.maxLocals = 10) (hown : s.vm.findClass R_Mod = some m.cls) (hT : ∀ w ∈ TG, w.before args s = true) (hK : va_K (dC, dI) CL (TY cI cB cJ cZ) s) (hN : NW s) (hA : ∀ q : Nat, s.heap.size ≤ q → A q) (hRc : cells ≤ R.cells) (hRs : slots ≤ R.slots) (hRf : 4 ≤ R.frames) (hRl : 90 ≤ R.locals) (hret : ∀ (x : St) (H : Heap) (locs : List Loc) (pc : Nat) (ls : Array Slot), decode b_Mod_putChunk pc = .ok (.return_, 1) → post x → Wd dC dI cI cB cJ cZ ad stM kcM 115 A x H → va_S A s.heap H locs → W p l e R s m args below meth c H locs cells slots Q (F0 m pc ls [])) (hrec25 : ∀ (l1 : Int32) (l2 : Int32) (l3 : Int32) (l4 : Int32) (l5 : Int32) (l6 : Int32) (l7 : Int32) (l8 : Int32) (l9 : Int32) (x : St) (H : Heap) (locs : List Loc) (ls : Array Slot), rec25 l1 l2 l3 l4 l5 l6 l7 l8 l9 x → Wd dC dI cI cB cJ cZ ad stM kcM 115 A x H → va_S A s.heap H locs → lv_has ls 10 [(0, .ref (ad 0)), (1, .int l1), (2, .int l2), (3, .int l3), (4, .int l4), (5, .int l5), (6, .int l6), (7, .int l7), (8, .int l8), (9, .int l9)] → W p l e R s m args below meth c H locs cells slots Q (F0 m 25 ls [])) : ∀ (l1 : Int32) (l2 : Int32) (l3 : Int32) (l4 : Int32) (l5 : Int32) (l6 : Int32) (l7 : Int32) (l8 : Int32) (l9 : Int32) (x : St) (H : Heap) (locs : List Loc) (ls : Array Slot), j_Mod_putChunk_113 post rec25 l1 l2 l3 l4 l5 l6 l7 l8 l9 x → Wd dC dI cI cB cJ cZ ad stM kcM 115 A x H → va_S A s.heap H locs → lv_has ls 10 [(0, .ref (ad 0)), (1, .int l1), (2, .int l2), (3, .int l3), (4, .int l4), (5, .int l5), (6, .int l6), (7, .int l7), (8, .int l8), (9, .int l9)] → W p l e R s m args below meth c H locs cells slots Q (F0 m 113 ls []) := by
  intro l1 l2 l3 l4 l5 l6 l7 l8 l9 x H locs ls  hw hW hS hl
  unfold j_Mod_putChunk_113 at hw
  refine lv_iload hx hb d_Mod_putChunk_113 (lv_at hl 9 rfl) ?_
  refine lv_goto (tgt := 120) hx hb d_Mod_putChunk_115 (by decide) ?_
  exact t_Mod_putChunk_120 hx hb hml hown hT hK hN hA hRc hRs hRf hRl hret hrec25 l1 l2 l3 l4 l5 l6 l7 l8 l9 l9 x H locs ls  hw hW hS (lv_sub hl [0, 1, 2, 3, 4, 5, 6, 7, 8, 9] rfl)
set_option maxRecDepth 100000 in
def j_Mod_putChunk_92 (post : St → Prop) (rec25 : Int32 → Int32 → Int32 → Int32 → Int32 → Int32 → Int32 → Int32 → Int32 → St → Prop) (l1 : Int32) (l2 : Int32) (l3 : Int32) (l4 : Int32) (l5 : Int32) (l6 : Int32) (l7 : Int32) (l8 : Int32) (l9 : Int32) (s0 : Int32) (x : St) : Prop := ((l6 = (-1) → j_Mod_putChunk_113 post rec25 l1 l2 l3 l4 s0 l6 l7 l8 l9 x) ∧ (¬ l6 = (-1) → wp_Mod_against2 (fun (r822 : Int32) (x821 : St) => ((r822 ≤ 0 → j_Mod_putChunk_120 post rec25 l1 l2 l3 l4 s0 l6 l7 l8 l9 l6 x821) ∧ (¬ r822 ≤ 0 → j_Mod_putChunk_113 post rec25 l1 l2 l3 l4 s0 l6 l7 l8 l9 x821))) l9 l6 l8 x))
set_option maxHeartbeats 4000000 in
set_option maxRecDepth 100000 in
theorem t_Mod_putChunk_92 {p : Program} {l : Launch} {e : Env} {R : Room} {s : State} {m : MethodId} {args : Array Value} {below : List Frame} {meth : Method} {c : Code} {cells slots : Nat} {Q : State → Prop} {dC : Nat → ClassId} {dI : Nat → Nat → Nat} {cI cB cJ cZ : ClassId} {A : Nat → Prop} {ad : Nat → Nat} {post : St → Prop} {rec25 : Int32 → Int32 → Int32 → Int32 → Int32 → Int32 → Int32 → Int32 → Int32 → St → Prop} (hx : p.tables.exec = Jvm.exec) (hb : c.code = b_Mod_putChunk) (hml : c.maxLocals = 10) (hown : s.vm.findClass R_Mod = some m.cls) (hT : ∀ w ∈ TG, w.before args s = true) (hK : va_K (dC, dI) CL (TY cI cB cJ cZ) s) (hN : NW s) (hA : ∀ q : Nat, s.heap.size ≤ q → A q) (hRc : cells ≤ R.cells) (hRs : slots ≤ R.slots) (hRf : 4 ≤ R.frames) (hRl : 90 ≤ R.locals) (hret : ∀ (x : St) (H : Heap) (locs : List Loc) (pc : Nat) (ls : Array Slot), decode b_Mod_putChunk pc = .ok (.return_, 1) → post x → Wd dC dI cI cB cJ cZ ad stM kcM 115 A x H → va_S A s.heap H locs → W p l e R s m args below meth c H locs cells slots Q (F0 m pc ls [])) (hrec25 : ∀ (l1 : Int32) (l2 : Int32) (l3 : Int32) (l4 : Int32) (l5 : Int32) (l6 : Int32) (l7 : Int32) (l8 : Int32) (l9 : Int32) (x : St) (H : Heap) (locs : List Loc) (ls : Array Slot), rec25 l1 l2 l3 l4 l5 l6 l7 l8 l9 x → Wd dC dI cI cB cJ cZ ad stM kcM 115 A x H → va_S A s.heap H locs → lv_has ls 10 [(0, .ref (ad 0)), (1, .int l1), (2, .int l2), (3, .int l3), (4, .int l4), (5, .int l5), (6, .int l6), (7, .int l7), (8, .int l8), (9, .int l9)] → W p l e R s m args below meth c H locs cells slots Q (F0 m 25 ls [])) : ∀ (l1 : Int32) (l2 : Int32) (l3 : Int32) (l4 : Int32) (l5 : Int32) (l6 : Int32) (l7 : Int32) (l8 : Int32) (l9 : Int32) (s0 : Int32) (x : St) (H : Heap) (locs : List Loc) (ls : Array Slot), j_Mod_putChunk_92 post rec25 l1 l2 l3 l4 l5 l6 l7 l8 l9 s0 x → Wd dC dI cI cB cJ cZ ad stM kcM 115 A x H → va_S A s.heap H locs → lv_has ls 10 [(0, .ref (ad 0)), (1, .int l1), (2, .int l2), (3, .int l3), (4, .int l4), (5, .int l5), (6, .int l6), (7, .int l7), (8, .int l8), (9, .int l9)] → W p l e R s m args below meth c H locs cells slots Q (F0 m 92 ls [.int s0]) := by
  intro l1 l2 l3 l4 l5 l6 l7 l8 l9 s0 x H locs ls  hw hW hS hl
  unfold j_Mod_putChunk_92 at hw
  refine lv_istore (lv' := [(5, .int s0), (0, .ref (ad 0)), (1, .int l1), (2, .int l2), (3, .int l3), (4, .int l4), (6, .int l6), (7, .int l7), (8, .int l8), (9, .int l9)]) hx hb d_Mod_putChunk_92 hl (by decide) rfl (fun ls hl => ?_)
  refine lv_iload hx hb d_Mod_putChunk_94 (lv_at hl 6 rfl) ?_
  refine lv_iconst (v := (-1)) hx hb d_Mod_putChunk_96 (by decide) ?_
  refine lv_icmp_eq (tgt := 113) hx hb d_Mod_putChunk_97 (by decide) (fun c820 => ?_) (fun c820 => ?_)
  · have hw := hw.1 c820
    exact t_Mod_putChunk_113 hx hb hml hown hT hK hN hA hRc hRs hRf hRl hret hrec25 l1 l2 l3 l4 s0 l6 l7 l8 l9 x H locs ls  hw hW hS (lv_sub hl [1, 2, 3, 4, 5, 0, 6, 7, 8, 9] rfl)
  · have hw := hw.2 c820
    refine lv_aload_n hx hb d_Mod_putChunk_100 rfl (lv_at hl 1 rfl) ?_
    refine lv_iload hx hb d_Mod_putChunk_101 (lv_at hl 9 rfl) ?_
    refine lv_iload hx hb d_Mod_putChunk_103 (lv_at hl 6 rfl) ?_
    refine lv_iload hx hb d_Mod_putChunk_105 (lv_at hl 8 rfl) ?_
    have hF := hW.free hS hA
    refine va_calli (va_runV (C := R_Mod) (As := [.int l9, .int l6, .int l8]) (rest := []) ⟨hx, hb, hml, hown, hT⟩ (k_Mod_against2 l dC dI cI cB cJ cZ ad H.size l9 l6 l8 x  hw) ⟨callB_of 3 hT (gw_in w_12_75) rfl rfl rfl (hT _ w_1_15) (hT _ w_12_72) (by decide +kernel) ⟨Nat.le_trans (by decide) hRf, Nat.le_trans (by decide) hRl⟩, hT _ w_12_74, hT _ ws_180⟩ ⟨PW.blind, va_recv hK hW.1 (ci := 12) (q0 := 0) rfl (pic_obj ko_0.1 ko_0.2 (by decide)), PW.at _ hW hK hN⟩ rfl rfl hl.1 rfl (lv_room (Nat.le_of_ble_eq_true rfl)) d_Mod_putChunk_107 ⟨hRc, hRs⟩) hS (fun q _ h => hF q h) hF (fun r822 x821 t H locs ht hvm hw hB hz1 hk1 hS => ?_)
    have hW := Wd.back hB ht hF
    clear hB ht hF hz1 hk1 hvm
    refine lv_if_le (tgt := 118) hx hb d_Mod_putChunk_110 (by decide) (fun c823 => ?_) (fun c823 => ?_)
    · have hw := hw.1 c823
      refine lv_iload hx hb d_Mod_putChunk_118 (lv_at hl 6 rfl) ?_
      exact t_Mod_putChunk_120 hx hb hml hown hT hK hN hA hRc hRs hRf hRl hret hrec25 l1 l2 l3 l4 s0 l6 l7 l8 l9 l6 x821 H locs ls  hw hW hS (lv_sub hl [1, 2, 3, 4, 5, 0, 6, 7, 8, 9] rfl)
    · have hw := hw.2 c823
      exact t_Mod_putChunk_113 hx hb hml hown hT hK hN hA hRc hRs hRf hRl hret hrec25 l1 l2 l3 l4 s0 l6 l7 l8 l9 x821 H locs ls  hw hW hS (lv_sub hl [1, 2, 3, 4, 5, 0, 6, 7, 8, 9] rfl)
set_option maxRecDepth 100000 in
def j_Mod_putChunk_85 (post : St → Prop) (rec25 : Int32 → Int32 → Int32 → Int32 → Int32 → Int32 → Int32 → Int32 → Int32 → St → Prop) (l1 : Int32) (l2 : Int32) (l3 : Int32) (l4 : Int32) (l5 : Int32) (l6 : Int32) (l7 : Int32) (l8 : Int32) (l9 : Int32) (x : St) : Prop := j_Mod_putChunk_92 post rec25 l1 l2 l3 l4 l5 l6 l7 l8 l9 l9 x
set_option maxHeartbeats 4000000 in
set_option maxRecDepth 100000 in
theorem t_Mod_putChunk_85 {p : Program} {l : Launch} {e : Env} {R : Room} {s : State} {m : MethodId} {args : Array Value} {below : List Frame} {meth : Method} {c : Code} {cells slots : Nat} {Q : State → Prop} {dC : Nat → ClassId} {dI : Nat → Nat → Nat} {cI cB cJ cZ : ClassId} {A : Nat → Prop} {ad : Nat → Nat} {post : St → Prop} {rec25 : Int32 → Int32 → Int32 → Int32 → Int32 → Int32 → Int32 → Int32 → Int32 → St → Prop} (hx : p.tables.exec = Jvm.exec) (hb : c.code = b_Mod_putChunk) (hml : c.maxLocals = 10) (hown : s.vm.findClass R_Mod = some m.cls) (hT : ∀ w ∈ TG, w.before args s = true) (hK : va_K (dC, dI) CL (TY cI cB cJ cZ) s) (hN : NW s) (hA : ∀ q : Nat, s.heap.size ≤ q → A q) (hRc : cells ≤ R.cells) (hRs : slots ≤ R.slots) (hRf : 4 ≤ R.frames) (hRl : 90 ≤ R.locals) (hret : ∀ (x : St) (H : Heap) (locs : List Loc) (pc : Nat) (ls : Array Slot), decode b_Mod_putChunk pc = .ok (.return_, 1) → post x → Wd dC dI cI cB cJ cZ ad stM kcM 115 A x H → va_S A s.heap H locs → W p l e R s m args below meth c H locs cells slots Q (F0 m pc ls [])) (hrec25 : ∀ (l1 : Int32) (l2 : Int32) (l3 : Int32) (l4 : Int32) (l5 : Int32) (l6 : Int32) (l7 : Int32) (l8 : Int32) (l9 : Int32) (x : St) (H : Heap) (locs : List Loc) (ls : Array Slot), rec25 l1 l2 l3 l4 l5 l6 l7 l8 l9 x → Wd dC dI cI cB cJ cZ ad stM kcM 115 A x H → va_S A s.heap H locs → lv_has ls 10 [(0, .ref (ad 0)), (1, .int l1), (2, .int l2), (3, .int l3), (4, .int l4), (5, .int l5), (6, .int l6), (7, .int l7), (8, .int l8), (9, .int l9)] → W p l e R s m args below meth c H locs cells slots Q (F0 m 25 ls [])) : ∀ (l1 : Int32) (l2 : Int32) (l3 : Int32) (l4 : Int32) (l5 : Int32) (l6 : Int32) (l7 : Int32) (l8 : Int32) (l9 : Int32) (x : St) (H : Heap) (locs : List Loc) (ls : Array Slot), j_Mod_putChunk_85 post rec25 l1 l2 l3 l4 l5 l6 l7 l8 l9 x → Wd dC dI cI cB cJ cZ ad stM kcM 115 A x H → va_S A s.heap H locs → lv_has ls 10 [(0, .ref (ad 0)), (1, .int l1), (2, .int l2), (3, .int l3), (4, .int l4), (5, .int l5), (6, .int l6), (7, .int l7), (8, .int l8), (9, .int l9)] → W p l e R s m args below meth c H locs cells slots Q (F0 m 85 ls []) := by
  intro l1 l2 l3 l4 l5 l6 l7 l8 l9 x H locs ls  hw hW hS hl
  unfold j_Mod_putChunk_85 at hw
  refine lv_iload hx hb d_Mod_putChunk_85 (lv_at hl 9 rfl) ?_
  refine lv_goto (tgt := 92) hx hb d_Mod_putChunk_87 (by decide) ?_
  exact t_Mod_putChunk_92 hx hb hml hown hT hK hN hA hRc hRs hRf hRl hret hrec25 l1 l2 l3 l4 l5 l6 l7 l8 l9 l9 x H locs ls  hw hW hS (lv_sub hl [0, 1, 2, 3, 4, 5, 6, 7, 8, 9] rfl)
set_option maxRecDepth 100000 in
def j_Mod_putChunk_25 (post : St → Prop) (rec25 : Int32 → Int32 → Int32 → Int32 → Int32 → Int32 → Int32 → Int32 → Int32 → St → Prop) (l1 : Int32) (l2 : Int32) (l3 : Int32) (l4 : Int32) (l5 : Int32) (l6 : Int32) (l7 : Int32) (l8 : Int32) (l9 : Int32) (x : St) : Prop := (vp_in l4 (fN x 23) ∧ (((rA x 23 l4) ≤ l9 → (vp_in l1 (fN x 50) ∧ wp_Mod_putVarint (fun (x825 : St) => (vp_in l1 (fN x825 51) ∧ wp_Mod_putVarint (fun (x826 : St) => wp_Mod_many (fun (r828 : Int32) (x827 : St) => wp_Mod_putVarint (fun (x829 : St) => wp_Mod_putVarint (fun (x830 : St) => ((¬ l5 = (-1) → wp_Mod_putEntry (fun (x832 : St) => wp_Mod_putEntry (fun (x833 : St) => post x833) l6 l8 x832) l5 l8 x830) ∧ (l5 = (-1) → post x830))) (l7 : Int32).toInt64 x829) (r828 : Int32).toInt64 x827) l2 l3 l4 x826) ((rA x825 51 l1) : Int32).toInt64 x825)) ((rA x 50 l1) : Int32).toInt64 x)) ∧ (¬ (rA x 23 l4) ≤ l9 → (vp_in l9 (fN x 20) ∧ (((rA x 20 l9) = l2 → wp_Mod_has (fun (r836 : Int32) (x835 : St) => ((¬ r836 = 0 → ((l5 = (-1) → j_Mod_putChunk_85 post rec25 l1 l2 l3 l4 l5 l6 l7 l8 l9 x835) ∧ (¬ l5 = (-1) → wp_Mod_against2 (fun (r840 : Int32) (x839 : St) => ((0 ≤ r840 → j_Mod_putChunk_92 post rec25 l1 l2 l3 l4 l5 l6 l7 l8 l9 l5 x839) ∧ (¬ 0 ≤ r840 → j_Mod_putChunk_85 post rec25 l1 l2 l3 l4 l5 l6 l7 l8 l9 x839))) l9 l5 l8 x835))) ∧ (r836 = 0 → j_Mod_putChunk_122 post rec25 l1 l2 l3 l4 l5 l6 (l7 + 1) l8 l9 x835))) l9 x) ∧ (¬ (rA x 20 l9) = l2 → j_Mod_putChunk_122 post rec25 l1 l2 l3 l4 l5 l6 l7 l8 l9 x))))))
set_option maxHeartbeats 4000000 in
set_option maxRecDepth 100000 in
theorem t_Mod_putChunk_25 {p : Program} {l : Launch} {e : Env} {R : Room} {s : State} {m : MethodId} {args : Array Value} {below : List Frame} {meth : Method} {c : Code} {cells slots : Nat} {Q : State → Prop} {dC : Nat → ClassId} {dI : Nat → Nat → Nat} {cI cB cJ cZ : ClassId} {A : Nat → Prop} {ad : Nat → Nat} {post : St → Prop} {rec25 : Int32 → Int32 → Int32 → Int32 → Int32 → Int32 → Int32 → Int32 → Int32 → St → Prop} (hx : p.tables.exec = Jvm.exec) (hb : c.code = b_Mod_putChunk) (hml : c.maxLocals = 10) (hown : s.vm.findClass R_Mod = some m.cls) (hT : ∀ w ∈ TG, w.before args s = true) (hK : va_K (dC, dI) CL (TY cI cB cJ cZ) s) (hN : NW s) (hA : ∀ q : Nat, s.heap.size ≤ q → A q) (hRc : cells ≤ R.cells) (hRs : slots ≤ R.slots) (hRf : 4 ≤ R.frames) (hRl : 90 ≤ R.locals) (hret : ∀ (x : St) (H : Heap) (locs : List Loc) (pc : Nat) (ls : Array Slot), decode b_Mod_putChunk pc = .ok (.return_, 1) → post x → Wd dC dI cI cB cJ cZ ad stM kcM 115 A x H → va_S A s.heap H locs → W p l e R s m args below meth c H locs cells slots Q (F0 m pc ls [])) (hrec25 : ∀ (l1 : Int32) (l2 : Int32) (l3 : Int32) (l4 : Int32) (l5 : Int32) (l6 : Int32) (l7 : Int32) (l8 : Int32) (l9 : Int32) (x : St) (H : Heap) (locs : List Loc) (ls : Array Slot), rec25 l1 l2 l3 l4 l5 l6 l7 l8 l9 x → Wd dC dI cI cB cJ cZ ad stM kcM 115 A x H → va_S A s.heap H locs → lv_has ls 10 [(0, .ref (ad 0)), (1, .int l1), (2, .int l2), (3, .int l3), (4, .int l4), (5, .int l5), (6, .int l6), (7, .int l7), (8, .int l8), (9, .int l9)] → W p l e R s m args below meth c H locs cells slots Q (F0 m 25 ls [])) : ∀ (l1 : Int32) (l2 : Int32) (l3 : Int32) (l4 : Int32) (l5 : Int32) (l6 : Int32) (l7 : Int32) (l8 : Int32) (l9 : Int32) (x : St) (H : Heap) (locs : List Loc) (ls : Array Slot), j_Mod_putChunk_25 post rec25 l1 l2 l3 l4 l5 l6 l7 l8 l9 x → Wd dC dI cI cB cJ cZ ad stM kcM 115 A x H → va_S A s.heap H locs → lv_has ls 10 [(0, .ref (ad 0)), (1, .int l1), (2, .int l2), (3, .int l3), (4, .int l4), (5, .int l5), (6, .int l6), (7, .int l7), (8, .int l8), (9, .int l9)] → W p l e R s m args below meth c H locs cells slots Q (F0 m 25 ls []) := by
  intro l1 l2 l3 l4 l5 l6 l7 l8 l9 x H locs ls  hw hW hS hl
  unfold j_Mod_putChunk_25 at hw
  refine lv_iload hx hb d_Mod_putChunk_25 (lv_at hl 9 rfl) ?_
  refine lv_aload_n hx hb d_Mod_putChunk_27 rfl (lv_at hl 0 rfl) ?_
  refine w_getf (q := 23) (k := 31) (t := 12) (C := R_Mod) (T := F_Mod) (N := 167) hx hb hT hown hK hW ko_0.1 ko_0.2 (by decide) in_Mod rfl rfl (by decide) rfl fr_Mod_31 w_8_211 d_Mod_putChunk_28 rfl ?_
  refine lv_iload hx hb d_Mod_putChunk_31 (lv_at hl 4 rfl) ?_
  obtain ⟨hi, hw⟩ := hw
  refine w_iald (o := 23) hx hb hK hW ko_23.1 ko_23.2 hi d_Mod_putChunk_33 ?_
  refine lv_icmp_ge (tgt := 128) hx hb d_Mod_putChunk_34 (by decide) (fun c824 => ?_) (fun c824 => ?_)
  · have hw := hw.1 c824
    refine lv_aload_n hx hb d_Mod_putChunk_128 rfl (lv_at hl 0 rfl) ?_
    refine lv_aload_n hx hb d_Mod_putChunk_129 rfl (lv_at hl 0 rfl) ?_
    refine w_getf (q := 50) (k := 78) (t := 12) (C := R_Mod) (T := F_Mod) (N := 167) hx hb hT hown hK hW ko_0.1 ko_0.2 (by decide) in_Mod rfl rfl (by decide) rfl fr_Mod_78 w_9_18 d_Mod_putChunk_130 rfl ?_
    refine lv_iload_n hx hb d_Mod_putChunk_133 rfl (lv_at hl 1 rfl) ?_
    obtain ⟨hi, hw⟩ := hw
    refine w_iald (o := 50) hx hb hK hW ko_50.1 ko_50.2 hi d_Mod_putChunk_134 ?_
    refine lv_i2l hx hb d_Mod_putChunk_135 rfl ?_
    have hF := hW.free hS hA
    refine va_callv (va_runV (C := R_Mod) (As := [.long ((rA x 50 l1) : Int32).toInt64]) (rest := []) ⟨hx, hb, hml, hown, hT⟩ (k_Mod_putVarint l dC dI cI cB cJ cZ ad H.size ((rA x 50 l1) : Int32).toInt64 x  hw) ⟨callB_of 1 hT (gw_in w_11_198) rfl rfl rfl (hT _ w_1_15) (hT _ w_11_195) (by decide +kernel) ⟨Nat.le_trans (by decide) hRf, Nat.le_trans (by decide) hRl⟩, hT _ w_11_197, hT _ ws_153⟩ ⟨PW.blind, va_recv hK hW.1 (ci := 12) (q0 := 0) rfl (pic_obj ko_0.1 ko_0.2 (by decide)), PW.at _ hW hK hN⟩ rfl rfl hl.1 rfl (lv_room (Nat.le_of_ble_eq_true rfl)) d_Mod_putChunk_136 ⟨hRc, hRs⟩) hS (fun q _ h => hF q h) hF (fun  x825 t H locs ht hvm hw hB hz1 hk1 hS => ?_)
    have hW := Wd.back hB ht hF
    clear hB ht hF hz1 hk1 hvm
    refine lv_aload_n hx hb d_Mod_putChunk_139 rfl (lv_at hl 0 rfl) ?_
    refine lv_aload_n hx hb d_Mod_putChunk_140 rfl (lv_at hl 0 rfl) ?_
    refine w_getf (q := 51) (k := 79) (t := 12) (C := R_Mod) (T := F_Mod) (N := 167) hx hb hT hown hK hW ko_0.1 ko_0.2 (by decide) in_Mod rfl rfl (by decide) rfl fr_Mod_79 w_9_19 d_Mod_putChunk_141 rfl ?_
    refine lv_iload_n hx hb d_Mod_putChunk_144 rfl (lv_at hl 1 rfl) ?_
    obtain ⟨hi, hw⟩ := hw
    refine w_iald (o := 51) hx hb hK hW ko_51.1 ko_51.2 hi d_Mod_putChunk_145 ?_
    refine lv_i2l hx hb d_Mod_putChunk_146 rfl ?_
    have hF := hW.free hS hA
    refine va_callv (va_runV (C := R_Mod) (As := [.long ((rA x825 51 l1) : Int32).toInt64]) (rest := []) ⟨hx, hb, hml, hown, hT⟩ (k_Mod_putVarint l dC dI cI cB cJ cZ ad H.size ((rA x825 51 l1) : Int32).toInt64 x825  hw) ⟨callB_of 1 hT (gw_in w_11_198) rfl rfl rfl (hT _ w_1_15) (hT _ w_11_195) (by decide +kernel) ⟨Nat.le_trans (by decide) hRf, Nat.le_trans (by decide) hRl⟩, hT _ w_11_197, hT _ ws_153⟩ ⟨PW.blind, va_recv hK hW.1 (ci := 12) (q0 := 0) rfl (pic_obj ko_0.1 ko_0.2 (by decide)), PW.at _ hW hK hN⟩ rfl rfl hl.1 rfl (lv_room (Nat.le_of_ble_eq_true rfl)) d_Mod_putChunk_147 ⟨hRc, hRs⟩) hS (fun q _ h => hF q h) hF (fun  x826 t H locs ht hvm hw hB hz1 hk1 hS => ?_)
    have hW := Wd.back hB ht hF
    clear hB ht hF hz1 hk1 hvm
    refine lv_aload_n hx hb d_Mod_putChunk_150 rfl (lv_at hl 0 rfl) ?_
    refine lv_aload_n hx hb d_Mod_putChunk_151 rfl (lv_at hl 0 rfl) ?_
    refine lv_iload_n hx hb d_Mod_putChunk_152 rfl (lv_at hl 2 rfl) ?_
    refine lv_iload_n hx hb d_Mod_putChunk_153 rfl (lv_at hl 3 rfl) ?_
    refine lv_iload hx hb d_Mod_putChunk_154 (lv_at hl 4 rfl) ?_
    have hF := hW.free hS hA
    refine va_calli (va_runV (C := R_Mod) (As := [.int l2, .int l3, .int l4]) (rest := [.ref (ad 0)]) ⟨hx, hb, hml, hown, hT⟩ (k_Mod_many l dC dI cI cB cJ cZ ad H.size l2 l3 l4 x826  hw) ⟨callB_of 3 hT (gw_in w_11_150) rfl rfl rfl (hT _ w_1_15) (hT _ w_11_147) (by decide +kernel) ⟨Nat.le_trans (by decide) hRf, Nat.le_trans (by decide) hRl⟩, hT _ w_11_149, hT _ ws_142⟩ ⟨PW.blind, va_recv hK hW.1 (ci := 12) (q0 := 0) rfl (pic_obj ko_0.1 ko_0.2 (by decide)), PW.at _ hW hK hN⟩ rfl rfl hl.1 rfl (lv_room (Nat.le_of_ble_eq_true rfl)) d_Mod_putChunk_156 ⟨hRc, hRs⟩) hS (fun q _ h => hF q h) hF (fun r828 x827 t H locs ht hvm hw hB hz1 hk1 hS => ?_)
    have hW := Wd.back hB ht hF
    clear hB ht hF hz1 hk1 hvm
    refine lv_i2l hx hb d_Mod_putChunk_159 rfl ?_
    have hF := hW.free hS hA
    refine va_callv (va_runV (C := R_Mod) (As := [.long (r828 : Int32).toInt64]) (rest := []) ⟨hx, hb, hml, hown, hT⟩ (k_Mod_putVarint l dC dI cI cB cJ cZ ad H.size (r828 : Int32).toInt64 x827  hw) ⟨callB_of 1 hT (gw_in w_11_198) rfl rfl rfl (hT _ w_1_15) (hT _ w_11_195) (by decide +kernel) ⟨Nat.le_trans (by decide) hRf, Nat.le_trans (by decide) hRl⟩, hT _ w_11_197, hT _ ws_153⟩ ⟨PW.blind, va_recv hK hW.1 (ci := 12) (q0 := 0) rfl (pic_obj ko_0.1 ko_0.2 (by decide)), PW.at _ hW hK hN⟩ rfl rfl hl.1 rfl (lv_room (Nat.le_of_ble_eq_true rfl)) d_Mod_putChunk_160 ⟨hRc, hRs⟩) hS (fun q _ h => hF q h) hF (fun  x829 t H locs ht hvm hw hB hz1 hk1 hS => ?_)
    have hW := Wd.back hB ht hF
    clear hB ht hF hz1 hk1 hvm
    refine lv_aload_n hx hb d_Mod_putChunk_163 rfl (lv_at hl 0 rfl) ?_
    refine lv_iload hx hb d_Mod_putChunk_164 (lv_at hl 7 rfl) ?_
    refine lv_i2l hx hb d_Mod_putChunk_166 rfl ?_
    have hF := hW.free hS hA
    refine va_callv (va_runV (C := R_Mod) (As := [.long (l7 : Int32).toInt64]) (rest := []) ⟨hx, hb, hml, hown, hT⟩ (k_Mod_putVarint l dC dI cI cB cJ cZ ad H.size (l7 : Int32).toInt64 x829  hw) ⟨callB_of 1 hT (gw_in w_11_198) rfl rfl rfl (hT _ w_1_15) (hT _ w_11_195) (by decide +kernel) ⟨Nat.le_trans (by decide) hRf, Nat.le_trans (by decide) hRl⟩, hT _ w_11_197, hT _ ws_153⟩ ⟨PW.blind, va_recv hK hW.1 (ci := 12) (q0 := 0) rfl (pic_obj ko_0.1 ko_0.2 (by decide)), PW.at _ hW hK hN⟩ rfl rfl hl.1 rfl (lv_room (Nat.le_of_ble_eq_true rfl)) d_Mod_putChunk_167 ⟨hRc, hRs⟩) hS (fun q _ h => hF q h) hF (fun  x830 t H locs ht hvm hw hB hz1 hk1 hS => ?_)
    have hW := Wd.back hB ht hF
    clear hB ht hF hz1 hk1 hvm
    refine lv_iload hx hb d_Mod_putChunk_170 (lv_at hl 5 rfl) ?_
    refine lv_iconst (v := (-1)) hx hb d_Mod_putChunk_172 (by decide) ?_
    refine lv_icmp_ne (tgt := 177) hx hb d_Mod_putChunk_173 (by decide) (fun c831 => ?_) (fun c831 => ?_)
    · have hw := hw.1 c831
      refine lv_aload_n hx hb d_Mod_putChunk_177 rfl (lv_at hl 0 rfl) ?_
      refine lv_iload hx hb d_Mod_putChunk_178 (lv_at hl 5 rfl) ?_
      refine lv_iload hx hb d_Mod_putChunk_180 (lv_at hl 8 rfl) ?_
      have hF := hW.free hS hA
      refine va_callv (va_runV (C := R_Mod) (As := [.int l5, .int l8]) (rest := []) ⟨hx, hb, hml, hown, hT⟩ (k_Mod_putEntry l dC dI cI cB cJ cZ ad H.size l5 l8 x830  hw) ⟨callB_of 2 hT (gw_in w_12_79) rfl rfl rfl (hT _ w_1_15) (hT _ w_12_76) (by decide +kernel) ⟨Nat.le_trans (by decide) hRf, Nat.le_trans (by decide) hRl⟩, hT _ w_12_78, hT _ ws_181⟩ ⟨PW.blind, va_recv hK hW.1 (ci := 12) (q0 := 0) rfl (pic_obj ko_0.1 ko_0.2 (by decide)), PW.at _ hW hK hN⟩ rfl rfl hl.1 rfl (lv_room (Nat.le_of_ble_eq_true rfl)) d_Mod_putChunk_182 ⟨hRc, hRs⟩) hS (fun q _ h => hF q h) hF (fun  x832 t H locs ht hvm hw hB hz1 hk1 hS => ?_)
      have hW := Wd.back hB ht hF
      clear hB ht hF hz1 hk1 hvm
      refine lv_aload_n hx hb d_Mod_putChunk_185 rfl (lv_at hl 0 rfl) ?_
      refine lv_iload hx hb d_Mod_putChunk_186 (lv_at hl 6 rfl) ?_
      refine lv_iload hx hb d_Mod_putChunk_188 (lv_at hl 8 rfl) ?_
      have hF := hW.free hS hA
      refine va_callv (va_runV (C := R_Mod) (As := [.int l6, .int l8]) (rest := []) ⟨hx, hb, hml, hown, hT⟩ (k_Mod_putEntry l dC dI cI cB cJ cZ ad H.size l6 l8 x832  hw) ⟨callB_of 2 hT (gw_in w_12_79) rfl rfl rfl (hT _ w_1_15) (hT _ w_12_76) (by decide +kernel) ⟨Nat.le_trans (by decide) hRf, Nat.le_trans (by decide) hRl⟩, hT _ w_12_78, hT _ ws_181⟩ ⟨PW.blind, va_recv hK hW.1 (ci := 12) (q0 := 0) rfl (pic_obj ko_0.1 ko_0.2 (by decide)), PW.at _ hW hK hN⟩ rfl rfl hl.1 rfl (lv_room (Nat.le_of_ble_eq_true rfl)) d_Mod_putChunk_190 ⟨hRc, hRs⟩) hS (fun q _ h => hF q h) hF (fun  x833 t H locs ht hvm hw hB hz1 hk1 hS => ?_)
      have hW := Wd.back hB ht hF
      clear hB ht hF hz1 hk1 hvm
      exact hret x833 H locs 193 ls d_Mod_putChunk_193 hw hW hS
    · have hw := hw.2 c831
      exact hret x830 H locs 176 ls d_Mod_putChunk_176 hw hW hS
  · have hw := hw.2 c824
    refine lv_aload_n hx hb d_Mod_putChunk_37 rfl (lv_at hl 0 rfl) ?_
    refine w_getf (q := 20) (k := 28) (t := 12) (C := R_Mod) (T := F_Mod) (N := 167) hx hb hT hown hK hW ko_0.1 ko_0.2 (by decide) in_Mod rfl rfl (by decide) rfl fr_Mod_28 w_8_208 d_Mod_putChunk_38 rfl ?_
    refine lv_iload hx hb d_Mod_putChunk_41 (lv_at hl 9 rfl) ?_
    obtain ⟨hi, hw⟩ := hw
    refine w_iald (o := 20) hx hb hK hW ko_20.1 ko_20.2 hi d_Mod_putChunk_43 ?_
    refine lv_iload_n hx hb d_Mod_putChunk_44 rfl (lv_at hl 2 rfl) ?_
    refine lv_icmp_eq (tgt := 51) hx hb d_Mod_putChunk_45 (by decide) (fun c834 => ?_) (fun c834 => ?_)
    · have hw := hw.1 c834
      refine lv_aload_n hx hb d_Mod_putChunk_51 rfl (lv_at hl 0 rfl) ?_
      refine lv_iload hx hb d_Mod_putChunk_52 (lv_at hl 9 rfl) ?_
      have hF := hW.free hS hA
      refine va_calli (va_runV (C := R_Mod) (As := [.int l9]) (rest := []) ⟨hx, hb, hml, hown, hT⟩ (k_Mod_has l dC dI cI cB cJ cZ ad H.size l9 x  hw) ⟨callB_of 1 hT (gw_in w_12_71) rfl rfl rfl (hT _ w_1_15) (hT _ w_12_68) (by decide +kernel) ⟨Nat.le_trans (by decide) hRf, Nat.le_trans (by decide) hRl⟩, hT _ w_12_70, hT _ ws_179⟩ ⟨PW.blind, va_recv hK hW.1 (ci := 12) (q0 := 0) rfl (pic_obj ko_0.1 ko_0.2 (by decide)), PW.at _ hW hK hN⟩ rfl rfl hl.1 rfl (lv_room (Nat.le_of_ble_eq_true rfl)) d_Mod_putChunk_54 ⟨hRc, hRs⟩) hS (fun q _ h => hF q h) hF (fun r836 x835 t H locs ht hvm hw hB hz1 hk1 hS => ?_)
      have hW := Wd.back hB ht hF
      clear hB ht hF hz1 hk1 hvm
      refine lv_if_ne (tgt := 66) hx hb d_Mod_putChunk_57 (by decide) (fun c837 => ?_) (fun c837 => ?_)
      · have hw := hw.1 c837
        refine lv_iload hx hb d_Mod_putChunk_66 (lv_at hl 5 rfl) ?_
        refine lv_iconst (v := (-1)) hx hb d_Mod_putChunk_68 (by decide) ?_
        refine lv_icmp_eq (tgt := 85) hx hb d_Mod_putChunk_69 (by decide) (fun c838 => ?_) (fun c838 => ?_)
        · have hw := hw.1 c838
          exact t_Mod_putChunk_85 hx hb hml hown hT hK hN hA hRc hRs hRf hRl hret hrec25 l1 l2 l3 l4 l5 l6 l7 l8 l9 x835 H locs ls  hw hW hS (lv_sub hl [0, 1, 2, 3, 4, 5, 6, 7, 8, 9] rfl)
        · have hw := hw.2 c838
          refine lv_aload_n hx hb d_Mod_putChunk_72 rfl (lv_at hl 0 rfl) ?_
          refine lv_iload hx hb d_Mod_putChunk_73 (lv_at hl 9 rfl) ?_
          refine lv_iload hx hb d_Mod_putChunk_75 (lv_at hl 5 rfl) ?_
          refine lv_iload hx hb d_Mod_putChunk_77 (lv_at hl 8 rfl) ?_
          have hF := hW.free hS hA
          refine va_calli (va_runV (C := R_Mod) (As := [.int l9, .int l5, .int l8]) (rest := []) ⟨hx, hb, hml, hown, hT⟩ (k_Mod_against2 l dC dI cI cB cJ cZ ad H.size l9 l5 l8 x835  hw) ⟨callB_of 3 hT (gw_in w_12_75) rfl rfl rfl (hT _ w_1_15) (hT _ w_12_72) (by decide +kernel) ⟨Nat.le_trans (by decide) hRf, Nat.le_trans (by decide) hRl⟩, hT _ w_12_74, hT _ ws_180⟩ ⟨PW.blind, va_recv hK hW.1 (ci := 12) (q0 := 0) rfl (pic_obj ko_0.1 ko_0.2 (by decide)), PW.at _ hW hK hN⟩ rfl rfl hl.1 rfl (lv_room (Nat.le_of_ble_eq_true rfl)) d_Mod_putChunk_79 ⟨hRc, hRs⟩) hS (fun q _ h => hF q h) hF (fun r840 x839 t H locs ht hvm hw hB hz1 hk1 hS => ?_)
          have hW := Wd.back hB ht hF
          clear hB ht hF hz1 hk1 hvm
          refine lv_if_ge (tgt := 90) hx hb d_Mod_putChunk_82 (by decide) (fun c841 => ?_) (fun c841 => ?_)
          · have hw := hw.1 c841
            refine lv_iload hx hb d_Mod_putChunk_90 (lv_at hl 5 rfl) ?_
            exact t_Mod_putChunk_92 hx hb hml hown hT hK hN hA hRc hRs hRf hRl hret hrec25 l1 l2 l3 l4 l5 l6 l7 l8 l9 l5 x839 H locs ls  hw hW hS (lv_sub hl [0, 1, 2, 3, 4, 5, 6, 7, 8, 9] rfl)
          · have hw := hw.2 c841
            exact t_Mod_putChunk_85 hx hb hml hown hT hK hN hA hRc hRs hRf hRl hret hrec25 l1 l2 l3 l4 l5 l6 l7 l8 l9 x839 H locs ls  hw hW hS (lv_sub hl [0, 1, 2, 3, 4, 5, 6, 7, 8, 9] rfl)
      · have hw := hw.2 c837
        refine lv_iinc (v := (l7 + 1)) (lv' := [(7, .int (l7 + 1)), (0, .ref (ad 0)), (1, .int l1), (2, .int l2), (3, .int l3), (4, .int l4), (5, .int l5), (6, .int l6), (8, .int l8), (9, .int l9)]) hx hb d_Mod_putChunk_60 hl (k := 7) rfl rfl (by decide) rfl (fun ls hl => ?_)
        refine lv_goto (tgt := 122) hx hb d_Mod_putChunk_63 (by decide) ?_
        exact t_Mod_putChunk_122 hx hb hml hown hT hK hN hA hRc hRs hRf hRl hret hrec25 l1 l2 l3 l4 l5 l6 (l7 + 1) l8 l9 x835 H locs ls  hw hW hS (lv_sub hl [1, 2, 3, 4, 5, 6, 7, 0, 8, 9] rfl)
    · have hw := hw.2 c834
      refine lv_goto (tgt := 122) hx hb d_Mod_putChunk_48 (by decide) ?_
      exact t_Mod_putChunk_122 hx hb hml hown hT hK hN hA hRc hRs hRf hRl hret hrec25 l1 l2 l3 l4 l5 l6 l7 l8 l9 x H locs ls  hw hW hS (lv_sub hl [0, 1, 2, 3, 4, 5, 6, 7, 8, 9] rfl)
def wl_Mod_putChunk_25 (post : St → Prop) : Nat → Int32 → Int32 → Int32 → Int32 → Int32 → Int32 → Int32 → Int32 → Int32 → St → Prop
  | 0 => fun _ _ _ _ _ _ _ _ _ _ => False
  | n + 1 => j_Mod_putChunk_25 post (wl_Mod_putChunk_25 post n)
set_option maxHeartbeats 4000000 in
set_option maxRecDepth 100000 in
theorem tl_Mod_putChunk_25 {p : Program} {l : Launch} {e : Env} {R : Room} {s : State} {m : MethodId} {args : Array Value} {below : List Frame} {meth : Method} {c : Code} {cells slots : Nat} {Q : State → Prop} {dC : Nat → ClassId} {dI : Nat → Nat → Nat} {cI cB cJ cZ : ClassId} {A : Nat → Prop} {ad : Nat → Nat} {post : St → Prop} (hx : p.tables.exec = Jvm.exec) (hb : c.code = b_Mod_putChunk) (hml : c.maxLocals = 10) (hown : s.vm.findClass R_Mod = some m.cls) (hT : ∀ w ∈ TG, w.before args s = true) (hK : va_K (dC, dI) CL (TY cI cB cJ cZ) s) (hN : NW s) (hA : ∀ q : Nat, s.heap.size ≤ q → A q) (hRc : cells ≤ R.cells) (hRs : slots ≤ R.slots) (hRf : 4 ≤ R.frames) (hRl : 90 ≤ R.locals) (hret : ∀ (x : St) (H : Heap) (locs : List Loc) (pc : Nat) (ls : Array Slot), decode b_Mod_putChunk pc = .ok (.return_, 1) → post x → Wd dC dI cI cB cJ cZ ad stM kcM 115 A x H → va_S A s.heap H locs → W p l e R s m args below meth c H locs cells slots Q (F0 m pc ls []))  : ∀ n : Nat, ∀ (l1 : Int32) (l2 : Int32) (l3 : Int32) (l4 : Int32) (l5 : Int32) (l6 : Int32) (l7 : Int32) (l8 : Int32) (l9 : Int32) (x : St) (H : Heap) (locs : List Loc) (ls : Array Slot), wl_Mod_putChunk_25 post n l1 l2 l3 l4 l5 l6 l7 l8 l9 x → Wd dC dI cI cB cJ cZ ad stM kcM 115 A x H → va_S A s.heap H locs → lv_has ls 10 [(0, .ref (ad 0)), (1, .int l1), (2, .int l2), (3, .int l3), (4, .int l4), (5, .int l5), (6, .int l6), (7, .int l7), (8, .int l8), (9, .int l9)] → W p l e R s m args below meth c H locs cells slots Q (F0 m 25 ls []) := by
  intro n
  induction n with
  | zero => intro l1 l2 l3 l4 l5 l6 l7 l8 l9 x H locs ls  hw; exact hw.elim
  | succ n ih => intro l1 l2 l3 l4 l5 l6 l7 l8 l9 x H locs ls  hw hW hS hl; exact t_Mod_putChunk_25 hx hb hml hown hT hK hN hA hRc hRs hRf hRl hret  ih l1 l2 l3 l4 l5 l6 l7 l8 l9 x H locs ls  hw hW hS hl
set_option maxRecDepth 100000 in
def wp_Mod_putChunk (post : St → Prop) (l1 : Int32) (l2 : Int32) (l3 : Int32) (l4 : Int32) (x : St) : Prop := wp_Mod_typeOf (fun (r843 : Int32) (x842 : St) => (vp_in l3 (fN x842 23) ∧ (∀ v844 : Int32, v844 = (rA x842 23 l3) → ∃ n : Nat, wl_Mod_putChunk_25 post n l1 l2 l3 l4 (-1) (-1) 0 r843 v844 x842))) 0 l2 x
set_option maxHeartbeats 4000000 in
set_option maxRecDepth 100000 in
theorem t_Mod_putChunk_e {p : Program} {l : Launch} {e : Env} {R : Room} {s : State} {m : MethodId} {args : Array Value} {below : List Frame} {meth : Method} {c : Code} {cells slots : Nat} {Q : State → Prop} {dC : Nat → ClassId} {dI : Nat → Nat → Nat} {cI cB cJ cZ : ClassId} {A : Nat → Prop} {ad : Nat → Nat} {post : St → Prop} (hx : p.tables.exec = Jvm.exec) (hb : c.code = b_Mod_putChunk) (hml : c.maxLocals = 10) (hown : s.vm.findClass R_Mod = some m.cls) (hT : ∀ w ∈ TG, w.before args s = true) (hK : va_K (dC, dI) CL (TY cI cB cJ cZ) s) (hN : NW s) (hA : ∀ q : Nat, s.heap.size ≤ q → A q) (hRc : cells ≤ R.cells) (hRs : slots ≤ R.slots) (hRf : 4 ≤ R.frames) (hRl : 90 ≤ R.locals) (hret : ∀ (x : St) (H : Heap) (locs : List Loc) (pc : Nat) (ls : Array Slot), decode b_Mod_putChunk pc = .ok (.return_, 1) → post x → Wd dC dI cI cB cJ cZ ad stM kcM 115 A x H → va_S A s.heap H locs → W p l e R s m args below meth c H locs cells slots Q (F0 m pc ls [])) : ∀ (l1 : Int32) (l2 : Int32) (l3 : Int32) (l4 : Int32) (x : St) (H : Heap) (locs : List Loc) (ls : Array Slot), wp_Mod_putChunk post l1 l2 l3 l4 x → Wd dC dI cI cB cJ cZ ad stM kcM 115 A x H → va_S A s.heap H locs → lv_has ls 10 [(0, .ref (ad 0)), (1, .int l1), (2, .int l2), (3, .int l3), (4, .int l4)] → W p l e R s m args below meth c H locs cells slots Q (F0 m 0 ls []) := by
  intro l1 l2 l3 l4 x H locs ls  hw hW hS hl
  unfold wp_Mod_putChunk at hw
  refine lv_iconst (v := (-1)) hx hb d_Mod_putChunk_0 (by decide) ?_
  refine lv_istore (lv' := [(5, .int (-1)), (0, .ref (ad 0)), (1, .int l1), (2, .int l2), (3, .int l3), (4, .int l4)]) hx hb d_Mod_putChunk_1 hl (by decide) rfl (fun ls hl => ?_)
  refine lv_iconst (v := (-1)) hx hb d_Mod_putChunk_3 (by decide) ?_
  refine lv_istore (lv' := [(6, .int (-1)), (5, .int (-1)), (0, .ref (ad 0)), (1, .int l1), (2, .int l2), (3, .int l3), (4, .int l4)]) hx hb d_Mod_putChunk_4 hl (by decide) rfl (fun ls hl => ?_)
  refine lv_iconst (v := 0) hx hb d_Mod_putChunk_6 (by decide) ?_
  refine lv_istore (lv' := [(7, .int 0), (6, .int (-1)), (5, .int (-1)), (0, .ref (ad 0)), (1, .int l1), (2, .int l2), (3, .int l3), (4, .int l4)]) hx hb d_Mod_putChunk_7 hl (by decide) rfl (fun ls hl => ?_)
  refine lv_aload_n hx hb d_Mod_putChunk_9 rfl (lv_at hl 3 rfl) ?_
  refine lv_iconst (v := 0) hx hb d_Mod_putChunk_10 (by decide) ?_
  refine lv_iload_n hx hb d_Mod_putChunk_11 rfl (lv_at hl 5 rfl) ?_
  have hF := hW.free hS hA
  refine va_calli (va_runV (C := R_Mod) (As := [.int 0, .int l2]) (rest := []) ⟨hx, hb, hml, hown, hT⟩ (k_Mod_typeOf l dC dI cI cB cJ cZ ad H.size 0 l2 x  hw) ⟨callB_of 2 hT (gw_in w_11_162) rfl rfl rfl (hT _ w_1_15) (hT _ w_11_159) (by decide +kernel) ⟨Nat.le_trans (by decide) hRf, Nat.le_trans (by decide) hRl⟩, hT _ w_11_161, hT _ ws_145⟩ ⟨PW.blind, va_recv hK hW.1 (ci := 12) (q0 := 0) rfl (pic_obj ko_0.1 ko_0.2 (by decide)), PW.at _ hW hK hN⟩ rfl rfl hl.1 rfl (lv_room (Nat.le_of_ble_eq_true rfl)) d_Mod_putChunk_12 ⟨hRc, hRs⟩) hS (fun q _ h => hF q h) hF (fun r843 x842 t H locs ht hvm hw hB hz1 hk1 hS => ?_)
  have hW := Wd.back hB ht hF
  clear hB ht hF hz1 hk1 hvm
  refine lv_istore (lv' := [(8, .int r843), (7, .int 0), (6, .int (-1)), (5, .int (-1)), (0, .ref (ad 0)), (1, .int l1), (2, .int l2), (3, .int l3), (4, .int l4)]) hx hb d_Mod_putChunk_15 hl (by decide) rfl (fun ls hl => ?_)
  refine lv_aload_n hx hb d_Mod_putChunk_17 rfl (lv_at hl 4 rfl) ?_
  refine w_getf (q := 23) (k := 31) (t := 12) (C := R_Mod) (T := F_Mod) (N := 167) hx hb hT hown hK hW ko_0.1 ko_0.2 (by decide) in_Mod rfl rfl (by decide) rfl fr_Mod_31 w_8_211 d_Mod_putChunk_18 rfl ?_
  refine lv_iload_n hx hb d_Mod_putChunk_21 rfl (lv_at hl 7 rfl) ?_
  obtain ⟨hi, hw⟩ := hw
  refine w_iald (o := 23) hx hb hK hW ko_23.1 ko_23.2 hi d_Mod_putChunk_22 ?_
  refine lv_topi (fun v844 ev844 => ?_)
  have hw := hw v844 ev844
  refine lv_istore (lv' := [(9, .int v844), (8, .int r843), (7, .int 0), (6, .int (-1)), (5, .int (-1)), (0, .ref (ad 0)), (1, .int l1), (2, .int l2), (3, .int l3), (4, .int l4)]) hx hb d_Mod_putChunk_23 hl (by decide) rfl (fun ls hl => ?_)
  obtain ⟨n, hw⟩ := hw
  exact tl_Mod_putChunk_25 hx hb hml hown hT hK hN hA hRc hRs hRf hRl hret  n l1 l2 l3 l4 (-1) (-1) 0 r843 v844 x842 H locs ls  hw hW hS (lv_sub hl [5, 6, 7, 8, 9, 4, 3, 2, 1, 0] rfl)
set_option maxHeartbeats 4000000 in
set_option maxRecDepth 100000 in
theorem k_Mod_putChunk (l : Launch) (dC : Nat → ClassId) (dI : Nat → Nat → Nat) (cI cB cJ cZ : ClassId) (ad : Nat → Nat) (sz : Nat) (l1 : Int32) (l2 : Int32) (l3 : Int32) (l4 : Int32) (x : St) {post : St → Prop} (hw : wp_Mod_putChunk post l1 l2 l3 l4 x) : Met l y_Mod_putChunk (wsOf y_Mod_putChunk b_Mod_putChunk 10 (none)) ({ frames := 4, cells := 0, slots := 0, locals := 90 }) (va_Pc [.ref (ad 0), .int l1, .int l2, .int l3, .int l4] (PW dC dI cI cB cJ cZ ad stM kcM 115 sz x)) (va_Qv (fun (y : St) => post y) (fun y t => Wd dC dI cI cB cJ cZ ad stM kcM 115 (va_A (pic ad stM kcM 115 cI cB cJ cZ x) sz) y t.heap) (va_A (pic ad stM kcM 115 cI cB cJ cZ x) sz)) 0 0 (va_A (pic ad stM kcM 115 cI cB cJ cZ x) sz) := by
  refine Met.ofW (cc := b_Mod_putChunk) (maxL := 10) (ret := none) (by decide) rfl ?_
  intro p e s m args below meth c s₁ B hml hv
  obtain ⟨rfl, hsz, hW0, hK, hN⟩ := hv
  have hx := B.exec
  have hb := B.bytes
  have hr := B.returns
  have hts := atoms_spec B.pre
  have hT : ∀ w ∈ TG, w.before _ s = true := fun w h => hts w (List.mem_cons_of_mem _ h)
  have hown : s.vm.findClass R_Mod = some m.cls := findClass_of_methodNamed B.named
  have hlocks := B.notSynchronized
  subst hsz
  have hW : Wd dC dI cI cB cJ cZ ad stM kcM 115 (va_A (pic ad stM kcM 115 cI cB cJ cZ x) s.heap.size) x s.heap := ⟨hW0.1, hW0.2.1.self (sz := s.heap.size), hW0.2.2⟩
  generalize hAe : va_A (pic ad stM kcM 115 cI cB cJ cZ x) s.heap.size = A at hW ⊢
  have hA : ∀ q : Nat, s.heap.size ≤ q → A q := fun q h => by rw [← hAe]; exact Or.inr h
  have hS : va_S A s.heap s.heap [] := va_S.rf
  have hl := lv_entry ([.ref (ad 0), .int l1, .int l2, .int l3, .int l4]) (n := 10) (Nat.le_of_ble_eq_true rfl)
  rw [lg_entry_eq]
  generalize (lg_sl ([.ref (ad 0), .int l1, .int l2, .int l3, .int l4]) ++ List.replicate (10 - (lg_sl ([.ref (ad 0), .int l1, .int l2, .int l3, .int l4])).length) Slot.unset).toArray = ls at hl ⊢
  have hl : lv_has ls 10 [(0, .ref (ad 0)), (1, .int l1), (2, .int l2), (3, .int l3), (4, .int l4)] := hl
  exact t_Mod_putChunk_e hx hb hml hown hT hK hN hA (Nat.le_refl 0) (Nat.le_refl 0) (Nat.le_refl 4) (Nat.le_refl 90) (fun x H locs pc ls hd hp hW hS => W.vret hx hb hr (fun t ht hM => ⟨⟨x, rfl, hp, Wd.back hW ht.symm (fun _ z => z)⟩, hS.F ht⟩) hS.2.2 hd hlocks)  l1 l2 l3 l4 x _ _ ls  hw hW hS hl
set_option maxRecDepth 100000 in
def j_Mod_putFooter_180 (post : St → Prop) (rec138 : Int32 → Int32 → Int32 → St → Prop) (rec180 : Int32 → Int32 → Int32 → Int32 → Int32 → St → Prop) (l1 : Int32) (l2 : Int32) (l3 : Int32) (l4 : Int32) (l5 : Int32) (x : St) : Prop := (vp_in 0 (fN x 10) ∧ (((rA x 10 0) ≤ l5 → (∀ v846 : Int32, v846 = (l3 + l1) → rec138 l1 l2 v846 x)) ∧ (¬ (rA x 10 0) ≤ l5 → wp_Mod_putChunk (fun (x847 : St) => rec180 l1 (l2 + 1) l3 l4 (l5 + 1) x847) l2 l5 l3 l4 x)))
set_option maxHeartbeats 4000000 in
set_option maxRecDepth 100000 in
theorem t_Mod_putFooter_180 {p : Program} {l : Launch} {e : Env} {R : Room} {s : State} {m : MethodId} {args : Array Value} {below : List Frame} {meth : Method} {c : Code} {cells slots : Nat} {Q : State → Prop} {dC : Nat → ClassId} {dI : Nat → Nat → Nat} {cI cB cJ cZ : ClassId} {A : Nat → Prop} {ad : Nat → Nat} {post : St → Prop} {rec138 : Int32 → Int32 → Int32 → St → Prop} {rec180 : Int32 → Int32 → Int32 → Int32 → Int32 → St → Prop} (hx : p.tables.exec = Jvm.exec) (hb : c.code = b_Mod_putFooter) (hml : c.maxLocals = 6) (hown : s.vm.findClass R_Mod = some m.cls) (hT : ∀ w ∈ TG, w.before args s = true) (hK : va_K (dC, dI) CL (TY cI cB cJ cZ) s) (hN : NW s) (hA : ∀ q : Nat, s.heap.size ≤ q → A q) (hRc : cells ≤ R.cells) (hRs : slots ≤ R.slots) (hRf : 5 ≤ R.frames) (hRl : 119 ≤ R.locals) (hret : ∀ (x : St) (H : Heap) (locs : List Loc) (pc : Nat) (ls : Array Slot), decode b_Mod_putFooter pc = .ok (.return_, 1) → post x → Wd dC dI cI cB cJ cZ ad stM kcM 115 A x H → va_S A s.heap H locs → W p l e R s m args below meth c H locs cells slots Q (F0 m pc ls [])) (hrec138 : ∀ (l1 : Int32) (l2 : Int32) (l3 : Int32) (x : St) (H : Heap) (locs : List Loc) (ls : Array Slot), rec138 l1 l2 l3 x → Wd dC dI cI cB cJ cZ ad stM kcM 115 A x H → va_S A s.heap H locs → lv_has ls 6 [(0, .ref (ad 0)), (1, .int l1), (2, .int l2), (3, .int l3)] → W p l e R s m args below meth c H locs cells slots Q (F0 m 138 ls [])) (hrec180 : ∀ (l1 : Int32) (l2 : Int32) (l3 : Int32) (l4 : Int32) (l5 : Int32) (x : St) (H : Heap) (locs : List Loc) (ls : Array Slot), rec180 l1 l2 l3 l4 l5 x → Wd dC dI cI cB cJ cZ ad stM kcM 115 A x H → va_S A s.heap H locs → lv_has ls 6 [(0, .ref (ad 0)), (1, .int l1), (2, .int l2), (3, .int l3), (4, .int l4), (5, .int l5)] → W p l e R s m args below meth c H locs cells slots Q (F0 m 180 ls [])) : ∀ (l1 : Int32) (l2 : Int32) (l3 : Int32) (l4 : Int32) (l5 : Int32) (x : St) (H : Heap) (locs : List Loc) (ls : Array Slot), j_Mod_putFooter_180 post rec138 rec180 l1 l2 l3 l4 l5 x → Wd dC dI cI cB cJ cZ ad stM kcM 115 A x H → va_S A s.heap H locs → lv_has ls 6 [(0, .ref (ad 0)), (1, .int l1), (2, .int l2), (3, .int l3), (4, .int l4), (5, .int l5)] → W p l e R s m args below meth c H locs cells slots Q (F0 m 180 ls []) := by
  intro l1 l2 l3 l4 l5 x H locs ls  hw hW hS hl
  unfold j_Mod_putFooter_180 at hw
  refine lv_iload hx hb d_Mod_putFooter_180 (lv_at hl 5 rfl) ?_
  refine lv_aload_n hx hb d_Mod_putFooter_182 rfl (lv_at hl 0 rfl) ?_
  refine w_getf (q := 10) (k := 12) (t := 12) (C := R_Mod) (T := F_Mod) (N := 167) hx hb hT hown hK hW ko_0.1 ko_0.2 (by decide) in_Mod rfl rfl (by decide) rfl fr_Mod_12 w_8_192 d_Mod_putFooter_183 rfl ?_
  refine lv_iconst (v := 0) hx hb d_Mod_putFooter_186 (by decide) ?_
  obtain ⟨hi, hw⟩ := hw
  refine w_iald (o := 10) hx hb hK hW ko_10.1 ko_10.2 hi d_Mod_putFooter_187 ?_
  refine lv_icmp_ge (tgt := 210) hx hb d_Mod_putFooter_188 (by decide) (fun c845 => ?_) (fun c845 => ?_)
  · have hw := hw.1 c845
    refine lv_iload_n hx hb d_Mod_putFooter_210 rfl (lv_at hl 3 rfl) ?_
    refine lv_iload_n hx hb d_Mod_putFooter_211 rfl (lv_at hl 1 rfl) ?_
    refine lv_iadd hx hb d_Mod_putFooter_212 ?_
    refine lv_topi (fun v846 ev846 => ?_)
    have hw := hw v846 ev846
    refine lv_istore_n (lv' := [(3, .int v846), (0, .ref (ad 0)), (1, .int l1), (2, .int l2), (4, .int l4), (5, .int l5)]) hx hb d_Mod_putFooter_213 rfl hl (by decide) rfl (fun ls hl => ?_)
    refine lv_goto (tgt := 138) hx hb d_Mod_putFooter_214 (by decide) ?_
    exact hrec138 l1 l2 v846 x H locs ls  hw hW hS (lv_sub hl [1, 2, 3, 0] rfl)
  · have hw := hw.2 c845
    refine lv_aload_n hx hb d_Mod_putFooter_191 rfl (lv_at hl 0 rfl) ?_
    refine lv_iload_n hx hb d_Mod_putFooter_192 rfl (lv_at hl 2 rfl) ?_
    refine lv_iload hx hb d_Mod_putFooter_193 (lv_at hl 5 rfl) ?_
    refine lv_iload_n hx hb d_Mod_putFooter_195 rfl (lv_at hl 3 rfl) ?_
    refine lv_iload hx hb d_Mod_putFooter_196 (lv_at hl 4 rfl) ?_
    have hF := hW.free hS hA
    refine va_callv (va_runV (C := R_Mod) (As := [.int l2, .int l5, .int l3, .int l4]) (rest := []) ⟨hx, hb, hml, hown, hT⟩ (k_Mod_putChunk l dC dI cI cB cJ cZ ad H.size l2 l5 l3 l4 x  hw) ⟨callB_of 4 hT (gw_in w_12_67) rfl rfl rfl (hT _ w_1_15) (hT _ w_12_64) (by decide +kernel) ⟨Nat.le_trans (by decide) hRf, Nat.le_trans (by decide) hRl⟩, hT _ w_12_66, hT _ ws_178⟩ ⟨PW.blind, va_recv hK hW.1 (ci := 12) (q0 := 0) rfl (pic_obj ko_0.1 ko_0.2 (by decide)), PW.at _ hW hK hN⟩ rfl rfl hl.1 rfl (lv_room (Nat.le_of_ble_eq_true rfl)) d_Mod_putFooter_198 ⟨hRc, hRs⟩) hS (fun q _ h => hF q h) hF (fun  x847 t H locs ht hvm hw hB hz1 hk1 hS => ?_)
    have hW := Wd.back hB ht hF
    clear hB ht hF hz1 hk1 hvm
    refine lv_iinc (v := (l2 + 1)) (lv' := [(2, .int (l2 + 1)), (0, .ref (ad 0)), (1, .int l1), (3, .int l3), (4, .int l4), (5, .int l5)]) hx hb d_Mod_putFooter_201 hl (k := 2) rfl rfl (by decide) rfl (fun ls hl => ?_)
    refine lv_iinc (v := (l5 + 1)) (lv' := [(5, .int (l5 + 1)), (2, .int (l2 + 1)), (0, .ref (ad 0)), (1, .int l1), (3, .int l3), (4, .int l4)]) hx hb d_Mod_putFooter_204 hl (k := 5) rfl rfl (by decide) rfl (fun ls hl => ?_)
    refine lv_goto (tgt := 180) hx hb d_Mod_putFooter_207 (by decide) ?_
    exact hrec180 l1 (l2 + 1) l3 l4 (l5 + 1) x847 H locs ls  hw hW hS (lv_sub hl [2, 3, 1, 4, 5, 0] rfl)
def wl_Mod_putFooter_180 (post : St → Prop) (rec138 : Int32 → Int32 → Int32 → St → Prop) : Nat → Int32 → Int32 → Int32 → Int32 → Int32 → St → Prop
  | 0 => fun _ _ _ _ _ _ => False
  | n + 1 => j_Mod_putFooter_180 post rec138 (wl_Mod_putFooter_180 post rec138 n)
set_option maxHeartbeats 4000000 in
set_option maxRecDepth 100000 in
theorem tl_Mod_putFooter_180 {p : Program} {l : Launch} {e : Env} {R : Room} {s : State} {m : MethodId} {args : Array Value} {below : List Frame} {meth : Method} {c : Code} {cells slots : Nat} {Q : State → Prop} {dC : Nat → ClassId} {dI : Nat → Nat → Nat} {cI cB cJ cZ : ClassId} {A : Nat → Prop} {ad : Nat → Nat} {post : St → Prop} {rec138 : Int32 → Int32 → Int32 → St → Prop} (hx : p.tables.exec = Jvm.exec) (hb : c.code = b_Mod_putFooter) (hml : c.maxLocals = 6) (hown : s.vm.findClass R_Mod = some m.cls) (hT : ∀ w ∈ TG, w.before args s = true) (hK : va_K (dC, dI) CL (TY cI cB cJ cZ) s) (hN : NW s) (hA : ∀ q : Nat, s.heap.size ≤ q → A q) (hRc : cells ≤ R.cells) (hRs : slots ≤ R.slots) (hRf : 5 ≤ R.frames) (hRl : 119 ≤ R.locals) (hret : ∀ (x : St) (H : Heap) (locs : List Loc) (pc : Nat) (ls : Array Slot), decode b_Mod_putFooter pc = .ok (.return_, 1) → post x → Wd dC dI cI cB cJ cZ ad stM kcM 115 A x H → va_S A s.heap H locs → W p l e R s m args below meth c H locs cells slots Q (F0 m pc ls [])) (hrec138 : ∀ (l1 : Int32) (l2 : Int32) (l3 : Int32) (x : St) (H : Heap) (locs : List Loc) (ls : Array Slot), rec138 l1 l2 l3 x → Wd dC dI cI cB cJ cZ ad stM kcM 115 A x H → va_S A s.heap H locs → lv_has ls 6 [(0, .ref (ad 0)), (1, .int l1), (2, .int l2), (3, .int l3)] → W p l e R s m args below meth c H locs cells slots Q (F0 m 138 ls [])) : ∀ n : Nat, ∀ (l1 : Int32) (l2 : Int32) (l3 : Int32) (l4 : Int32) (l5 : Int32) (x : St) (H : Heap) (locs : List Loc) (ls : Array Slot), wl_Mod_putFooter_180 post rec138 n l1 l2 l3 l4 l5 x → Wd dC dI cI cB cJ cZ ad stM kcM 115 A x H → va_S A s.heap H locs → lv_has ls 6 [(0, .ref (ad 0)), (1, .int l1), (2, .int l2), (3, .int l3), (4, .int l4), (5, .int l5)] → W p l e R s m args below meth c H locs cells slots Q (F0 m 180 ls []) := by
  intro n
  induction n with
  | zero => intro l1 l2 l3 l4 l5 x H locs ls  hw; exact hw.elim
  | succ n ih => intro l1 l2 l3 l4 l5 x H locs ls  hw hW hS hl; exact t_Mod_putFooter_180 hx hb hml hown hT hK hN hA hRc hRs hRf hRl hret hrec138 ih l1 l2 l3 l4 l5 x H locs ls  hw hW hS hl
set_option maxRecDepth 100000 in
def j_Mod_putFooter_166 (post : St → Prop) (rec138 : Int32 → Int32 → Int32 → St → Prop) (l1 : Int32) (l2 : Int32) (l3 : Int32) (s0 : Int32) (x : St) : Prop := wp_Mod_putVarint (fun (x848 : St) => ∃ n : Nat, wl_Mod_putFooter_180 post rec138 n l1 l2 l3 s0 0 x848) ((s0 - l3) : Int32).toInt64 x
set_option maxHeartbeats 4000000 in
set_option maxRecDepth 100000 in
theorem t_Mod_putFooter_166 {p : Program} {l : Launch} {e : Env} {R : Room} {s : State} {m : MethodId} {args : Array Value} {below : List Frame} {meth : Method} {c : Code} {cells slots : Nat} {Q : State → Prop} {dC : Nat → ClassId} {dI : Nat → Nat → Nat} {cI cB cJ cZ : ClassId} {A : Nat → Prop} {ad : Nat → Nat} {post : St → Prop} {rec138 : Int32 → Int32 → Int32 → St → Prop} (hx : p.tables.exec = Jvm.exec) (hb : c.code = b_Mod_putFooter) (hml : c.maxLocals = 6) (hown : s.vm.findClass R_Mod = some m.cls) (hT : ∀ w ∈ TG, w.before args s = true) (hK : va_K (dC, dI) CL (TY cI cB cJ cZ) s) (hN : NW s) (hA : ∀ q : Nat, s.heap.size ≤ q → A q) (hRc : cells ≤ R.cells) (hRs : slots ≤ R.slots) (hRf : 5 ≤ R.frames) (hRl : 119 ≤ R.locals) (hret : ∀ (x : St) (H : Heap) (locs : List Loc) (pc : Nat) (ls : Array Slot), decode b_Mod_putFooter pc = .ok (.return_, 1) → post x → Wd dC dI cI cB cJ cZ ad stM kcM 115 A x H → va_S A s.heap H locs → W p l e R s m args below meth c H locs cells slots Q (F0 m pc ls [])) (hrec138 : ∀ (l1 : Int32) (l2 : Int32) (l3 : Int32) (x : St) (H : Heap) (locs : List Loc) (ls : Array Slot), rec138 l1 l2 l3 x → Wd dC dI cI cB cJ cZ ad stM kcM 115 A x H → va_S A s.heap H locs → lv_has ls 6 [(0, .ref (ad 0)), (1, .int l1), (2, .int l2), (3, .int l3)] → W p l e R s m args below meth c H locs cells slots Q (F0 m 138 ls [])) : ∀ (l1 : Int32) (l2 : Int32) (l3 : Int32) (s0 : Int32) (x : St) (H : Heap) (locs : List Loc) (ls : Array Slot), j_Mod_putFooter_166 post rec138 l1 l2 l3 s0 x → Wd dC dI cI cB cJ cZ ad stM kcM 115 A x H → va_S A s.heap H locs → lv_has ls 6 [(0, .ref (ad 0)), (1, .int l1), (2, .int l2), (3, .int l3)] → W p l e R s m args below meth c H locs cells slots Q (F0 m 166 ls [.int s0]) := by
  intro l1 l2 l3 s0 x H locs ls  hw hW hS hl
  unfold j_Mod_putFooter_166 at hw
  refine lv_istore (lv' := [(4, .int s0), (0, .ref (ad 0)), (1, .int l1), (2, .int l2), (3, .int l3)]) hx hb d_Mod_putFooter_166 hl (by decide) rfl (fun ls hl => ?_)
  refine lv_aload_n hx hb d_Mod_putFooter_168 rfl (lv_at hl 1 rfl) ?_
  refine lv_iload hx hb d_Mod_putFooter_169 (lv_at hl 0 rfl) ?_
  refine lv_iload_n hx hb d_Mod_putFooter_171 rfl (lv_at hl 4 rfl) ?_
  refine lv_isub hx hb d_Mod_putFooter_172 ?_
  refine lv_i2l hx hb d_Mod_putFooter_173 rfl ?_
  have hF := hW.free hS hA
  refine va_callv (va_runV (C := R_Mod) (As := [.long ((s0 - l3) : Int32).toInt64]) (rest := []) ⟨hx, hb, hml, hown, hT⟩ (k_Mod_putVarint l dC dI cI cB cJ cZ ad H.size ((s0 - l3) : Int32).toInt64 x  hw) ⟨callB_of 1 hT (gw_in w_11_198) rfl rfl rfl (hT _ w_1_15) (hT _ w_11_195) (by decide +kernel) ⟨Nat.le_trans (by decide) hRf, Nat.le_trans (by decide) hRl⟩, hT _ w_11_197, hT _ ws_153⟩ ⟨PW.blind, va_recv hK hW.1 (ci := 12) (q0 := 0) rfl (pic_obj ko_0.1 ko_0.2 (by decide)), PW.at _ hW hK hN⟩ rfl rfl hl.1 rfl (lv_room (Nat.le_of_ble_eq_true rfl)) d_Mod_putFooter_174 ⟨hRc, hRs⟩) hS (fun q _ h => hF q h) hF (fun  x848 t H locs ht hvm hw hB hz1 hk1 hS => ?_)
  have hW := Wd.back hB ht hF
  clear hB ht hF hz1 hk1 hvm
  refine lv_iconst (v := 0) hx hb d_Mod_putFooter_177 (by decide) ?_
  refine lv_istore (lv' := [(5, .int 0), (4, .int s0), (0, .ref (ad 0)), (1, .int l1), (2, .int l2), (3, .int l3)]) hx hb d_Mod_putFooter_178 hl (by decide) rfl (fun ls hl => ?_)
  obtain ⟨n, hw⟩ := hw
  exact tl_Mod_putFooter_180 hx hb hml hown hT hK hN hA hRc hRs hRf hRl hret hrec138 n l1 l2 l3 s0 0 x848 H locs ls  hw hW hS (lv_sub hl [2, 3, 4, 5, 1, 0] rfl)
set_option maxRecDepth 100000 in
def j_Mod_putFooter_138 (post : St → Prop) (rec138 : Int32 → Int32 → Int32 → St → Prop) (l1 : Int32) (l2 : Int32) (l3 : Int32) (x : St) : Prop := (((fI x 0 34) ≤ l3 → post x) ∧ (¬ (fI x 0 34) ≤ l3 → (((fI x 0 34) ≤ (l3 + l1) → j_Mod_putFooter_166 post rec138 l1 l2 l3 (fI x 0 34) x) ∧ (¬ (fI x 0 34) ≤ (l3 + l1) → j_Mod_putFooter_166 post rec138 l1 l2 l3 (l3 + l1) x))))
set_option maxHeartbeats 4000000 in
set_option maxRecDepth 100000 in
theorem t_Mod_putFooter_138 {p : Program} {l : Launch} {e : Env} {R : Room} {s : State} {m : MethodId} {args : Array Value} {below : List Frame} {meth : Method} {c : Code} {cells slots : Nat} {Q : State → Prop} {dC : Nat → ClassId} {dI : Nat → Nat → Nat} {cI cB cJ cZ : ClassId} {A : Nat → Prop} {ad : Nat → Nat} {post : St → Prop} {rec138 : Int32 → Int32 → Int32 → St → Prop} (hx : p.tables.exec = Jvm.exec) (hb : c.code = b_Mod_putFooter) (hml : c.maxLocals = 6) (hown : s.vm.findClass R_Mod = some m.cls) (hT : ∀ w ∈ TG, w.before args s = true) (hK : va_K (dC, dI) CL (TY cI cB cJ cZ) s) (hN : NW s) (hA : ∀ q : Nat, s.heap.size ≤ q → A q) (hRc : cells ≤ R.cells) (hRs : slots ≤ R.slots) (hRf : 5 ≤ R.frames) (hRl : 119 ≤ R.locals) (hret : ∀ (x : St) (H : Heap) (locs : List Loc) (pc : Nat) (ls : Array Slot), decode b_Mod_putFooter pc = .ok (.return_, 1) → post x → Wd dC dI cI cB cJ cZ ad stM kcM 115 A x H → va_S A s.heap H locs → W p l e R s m args below meth c H locs cells slots Q (F0 m pc ls [])) (hrec138 : ∀ (l1 : Int32) (l2 : Int32) (l3 : Int32) (x : St) (H : Heap) (locs : List Loc) (ls : Array Slot), rec138 l1 l2 l3 x → Wd dC dI cI cB cJ cZ ad stM kcM 115 A x H → va_S A s.heap H locs → lv_has ls 6 [(0, .ref (ad 0)), (1, .int l1), (2, .int l2), (3, .int l3)] → W p l e R s m args below meth c H locs cells slots Q (F0 m 138 ls [])) : ∀ (l1 : Int32) (l2 : Int32) (l3 : Int32) (x : St) (H : Heap) (locs : List Loc) (ls : Array Slot), j_Mod_putFooter_138 post rec138 l1 l2 l3 x → Wd dC dI cI cB cJ cZ ad stM kcM 115 A x H → va_S A s.heap H locs → lv_has ls 6 [(0, .ref (ad 0)), (1, .int l1), (2, .int l2), (3, .int l3)] → W p l e R s m args below meth c H locs cells slots Q (F0 m 138 ls []) := by
  intro l1 l2 l3 x H locs ls  hw hW hS hl
  unfold j_Mod_putFooter_138 at hw
  refine lv_iload_n hx hb d_Mod_putFooter_138 rfl (lv_at hl 3 rfl) ?_
  refine lv_aload_n hx hb d_Mod_putFooter_139 rfl (lv_at hl 0 rfl) ?_
  refine w_geti (k := 34) (t := 12) (C := R_Mod) (T := F_Mod) (N := 167) hx hb hT hown hK hW ko_0.1 ko_0.2 (by decide) in_Mod rfl rfl (by decide) rfl fr_Mod_34 w_8_214 d_Mod_putFooter_140 ?_
  refine lv_icmp_ge (tgt := 217) hx hb d_Mod_putFooter_143 (by decide) (fun c849 => ?_) (fun c849 => ?_)
  · have hw := hw.1 c849
    exact hret x H locs 217 ls d_Mod_putFooter_217 hw hW hS
  · have hw := hw.2 c849
    refine lv_iload_n hx hb d_Mod_putFooter_146 rfl (lv_at hl 3 rfl) ?_
    refine lv_iload_n hx hb d_Mod_putFooter_147 rfl (lv_at hl 1 rfl) ?_
    refine lv_iadd hx hb d_Mod_putFooter_148 ?_
    refine lv_aload_n hx hb d_Mod_putFooter_149 rfl (lv_at hl 0 rfl) ?_
    refine w_geti (k := 34) (t := 12) (C := R_Mod) (T := F_Mod) (N := 167) hx hb hT hown hK hW ko_0.1 ko_0.2 (by decide) in_Mod rfl rfl (by decide) rfl fr_Mod_34 w_8_214 d_Mod_putFooter_150 ?_
    refine lv_icmp_ge (tgt := 162) hx hb d_Mod_putFooter_153 (by decide) (fun c850 => ?_) (fun c850 => ?_)
    · have hw := hw.1 c850
      refine lv_aload_n hx hb d_Mod_putFooter_162 rfl (lv_at hl 0 rfl) ?_
      refine w_geti (k := 34) (t := 12) (C := R_Mod) (T := F_Mod) (N := 167) hx hb hT hown hK hW ko_0.1 ko_0.2 (by decide) in_Mod rfl rfl (by decide) rfl fr_Mod_34 w_8_214 d_Mod_putFooter_163 ?_
      exact t_Mod_putFooter_166 hx hb hml hown hT hK hN hA hRc hRs hRf hRl hret hrec138 l1 l2 l3 (fI x 0 34) x H locs ls  hw hW hS (lv_sub hl [0, 1, 2, 3] rfl)
    · have hw := hw.2 c850
      refine lv_iload_n hx hb d_Mod_putFooter_156 rfl (lv_at hl 3 rfl) ?_
      refine lv_iload_n hx hb d_Mod_putFooter_157 rfl (lv_at hl 1 rfl) ?_
      refine lv_iadd hx hb d_Mod_putFooter_158 ?_
      refine lv_goto (tgt := 166) hx hb d_Mod_putFooter_159 (by decide) ?_
      exact t_Mod_putFooter_166 hx hb hml hown hT hK hN hA hRc hRs hRf hRl hret hrec138 l1 l2 l3 (l3 + l1) x H locs ls  hw hW hS (lv_sub hl [0, 1, 2, 3] rfl)
def wl_Mod_putFooter_138 (post : St → Prop) : Nat → Int32 → Int32 → Int32 → St → Prop
  | 0 => fun _ _ _ _ => False
  | n + 1 => j_Mod_putFooter_138 post (wl_Mod_putFooter_138 post n)
set_option maxHeartbeats 4000000 in
set_option maxRecDepth 100000 in
theorem tl_Mod_putFooter_138 {p : Program} {l : Launch} {e : Env} {R : Room} {s : State} {m : MethodId} {args : Array Value} {below : List Frame} {meth : Method} {c : Code} {cells slots : Nat} {Q : State → Prop} {dC : Nat → ClassId} {dI : Nat → Nat → Nat} {cI cB cJ cZ : ClassId} {A : Nat → Prop} {ad : Nat → Nat} {post : St → Prop} (hx : p.tables.exec = Jvm.exec) (hb : c.code = b_Mod_putFooter) (hml : c.maxLocals = 6) (hown : s.vm.findClass R_Mod = some m.cls) (hT : ∀ w ∈ TG, w.before args s = true) (hK : va_K (dC, dI) CL (TY cI cB cJ cZ) s) (hN : NW s) (hA : ∀ q : Nat, s.heap.size ≤ q → A q) (hRc : cells ≤ R.cells) (hRs : slots ≤ R.slots) (hRf : 5 ≤ R.frames) (hRl : 119 ≤ R.locals) (hret : ∀ (x : St) (H : Heap) (locs : List Loc) (pc : Nat) (ls : Array Slot), decode b_Mod_putFooter pc = .ok (.return_, 1) → post x → Wd dC dI cI cB cJ cZ ad stM kcM 115 A x H → va_S A s.heap H locs → W p l e R s m args below meth c H locs cells slots Q (F0 m pc ls []))  : ∀ n : Nat, ∀ (l1 : Int32) (l2 : Int32) (l3 : Int32) (x : St) (H : Heap) (locs : List Loc) (ls : Array Slot), wl_Mod_putFooter_138 post n l1 l2 l3 x → Wd dC dI cI cB cJ cZ ad stM kcM 115 A x H → va_S A s.heap H locs → lv_has ls 6 [(0, .ref (ad 0)), (1, .int l1), (2, .int l2), (3, .int l3)] → W p l e R s m args below meth c H locs cells slots Q (F0 m 138 ls []) := by
  intro n
  induction n with
  | zero => intro l1 l2 l3 x H locs ls  hw; exact hw.elim
  | succ n ih => intro l1 l2 l3 x H locs ls  hw hW hS hl; exact t_Mod_putFooter_138 hx hb hml hown hT hK hN hA hRc hRs hRf hRl hret  ih l1 l2 l3 x H locs ls  hw hW hS hl
set_option maxRecDepth 100000 in
def j_Mod_putFooter_73 (post : St → Prop) (rec18 : Int32 → Int32 → St → Prop) (rec73 : Int32 → Int32 → Int32 → St → Prop) (l1 : Int32) (l2 : Int32) (l3 : Int32) (x : St) : Prop := (vp_in l2 (fN x 7) ∧ (((rA x 7 l2) ≤ l3 → rec18 l1 (l2 + 1) x) ∧ (¬ (rA x 7 l2) ≤ l3 → (vp_in ((16 * l2) + l3) (fN x 8) ∧ wp_Mod_put (fun (x852 : St) => rec73 l1 l2 (l3 + 1) x852) (rA x 8 ((16 * l2) + l3)) x))))
set_option maxHeartbeats 4000000 in
set_option maxRecDepth 100000 in
theorem t_Mod_putFooter_73 {p : Program} {l : Launch} {e : Env} {R : Room} {s : State} {m : MethodId} {args : Array Value} {below : List Frame} {meth : Method} {c : Code} {cells slots : Nat} {Q : State → Prop} {dC : Nat → ClassId} {dI : Nat → Nat → Nat} {cI cB cJ cZ : ClassId} {A : Nat → Prop} {ad : Nat → Nat} {post : St → Prop} {rec18 : Int32 → Int32 → St → Prop} {rec73 : Int32 → Int32 → Int32 → St → Prop} (hx : p.tables.exec = Jvm.exec) (hb : c.code = b_Mod_putFooter) (hml : c.maxLocals = 6) (hown : s.vm.findClass R_Mod = some m.cls) (hT : ∀ w ∈ TG, w.before args s = true) (hK : va_K (dC, dI) CL (TY cI cB cJ cZ) s) (hN : NW s) (hA : ∀ q : Nat, s.heap.size ≤ q → A q) (hRc : cells ≤ R.cells) (hRs : slots ≤ R.slots) (hRf : 5 ≤ R.frames) (hRl : 119 ≤ R.locals) (hret : ∀ (x : St) (H : Heap) (locs : List Loc) (pc : Nat) (ls : Array Slot), decode b_Mod_putFooter pc = .ok (.return_, 1) → post x → Wd dC dI cI cB cJ cZ ad stM kcM 115 A x H → va_S A s.heap H locs → W p l e R s m args below meth c H locs cells slots Q (F0 m pc ls [])) (hrec18 : ∀ (l1 : Int32) (l2 : Int32) (x : St) (H : Heap) (locs : List Loc) (ls : Array Slot), rec18 l1 l2 x → Wd dC dI cI cB cJ cZ ad stM kcM 115 A x H → va_S A s.heap H locs → lv_has ls 6 [(0, .ref (ad 0)), (1, .int l1), (2, .int l2)] → W p l e R s m args below meth c H locs cells slots Q (F0 m 18 ls [])) (hrec73 : ∀ (l1 : Int32) (l2 : Int32) (l3 : Int32) (x : St) (H : Heap) (locs : List Loc) (ls : Array Slot), rec73 l1 l2 l3 x → Wd dC dI cI cB cJ cZ ad stM kcM 115 A x H → va_S A s.heap H locs → lv_has ls 6 [(0, .ref (ad 0)), (1, .int l1), (2, .int l2), (3, .int l3)] → W p l e R s m args below meth c H locs cells slots Q (F0 m 73 ls [])) : ∀ (l1 : Int32) (l2 : Int32) (l3 : Int32) (x : St) (H : Heap) (locs : List Loc) (ls : Array Slot), j_Mod_putFooter_73 post rec18 rec73 l1 l2 l3 x → Wd dC dI cI cB cJ cZ ad stM kcM 115 A x H → va_S A s.heap H locs → lv_has ls 6 [(0, .ref (ad 0)), (1, .int l1), (2, .int l2), (3, .int l3)] → W p l e R s m args below meth c H locs cells slots Q (F0 m 73 ls []) := by
  intro l1 l2 l3 x H locs ls  hw hW hS hl
  unfold j_Mod_putFooter_73 at hw
  refine lv_iload_n hx hb d_Mod_putFooter_73 rfl (lv_at hl 3 rfl) ?_
  refine lv_aload_n hx hb d_Mod_putFooter_74 rfl (lv_at hl 0 rfl) ?_
  refine w_getf (q := 7) (k := 9) (t := 12) (C := R_Mod) (T := F_Mod) (N := 167) hx hb hT hown hK hW ko_0.1 ko_0.2 (by decide) in_Mod rfl rfl (by decide) rfl fr_Mod_9 w_8_189 d_Mod_putFooter_75 rfl ?_
  refine lv_iload_n hx hb d_Mod_putFooter_78 rfl (lv_at hl 2 rfl) ?_
  obtain ⟨hi, hw⟩ := hw
  refine w_iald (o := 7) hx hb hK hW ko_7.1 ko_7.2 hi d_Mod_putFooter_79 ?_
  refine lv_icmp_ge (tgt := 104) hx hb d_Mod_putFooter_80 (by decide) (fun c851 => ?_) (fun c851 => ?_)
  · have hw := hw.1 c851
    refine lv_iinc (v := (l2 + 1)) (lv' := [(2, .int (l2 + 1)), (0, .ref (ad 0)), (1, .int l1), (3, .int l3)]) hx hb d_Mod_putFooter_104 hl (k := 2) rfl rfl (by decide) rfl (fun ls hl => ?_)
    refine lv_goto (tgt := 18) hx hb d_Mod_putFooter_107 (by decide) ?_
    exact hrec18 l1 (l2 + 1) x H locs ls  hw hW hS (lv_sub hl [1, 2, 0] rfl)
  · have hw := hw.2 c851
    refine lv_aload_n hx hb d_Mod_putFooter_83 rfl (lv_at hl 0 rfl) ?_
    refine lv_aload_n hx hb d_Mod_putFooter_84 rfl (lv_at hl 0 rfl) ?_
    refine w_getf (q := 8) (k := 10) (t := 12) (C := R_Mod) (T := F_Mod) (N := 167) hx hb hT hown hK hW ko_0.1 ko_0.2 (by decide) in_Mod rfl rfl (by decide) rfl fr_Mod_10 w_8_190 d_Mod_putFooter_85 rfl ?_
    refine lv_bipush (v := 16) hx hb d_Mod_putFooter_88 (by decide) ?_
    refine lv_iload_n hx hb d_Mod_putFooter_90 rfl (lv_at hl 2 rfl) ?_
    refine lv_imul hx hb d_Mod_putFooter_91 ?_
    refine lv_iload_n hx hb d_Mod_putFooter_92 rfl (lv_at hl 3 rfl) ?_
    refine lv_iadd hx hb d_Mod_putFooter_93 ?_
    obtain ⟨hi, hw⟩ := hw
    refine w_iald (o := 8) hx hb hK hW ko_8.1 ko_8.2 hi d_Mod_putFooter_94 ?_
    have hF := hW.free hS hA
    refine va_callv (va_runV (C := R_Mod) (As := [.int (rA x 8 ((16 * l2) + l3))]) (rest := []) ⟨hx, hb, hml, hown, hT⟩ (k_Mod_put l dC dI cI cB cJ cZ ad H.size (rA x 8 ((16 * l2) + l3)) x  hw) ⟨callB_of 1 hT (gw_in w_11_203) rfl rfl rfl (hT _ w_1_15) (hT _ w_11_200) (by decide +kernel) ⟨Nat.le_trans (by decide) hRf, Nat.le_trans (by decide) hRl⟩, hT _ w_11_202, hT _ ws_154⟩ ⟨PW.blind, va_recv hK hW.1 (ci := 12) (q0 := 0) rfl (pic_obj ko_0.1 ko_0.2 (by decide)), PW.at _ hW hK hN⟩ rfl rfl hl.1 rfl (lv_room (Nat.le_of_ble_eq_true rfl)) d_Mod_putFooter_95 ⟨hRc, hRs⟩) hS (fun q _ h => hF q h) hF (fun  x852 t H locs ht hvm hw hB hz1 hk1 hS => ?_)
    have hW := Wd.back hB ht hF
    clear hB ht hF hz1 hk1 hvm
    refine lv_iinc (v := (l3 + 1)) (lv' := [(3, .int (l3 + 1)), (0, .ref (ad 0)), (1, .int l1), (2, .int l2)]) hx hb d_Mod_putFooter_98 hl (k := 3) rfl rfl (by decide) rfl (fun ls hl => ?_)
    refine lv_goto (tgt := 73) hx hb d_Mod_putFooter_101 (by decide) ?_
    exact hrec73 l1 l2 (l3 + 1) x852 H locs ls  hw hW hS (lv_sub hl [1, 2, 3, 0] rfl)
def wl_Mod_putFooter_73 (post : St → Prop) (rec18 : Int32 → Int32 → St → Prop) : Nat → Int32 → Int32 → Int32 → St → Prop
  | 0 => fun _ _ _ _ => False
  | n + 1 => j_Mod_putFooter_73 post rec18 (wl_Mod_putFooter_73 post rec18 n)
set_option maxHeartbeats 4000000 in
set_option maxRecDepth 100000 in
theorem tl_Mod_putFooter_73 {p : Program} {l : Launch} {e : Env} {R : Room} {s : State} {m : MethodId} {args : Array Value} {below : List Frame} {meth : Method} {c : Code} {cells slots : Nat} {Q : State → Prop} {dC : Nat → ClassId} {dI : Nat → Nat → Nat} {cI cB cJ cZ : ClassId} {A : Nat → Prop} {ad : Nat → Nat} {post : St → Prop} {rec18 : Int32 → Int32 → St → Prop} (hx : p.tables.exec = Jvm.exec) (hb : c.code = b_Mod_putFooter) (hml : c.maxLocals = 6) (hown : s.vm.findClass R_Mod = some m.cls) (hT : ∀ w ∈ TG, w.before args s = true) (hK : va_K (dC, dI) CL (TY cI cB cJ cZ) s) (hN : NW s) (hA : ∀ q : Nat, s.heap.size ≤ q → A q) (hRc : cells ≤ R.cells) (hRs : slots ≤ R.slots) (hRf : 5 ≤ R.frames) (hRl : 119 ≤ R.locals) (hret : ∀ (x : St) (H : Heap) (locs : List Loc) (pc : Nat) (ls : Array Slot), decode b_Mod_putFooter pc = .ok (.return_, 1) → post x → Wd dC dI cI cB cJ cZ ad stM kcM 115 A x H → va_S A s.heap H locs → W p l e R s m args below meth c H locs cells slots Q (F0 m pc ls [])) (hrec18 : ∀ (l1 : Int32) (l2 : Int32) (x : St) (H : Heap) (locs : List Loc) (ls : Array Slot), rec18 l1 l2 x → Wd dC dI cI cB cJ cZ ad stM kcM 115 A x H → va_S A s.heap H locs → lv_has ls 6 [(0, .ref (ad 0)), (1, .int l1), (2, .int l2)] → W p l e R s m args below meth c H locs cells slots Q (F0 m 18 ls [])) : ∀ n : Nat, ∀ (l1 : Int32) (l2 : Int32) (l3 : Int32) (x : St) (H : Heap) (locs : List Loc) (ls : Array Slot), wl_Mod_putFooter_73 post rec18 n l1 l2 l3 x → Wd dC dI cI cB cJ cZ ad stM kcM 115 A x H → va_S A s.heap H locs → lv_has ls 6 [(0, .ref (ad 0)), (1, .int l1), (2, .int l2), (3, .int l3)] → W p l e R s m args below meth c H locs cells slots Q (F0 m 73 ls []) := by
  intro n
  induction n with
  | zero => intro l1 l2 l3 x H locs ls  hw; exact hw.elim
  | succ n ih => intro l1 l2 l3 x H locs ls  hw hW hS hl; exact t_Mod_putFooter_73 hx hb hml hown hT hK hN hA hRc hRs hRf hRl hret hrec18 ih l1 l2 l3 x H locs ls  hw hW hS hl
set_option maxRecDepth 100000 in
def j_Mod_putFooter_18 (post : St → Prop) (rec18 : Int32 → Int32 → St → Prop) (l1 : Int32) (l2 : Int32) (x : St) : Prop := (vp_in 0 (fN x 9) ∧ (((rA x 9 0) ≤ l2 → wp_Mod_putVarint (fun (x854 : St) => ((¬ l1 = 0) ∧ wp_Mod_putVarint (fun (x855 : St) => ∃ n : Nat, wl_Mod_putFooter_138 post n l1 0 0 x855) (((((fI x854 0 34) + l1) - 1) / l1) : Int32).toInt64 x854)) ((fI x 0 34) : Int32).toInt64 x) ∧ (¬ (rA x 9 0) ≤ l2 → (vp_in l2 (fN x 3) ∧ (vp_in l2 (fN x 4) ∧ wp_Mod_put (fun (x856 : St) => (vp_in l2 (fN x856 5) ∧ wp_Mod_putVarint (fun (x857 : St) => (vp_in l2 (fN x857 7) ∧ wp_Mod_putVarint (fun (x858 : St) => ∃ n : Nat, wl_Mod_putFooter_73 post rec18 n l1 l2 0 x858) ((rA x857 7 l2) : Int32).toInt64 x857)) (((rA x856 5 l2) + 1) : Int32).toInt64 x856)) ((rA x 3 l2) + (3 * (rA x 4 l2))) x)))))
set_option maxHeartbeats 4000000 in
set_option maxRecDepth 100000 in
theorem t_Mod_putFooter_18 {p : Program} {l : Launch} {e : Env} {R : Room} {s : State} {m : MethodId} {args : Array Value} {below : List Frame} {meth : Method} {c : Code} {cells slots : Nat} {Q : State → Prop} {dC : Nat → ClassId} {dI : Nat → Nat → Nat} {cI cB cJ cZ : ClassId} {A : Nat → Prop} {ad : Nat → Nat} {post : St → Prop} {rec18 : Int32 → Int32 → St → Prop} (hx : p.tables.exec = Jvm.exec) (hb : c.code = b_Mod_putFooter) (hml : c.maxLocals = 6) (hown : s.vm.findClass R_Mod = some m.cls) (hT : ∀ w ∈ TG, w.before args s = true) (hK : va_K (dC, dI) CL (TY cI cB cJ cZ) s) (hN : NW s) (hA : ∀ q : Nat, s.heap.size ≤ q → A q) (hRc : cells ≤ R.cells) (hRs : slots ≤ R.slots) (hRf : 5 ≤ R.frames) (hRl : 119 ≤ R.locals) (hret : ∀ (x : St) (H : Heap) (locs : List Loc) (pc : Nat) (ls : Array Slot), decode b_Mod_putFooter pc = .ok (.return_, 1) → post x → Wd dC dI cI cB cJ cZ ad stM kcM 115 A x H → va_S A s.heap H locs → W p l e R s m args below meth c H locs cells slots Q (F0 m pc ls [])) (hrec18 : ∀ (l1 : Int32) (l2 : Int32) (x : St) (H : Heap) (locs : List Loc) (ls : Array Slot), rec18 l1 l2 x → Wd dC dI cI cB cJ cZ ad stM kcM 115 A x H → va_S A s.heap H locs → lv_has ls 6 [(0, .ref (ad 0)), (1, .int l1), (2, .int l2)] → W p l e R s m args below meth c H locs cells slots Q (F0 m 18 ls [])) : ∀ (l1 : Int32) (l2 : Int32) (x : St) (H : Heap) (locs : List Loc) (ls : Array Slot), j_Mod_putFooter_18 post rec18 l1 l2 x → Wd dC dI cI cB cJ cZ ad stM kcM 115 A x H → va_S A s.heap H locs → lv_has ls 6 [(0, .ref (ad 0)), (1, .int l1), (2, .int l2)] → W p l e R s m args below meth c H locs cells slots Q (F0 m 18 ls []) := by
  intro l1 l2 x H locs ls  hw hW hS hl
  unfold j_Mod_putFooter_18 at hw
  refine lv_iload_n hx hb d_Mod_putFooter_18 rfl (lv_at hl 2 rfl) ?_
  refine lv_aload_n hx hb d_Mod_putFooter_19 rfl (lv_at hl 0 rfl) ?_
  refine w_getf (q := 9) (k := 11) (t := 12) (C := R_Mod) (T := F_Mod) (N := 167) hx hb hT hown hK hW ko_0.1 ko_0.2 (by decide) in_Mod rfl rfl (by decide) rfl fr_Mod_11 w_8_191 d_Mod_putFooter_20 rfl ?_
  refine lv_iconst (v := 0) hx hb d_Mod_putFooter_23 (by decide) ?_
  obtain ⟨hi, hw⟩ := hw
  refine w_iald (o := 9) hx hb hK hW ko_9.1 ko_9.2 hi d_Mod_putFooter_24 ?_
  refine lv_icmp_ge (tgt := 110) hx hb d_Mod_putFooter_25 (by decide) (fun c853 => ?_) (fun c853 => ?_)
  · have hw := hw.1 c853
    refine lv_aload_n hx hb d_Mod_putFooter_110 rfl (lv_at hl 0 rfl) ?_
    refine lv_aload_n hx hb d_Mod_putFooter_111 rfl (lv_at hl 0 rfl) ?_
    refine w_geti (k := 34) (t := 12) (C := R_Mod) (T := F_Mod) (N := 167) hx hb hT hown hK hW ko_0.1 ko_0.2 (by decide) in_Mod rfl rfl (by decide) rfl fr_Mod_34 w_8_214 d_Mod_putFooter_112 ?_
    refine lv_i2l hx hb d_Mod_putFooter_115 rfl ?_
    have hF := hW.free hS hA
    refine va_callv (va_runV (C := R_Mod) (As := [.long ((fI x 0 34) : Int32).toInt64]) (rest := []) ⟨hx, hb, hml, hown, hT⟩ (k_Mod_putVarint l dC dI cI cB cJ cZ ad H.size ((fI x 0 34) : Int32).toInt64 x  hw) ⟨callB_of 1 hT (gw_in w_11_198) rfl rfl rfl (hT _ w_1_15) (hT _ w_11_195) (by decide +kernel) ⟨Nat.le_trans (by decide) hRf, Nat.le_trans (by decide) hRl⟩, hT _ w_11_197, hT _ ws_153⟩ ⟨PW.blind, va_recv hK hW.1 (ci := 12) (q0 := 0) rfl (pic_obj ko_0.1 ko_0.2 (by decide)), PW.at _ hW hK hN⟩ rfl rfl hl.1 rfl (lv_room (Nat.le_of_ble_eq_true rfl)) d_Mod_putFooter_116 ⟨hRc, hRs⟩) hS (fun q _ h => hF q h) hF (fun  x854 t H locs ht hvm hw hB hz1 hk1 hS => ?_)
    have hW := Wd.back hB ht hF
    clear hB ht hF hz1 hk1 hvm
    refine lv_aload_n hx hb d_Mod_putFooter_119 rfl (lv_at hl 0 rfl) ?_
    refine lv_aload_n hx hb d_Mod_putFooter_120 rfl (lv_at hl 0 rfl) ?_
    refine w_geti (k := 34) (t := 12) (C := R_Mod) (T := F_Mod) (N := 167) hx hb hT hown hK hW ko_0.1 ko_0.2 (by decide) in_Mod rfl rfl (by decide) rfl fr_Mod_34 w_8_214 d_Mod_putFooter_121 ?_
    refine lv_iload_n hx hb d_Mod_putFooter_124 rfl (lv_at hl 1 rfl) ?_
    refine lv_iadd hx hb d_Mod_putFooter_125 ?_
    refine lv_iconst (v := 1) hx hb d_Mod_putFooter_126 (by decide) ?_
    refine lv_isub hx hb d_Mod_putFooter_127 ?_
    refine lv_iload_n hx hb d_Mod_putFooter_128 rfl (lv_at hl 1 rfl) ?_
    obtain ⟨hz, hw⟩ := hw
    refine lv_idiv hx hb d_Mod_putFooter_129 hz ?_
    refine lv_i2l hx hb d_Mod_putFooter_130 rfl ?_
    have hF := hW.free hS hA
    refine va_callv (va_runV (C := R_Mod) (As := [.long (((((fI x854 0 34) + l1) - 1) / l1) : Int32).toInt64]) (rest := []) ⟨hx, hb, hml, hown, hT⟩ (k_Mod_putVarint l dC dI cI cB cJ cZ ad H.size (((((fI x854 0 34) + l1) - 1) / l1) : Int32).toInt64 x854  hw) ⟨callB_of 1 hT (gw_in w_11_198) rfl rfl rfl (hT _ w_1_15) (hT _ w_11_195) (by decide +kernel) ⟨Nat.le_trans (by decide) hRf, Nat.le_trans (by decide) hRl⟩, hT _ w_11_197, hT _ ws_153⟩ ⟨PW.blind, va_recv hK hW.1 (ci := 12) (q0 := 0) rfl (pic_obj ko_0.1 ko_0.2 (by decide)), PW.at _ hW hK hN⟩ rfl rfl hl.1 rfl (lv_room (Nat.le_of_ble_eq_true rfl)) d_Mod_putFooter_131 ⟨hRc, hRs⟩) hS (fun q _ h => hF q h) hF (fun  x855 t H locs ht hvm hw hB hz1 hk1 hS => ?_)
    have hW := Wd.back hB ht hF
    clear hB ht hF hz1 hk1 hvm
    refine lv_iconst (v := 0) hx hb d_Mod_putFooter_134 (by decide) ?_
    refine lv_istore_n (lv' := [(2, .int 0), (0, .ref (ad 0)), (1, .int l1)]) hx hb d_Mod_putFooter_135 rfl hl (by decide) rfl (fun ls hl => ?_)
    refine lv_iconst (v := 0) hx hb d_Mod_putFooter_136 (by decide) ?_
    refine lv_istore_n (lv' := [(3, .int 0), (2, .int 0), (0, .ref (ad 0)), (1, .int l1)]) hx hb d_Mod_putFooter_137 rfl hl (by decide) rfl (fun ls hl => ?_)
    obtain ⟨n, hw⟩ := hw
    exact tl_Mod_putFooter_138 hx hb hml hown hT hK hN hA hRc hRs hRf hRl hret  n l1 0 0 x855 H locs ls  hw hW hS (lv_sub hl [2, 3, 1, 0] rfl)
  · have hw := hw.2 c853
    refine lv_aload_n hx hb d_Mod_putFooter_28 rfl (lv_at hl 0 rfl) ?_
    refine lv_aload_n hx hb d_Mod_putFooter_29 rfl (lv_at hl 0 rfl) ?_
    refine w_getf (q := 3) (k := 5) (t := 12) (C := R_Mod) (T := F_Mod) (N := 167) hx hb hT hown hK hW ko_0.1 ko_0.2 (by decide) in_Mod rfl rfl (by decide) rfl fr_Mod_5 w_8_185 d_Mod_putFooter_30 rfl ?_
    refine lv_iload_n hx hb d_Mod_putFooter_33 rfl (lv_at hl 2 rfl) ?_
    obtain ⟨hi, hw⟩ := hw
    refine w_iald (o := 3) hx hb hK hW ko_3.1 ko_3.2 hi d_Mod_putFooter_34 ?_
    refine lv_iconst (v := 3) hx hb d_Mod_putFooter_35 (by decide) ?_
    refine lv_aload_n hx hb d_Mod_putFooter_36 rfl (lv_at hl 0 rfl) ?_
    refine w_getf (q := 4) (k := 6) (t := 12) (C := R_Mod) (T := F_Mod) (N := 167) hx hb hT hown hK hW ko_0.1 ko_0.2 (by decide) in_Mod rfl rfl (by decide) rfl fr_Mod_6 w_8_186 d_Mod_putFooter_37 rfl ?_
    refine lv_iload_n hx hb d_Mod_putFooter_40 rfl (lv_at hl 2 rfl) ?_
    obtain ⟨hi, hw⟩ := hw
    refine w_iald (o := 4) hx hb hK hW ko_4.1 ko_4.2 hi d_Mod_putFooter_41 ?_
    refine lv_imul hx hb d_Mod_putFooter_42 ?_
    refine lv_iadd hx hb d_Mod_putFooter_43 ?_
    have hF := hW.free hS hA
    refine va_callv (va_runV (C := R_Mod) (As := [.int ((rA x 3 l2) + (3 * (rA x 4 l2)))]) (rest := []) ⟨hx, hb, hml, hown, hT⟩ (k_Mod_put l dC dI cI cB cJ cZ ad H.size ((rA x 3 l2) + (3 * (rA x 4 l2))) x  hw) ⟨callB_of 1 hT (gw_in w_11_203) rfl rfl rfl (hT _ w_1_15) (hT _ w_11_200) (by decide +kernel) ⟨Nat.le_trans (by decide) hRf, Nat.le_trans (by decide) hRl⟩, hT _ w_11_202, hT _ ws_154⟩ ⟨PW.blind, va_recv hK hW.1 (ci := 12) (q0 := 0) rfl (pic_obj ko_0.1 ko_0.2 (by decide)), PW.at _ hW hK hN⟩ rfl rfl hl.1 rfl (lv_room (Nat.le_of_ble_eq_true rfl)) d_Mod_putFooter_44 ⟨hRc, hRs⟩) hS (fun q _ h => hF q h) hF (fun  x856 t H locs ht hvm hw hB hz1 hk1 hS => ?_)
    have hW := Wd.back hB ht hF
    clear hB ht hF hz1 hk1 hvm
    refine lv_aload_n hx hb d_Mod_putFooter_47 rfl (lv_at hl 0 rfl) ?_
    refine lv_aload_n hx hb d_Mod_putFooter_48 rfl (lv_at hl 0 rfl) ?_
    refine w_getf (q := 5) (k := 7) (t := 12) (C := R_Mod) (T := F_Mod) (N := 167) hx hb hT hown hK hW ko_0.1 ko_0.2 (by decide) in_Mod rfl rfl (by decide) rfl fr_Mod_7 w_8_187 d_Mod_putFooter_49 rfl ?_
    refine lv_iload_n hx hb d_Mod_putFooter_52 rfl (lv_at hl 2 rfl) ?_
    obtain ⟨hi, hw⟩ := hw
    refine w_iald (o := 5) hx hb hK hW ko_5.1 ko_5.2 hi d_Mod_putFooter_53 ?_
    refine lv_iconst (v := 1) hx hb d_Mod_putFooter_54 (by decide) ?_
    refine lv_iadd hx hb d_Mod_putFooter_55 ?_
    refine lv_i2l hx hb d_Mod_putFooter_56 rfl ?_
    have hF := hW.free hS hA
    refine va_callv (va_runV (C := R_Mod) (As := [.long (((rA x856 5 l2) + 1) : Int32).toInt64]) (rest := []) ⟨hx, hb, hml, hown, hT⟩ (k_Mod_putVarint l dC dI cI cB cJ cZ ad H.size (((rA x856 5 l2) + 1) : Int32).toInt64 x856  hw) ⟨callB_of 1 hT (gw_in w_11_198) rfl rfl rfl (hT _ w_1_15) (hT _ w_11_195) (by decide +kernel) ⟨Nat.le_trans (by decide) hRf, Nat.le_trans (by decide) hRl⟩, hT _ w_11_197, hT _ ws_153⟩ ⟨PW.blind, va_recv hK hW.1 (ci := 12) (q0 := 0) rfl (pic_obj ko_0.1 ko_0.2 (by decide)), PW.at _ hW hK hN⟩ rfl rfl hl.1 rfl (lv_room (Nat.le_of_ble_eq_true rfl)) d_Mod_putFooter_57 ⟨hRc, hRs⟩) hS (fun q _ h => hF q h) hF (fun  x857 t H locs ht hvm hw hB hz1 hk1 hS => ?_)
    have hW := Wd.back hB ht hF
    clear hB ht hF hz1 hk1 hvm
    refine lv_aload_n hx hb d_Mod_putFooter_60 rfl (lv_at hl 0 rfl) ?_
    refine lv_aload_n hx hb d_Mod_putFooter_61 rfl (lv_at hl 0 rfl) ?_
    refine w_getf (q := 7) (k := 9) (t := 12) (C := R_Mod) (T := F_Mod) (N := 167) hx hb hT hown hK hW ko_0.1 ko_0.2 (by decide) in_Mod rfl rfl (by decide) rfl fr_Mod_9 w_8_189 d_Mod_putFooter_62 rfl ?_
    refine lv_iload_n hx hb d_Mod_putFooter_65 rfl (lv_at hl 2 rfl) ?_
    obtain ⟨hi, hw⟩ := hw
    refine w_iald (o := 7) hx hb hK hW ko_7.1 ko_7.2 hi d_Mod_putFooter_66 ?_
    refine lv_i2l hx hb d_Mod_putFooter_67 rfl ?_
    have hF := hW.free hS hA
    refine va_callv (va_runV (C := R_Mod) (As := [.long ((rA x857 7 l2) : Int32).toInt64]) (rest := []) ⟨hx, hb, hml, hown, hT⟩ (k_Mod_putVarint l dC dI cI cB cJ cZ ad H.size ((rA x857 7 l2) : Int32).toInt64 x857  hw) ⟨callB_of 1 hT (gw_in w_11_198) rfl rfl rfl (hT _ w_1_15) (hT _ w_11_195) (by decide +kernel) ⟨Nat.le_trans (by decide) hRf, Nat.le_trans (by decide) hRl⟩, hT _ w_11_197, hT _ ws_153⟩ ⟨PW.blind, va_recv hK hW.1 (ci := 12) (q0 := 0) rfl (pic_obj ko_0.1 ko_0.2 (by decide)), PW.at _ hW hK hN⟩ rfl rfl hl.1 rfl (lv_room (Nat.le_of_ble_eq_true rfl)) d_Mod_putFooter_68 ⟨hRc, hRs⟩) hS (fun q _ h => hF q h) hF (fun  x858 t H locs ht hvm hw hB hz1 hk1 hS => ?_)
    have hW := Wd.back hB ht hF
    clear hB ht hF hz1 hk1 hvm
    refine lv_iconst (v := 0) hx hb d_Mod_putFooter_71 (by decide) ?_
    refine lv_istore_n (lv' := [(3, .int 0), (0, .ref (ad 0)), (1, .int l1), (2, .int l2)]) hx hb d_Mod_putFooter_72 rfl hl (by decide) rfl (fun ls hl => ?_)
    obtain ⟨n, hw⟩ := hw
    exact tl_Mod_putFooter_73 hx hb hml hown hT hK hN hA hRc hRs hRf hRl hret hrec18 n l1 l2 0 x858 H locs ls  hw hW hS (lv_sub hl [1, 2, 3, 0] rfl)
def wl_Mod_putFooter_18 (post : St → Prop) : Nat → Int32 → Int32 → St → Prop
  | 0 => fun _ _ _ => False
  | n + 1 => j_Mod_putFooter_18 post (wl_Mod_putFooter_18 post n)
set_option maxHeartbeats 4000000 in
set_option maxRecDepth 100000 in
theorem tl_Mod_putFooter_18 {p : Program} {l : Launch} {e : Env} {R : Room} {s : State} {m : MethodId} {args : Array Value} {below : List Frame} {meth : Method} {c : Code} {cells slots : Nat} {Q : State → Prop} {dC : Nat → ClassId} {dI : Nat → Nat → Nat} {cI cB cJ cZ : ClassId} {A : Nat → Prop} {ad : Nat → Nat} {post : St → Prop} (hx : p.tables.exec = Jvm.exec) (hb : c.code = b_Mod_putFooter) (hml : c.maxLocals = 6) (hown : s.vm.findClass R_Mod = some m.cls) (hT : ∀ w ∈ TG, w.before args s = true) (hK : va_K (dC, dI) CL (TY cI cB cJ cZ) s) (hN : NW s) (hA : ∀ q : Nat, s.heap.size ≤ q → A q) (hRc : cells ≤ R.cells) (hRs : slots ≤ R.slots) (hRf : 5 ≤ R.frames) (hRl : 119 ≤ R.locals) (hret : ∀ (x : St) (H : Heap) (locs : List Loc) (pc : Nat) (ls : Array Slot), decode b_Mod_putFooter pc = .ok (.return_, 1) → post x → Wd dC dI cI cB cJ cZ ad stM kcM 115 A x H → va_S A s.heap H locs → W p l e R s m args below meth c H locs cells slots Q (F0 m pc ls []))  : ∀ n : Nat, ∀ (l1 : Int32) (l2 : Int32) (x : St) (H : Heap) (locs : List Loc) (ls : Array Slot), wl_Mod_putFooter_18 post n l1 l2 x → Wd dC dI cI cB cJ cZ ad stM kcM 115 A x H → va_S A s.heap H locs → lv_has ls 6 [(0, .ref (ad 0)), (1, .int l1), (2, .int l2)] → W p l e R s m args below meth c H locs cells slots Q (F0 m 18 ls []) := by
  intro n
  induction n with
  | zero => intro l1 l2 x H locs ls  hw; exact hw.elim
  | succ n ih => intro l1 l2 x H locs ls  hw hW hS hl; exact t_Mod_putFooter_18 hx hb hml hown hT hK hN hA hRc hRs hRf hRl hret  ih l1 l2 x H locs ls  hw hW hS hl
set_option maxRecDepth 100000 in
def wp_Mod_putFooter (post : St → Prop) (l1 : Int32) (x : St) : Prop := (∀ x859 : St, x859 = setI x 0 64 0 → (vp_in 0 (fN x859 9) ∧ wp_Mod_putVarint (fun (x860 : St) => ∃ n : Nat, wl_Mod_putFooter_18 post n l1 0 x860) ((rA x859 9 0) : Int32).toInt64 x859))
set_option maxHeartbeats 4000000 in
set_option maxRecDepth 100000 in
theorem t_Mod_putFooter_e {p : Program} {l : Launch} {e : Env} {R : Room} {s : State} {m : MethodId} {args : Array Value} {below : List Frame} {meth : Method} {c : Code} {cells slots : Nat} {Q : State → Prop} {dC : Nat → ClassId} {dI : Nat → Nat → Nat} {cI cB cJ cZ : ClassId} {A : Nat → Prop} {ad : Nat → Nat} {post : St → Prop} (hx : p.tables.exec = Jvm.exec) (hb : c.code = b_Mod_putFooter) (hml : c.maxLocals = 6) (hown : s.vm.findClass R_Mod = some m.cls) (hT : ∀ w ∈ TG, w.before args s = true) (hK : va_K (dC, dI) CL (TY cI cB cJ cZ) s) (hN : NW s) (hA : ∀ q : Nat, s.heap.size ≤ q → A q) (hRc : cells ≤ R.cells) (hRs : slots ≤ R.slots) (hRf : 5 ≤ R.frames) (hRl : 119 ≤ R.locals) (hret : ∀ (x : St) (H : Heap) (locs : List Loc) (pc : Nat) (ls : Array Slot), decode b_Mod_putFooter pc = .ok (.return_, 1) → post x → Wd dC dI cI cB cJ cZ ad stM kcM 115 A x H → va_S A s.heap H locs → W p l e R s m args below meth c H locs cells slots Q (F0 m pc ls [])) : ∀ (l1 : Int32) (x : St) (H : Heap) (locs : List Loc) (ls : Array Slot), wp_Mod_putFooter post l1 x → Wd dC dI cI cB cJ cZ ad stM kcM 115 A x H → va_S A s.heap H locs → lv_has ls 6 [(0, .ref (ad 0)), (1, .int l1)] → W p l e R s m args below meth c H locs cells slots Q (F0 m 0 ls []) := by
  intro l1 x H locs ls  hw hW hS hl
  unfold wp_Mod_putFooter at hw
  refine lv_aload_n hx hb d_Mod_putFooter_0 rfl (lv_at hl 0 rfl) ?_
  refine lv_iconst (v := 0) hx hb d_Mod_putFooter_1 (by decide) ?_
  refine w_puti (ty := .int) (k := 64) (t := 12) (C := R_Mod) (T := F_Mod) (N := 167) hx hb hT hown hK hW hS ko_0.1 ko_0.2 (by decide) in_Mod t_Mod t_Mod_ok n_Mod rfl rfl (by decide) rfl fr_Mod_64 w_9_4 (by decide +kernel) rfl rfl d_Mod_putFooter_2 (fun H locs hW hS => ?_)
  obtain ⟨x859, ex859⟩ : ∃ y : St, y = setI x 0 64 0 := ⟨_, rfl⟩
  rw [← ex859] at hW
  have hw := hw x859 ex859
  refine lv_aload_n hx hb d_Mod_putFooter_5 rfl (lv_at hl 0 rfl) ?_
  refine lv_aload_n hx hb d_Mod_putFooter_6 rfl (lv_at hl 0 rfl) ?_
  refine w_getf (q := 9) (k := 11) (t := 12) (C := R_Mod) (T := F_Mod) (N := 167) hx hb hT hown hK hW ko_0.1 ko_0.2 (by decide) in_Mod rfl rfl (by decide) rfl fr_Mod_11 w_8_191 d_Mod_putFooter_7 rfl ?_
  refine lv_iconst (v := 0) hx hb d_Mod_putFooter_10 (by decide) ?_
  obtain ⟨hi, hw⟩ := hw
  refine w_iald (o := 9) hx hb hK hW ko_9.1 ko_9.2 hi d_Mod_putFooter_11 ?_
  refine lv_i2l hx hb d_Mod_putFooter_12 rfl ?_
  have hF := hW.free hS hA
  refine va_callv (va_runV (C := R_Mod) (As := [.long ((rA x859 9 0) : Int32).toInt64]) (rest := []) ⟨hx, hb, hml, hown, hT⟩ (k_Mod_putVarint l dC dI cI cB cJ cZ ad H.size ((rA x859 9 0) : Int32).toInt64 x859  hw) ⟨callB_of 1 hT (gw_in w_11_198) rfl rfl rfl (hT _ w_1_15) (hT _ w_11_195) (by decide +kernel) ⟨Nat.le_trans (by decide) hRf, Nat.le_trans (by decide) hRl⟩, hT _ w_11_197, hT _ ws_153⟩ ⟨PW.blind, va_recv hK hW.1 (ci := 12) (q0 := 0) rfl (pic_obj ko_0.1 ko_0.2 (by decide)), PW.at _ hW hK hN⟩ rfl rfl hl.1 rfl (lv_room (Nat.le_of_ble_eq_true rfl)) d_Mod_putFooter_13 ⟨hRc, hRs⟩) hS (fun q _ h => hF q h) hF (fun  x860 t H locs ht hvm hw hB hz1 hk1 hS => ?_)
  have hW := Wd.back hB ht hF
  clear hB ht hF hz1 hk1 hvm
  refine lv_iconst (v := 0) hx hb d_Mod_putFooter_16 (by decide) ?_
  refine lv_istore_n (lv' := [(2, .int 0), (0, .ref (ad 0)), (1, .int l1)]) hx hb d_Mod_putFooter_17 rfl hl (by decide) rfl (fun ls hl => ?_)
  obtain ⟨n, hw⟩ := hw
  exact tl_Mod_putFooter_18 hx hb hml hown hT hK hN hA hRc hRs hRf hRl hret  n l1 0 x860 H locs ls  hw hW hS (lv_sub hl [1, 2, 0] rfl)
set_option maxHeartbeats 4000000 in
set_option maxRecDepth 100000 in
theorem k_Mod_putFooter (l : Launch) (dC : Nat → ClassId) (dI : Nat → Nat → Nat) (cI cB cJ cZ : ClassId) (ad : Nat → Nat) (sz : Nat) (l1 : Int32) (x : St) {post : St → Prop} (hw : wp_Mod_putFooter post l1 x) : Met l y_Mod_putFooter (wsOf y_Mod_putFooter b_Mod_putFooter 6 (none)) ({ frames := 5, cells := 0, slots := 0, locals := 119 }) (va_Pc [.ref (ad 0), .int l1] (PW dC dI cI cB cJ cZ ad stM kcM 115 sz x)) (va_Qv (fun (y : St) => post y) (fun y t => Wd dC dI cI cB cJ cZ ad stM kcM 115 (va_A (pic ad stM kcM 115 cI cB cJ cZ x) sz) y t.heap) (va_A (pic ad stM kcM 115 cI cB cJ cZ x) sz)) 0 0 (va_A (pic ad stM kcM 115 cI cB cJ cZ x) sz) := by
  refine Met.ofW (cc := b_Mod_putFooter) (maxL := 6) (ret := none) (by decide) rfl ?_
  intro p e s m args below meth c s₁ B hml hv
  obtain ⟨rfl, hsz, hW0, hK, hN⟩ := hv
  have hx := B.exec
  have hb := B.bytes
  have hr := B.returns
  have hts := atoms_spec B.pre
  have hT : ∀ w ∈ TG, w.before _ s = true := fun w h => hts w (List.mem_cons_of_mem _ h)
  have hown : s.vm.findClass R_Mod = some m.cls := findClass_of_methodNamed B.named
  have hlocks := B.notSynchronized
  subst hsz
  have hW : Wd dC dI cI cB cJ cZ ad stM kcM 115 (va_A (pic ad stM kcM 115 cI cB cJ cZ x) s.heap.size) x s.heap := ⟨hW0.1, hW0.2.1.self (sz := s.heap.size), hW0.2.2⟩
  generalize hAe : va_A (pic ad stM kcM 115 cI cB cJ cZ x) s.heap.size = A at hW ⊢
  have hA : ∀ q : Nat, s.heap.size ≤ q → A q := fun q h => by rw [← hAe]; exact Or.inr h
  have hS : va_S A s.heap s.heap [] := va_S.rf
  have hl := lv_entry ([.ref (ad 0), .int l1]) (n := 6) (Nat.le_of_ble_eq_true rfl)
  rw [lg_entry_eq]
  generalize (lg_sl ([.ref (ad 0), .int l1]) ++ List.replicate (6 - (lg_sl ([.ref (ad 0), .int l1])).length) Slot.unset).toArray = ls at hl ⊢
  have hl : lv_has ls 6 [(0, .ref (ad 0)), (1, .int l1)] := hl
  exact t_Mod_putFooter_e hx hb hml hown hT hK hN hA (Nat.le_refl 0) (Nat.le_refl 0) (Nat.le_refl 5) (Nat.le_refl 119) (fun x H locs pc ls hd hp hW hS => W.vret hx hb hr (fun t ht hM => ⟨⟨x, rfl, hp, Wd.back hW ht.symm (fun _ z => z)⟩, hS.F ht⟩) hS.2.2 hd hlocks)  l1 x _ _ ls  hw hW hS hl
end
