theorem w_13_224 : (Jvm.Cond.methodLink "StripedVaultModel" (1083 : Nat) ({ cls := "StripedVaultModel", name := "holds", desc := "(II)Z" } : Jvm.MethodName)) ∈ TG := tw_13 224 (by decide +kernel) (by decide +kernel)
theorem w_13_225 : (Jvm.Cond.static ({ cls := "StripedVaultModel", name := "holds", desc := "(II)Z" } : Jvm.MethodName)) ∈ TG := tw_13 225 (by decide +kernel) (by decide +kernel)
theorem w_13_226 : (Jvm.Cond.code ({ cls := "StripedVaultModel", name := "holds", desc := "(II)Z" } : Jvm.MethodName) prog_14_method_177_code (2 : Nat) (Option.some Jvm.ClassFile.FieldType.boolean)) ∈ TG := tw_13 226 (by decide +kernel) (by decide +kernel)
theorem w_13_234 : (Jvm.Cond.methodLink "StripedVaultModel" (1086 : Nat) ({ cls := "StripedVaultModel", name := "againstLiteral", desc := "(II)I" } : Jvm.MethodName)) ∈ TG := tw_13 234 (by decide +kernel) (by decide +kernel)
theorem w_13_236 : (Jvm.Cond.instanceMethod ({ cls := "StripedVaultModel", name := "againstLiteral", desc := "(II)I" } : Jvm.MethodName)) ∈ TG := tw_13 236 (by decide +kernel) (by decide +kernel)
theorem w_13_237 : (Jvm.Cond.code ({ cls := "StripedVaultModel", name := "againstLiteral", desc := "(II)I" } : Jvm.MethodName) prog_14_method_176_code (6 : Nat) (Option.some Jvm.ClassFile.FieldType.int)) ∈ TG := tw_13 237 (by decide +kernel) (by decide +kernel)
theorem ws_259 : Cond.selects R_Mod y_Mod_againstLiteral y_Mod_againstLiteral ∈ TG := tw_s 259 (by decide +kernel) (by decide +kernel)
theorem d_Mod_asks_103 : decode b_Mod_asks 103 = .ok (.istore_n 2, 1) := by decide +kernel
theorem d_Mod_asks_104 : decode b_Mod_asks 104 = .ok (.iinc 3 1, 3) := by decide +kernel
theorem d_Mod_asks_107 : decode b_Mod_asks 107 = .ok (.goto (-103), 3) := by decide +kernel
theorem d_Mod_asks_102 : decode b_Mod_asks 102 = .ok (.iconst 0, 1) := by decide +kernel
theorem d_Mod_asks_98 : decode b_Mod_asks 98 = .ok (.iconst 1, 1) := by decide +kernel
theorem d_Mod_asks_99 : decode b_Mod_asks 99 = .ok (.goto 4, 3) := by decide +kernel
theorem d_Mod_asks_67 : decode b_Mod_asks 67 = .ok (.aload_n 0, 1) := by decide +kernel
theorem d_Mod_asks_68 : decode b_Mod_asks 68 = .ok (.getfield 267, 3) := by decide +kernel
theorem d_Mod_asks_71 : decode b_Mod_asks 71 = .ok (.iload 4, 2) := by decide +kernel
theorem d_Mod_asks_73 : decode b_Mod_asks 73 = .ok (.iaload, 1) := by decide +kernel
theorem d_Mod_asks_74 : decode b_Mod_asks 74 = .ok (.iconst 4, 1) := by decide +kernel
theorem d_Mod_asks_75 : decode b_Mod_asks 75 = .ok (.if_icmp .ne 27, 3) := by decide +kernel
theorem d_Mod_asks_78 : decode b_Mod_asks 78 = .ok (.aload_n 0, 1) := by decide +kernel
theorem d_Mod_asks_79 : decode b_Mod_asks 79 = .ok (.getfield 26, 3) := by decide +kernel
theorem d_Mod_asks_82 : decode b_Mod_asks 82 = .ok (.iconst 1, 1) := by decide +kernel
theorem d_Mod_asks_83 : decode b_Mod_asks 83 = .ok (.aload_n 0, 1) := by decide +kernel
theorem d_Mod_asks_84 : decode b_Mod_asks 84 = .ok (.getfield 276, 3) := by decide +kernel
theorem d_Mod_asks_87 : decode b_Mod_asks 87 = .ok (.iload 4, 2) := by decide +kernel
theorem d_Mod_asks_89 : decode b_Mod_asks 89 = .ok (.iaload, 1) := by decide +kernel
theorem d_Mod_asks_90 : decode b_Mod_asks 90 = .ok (.invokestatic 412, 3) := by decide +kernel
theorem d_Mod_asks_93 : decode b_Mod_asks 93 = .ok (.iaload, 1) := by decide +kernel
theorem d_Mod_asks_94 : decode b_Mod_asks 94 = .ok (.iload_n 1, 1) := by decide +kernel
theorem d_Mod_asks_95 : decode b_Mod_asks 95 = .ok (.if_icmp .ne 7, 3) := by decide +kernel
theorem d_Mod_asks_4 : decode b_Mod_asks 4 = .ok (.iload_n 3, 1) := by decide +kernel
theorem d_Mod_asks_5 : decode b_Mod_asks 5 = .ok (.aload_n 0, 1) := by decide +kernel
theorem d_Mod_asks_6 : decode b_Mod_asks 6 = .ok (.getfield 252, 3) := by decide +kernel
theorem d_Mod_asks_9 : decode b_Mod_asks 9 = .ok (.iconst 4, 1) := by decide +kernel
theorem d_Mod_asks_10 : decode b_Mod_asks 10 = .ok (.aload_n 0, 1) := by decide +kernel
theorem d_Mod_asks_11 : decode b_Mod_asks 11 = .ok (.getfield 1062, 3) := by decide +kernel
theorem d_Mod_asks_14 : decode b_Mod_asks 14 = .ok (.imul, 1) := by decide +kernel
theorem d_Mod_asks_15 : decode b_Mod_asks 15 = .ok (.iconst 2, 1) := by decide +kernel
theorem d_Mod_asks_16 : decode b_Mod_asks 16 = .ok (.iadd, 1) := by decide +kernel
theorem d_Mod_asks_17 : decode b_Mod_asks 17 = .ok (.iaload, 1) := by decide +kernel
theorem d_Mod_asks_18 : decode b_Mod_asks 18 = .ok (.if_icmp .ge 92, 3) := by decide +kernel
theorem d_Mod_asks_110 : decode b_Mod_asks 110 = .ok (.iload_n 2, 1) := by decide +kernel
theorem d_Mod_asks_111 : decode b_Mod_asks 111 = .ok (.ireturn, 1) := by decide +kernel
theorem d_Mod_asks_21 : decode b_Mod_asks 21 = .ok (.bipush 64, 2) := by decide +kernel
theorem d_Mod_asks_23 : decode b_Mod_asks 23 = .ok (.aload_n 0, 1) := by decide +kernel
theorem d_Mod_asks_24 : decode b_Mod_asks 24 = .ok (.getfield 1062, 3) := by decide +kernel
theorem d_Mod_asks_27 : decode b_Mod_asks 27 = .ok (.imul, 1) := by decide +kernel
theorem d_Mod_asks_28 : decode b_Mod_asks 28 = .ok (.iload_n 3, 1) := by decide +kernel
theorem d_Mod_asks_29 : decode b_Mod_asks 29 = .ok (.iadd, 1) := by decide +kernel
theorem d_Mod_asks_30 : decode b_Mod_asks 30 = .ok (.istore 4, 2) := by decide +kernel
theorem d_Mod_asks_32 : decode b_Mod_asks 32 = .ok (.iload_n 2, 1) := by decide +kernel
theorem d_Mod_asks_33 : decode b_Mod_asks 33 = .ok (.ifCond .ne 65, 3) := by decide +kernel
theorem d_Mod_asks_36 : decode b_Mod_asks 36 = .ok (.aload_n 0, 1) := by decide +kernel
theorem d_Mod_asks_37 : decode b_Mod_asks 37 = .ok (.getfield 267, 3) := by decide +kernel
theorem d_Mod_asks_40 : decode b_Mod_asks 40 = .ok (.iload 4, 2) := by decide +kernel
theorem d_Mod_asks_42 : decode b_Mod_asks 42 = .ok (.iaload, 1) := by decide +kernel
theorem d_Mod_asks_43 : decode b_Mod_asks 43 = .ok (.iconst 5, 1) := by decide +kernel
theorem d_Mod_asks_44 : decode b_Mod_asks 44 = .ok (.if_icmp .ge 23, 3) := by decide +kernel
theorem d_Mod_asks_47 : decode b_Mod_asks 47 = .ok (.aload_n 0, 1) := by decide +kernel
theorem d_Mod_asks_48 : decode b_Mod_asks 48 = .ok (.getfield 26, 3) := by decide +kernel
theorem d_Mod_asks_51 : decode b_Mod_asks 51 = .ok (.iconst 1, 1) := by decide +kernel
theorem d_Mod_asks_52 : decode b_Mod_asks 52 = .ok (.aload_n 0, 1) := by decide +kernel
theorem d_Mod_asks_53 : decode b_Mod_asks 53 = .ok (.getfield 270, 3) := by decide +kernel
theorem d_Mod_asks_56 : decode b_Mod_asks 56 = .ok (.iload 4, 2) := by decide +kernel
theorem d_Mod_asks_58 : decode b_Mod_asks 58 = .ok (.iaload, 1) := by decide +kernel
theorem d_Mod_asks_59 : decode b_Mod_asks 59 = .ok (.invokestatic 412, 3) := by decide +kernel
theorem d_Mod_asks_62 : decode b_Mod_asks 62 = .ok (.iaload, 1) := by decide +kernel
theorem d_Mod_asks_63 : decode b_Mod_asks 63 = .ok (.iload_n 1, 1) := by decide +kernel
theorem d_Mod_asks_64 : decode b_Mod_asks 64 = .ok (.if_icmp .eq 34, 3) := by decide +kernel
theorem d_Mod_asks_0 : decode b_Mod_asks 0 = .ok (.iconst 0, 1) := by decide +kernel
theorem d_Mod_asks_1 : decode b_Mod_asks 1 = .ok (.istore_n 2, 1) := by decide +kernel
theorem d_Mod_asks_2 : decode b_Mod_asks 2 = .ok (.iconst 0, 1) := by decide +kernel
theorem d_Mod_asks_3 : decode b_Mod_asks 3 = .ok (.istore_n 3, 1) := by decide +kernel
theorem d_Mod_tellChunk_0 : decode b_Mod_tellChunk 0 = .ok (.aload_n 0, 1) := by decide +kernel
theorem d_Mod_tellChunk_1 : decode b_Mod_tellChunk 1 = .ok (.getfield 38, 3) := by decide +kernel
theorem d_Mod_tellChunk_4 : decode b_Mod_tellChunk 4 = .ok (.iconst 1, 1) := by decide +kernel
theorem d_Mod_tellChunk_5 : decode b_Mod_tellChunk 5 = .ok (.iaload, 1) := by decide +kernel
theorem d_Mod_tellChunk_6 : decode b_Mod_tellChunk 6 = .ok (.iload_n 1, 1) := by decide +kernel
theorem d_Mod_tellChunk_7 : decode b_Mod_tellChunk 7 = .ok (.imul, 1) := by decide +kernel
theorem d_Mod_tellChunk_8 : decode b_Mod_tellChunk 8 = .ok (.iload_n 2, 1) := by decide +kernel
theorem d_Mod_tellChunk_9 : decode b_Mod_tellChunk 9 = .ok (.iadd, 1) := by decide +kernel
theorem d_Mod_tellChunk_10 : decode b_Mod_tellChunk 10 = .ok (.istore_n 3, 1) := by decide +kernel
theorem d_Mod_tellChunk_11 : decode b_Mod_tellChunk 11 = .ok (.aload_n 0, 1) := by decide +kernel
theorem d_Mod_tellChunk_12 : decode b_Mod_tellChunk 12 = .ok (.getfield 306, 3) := by decide +kernel
theorem d_Mod_tellChunk_15 : decode b_Mod_tellChunk 15 = .ok (.iload_n 2, 1) := by decide +kernel
theorem d_Mod_tellChunk_16 : decode b_Mod_tellChunk 16 = .ok (.aload_n 0, 1) := by decide +kernel
theorem d_Mod_tellChunk_17 : decode b_Mod_tellChunk 17 = .ok (.getfield 195, 3) := by decide +kernel
theorem d_Mod_tellChunk_20 : decode b_Mod_tellChunk 20 = .ok (.iload_n 3, 1) := by decide +kernel
theorem d_Mod_tellChunk_21 : decode b_Mod_tellChunk 21 = .ok (.iaload, 1) := by decide +kernel
theorem d_Mod_tellChunk_22 : decode b_Mod_tellChunk 22 = .ok (.iastore, 1) := by decide +kernel
theorem d_Mod_tellChunk_23 : decode b_Mod_tellChunk 23 = .ok (.aload_n 0, 1) := by decide +kernel
theorem d_Mod_tellChunk_24 : decode b_Mod_tellChunk 24 = .ok (.getfield 309, 3) := by decide +kernel
theorem d_Mod_tellChunk_27 : decode b_Mod_tellChunk 27 = .ok (.iload_n 2, 1) := by decide +kernel
theorem d_Mod_tellChunk_28 : decode b_Mod_tellChunk 28 = .ok (.aload_n 0, 1) := by decide +kernel
theorem d_Mod_tellChunk_29 : decode b_Mod_tellChunk 29 = .ok (.getfield 198, 3) := by decide +kernel
theorem d_Mod_tellChunk_32 : decode b_Mod_tellChunk 32 = .ok (.iload_n 3, 1) := by decide +kernel
theorem d_Mod_tellChunk_33 : decode b_Mod_tellChunk 33 = .ok (.iaload, 1) := by decide +kernel
theorem d_Mod_tellChunk_34 : decode b_Mod_tellChunk 34 = .ok (.iastore, 1) := by decide +kernel
theorem d_Mod_tellChunk_35 : decode b_Mod_tellChunk 35 = .ok (.aload_n 0, 1) := by decide +kernel
theorem d_Mod_tellChunk_36 : decode b_Mod_tellChunk 36 = .ok (.getfield 312, 3) := by decide +kernel
theorem d_Mod_tellChunk_39 : decode b_Mod_tellChunk 39 = .ok (.iload_n 2, 1) := by decide +kernel
theorem d_Mod_tellChunk_40 : decode b_Mod_tellChunk 40 = .ok (.aload_n 0, 1) := by decide +kernel
theorem d_Mod_tellChunk_41 : decode b_Mod_tellChunk 41 = .ok (.getfield 201, 3) := by decide +kernel
theorem d_Mod_tellChunk_44 : decode b_Mod_tellChunk 44 = .ok (.iload_n 3, 1) := by decide +kernel
theorem d_Mod_tellChunk_45 : decode b_Mod_tellChunk 45 = .ok (.iaload, 1) := by decide +kernel
theorem d_Mod_tellChunk_46 : decode b_Mod_tellChunk 46 = .ok (.iastore, 1) := by decide +kernel
theorem d_Mod_tellChunk_47 : decode b_Mod_tellChunk 47 = .ok (.aload_n 0, 1) := by decide +kernel
theorem d_Mod_tellChunk_48 : decode b_Mod_tellChunk 48 = .ok (.getfield 315, 3) := by decide +kernel
theorem d_Mod_tellChunk_51 : decode b_Mod_tellChunk 51 = .ok (.iload_n 2, 1) := by decide +kernel
theorem d_Mod_tellChunk_52 : decode b_Mod_tellChunk 52 = .ok (.aload_n 0, 1) := by decide +kernel
theorem d_Mod_tellChunk_53 : decode b_Mod_tellChunk 53 = .ok (.getfield 204, 3) := by decide +kernel
theorem d_Mod_tellChunk_56 : decode b_Mod_tellChunk 56 = .ok (.iload_n 3, 1) := by decide +kernel
theorem d_Mod_tellChunk_57 : decode b_Mod_tellChunk 57 = .ok (.iaload, 1) := by decide +kernel
theorem d_Mod_tellChunk_58 : decode b_Mod_tellChunk 58 = .ok (.iastore, 1) := by decide +kernel
theorem d_Mod_tellChunk_59 : decode b_Mod_tellChunk 59 = .ok (.aload_n 0, 1) := by decide +kernel
theorem d_Mod_tellChunk_60 : decode b_Mod_tellChunk 60 = .ok (.getfield 321, 3) := by decide +kernel
theorem d_Mod_tellChunk_63 : decode b_Mod_tellChunk 63 = .ok (.iload_n 2, 1) := by decide +kernel
theorem d_Mod_tellChunk_64 : decode b_Mod_tellChunk 64 = .ok (.iconst 0, 1) := by decide +kernel
theorem d_Mod_tellChunk_65 : decode b_Mod_tellChunk 65 = .ok (.iastore, 1) := by decide +kernel
theorem d_Mod_tellChunk_66 : decode b_Mod_tellChunk 66 = .ok (.return_, 1) := by decide +kernel
theorem d_Mod_holds_0 : decode b_Mod_holds 0 = .ok (.iload_n 0, 1) := by decide +kernel
theorem d_Mod_holds_1 : decode b_Mod_holds 1 = .ok (.ifCond .ne 15, 3) := by decide +kernel
theorem d_Mod_holds_16 : decode b_Mod_holds 16 = .ok (.iload_n 0, 1) := by decide +kernel
theorem d_Mod_holds_17 : decode b_Mod_holds 17 = .ok (.iconst 1, 1) := by decide +kernel
theorem d_Mod_holds_18 : decode b_Mod_holds 18 = .ok (.if_icmp .ne 15, 3) := by decide +kernel
theorem d_Mod_holds_33 : decode b_Mod_holds 33 = .ok (.iload_n 0, 1) := by decide +kernel
theorem d_Mod_holds_34 : decode b_Mod_holds 34 = .ok (.iconst 2, 1) := by decide +kernel
theorem d_Mod_holds_35 : decode b_Mod_holds 35 = .ok (.if_icmp .ne 15, 3) := by decide +kernel
theorem d_Mod_holds_50 : decode b_Mod_holds 50 = .ok (.iload_n 0, 1) := by decide +kernel
theorem d_Mod_holds_51 : decode b_Mod_holds 51 = .ok (.iconst 3, 1) := by decide +kernel
theorem d_Mod_holds_52 : decode b_Mod_holds 52 = .ok (.if_icmp .ne 15, 3) := by decide +kernel
theorem d_Mod_holds_67 : decode b_Mod_holds 67 = .ok (.iload_n 0, 1) := by decide +kernel
theorem d_Mod_holds_68 : decode b_Mod_holds 68 = .ok (.iconst 4, 1) := by decide +kernel
theorem d_Mod_holds_69 : decode b_Mod_holds 69 = .ok (.if_icmp .ne 15, 3) := by decide +kernel
theorem d_Mod_holds_84 : decode b_Mod_holds 84 = .ok (.iload_n 1, 1) := by decide +kernel
theorem d_Mod_holds_85 : decode b_Mod_holds 85 = .ok (.ifCond .lt 7, 3) := by decide +kernel
theorem d_Mod_holds_92 : decode b_Mod_holds 92 = .ok (.iconst 0, 1) := by decide +kernel
theorem d_Mod_holds_93 : decode b_Mod_holds 93 = .ok (.ireturn, 1) := by decide +kernel
theorem d_Mod_holds_88 : decode b_Mod_holds 88 = .ok (.iconst 1, 1) := by decide +kernel
theorem d_Mod_holds_89 : decode b_Mod_holds 89 = .ok (.goto 4, 3) := by decide +kernel
theorem d_Mod_holds_72 : decode b_Mod_holds 72 = .ok (.iload_n 1, 1) := by decide +kernel
theorem d_Mod_holds_73 : decode b_Mod_holds 73 = .ok (.ifCond .le 7, 3) := by decide +kernel
theorem d_Mod_holds_80 : decode b_Mod_holds 80 = .ok (.iconst 0, 1) := by decide +kernel
theorem d_Mod_holds_81 : decode b_Mod_holds 81 = .ok (.goto 12, 3) := by decide +kernel
theorem d_Mod_holds_76 : decode b_Mod_holds 76 = .ok (.iconst 1, 1) := by decide +kernel
theorem d_Mod_holds_77 : decode b_Mod_holds 77 = .ok (.goto 16, 3) := by decide +kernel
theorem d_Mod_holds_55 : decode b_Mod_holds 55 = .ok (.iload_n 1, 1) := by decide +kernel
theorem d_Mod_holds_56 : decode b_Mod_holds 56 = .ok (.ifCond .gt 7, 3) := by decide +kernel
theorem d_Mod_holds_63 : decode b_Mod_holds 63 = .ok (.iconst 0, 1) := by decide +kernel
theorem d_Mod_holds_64 : decode b_Mod_holds 64 = .ok (.goto 29, 3) := by decide +kernel
theorem d_Mod_holds_59 : decode b_Mod_holds 59 = .ok (.iconst 1, 1) := by decide +kernel
theorem d_Mod_holds_60 : decode b_Mod_holds 60 = .ok (.goto 33, 3) := by decide +kernel
theorem d_Mod_holds_38 : decode b_Mod_holds 38 = .ok (.iload_n 1, 1) := by decide +kernel
theorem d_Mod_holds_39 : decode b_Mod_holds 39 = .ok (.ifCond .ge 7, 3) := by decide +kernel
theorem d_Mod_holds_46 : decode b_Mod_holds 46 = .ok (.iconst 0, 1) := by decide +kernel
theorem d_Mod_holds_47 : decode b_Mod_holds 47 = .ok (.goto 46, 3) := by decide +kernel
theorem d_Mod_holds_42 : decode b_Mod_holds 42 = .ok (.iconst 1, 1) := by decide +kernel
theorem d_Mod_holds_43 : decode b_Mod_holds 43 = .ok (.goto 50, 3) := by decide +kernel
theorem d_Mod_holds_21 : decode b_Mod_holds 21 = .ok (.iload_n 1, 1) := by decide +kernel
theorem d_Mod_holds_22 : decode b_Mod_holds 22 = .ok (.ifCond .eq 7, 3) := by decide +kernel
theorem d_Mod_holds_29 : decode b_Mod_holds 29 = .ok (.iconst 0, 1) := by decide +kernel
theorem d_Mod_holds_30 : decode b_Mod_holds 30 = .ok (.goto 63, 3) := by decide +kernel
theorem d_Mod_holds_25 : decode b_Mod_holds 25 = .ok (.iconst 1, 1) := by decide +kernel
theorem d_Mod_holds_26 : decode b_Mod_holds 26 = .ok (.goto 67, 3) := by decide +kernel
theorem d_Mod_holds_4 : decode b_Mod_holds 4 = .ok (.iload_n 1, 1) := by decide +kernel
theorem d_Mod_holds_5 : decode b_Mod_holds 5 = .ok (.ifCond .ne 7, 3) := by decide +kernel
theorem d_Mod_holds_12 : decode b_Mod_holds 12 = .ok (.iconst 0, 1) := by decide +kernel
theorem d_Mod_holds_13 : decode b_Mod_holds 13 = .ok (.goto 80, 3) := by decide +kernel
theorem d_Mod_holds_8 : decode b_Mod_holds 8 = .ok (.iconst 1, 1) := by decide +kernel
theorem d_Mod_holds_9 : decode b_Mod_holds 9 = .ok (.goto 84, 3) := by decide +kernel
theorem d_Mod_canMeet_75 : decode b_Mod_canMeet 75 = .ok (.iconst 1, 1) := by decide +kernel
theorem d_Mod_canMeet_76 : decode b_Mod_canMeet 76 = .ok (.goto 27, 3) := by decide +kernel
theorem d_Mod_canMeet_103 : decode b_Mod_canMeet 103 = .ok (.ireturn, 1) := by decide +kernel
theorem d_Mod_canMeet_58 : decode b_Mod_canMeet 58 = .ok (.iconst 0, 1) := by decide +kernel
theorem d_Mod_canMeet_59 : decode b_Mod_canMeet 59 = .ok (.ireturn, 1) := by decide +kernel
theorem d_Mod_canMeet_0 : decode b_Mod_canMeet 0 = .ok (.aload_n 0, 1) := by decide +kernel
theorem d_Mod_canMeet_1 : decode b_Mod_canMeet 1 = .ok (.iload_n 1, 1) := by decide +kernel
theorem d_Mod_canMeet_2 : decode b_Mod_canMeet 2 = .ok (.aload_n 0, 1) := by decide +kernel
theorem d_Mod_canMeet_3 : decode b_Mod_canMeet 3 = .ok (.getfield 312, 3) := by decide +kernel
theorem d_Mod_canMeet_6 : decode b_Mod_canMeet 6 = .ok (.iload_n 2, 1) := by decide +kernel
theorem d_Mod_canMeet_7 : decode b_Mod_canMeet 7 = .ok (.iaload, 1) := by decide +kernel
theorem d_Mod_canMeet_8 : decode b_Mod_canMeet 8 = .ok (.aload_n 0, 1) := by decide +kernel
theorem d_Mod_canMeet_9 : decode b_Mod_canMeet 9 = .ok (.getfield 315, 3) := by decide +kernel
theorem d_Mod_canMeet_12 : decode b_Mod_canMeet 12 = .ok (.iload 4, 2) := by decide +kernel
theorem d_Mod_canMeet_14 : decode b_Mod_canMeet 14 = .ok (.iaload, 1) := by decide +kernel
theorem d_Mod_canMeet_15 : decode b_Mod_canMeet 15 = .ok (.invokevirtual 905, 3) := by decide +kernel
theorem d_Mod_canMeet_18 : decode b_Mod_canMeet 18 = .ok (.istore 5, 2) := by decide +kernel
theorem d_Mod_canMeet_20 : decode b_Mod_canMeet 20 = .ok (.aload_n 0, 1) := by decide +kernel
theorem d_Mod_canMeet_21 : decode b_Mod_canMeet 21 = .ok (.iload_n 1, 1) := by decide +kernel
theorem d_Mod_canMeet_22 : decode b_Mod_canMeet 22 = .ok (.aload_n 0, 1) := by decide +kernel
theorem d_Mod_canMeet_23 : decode b_Mod_canMeet 23 = .ok (.getfield 315, 3) := by decide +kernel
theorem d_Mod_canMeet_26 : decode b_Mod_canMeet 26 = .ok (.iload_n 2, 1) := by decide +kernel
theorem d_Mod_canMeet_27 : decode b_Mod_canMeet 27 = .ok (.iaload, 1) := by decide +kernel
theorem d_Mod_canMeet_28 : decode b_Mod_canMeet 28 = .ok (.aload_n 0, 1) := by decide +kernel
theorem d_Mod_canMeet_29 : decode b_Mod_canMeet 29 = .ok (.getfield 312, 3) := by decide +kernel
theorem d_Mod_canMeet_32 : decode b_Mod_canMeet 32 = .ok (.iload 4, 2) := by decide +kernel
theorem d_Mod_canMeet_34 : decode b_Mod_canMeet 34 = .ok (.iaload, 1) := by decide +kernel
theorem d_Mod_canMeet_35 : decode b_Mod_canMeet 35 = .ok (.invokevirtual 905, 3) := by decide +kernel
theorem d_Mod_canMeet_38 : decode b_Mod_canMeet 38 = .ok (.istore 6, 2) := by decide +kernel
theorem d_Mod_canMeet_40 : decode b_Mod_canMeet 40 = .ok (.iload_n 3, 1) := by decide +kernel
theorem d_Mod_canMeet_41 : decode b_Mod_canMeet 41 = .ok (.ifCond .ne 19, 3) := by decide +kernel
theorem d_Mod_canMeet_60 : decode b_Mod_canMeet 60 = .ok (.iload_n 3, 1) := by decide +kernel
theorem d_Mod_canMeet_61 : decode b_Mod_canMeet 61 = .ok (.iconst 1, 1) := by decide +kernel
theorem d_Mod_canMeet_62 : decode b_Mod_canMeet 62 = .ok (.if_icmp .ne 21, 3) := by decide +kernel
theorem d_Mod_canMeet_83 : decode b_Mod_canMeet 83 = .ok (.iload_n 3, 1) := by decide +kernel
theorem d_Mod_canMeet_84 : decode b_Mod_canMeet 84 = .ok (.iconst 4, 1) := by decide +kernel
theorem d_Mod_canMeet_85 : decode b_Mod_canMeet 85 = .ok (.if_icmp .ge 12, 3) := by decide +kernel
theorem d_Mod_canMeet_97 : decode b_Mod_canMeet 97 = .ok (.iload_n 3, 1) := by decide +kernel
theorem d_Mod_canMeet_98 : decode b_Mod_canMeet 98 = .ok (.iload 6, 2) := by decide +kernel
theorem d_Mod_canMeet_100 : decode b_Mod_canMeet 100 = .ok (.invokestatic 1083, 3) := by decide +kernel
theorem d_Mod_canMeet_88 : decode b_Mod_canMeet 88 = .ok (.iload_n 3, 1) := by decide +kernel
theorem d_Mod_canMeet_89 : decode b_Mod_canMeet 89 = .ok (.iload 5, 2) := by decide +kernel
theorem d_Mod_canMeet_91 : decode b_Mod_canMeet 91 = .ok (.invokestatic 1083, 3) := by decide +kernel
theorem d_Mod_canMeet_94 : decode b_Mod_canMeet 94 = .ok (.goto 9, 3) := by decide +kernel
theorem d_Mod_canMeet_65 : decode b_Mod_canMeet 65 = .ok (.iload 5, 2) := by decide +kernel
theorem d_Mod_canMeet_67 : decode b_Mod_canMeet 67 = .ok (.ifCond .ne 8, 3) := by decide +kernel
theorem d_Mod_canMeet_70 : decode b_Mod_canMeet 70 = .ok (.iload 6, 2) := by decide +kernel
theorem d_Mod_canMeet_72 : decode b_Mod_canMeet 72 = .ok (.ifCond .eq 7, 3) := by decide +kernel
theorem d_Mod_canMeet_79 : decode b_Mod_canMeet 79 = .ok (.iconst 0, 1) := by decide +kernel
theorem d_Mod_canMeet_80 : decode b_Mod_canMeet 80 = .ok (.goto 23, 3) := by decide +kernel
theorem d_Mod_canMeet_44 : decode b_Mod_canMeet 44 = .ok (.iload 5, 2) := by decide +kernel
theorem d_Mod_canMeet_46 : decode b_Mod_canMeet 46 = .ok (.ifCond .gt 12, 3) := by decide +kernel
theorem d_Mod_canMeet_49 : decode b_Mod_canMeet 49 = .ok (.iload 6, 2) := by decide +kernel
theorem d_Mod_canMeet_51 : decode b_Mod_canMeet 51 = .ok (.ifCond .lt 7, 3) := by decide +kernel
theorem d_Mod_canMeet_54 : decode b_Mod_canMeet 54 = .ok (.iconst 1, 1) := by decide +kernel
theorem d_Mod_canMeet_55 : decode b_Mod_canMeet 55 = .ok (.goto 4, 3) := by decide +kernel
theorem d_Mod_contrary_0 : decode b_Mod_contrary 0 = .ok (.iload_n 0, 1) := by decide +kernel
theorem d_Mod_contrary_1 : decode b_Mod_contrary 1 = .ok (.iconst 2, 1) := by decide +kernel
theorem d_Mod_contrary_2 : decode b_Mod_contrary 2 = .ok (.if_icmp .ge 9, 3) := by decide +kernel
theorem d_Mod_contrary_11 : decode b_Mod_contrary 11 = .ok (.bipush 7, 2) := by decide +kernel
theorem d_Mod_contrary_13 : decode b_Mod_contrary 13 = .ok (.iload_n 0, 1) := by decide +kernel
theorem d_Mod_contrary_14 : decode b_Mod_contrary 14 = .ok (.isub, 1) := by decide +kernel
theorem d_Mod_contrary_15 : decode b_Mod_contrary 15 = .ok (.ireturn, 1) := by decide +kernel
theorem d_Mod_contrary_5 : decode b_Mod_contrary 5 = .ok (.iconst 1, 1) := by decide +kernel
theorem d_Mod_contrary_6 : decode b_Mod_contrary 6 = .ok (.iload_n 0, 1) := by decide +kernel
theorem d_Mod_contrary_7 : decode b_Mod_contrary 7 = .ok (.isub, 1) := by decide +kernel
theorem d_Mod_contrary_8 : decode b_Mod_contrary 8 = .ok (.goto 7, 3) := by decide +kernel
theorem d_Mod_againstLiteral_147 : decode b_Mod_againstLiteral 147 = .ok (.aload_n 0, 1) := by decide +kernel
theorem d_Mod_againstLiteral_148 : decode b_Mod_againstLiteral 148 = .ok (.getfield 179, 3) := by decide +kernel
theorem d_Mod_againstLiteral_151 : decode b_Mod_againstLiteral 151 = .ok (.iload_n 1, 1) := by decide +kernel
theorem d_Mod_againstLiteral_152 : decode b_Mod_againstLiteral 152 = .ok (.iaload, 1) := by decide +kernel
theorem d_Mod_againstLiteral_153 : decode b_Mod_againstLiteral 153 = .ok (.iload_n 3, 1) := by decide +kernel
theorem d_Mod_againstLiteral_154 : decode b_Mod_againstLiteral 154 = .ok (.isub, 1) := by decide +kernel
theorem d_Mod_againstLiteral_155 : decode b_Mod_againstLiteral 155 = .ok (.ireturn, 1) := by decide +kernel
theorem d_Mod_againstLiteral_62 : decode b_Mod_againstLiteral 62 = .ok (.iload 4, 2) := by decide +kernel
theorem d_Mod_againstLiteral_64 : decode b_Mod_againstLiteral 64 = .ok (.iload_n 3, 1) := by decide +kernel
theorem d_Mod_againstLiteral_65 : decode b_Mod_againstLiteral 65 = .ok (.if_icmp .ge 82, 3) := by decide +kernel
theorem d_Mod_againstLiteral_68 : decode b_Mod_againstLiteral 68 = .ok (.iload 4, 2) := by decide +kernel
theorem d_Mod_againstLiteral_70 : decode b_Mod_againstLiteral 70 = .ok (.aload_n 0, 1) := by decide +kernel
theorem d_Mod_againstLiteral_71 : decode b_Mod_againstLiteral 71 = .ok (.getfield 179, 3) := by decide +kernel
theorem d_Mod_againstLiteral_74 : decode b_Mod_againstLiteral 74 = .ok (.iload_n 1, 1) := by decide +kernel
theorem d_Mod_againstLiteral_75 : decode b_Mod_againstLiteral 75 = .ok (.iaload, 1) := by decide +kernel
theorem d_Mod_againstLiteral_76 : decode b_Mod_againstLiteral 76 = .ok (.if_icmp .ge 71, 3) := by decide +kernel
theorem d_Mod_againstLiteral_79 : decode b_Mod_againstLiteral 79 = .ok (.aload_n 0, 1) := by decide +kernel
theorem d_Mod_againstLiteral_80 : decode b_Mod_againstLiteral 80 = .ok (.getfield 291, 3) := by decide +kernel
theorem d_Mod_againstLiteral_83 : decode b_Mod_againstLiteral 83 = .ok (.aload_n 0, 1) := by decide +kernel
theorem d_Mod_againstLiteral_84 : decode b_Mod_againstLiteral 84 = .ok (.getfield 285, 3) := by decide +kernel
theorem d_Mod_againstLiteral_87 : decode b_Mod_againstLiteral 87 = .ok (.iload_n 2, 1) := by decide +kernel
theorem d_Mod_againstLiteral_88 : decode b_Mod_againstLiteral 88 = .ok (.iaload, 1) := by decide +kernel
theorem d_Mod_againstLiteral_89 : decode b_Mod_againstLiteral 89 = .ok (.iload_n 2, 1) := by decide +kernel
theorem d_Mod_againstLiteral_90 : decode b_Mod_againstLiteral 90 = .ok (.bipush 64, 2) := by decide +kernel
theorem d_Mod_againstLiteral_92 : decode b_Mod_againstLiteral 92 = .ok (.idiv, 1) := by decide +kernel
theorem d_Mod_againstLiteral_93 : decode b_Mod_againstLiteral 93 = .ok (.sipush 2000, 3) := by decide +kernel
theorem d_Mod_againstLiteral_96 : decode b_Mod_againstLiteral 96 = .ok (.imul, 1) := by decide +kernel
theorem d_Mod_againstLiteral_97 : decode b_Mod_againstLiteral 97 = .ok (.iadd, 1) := by decide +kernel
theorem d_Mod_againstLiteral_98 : decode b_Mod_againstLiteral 98 = .ok (.iload 4, 2) := by decide +kernel
theorem d_Mod_againstLiteral_100 : decode b_Mod_againstLiteral 100 = .ok (.iadd, 1) := by decide +kernel
theorem d_Mod_againstLiteral_101 : decode b_Mod_againstLiteral 101 = .ok (.iaload, 1) := by decide +kernel
theorem d_Mod_againstLiteral_102 : decode b_Mod_againstLiteral 102 = .ok (.istore 5, 2) := by decide +kernel
theorem d_Mod_againstLiteral_104 : decode b_Mod_againstLiteral 104 = .ok (.aload_n 0, 1) := by decide +kernel
theorem d_Mod_againstLiteral_105 : decode b_Mod_againstLiteral 105 = .ok (.getfield 183, 3) := by decide +kernel
theorem d_Mod_againstLiteral_108 : decode b_Mod_againstLiteral 108 = .ok (.aload_n 0, 1) := by decide +kernel
theorem d_Mod_againstLiteral_109 : decode b_Mod_againstLiteral 109 = .ok (.getfield 176, 3) := by decide +kernel
theorem d_Mod_againstLiteral_112 : decode b_Mod_againstLiteral 112 = .ok (.iload_n 1, 1) := by decide +kernel
theorem d_Mod_againstLiteral_113 : decode b_Mod_againstLiteral 113 = .ok (.iaload, 1) := by decide +kernel
theorem d_Mod_againstLiteral_114 : decode b_Mod_againstLiteral 114 = .ok (.iload 4, 2) := by decide +kernel
theorem d_Mod_againstLiteral_116 : decode b_Mod_againstLiteral 116 = .ok (.iadd, 1) := by decide +kernel
theorem d_Mod_againstLiteral_117 : decode b_Mod_againstLiteral 117 = .ok (.iaload, 1) := by decide +kernel
theorem d_Mod_againstLiteral_118 : decode b_Mod_againstLiteral 118 = .ok (.iload 5, 2) := by decide +kernel
theorem d_Mod_againstLiteral_120 : decode b_Mod_againstLiteral 120 = .ok (.if_icmp .eq 21, 3) := by decide +kernel
theorem d_Mod_againstLiteral_141 : decode b_Mod_againstLiteral 141 = .ok (.iinc 4 1, 3) := by decide +kernel
theorem d_Mod_againstLiteral_144 : decode b_Mod_againstLiteral 144 = .ok (.goto (-82), 3) := by decide +kernel
theorem d_Mod_againstLiteral_123 : decode b_Mod_againstLiteral 123 = .ok (.aload_n 0, 1) := by decide +kernel
theorem d_Mod_againstLiteral_124 : decode b_Mod_againstLiteral 124 = .ok (.getfield 183, 3) := by decide +kernel
theorem d_Mod_againstLiteral_127 : decode b_Mod_againstLiteral 127 = .ok (.aload_n 0, 1) := by decide +kernel
theorem d_Mod_againstLiteral_128 : decode b_Mod_againstLiteral 128 = .ok (.getfield 176, 3) := by decide +kernel
theorem d_Mod_againstLiteral_131 : decode b_Mod_againstLiteral 131 = .ok (.iload_n 1, 1) := by decide +kernel
theorem d_Mod_againstLiteral_132 : decode b_Mod_againstLiteral 132 = .ok (.iaload, 1) := by decide +kernel
theorem d_Mod_againstLiteral_133 : decode b_Mod_againstLiteral 133 = .ok (.iload 4, 2) := by decide +kernel
theorem d_Mod_againstLiteral_135 : decode b_Mod_againstLiteral 135 = .ok (.iadd, 1) := by decide +kernel
theorem d_Mod_againstLiteral_136 : decode b_Mod_againstLiteral 136 = .ok (.iaload, 1) := by decide +kernel
theorem d_Mod_againstLiteral_137 : decode b_Mod_againstLiteral 137 = .ok (.iload 5, 2) := by decide +kernel
theorem d_Mod_againstLiteral_139 : decode b_Mod_againstLiteral 139 = .ok (.isub, 1) := by decide +kernel
theorem d_Mod_againstLiteral_140 : decode b_Mod_againstLiteral 140 = .ok (.ireturn, 1) := by decide +kernel
theorem d_Mod_againstLiteral_0 : decode b_Mod_againstLiteral 0 = .ok (.aload_n 0, 1) := by decide +kernel
theorem d_Mod_againstLiteral_1 : decode b_Mod_againstLiteral 1 = .ok (.getfield 282, 3) := by decide +kernel
theorem d_Mod_againstLiteral_4 : decode b_Mod_againstLiteral 4 = .ok (.iload_n 2, 1) := by decide +kernel
theorem d_Mod_againstLiteral_5 : decode b_Mod_againstLiteral 5 = .ok (.iaload, 1) := by decide +kernel
theorem d_Mod_againstLiteral_6 : decode b_Mod_againstLiteral 6 = .ok (.iconst 3, 1) := by decide +kernel
theorem d_Mod_againstLiteral_7 : decode b_Mod_againstLiteral 7 = .ok (.if_icmp .eq 45, 3) := by decide +kernel
theorem d_Mod_againstLiteral_52 : decode b_Mod_againstLiteral 52 = .ok (.aload_n 0, 1) := by decide +kernel
theorem d_Mod_againstLiteral_53 : decode b_Mod_againstLiteral 53 = .ok (.getfield 288, 3) := by decide +kernel
theorem d_Mod_againstLiteral_56 : decode b_Mod_againstLiteral 56 = .ok (.iload_n 2, 1) := by decide +kernel
theorem d_Mod_againstLiteral_57 : decode b_Mod_againstLiteral 57 = .ok (.iaload, 1) := by decide +kernel
theorem d_Mod_againstLiteral_58 : decode b_Mod_againstLiteral 58 = .ok (.istore_n 3, 1) := by decide +kernel
theorem d_Mod_againstLiteral_59 : decode b_Mod_againstLiteral 59 = .ok (.iconst 0, 1) := by decide +kernel
theorem d_Mod_againstLiteral_60 : decode b_Mod_againstLiteral 60 = .ok (.istore 4, 2) := by decide +kernel
theorem d_Mod_againstLiteral_10 : decode b_Mod_againstLiteral 10 = .ok (.aload_n 0, 1) := by decide +kernel
theorem d_Mod_againstLiteral_11 : decode b_Mod_againstLiteral 11 = .ok (.getfield 173, 3) := by decide +kernel
theorem d_Mod_againstLiteral_14 : decode b_Mod_againstLiteral 14 = .ok (.iload_n 1, 1) := by decide +kernel
theorem d_Mod_againstLiteral_15 : decode b_Mod_againstLiteral 15 = .ok (.laload, 1) := by decide +kernel
theorem d_Mod_againstLiteral_16 : decode b_Mod_againstLiteral 16 = .ok (.aload_n 0, 1) := by decide +kernel
theorem d_Mod_againstLiteral_17 : decode b_Mod_againstLiteral 17 = .ok (.getfield 294, 3) := by decide +kernel
theorem d_Mod_againstLiteral_20 : decode b_Mod_againstLiteral 20 = .ok (.iload_n 2, 1) := by decide +kernel
theorem d_Mod_againstLiteral_21 : decode b_Mod_againstLiteral 21 = .ok (.laload, 1) := by decide +kernel
theorem d_Mod_againstLiteral_22 : decode b_Mod_againstLiteral 22 = .ok (.lcmp, 1) := by decide +kernel
theorem d_Mod_againstLiteral_23 : decode b_Mod_againstLiteral 23 = .ok (.ifCond .ge 7, 3) := by decide +kernel
theorem d_Mod_againstLiteral_30 : decode b_Mod_againstLiteral 30 = .ok (.aload_n 0, 1) := by decide +kernel
theorem d_Mod_againstLiteral_31 : decode b_Mod_againstLiteral 31 = .ok (.getfield 173, 3) := by decide +kernel
theorem d_Mod_againstLiteral_34 : decode b_Mod_againstLiteral 34 = .ok (.iload_n 1, 1) := by decide +kernel
theorem d_Mod_againstLiteral_35 : decode b_Mod_againstLiteral 35 = .ok (.laload, 1) := by decide +kernel
theorem d_Mod_againstLiteral_36 : decode b_Mod_againstLiteral 36 = .ok (.aload_n 0, 1) := by decide +kernel
theorem d_Mod_againstLiteral_37 : decode b_Mod_againstLiteral 37 = .ok (.getfield 294, 3) := by decide +kernel
theorem d_Mod_againstLiteral_40 : decode b_Mod_againstLiteral 40 = .ok (.iload_n 2, 1) := by decide +kernel
theorem d_Mod_againstLiteral_41 : decode b_Mod_againstLiteral 41 = .ok (.laload, 1) := by decide +kernel
theorem d_Mod_againstLiteral_42 : decode b_Mod_againstLiteral 42 = .ok (.lcmp, 1) := by decide +kernel
theorem d_Mod_againstLiteral_43 : decode b_Mod_againstLiteral 43 = .ok (.ifCond .le 7, 3) := by decide +kernel
theorem d_Mod_againstLiteral_50 : decode b_Mod_againstLiteral 50 = .ok (.iconst 0, 1) := by decide +kernel
theorem d_Mod_againstLiteral_51 : decode b_Mod_againstLiteral 51 = .ok (.ireturn, 1) := by decide +kernel
theorem d_Mod_againstLiteral_46 : decode b_Mod_againstLiteral 46 = .ok (.iconst 1, 1) := by decide +kernel
theorem d_Mod_againstLiteral_47 : decode b_Mod_againstLiteral 47 = .ok (.goto 4, 3) := by decide +kernel
theorem d_Mod_againstLiteral_26 : decode b_Mod_againstLiteral 26 = .ok (.iconst (-1), 1) := by decide +kernel
theorem d_Mod_againstLiteral_27 : decode b_Mod_againstLiteral 27 = .ok (.goto 24, 3) := by decide +kernel
theorem d_Mod_canCompare_129 : decode b_Mod_canCompare 129 = .ok (.iconst 1, 1) := by decide +kernel
theorem d_Mod_canCompare_130 : decode b_Mod_canCompare 130 = .ok (.goto 27, 3) := by decide +kernel
theorem d_Mod_canCompare_157 : decode b_Mod_canCompare 157 = .ok (.ireturn, 1) := by decide +kernel
theorem d_Mod_canCompare_112 : decode b_Mod_canCompare 112 = .ok (.iconst 0, 1) := by decide +kernel
theorem d_Mod_canCompare_113 : decode b_Mod_canCompare 113 = .ok (.ireturn, 1) := by decide +kernel
theorem d_Mod_canCompare_48 : decode b_Mod_canCompare 48 = .ok (.istore 4, 2) := by decide +kernel
theorem d_Mod_canCompare_50 : decode b_Mod_canCompare 50 = .ok (.iinc 5 1, 3) := by decide +kernel
theorem d_Mod_canCompare_53 : decode b_Mod_canCompare 53 = .ok (.goto (-47), 3) := by decide +kernel
theorem d_Mod_canCompare_43 : decode b_Mod_canCompare 43 = .ok (.iconst 1, 1) := by decide +kernel
theorem d_Mod_canCompare_44 : decode b_Mod_canCompare 44 = .ok (.goto 4, 3) := by decide +kernel
theorem d_Mod_canCompare_6 : decode b_Mod_canCompare 6 = .ok (.iload 5, 2) := by decide +kernel
theorem d_Mod_canCompare_8 : decode b_Mod_canCompare 8 = .ok (.aload_n 0, 1) := by decide +kernel
theorem d_Mod_canCompare_9 : decode b_Mod_canCompare 9 = .ok (.getfield 321, 3) := by decide +kernel
theorem d_Mod_canCompare_12 : decode b_Mod_canCompare 12 = .ok (.iload_n 1, 1) := by decide +kernel
theorem d_Mod_canCompare_13 : decode b_Mod_canCompare 13 = .ok (.iaload, 1) := by decide +kernel
theorem d_Mod_canCompare_14 : decode b_Mod_canCompare 14 = .ok (.if_icmp .ge 42, 3) := by decide +kernel
theorem d_Mod_canCompare_56 : decode b_Mod_canCompare 56 = .ok (.aload_n 0, 1) := by decide +kernel
theorem d_Mod_canCompare_57 : decode b_Mod_canCompare 57 = .ok (.getfield 321, 3) := by decide +kernel
theorem d_Mod_canCompare_60 : decode b_Mod_canCompare 60 = .ok (.iload_n 1, 1) := by decide +kernel
theorem d_Mod_canCompare_61 : decode b_Mod_canCompare 61 = .ok (.iaload, 1) := by decide +kernel
theorem d_Mod_canCompare_62 : decode b_Mod_canCompare 62 = .ok (.ifCond .le 6, 3) := by decide +kernel
theorem d_Mod_canCompare_68 : decode b_Mod_canCompare 68 = .ok (.aload_n 0, 1) := by decide +kernel
theorem d_Mod_canCompare_69 : decode b_Mod_canCompare 69 = .ok (.aload_n 0, 1) := by decide +kernel
theorem d_Mod_canCompare_70 : decode b_Mod_canCompare 70 = .ok (.getfield 312, 3) := by decide +kernel
theorem d_Mod_canCompare_73 : decode b_Mod_canCompare 73 = .ok (.iload_n 1, 1) := by decide +kernel
theorem d_Mod_canCompare_74 : decode b_Mod_canCompare 74 = .ok (.iaload, 1) := by decide +kernel
theorem d_Mod_canCompare_75 : decode b_Mod_canCompare 75 = .ok (.iload_n 3, 1) := by decide +kernel
theorem d_Mod_canCompare_76 : decode b_Mod_canCompare 76 = .ok (.invokevirtual 1086, 3) := by decide +kernel
theorem d_Mod_canCompare_79 : decode b_Mod_canCompare 79 = .ok (.istore 5, 2) := by decide +kernel
theorem d_Mod_canCompare_81 : decode b_Mod_canCompare 81 = .ok (.aload_n 0, 1) := by decide +kernel
theorem d_Mod_canCompare_82 : decode b_Mod_canCompare 82 = .ok (.aload_n 0, 1) := by decide +kernel
theorem d_Mod_canCompare_83 : decode b_Mod_canCompare 83 = .ok (.getfield 315, 3) := by decide +kernel
theorem d_Mod_canCompare_86 : decode b_Mod_canCompare 86 = .ok (.iload_n 1, 1) := by decide +kernel
theorem d_Mod_canCompare_87 : decode b_Mod_canCompare 87 = .ok (.iaload, 1) := by decide +kernel
theorem d_Mod_canCompare_88 : decode b_Mod_canCompare 88 = .ok (.iload_n 3, 1) := by decide +kernel
theorem d_Mod_canCompare_89 : decode b_Mod_canCompare 89 = .ok (.invokevirtual 1086, 3) := by decide +kernel
theorem d_Mod_canCompare_92 : decode b_Mod_canCompare 92 = .ok (.istore 6, 2) := by decide +kernel
theorem d_Mod_canCompare_94 : decode b_Mod_canCompare 94 = .ok (.iload_n 2, 1) := by decide +kernel
theorem d_Mod_canCompare_95 : decode b_Mod_canCompare 95 = .ok (.ifCond .ne 19, 3) := by decide +kernel
theorem d_Mod_canCompare_114 : decode b_Mod_canCompare 114 = .ok (.iload_n 2, 1) := by decide +kernel
theorem d_Mod_canCompare_115 : decode b_Mod_canCompare 115 = .ok (.iconst 1, 1) := by decide +kernel
theorem d_Mod_canCompare_116 : decode b_Mod_canCompare 116 = .ok (.if_icmp .ne 21, 3) := by decide +kernel
theorem d_Mod_canCompare_137 : decode b_Mod_canCompare 137 = .ok (.iload_n 2, 1) := by decide +kernel
theorem d_Mod_canCompare_138 : decode b_Mod_canCompare 138 = .ok (.iconst 4, 1) := by decide +kernel
theorem d_Mod_canCompare_139 : decode b_Mod_canCompare 139 = .ok (.if_icmp .ge 12, 3) := by decide +kernel
theorem d_Mod_canCompare_151 : decode b_Mod_canCompare 151 = .ok (.iload_n 2, 1) := by decide +kernel
theorem d_Mod_canCompare_152 : decode b_Mod_canCompare 152 = .ok (.iload 6, 2) := by decide +kernel
theorem d_Mod_canCompare_154 : decode b_Mod_canCompare 154 = .ok (.invokestatic 1083, 3) := by decide +kernel
theorem d_Mod_canCompare_142 : decode b_Mod_canCompare 142 = .ok (.iload_n 2, 1) := by decide +kernel
theorem d_Mod_canCompare_143 : decode b_Mod_canCompare 143 = .ok (.iload 5, 2) := by decide +kernel
theorem d_Mod_canCompare_145 : decode b_Mod_canCompare 145 = .ok (.invokestatic 1083, 3) := by decide +kernel
theorem d_Mod_canCompare_148 : decode b_Mod_canCompare 148 = .ok (.goto 9, 3) := by decide +kernel
theorem d_Mod_canCompare_119 : decode b_Mod_canCompare 119 = .ok (.iload 5, 2) := by decide +kernel
theorem d_Mod_canCompare_121 : decode b_Mod_canCompare 121 = .ok (.ifCond .ne 8, 3) := by decide +kernel
theorem d_Mod_canCompare_124 : decode b_Mod_canCompare 124 = .ok (.iload 6, 2) := by decide +kernel
theorem d_Mod_canCompare_126 : decode b_Mod_canCompare 126 = .ok (.ifCond .eq 7, 3) := by decide +kernel
theorem d_Mod_canCompare_133 : decode b_Mod_canCompare 133 = .ok (.iconst 0, 1) := by decide +kernel
theorem d_Mod_canCompare_134 : decode b_Mod_canCompare 134 = .ok (.goto 23, 3) := by decide +kernel
theorem d_Mod_canCompare_98 : decode b_Mod_canCompare 98 = .ok (.iload 5, 2) := by decide +kernel
theorem d_Mod_canCompare_100 : decode b_Mod_canCompare 100 = .ok (.ifCond .gt 12, 3) := by decide +kernel
theorem d_Mod_canCompare_103 : decode b_Mod_canCompare 103 = .ok (.iload 6, 2) := by decide +kernel
theorem d_Mod_canCompare_105 : decode b_Mod_canCompare 105 = .ok (.ifCond .lt 7, 3) := by decide +kernel
theorem d_Mod_canCompare_108 : decode b_Mod_canCompare 108 = .ok (.iconst 1, 1) := by decide +kernel
theorem d_Mod_canCompare_109 : decode b_Mod_canCompare 109 = .ok (.goto 4, 3) := by decide +kernel
theorem d_Mod_canCompare_65 : decode b_Mod_canCompare 65 = .ok (.iload 4, 2) := by decide +kernel
theorem d_Mod_canCompare_67 : decode b_Mod_canCompare 67 = .ok (.ireturn, 1) := by decide +kernel
theorem d_Mod_canCompare_17 : decode b_Mod_canCompare 17 = .ok (.iload 4, 2) := by decide +kernel
theorem d_Mod_canCompare_19 : decode b_Mod_canCompare 19 = .ok (.ifCond .ne 24, 3) := by decide +kernel
theorem d_Mod_canCompare_22 : decode b_Mod_canCompare 22 = .ok (.iload_n 2, 1) := by decide +kernel
theorem d_Mod_canCompare_23 : decode b_Mod_canCompare 23 = .ok (.aload_n 0, 1) := by decide +kernel
theorem d_Mod_canCompare_24 : decode b_Mod_canCompare 24 = .ok (.aload_n 0, 1) := by decide +kernel
theorem d_Mod_canCompare_25 : decode b_Mod_canCompare 25 = .ok (.getfield 318, 3) := by decide +kernel
theorem d_Mod_canCompare_28 : decode b_Mod_canCompare 28 = .ok (.iload_n 1, 1) := by decide +kernel
theorem d_Mod_canCompare_29 : decode b_Mod_canCompare 29 = .ok (.iaload, 1) := by decide +kernel
theorem d_Mod_canCompare_30 : decode b_Mod_canCompare 30 = .ok (.iload 5, 2) := by decide +kernel
theorem d_Mod_canCompare_32 : decode b_Mod_canCompare 32 = .ok (.iadd, 1) := by decide +kernel
theorem d_Mod_canCompare_33 : decode b_Mod_canCompare 33 = .ok (.iload_n 3, 1) := by decide +kernel
theorem d_Mod_canCompare_34 : decode b_Mod_canCompare 34 = .ok (.invokevirtual 1086, 3) := by decide +kernel
theorem d_Mod_canCompare_37 : decode b_Mod_canCompare 37 = .ok (.invokestatic 1083, 3) := by decide +kernel
theorem d_Mod_canCompare_40 : decode b_Mod_canCompare 40 = .ok (.ifCond .eq 7, 3) := by decide +kernel
theorem d_Mod_canCompare_47 : decode b_Mod_canCompare 47 = .ok (.iconst 0, 1) := by decide +kernel
theorem d_Mod_canCompare_0 : decode b_Mod_canCompare 0 = .ok (.iconst 0, 1) := by decide +kernel
theorem d_Mod_canCompare_1 : decode b_Mod_canCompare 1 = .ok (.istore 4, 2) := by decide +kernel
theorem d_Mod_canCompare_3 : decode b_Mod_canCompare 3 = .ok (.iconst 0, 1) := by decide +kernel
theorem d_Mod_canCompare_4 : decode b_Mod_canCompare 4 = .ok (.istore 5, 2) := by decide +kernel
section
variable (l : Launch) (dC : Nat → ClassId) (dI : Nat → Nat → Nat) (cI cB cJ cZ : ClassId)
set_option maxRecDepth 100000 in
set_option maxHeartbeats 4000000 in
set_option maxRecDepth 100000 in
theorem t_Mod_asks_103 {p : Program} {l : Launch} {e : Env} {R : Room} {s : State} {m : MethodId} {args : Array Value} {below : List Frame} {meth : Method} {c : Code} {cells slots : Nat} {Q : State → Prop} {dC : Nat → ClassId} {dI : Nat → Nat → Nat} {cI cB cJ cZ : ClassId} {A : Nat → Prop} {ad : Nat → Nat} {post : Int32 → St → Prop} {rec4 : Int32 → Int32 → Int32 → St → Prop} (hx : p.tables.exec = Jvm.exec) (hb : c.code = b_Mod_asks) (hml : c.maxLocals = 5) (hown : s.vm.findClass R_Mod = some m.cls) (hT : ∀ w ∈ TG, w.before args s = true) (hK : va_K (dC, dI) CL (TY cI cB cJ cZ) s) (hN : NW s) (hA : ∀ q : Nat, s.heap.size ≤ q → A q) (hRc : cells ≤ R.cells) (hRs : slots ≤ R.slots) (hRf : 1 ≤ R.frames) (hRl : 21 ≤ R.locals) (hret : ∀ (r : Int32) (x : St) (H : Heap) (locs : List Loc) (pc : Nat) (ls : Array Slot), decode b_Mod_asks pc = .ok (.ireturn, 1) → narrow .boolean (.int r) = .int r → post r x → Wd dC dI cI cB cJ cZ ad stM kcM 115 A x H → va_S A s.heap H locs → W p l e R s m args below meth c H locs cells slots Q (F0 m pc ls [.int r])) (hrec4 : ∀ (l1 : Int32) (l2 : Int32) (l3 : Int32) (x : St) (H : Heap) (locs : List Loc) (ls : Array Slot), rec4 l1 l2 l3 x → Wd dC dI cI cB cJ cZ ad stM kcM 115 A x H → va_S A s.heap H locs → lv_has ls 5 [(0, .ref (ad 0)), (1, .int l1), (2, .int l2), (3, .int l3)] → W p l e R s m args below meth c H locs cells slots Q (F0 m 4 ls [])) : ∀ (l1 : Int32) (l2 : Int32) (l3 : Int32) (l4 : Int32) (s0 : Int32) (x : St) (H : Heap) (locs : List Loc) (ls : Array Slot), j_Mod_asks_103 post rec4 l1 l2 l3 l4 s0 x → Wd dC dI cI cB cJ cZ ad stM kcM 115 A x H → va_S A s.heap H locs → lv_has ls 5 [(0, .ref (ad 0)), (1, .int l1), (2, .int l2), (3, .int l3), (4, .int l4)] → W p l e R s m args below meth c H locs cells slots Q (F0 m 103 ls [.int s0]) := by
  intro l1 l2 l3 l4 s0 x H locs ls  hw hW hS hl
  unfold j_Mod_asks_103 at hw
  refine lv_istore_n (lv' := [(2, .int s0), (0, .ref (ad 0)), (1, .int l1), (3, .int l3), (4, .int l4)]) hx hb d_Mod_asks_103 rfl hl (by decide) rfl (fun ls hl => ?_)
  refine lv_iinc (v := (l3 + 1)) (lv' := [(3, .int (l3 + 1)), (2, .int s0), (0, .ref (ad 0)), (1, .int l1), (4, .int l4)]) hx hb d_Mod_asks_104 hl (k := 3) rfl rfl (by decide) rfl (fun ls hl => ?_)
  refine lv_goto (tgt := 4) hx hb d_Mod_asks_107 (by decide) ?_
  exact hrec4 l1 s0 (l3 + 1) x H locs ls  hw hW hS (lv_sub hl [2, 3, 1, 0] rfl)
set_option maxRecDepth 100000 in
set_option maxHeartbeats 4000000 in
set_option maxRecDepth 100000 in
theorem t_Mod_asks_102 {p : Program} {l : Launch} {e : Env} {R : Room} {s : State} {m : MethodId} {args : Array Value} {below : List Frame} {meth : Method} {c : Code} {cells slots : Nat} {Q : State → Prop} {dC : Nat → ClassId} {dI : Nat → Nat → Nat} {cI cB cJ cZ : ClassId} {A : Nat → Prop} {ad : Nat → Nat} {post : Int32 → St → Prop} {rec4 : Int32 → Int32 → Int32 → St → Prop} (hx : p.tables.exec = Jvm.exec) (hb : c.code = b_Mod_asks) (hml : c.maxLocals = 5) (hown : s.vm.findClass R_Mod = some m.cls) (hT : ∀ w ∈ TG, w.before args s = true) (hK : va_K (dC, dI) CL (TY cI cB cJ cZ) s) (hN : NW s) (hA : ∀ q : Nat, s.heap.size ≤ q → A q) (hRc : cells ≤ R.cells) (hRs : slots ≤ R.slots) (hRf : 1 ≤ R.frames) (hRl : 21 ≤ R.locals) (hret : ∀ (r : Int32) (x : St) (H : Heap) (locs : List Loc) (pc : Nat) (ls : Array Slot), decode b_Mod_asks pc = .ok (.ireturn, 1) → narrow .boolean (.int r) = .int r → post r x → Wd dC dI cI cB cJ cZ ad stM kcM 115 A x H → va_S A s.heap H locs → W p l e R s m args below meth c H locs cells slots Q (F0 m pc ls [.int r])) (hrec4 : ∀ (l1 : Int32) (l2 : Int32) (l3 : Int32) (x : St) (H : Heap) (locs : List Loc) (ls : Array Slot), rec4 l1 l2 l3 x → Wd dC dI cI cB cJ cZ ad stM kcM 115 A x H → va_S A s.heap H locs → lv_has ls 5 [(0, .ref (ad 0)), (1, .int l1), (2, .int l2), (3, .int l3)] → W p l e R s m args below meth c H locs cells slots Q (F0 m 4 ls [])) : ∀ (l1 : Int32) (l2 : Int32) (l3 : Int32) (l4 : Int32) (x : St) (H : Heap) (locs : List Loc) (ls : Array Slot), j_Mod_asks_102 post rec4 l1 l2 l3 l4 x → Wd dC dI cI cB cJ cZ ad stM kcM 115 A x H → va_S A s.heap H locs → lv_has ls 5 [(0, .ref (ad 0)), (1, .int l1), (2, .int l2), (3, .int l3), (4, .int l4)] → W p l e R s m args below meth c H locs cells slots Q (F0 m 102 ls []) := by
  intro l1 l2 l3 l4 x H locs ls  hw hW hS hl
  unfold j_Mod_asks_102 at hw
  refine lv_iconst (v := 0) hx hb d_Mod_asks_102 (by decide) ?_
  exact t_Mod_asks_103 hx hb hml hown hT hK hN hA hRc hRs hRf hRl hret hrec4 l1 l2 l3 l4 0 x H locs ls  hw hW hS (lv_sub hl [0, 1, 2, 3, 4] rfl)
set_option maxRecDepth 100000 in
set_option maxHeartbeats 4000000 in
set_option maxRecDepth 100000 in
theorem t_Mod_asks_98 {p : Program} {l : Launch} {e : Env} {R : Room} {s : State} {m : MethodId} {args : Array Value} {below : List Frame} {meth : Method} {c : Code} {cells slots : Nat} {Q : State → Prop} {dC : Nat → ClassId} {dI : Nat → Nat → Nat} {cI cB cJ cZ : ClassId} {A : Nat → Prop} {ad : Nat → Nat} {post : Int32 → St → Prop} {rec4 : Int32 → Int32 → Int32 → St → Prop} (hx : p.tables.exec = Jvm.exec) (hb : c.code = b_Mod_asks) (hml : c.maxLocals = 5) (hown : s.vm.findClass R_Mod = some m.cls) (hT : ∀ w ∈ TG, w.before args s = true) (hK : va_K (dC, dI) CL (TY cI cB cJ cZ) s) (hN : NW s) (hA : ∀ q : Nat, s.heap.size ≤ q → A q) (hRc : cells ≤ R.cells) (hRs : slots ≤ R.slots) (hRf : 1 ≤ R.frames) (hRl : 21 ≤ R.locals) (hret : ∀ (r : Int32) (x : St) (H : Heap) (locs : List Loc) (pc : Nat) (ls : Array Slot), decode b_Mod_asks pc = .ok (.ireturn, 1) → narrow .boolean (.int r) = .int r → post r x → Wd dC dI cI cB cJ cZ ad stM kcM 115 A x H → va_S A s.heap H locs → W p l e R s m args below meth c H locs cells slots Q (F0 m pc ls [.int r])) (hrec4 : ∀ (l1 : Int32) (l2 : Int32) (l3 : Int32) (x : St) (H : Heap) (locs : List Loc) (ls : Array Slot), rec4 l1 l2 l3 x → Wd dC dI cI cB cJ cZ ad stM kcM 115 A x H → va_S A s.heap H locs → lv_has ls 5 [(0, .ref (ad 0)), (1, .int l1), (2, .int l2), (3, .int l3)] → W p l e R s m args below meth c H locs cells slots Q (F0 m 4 ls [])) : ∀ (l1 : Int32) (l2 : Int32) (l3 : Int32) (l4 : Int32) (x : St) (H : Heap) (locs : List Loc) (ls : Array Slot), j_Mod_asks_98 post rec4 l1 l2 l3 l4 x → Wd dC dI cI cB cJ cZ ad stM kcM 115 A x H → va_S A s.heap H locs → lv_has ls 5 [(0, .ref (ad 0)), (1, .int l1), (2, .int l2), (3, .int l3), (4, .int l4)] → W p l e R s m args below meth c H locs cells slots Q (F0 m 98 ls []) := by
  intro l1 l2 l3 l4 x H locs ls  hw hW hS hl
  unfold j_Mod_asks_98 at hw
  refine lv_iconst (v := 1) hx hb d_Mod_asks_98 (by decide) ?_
  refine lv_goto (tgt := 103) hx hb d_Mod_asks_99 (by decide) ?_
  exact t_Mod_asks_103 hx hb hml hown hT hK hN hA hRc hRs hRf hRl hret hrec4 l1 l2 l3 l4 1 x H locs ls  hw hW hS (lv_sub hl [0, 1, 2, 3, 4] rfl)
set_option maxRecDepth 100000 in
set_option maxHeartbeats 4000000 in
set_option maxRecDepth 100000 in
theorem t_Mod_asks_67 {p : Program} {l : Launch} {e : Env} {R : Room} {s : State} {m : MethodId} {args : Array Value} {below : List Frame} {meth : Method} {c : Code} {cells slots : Nat} {Q : State → Prop} {dC : Nat → ClassId} {dI : Nat → Nat → Nat} {cI cB cJ cZ : ClassId} {A : Nat → Prop} {ad : Nat → Nat} {post : Int32 → St → Prop} {rec4 : Int32 → Int32 → Int32 → St → Prop} (hx : p.tables.exec = Jvm.exec) (hb : c.code = b_Mod_asks) (hml : c.maxLocals = 5) (hown : s.vm.findClass R_Mod = some m.cls) (hT : ∀ w ∈ TG, w.before args s = true) (hK : va_K (dC, dI) CL (TY cI cB cJ cZ) s) (hN : NW s) (hA : ∀ q : Nat, s.heap.size ≤ q → A q) (hRc : cells ≤ R.cells) (hRs : slots ≤ R.slots) (hRf : 1 ≤ R.frames) (hRl : 21 ≤ R.locals) (hret : ∀ (r : Int32) (x : St) (H : Heap) (locs : List Loc) (pc : Nat) (ls : Array Slot), decode b_Mod_asks pc = .ok (.ireturn, 1) → narrow .boolean (.int r) = .int r → post r x → Wd dC dI cI cB cJ cZ ad stM kcM 115 A x H → va_S A s.heap H locs → W p l e R s m args below meth c H locs cells slots Q (F0 m pc ls [.int r])) (hrec4 : ∀ (l1 : Int32) (l2 : Int32) (l3 : Int32) (x : St) (H : Heap) (locs : List Loc) (ls : Array Slot), rec4 l1 l2 l3 x → Wd dC dI cI cB cJ cZ ad stM kcM 115 A x H → va_S A s.heap H locs → lv_has ls 5 [(0, .ref (ad 0)), (1, .int l1), (2, .int l2), (3, .int l3)] → W p l e R s m args below meth c H locs cells slots Q (F0 m 4 ls [])) : ∀ (l1 : Int32) (l2 : Int32) (l3 : Int32) (l4 : Int32) (x : St) (H : Heap) (locs : List Loc) (ls : Array Slot), j_Mod_asks_67 post rec4 l1 l2 l3 l4 x → Wd dC dI cI cB cJ cZ ad stM kcM 115 A x H → va_S A s.heap H locs → lv_has ls 5 [(0, .ref (ad 0)), (1, .int l1), (2, .int l2), (3, .int l3), (4, .int l4)] → W p l e R s m args below meth c H locs cells slots Q (F0 m 67 ls []) := by
  intro l1 l2 l3 l4 x H locs ls  hw hW hS hl
  unfold j_Mod_asks_67 at hw
  refine lv_aload_n hx hb d_Mod_asks_67 rfl (lv_at hl 0 rfl) ?_
  refine w_getf (q := 84) (k := 127) (t := 12) (C := R_Mod) (T := F_Mod) (N := 167) hx hb hT hown hK hW ko_0.1 ko_0.2 (by decide) in_Mod rfl rfl (by decide) rfl fr_Mod_127 w_9_63 d_Mod_asks_68 rfl ?_
  refine lv_iload hx hb d_Mod_asks_71 (lv_at hl 4 rfl) ?_
  obtain ⟨hi, hw⟩ := hw
  refine w_iald (o := 84) hx hb hK hW ko_84.1 ko_84.2 hi d_Mod_asks_73 ?_
  refine lv_iconst (v := 4) hx hb d_Mod_asks_74 (by decide) ?_
  refine lv_icmp_ne (tgt := 102) hx hb d_Mod_asks_75 (by decide) (fun c2265 => ?_) (fun c2265 => ?_)
  · have hw := hw.1 c2265
    exact t_Mod_asks_102 hx hb hml hown hT hK hN hA hRc hRs hRf hRl hret hrec4 l1 l2 l3 l4 x H locs ls  hw hW hS (lv_sub hl [0, 1, 2, 3, 4] rfl)
  · have hw := hw.2 c2265
    refine lv_aload_n hx hb d_Mod_asks_78 rfl (lv_at hl 0 rfl) ?_
    refine w_getf (q := 6) (k := 8) (t := 12) (C := R_Mod) (T := F_Mod) (N := 167) hx hb hT hown hK hW ko_0.1 ko_0.2 (by decide) in_Mod rfl rfl (by decide) rfl fr_Mod_8 w_8_184 d_Mod_asks_79 rfl ?_
    refine lv_iconst (v := 1) hx hb d_Mod_asks_82 (by decide) ?_
    refine lv_aload_n hx hb d_Mod_asks_83 rfl (lv_at hl 0 rfl) ?_
    refine w_getf (q := 87) (k := 130) (t := 12) (C := R_Mod) (T := F_Mod) (N := 167) hx hb hT hown hK hW ko_0.1 ko_0.2 (by decide) in_Mod rfl rfl (by decide) rfl fr_Mod_130 w_9_66 d_Mod_asks_84 rfl ?_
    refine lv_iload hx hb d_Mod_asks_87 (lv_at hl 4 rfl) ?_
    obtain ⟨hi, hw⟩ := hw
    refine w_iald (o := 87) hx hb hK hW ko_87.1 ko_87.2 hi d_Mod_asks_89 ?_
    have hF := hW.free hS hA
    refine va_calli (va_runS (As := [.int 1, .int (rA x 87 l4)]) (rest := [.ref (ad 6)]) ⟨hx, hb, hml, hown, hT⟩ (k_Mod_place l dC dI cI cB cJ cZ ad H.size 1 (rA x 87 l4) x  hw) ⟨callB_of 2 hT (gwt_in w_11_30) rfl rfl rfl (hT _ w_1_15) (hT _ w_11_28) (by decide +kernel) ⟨Nat.le_trans (Nat.le_of_ble_eq_true rfl) hRf, Nat.le_trans (Nat.le_of_ble_eq_true rfl) hRl⟩, hT _ w_11_29⟩ ⟨PW.blind, PW.at _ hW hK hN⟩ rfl rfl hl.1 rfl (lv_room (Nat.le_of_ble_eq_true rfl)) d_Mod_asks_90 ⟨hRc, hRs⟩) hS (fun q _ h => hF q h) hF (fun r2267 x2266 t H locs ht hvm hw hB hz1 hk1 hS => ?_)
    have hW := Wd.back hB ht hF
    clear hB ht hF hz1 hk1 hvm
    obtain ⟨hi, hw⟩ := hw
    refine w_iald (o := 6) hx hb hK hW ko_6.1 ko_6.2 hi d_Mod_asks_93 ?_
    refine lv_iload_n hx hb d_Mod_asks_94 rfl (lv_at hl 1 rfl) ?_
    refine lv_icmp_ne (tgt := 102) hx hb d_Mod_asks_95 (by decide) (fun c2268 => ?_) (fun c2268 => ?_)
    · have hw := hw.1 c2268
      exact t_Mod_asks_102 hx hb hml hown hT hK hN hA hRc hRs hRf hRl hret hrec4 l1 l2 l3 l4 x2266 H locs ls  hw hW hS (lv_sub hl [0, 1, 2, 3, 4] rfl)
    · have hw := hw.2 c2268
      exact t_Mod_asks_98 hx hb hml hown hT hK hN hA hRc hRs hRf hRl hret hrec4 l1 l2 l3 l4 x2266 H locs ls  hw hW hS (lv_sub hl [0, 1, 2, 3, 4] rfl)
set_option maxRecDepth 100000 in
set_option maxHeartbeats 4000000 in
set_option maxRecDepth 100000 in
theorem t_Mod_asks_4 {p : Program} {l : Launch} {e : Env} {R : Room} {s : State} {m : MethodId} {args : Array Value} {below : List Frame} {meth : Method} {c : Code} {cells slots : Nat} {Q : State → Prop} {dC : Nat → ClassId} {dI : Nat → Nat → Nat} {cI cB cJ cZ : ClassId} {A : Nat → Prop} {ad : Nat → Nat} {post : Int32 → St → Prop} {rec4 : Int32 → Int32 → Int32 → St → Prop} (hx : p.tables.exec = Jvm.exec) (hb : c.code = b_Mod_asks) (hml : c.maxLocals = 5) (hown : s.vm.findClass R_Mod = some m.cls) (hT : ∀ w ∈ TG, w.before args s = true) (hK : va_K (dC, dI) CL (TY cI cB cJ cZ) s) (hN : NW s) (hA : ∀ q : Nat, s.heap.size ≤ q → A q) (hRc : cells ≤ R.cells) (hRs : slots ≤ R.slots) (hRf : 1 ≤ R.frames) (hRl : 21 ≤ R.locals) (hret : ∀ (r : Int32) (x : St) (H : Heap) (locs : List Loc) (pc : Nat) (ls : Array Slot), decode b_Mod_asks pc = .ok (.ireturn, 1) → narrow .boolean (.int r) = .int r → post r x → Wd dC dI cI cB cJ cZ ad stM kcM 115 A x H → va_S A s.heap H locs → W p l e R s m args below meth c H locs cells slots Q (F0 m pc ls [.int r])) (hrec4 : ∀ (l1 : Int32) (l2 : Int32) (l3 : Int32) (x : St) (H : Heap) (locs : List Loc) (ls : Array Slot), rec4 l1 l2 l3 x → Wd dC dI cI cB cJ cZ ad stM kcM 115 A x H → va_S A s.heap H locs → lv_has ls 5 [(0, .ref (ad 0)), (1, .int l1), (2, .int l2), (3, .int l3)] → W p l e R s m args below meth c H locs cells slots Q (F0 m 4 ls [])) : ∀ (l1 : Int32) (l2 : Int32) (l3 : Int32) (x : St) (H : Heap) (locs : List Loc) (ls : Array Slot), j_Mod_asks_4 post rec4 l1 l2 l3 x → Wd dC dI cI cB cJ cZ ad stM kcM 115 A x H → va_S A s.heap H locs → lv_has ls 5 [(0, .ref (ad 0)), (1, .int l1), (2, .int l2), (3, .int l3)] → W p l e R s m args below meth c H locs cells slots Q (F0 m 4 ls []) := by
  intro l1 l2 l3 x H locs ls  hw hW hS hl
  unfold j_Mod_asks_4 at hw
  refine lv_iload_n hx hb d_Mod_asks_4 rfl (lv_at hl 3 rfl) ?_
  refine lv_aload_n hx hb d_Mod_asks_5 rfl (lv_at hl 0 rfl) ?_
  refine w_getf (q := 79) (k := 122) (t := 12) (C := R_Mod) (T := F_Mod) (N := 167) hx hb hT hown hK hW ko_0.1 ko_0.2 (by decide) in_Mod rfl rfl (by decide) rfl fr_Mod_122 w_9_58 d_Mod_asks_6 rfl ?_
  refine lv_iconst (v := 4) hx hb d_Mod_asks_9 (by decide) ?_
  refine lv_aload_n hx hb d_Mod_asks_10 rfl (lv_at hl 0 rfl) ?_
  refine w_geti (k := 117) (t := 12) (C := R_Mod) (T := F_Mod) (N := 167) hx hb hT hown hK hW ko_0.1 ko_0.2 (by decide) in_Mod rfl rfl (by decide) rfl fr_Mod_117 w_9_53 d_Mod_asks_11 ?_
  refine lv_imul hx hb d_Mod_asks_14 ?_
  refine lv_iconst (v := 2) hx hb d_Mod_asks_15 (by decide) ?_
  refine lv_iadd hx hb d_Mod_asks_16 ?_
  obtain ⟨hi, hw⟩ := hw
  refine w_iald (o := 79) hx hb hK hW ko_79.1 ko_79.2 hi d_Mod_asks_17 ?_
  refine lv_icmp_ge (tgt := 110) hx hb d_Mod_asks_18 (by decide) (fun c2269 => ?_) (fun c2269 => ?_)
  · have hw := hw.1 c2269
    refine lv_iload_n hx hb d_Mod_asks_110 rfl (lv_at hl 2 rfl) ?_
    exact hret l2 x H locs 111 ls d_Mod_asks_111 hw.1 hw.2 hW hS
  · have hw := hw.2 c2269
    refine lv_bipush (v := 64) hx hb d_Mod_asks_21 (by decide) ?_
    refine lv_aload_n hx hb d_Mod_asks_23 rfl (lv_at hl 0 rfl) ?_
    refine w_geti (k := 117) (t := 12) (C := R_Mod) (T := F_Mod) (N := 167) hx hb hT hown hK hW ko_0.1 ko_0.2 (by decide) in_Mod rfl rfl (by decide) rfl fr_Mod_117 w_9_53 d_Mod_asks_24 ?_
    refine lv_imul hx hb d_Mod_asks_27 ?_
    refine lv_iload_n hx hb d_Mod_asks_28 rfl (lv_at hl 3 rfl) ?_
    refine lv_iadd hx hb d_Mod_asks_29 ?_
    refine lv_topi (fun v2270 ev2270 => ?_)
    have hw := hw v2270 ev2270
    refine lv_istore (lv' := [(4, .int v2270), (0, .ref (ad 0)), (1, .int l1), (2, .int l2), (3, .int l3)]) hx hb d_Mod_asks_30 hl (by decide) rfl (fun ls hl => ?_)
    refine lv_iload_n hx hb d_Mod_asks_32 rfl (lv_at hl 3 rfl) ?_
    refine lv_if_ne (tgt := 98) hx hb d_Mod_asks_33 (by decide) (fun c2271 => ?_) (fun c2271 => ?_)
    · have hw := hw.1 c2271
      exact t_Mod_asks_98 hx hb hml hown hT hK hN hA hRc hRs hRf hRl hret hrec4 l1 l2 l3 v2270 x H locs ls  hw hW hS (lv_sub hl [1, 2, 3, 4, 0] rfl)
    · have hw := hw.2 c2271
      refine lv_aload_n hx hb d_Mod_asks_36 rfl (lv_at hl 1 rfl) ?_
      refine w_getf (q := 84) (k := 127) (t := 12) (C := R_Mod) (T := F_Mod) (N := 167) hx hb hT hown hK hW ko_0.1 ko_0.2 (by decide) in_Mod rfl rfl (by decide) rfl fr_Mod_127 w_9_63 d_Mod_asks_37 rfl ?_
      refine lv_iload hx hb d_Mod_asks_40 (lv_at hl 0 rfl) ?_
      obtain ⟨hi, hw⟩ := hw
      refine w_iald (o := 84) hx hb hK hW ko_84.1 ko_84.2 hi d_Mod_asks_42 ?_
      refine lv_iconst (v := 5) hx hb d_Mod_asks_43 (by decide) ?_
      refine lv_icmp_ge (tgt := 67) hx hb d_Mod_asks_44 (by decide) (fun c2272 => ?_) (fun c2272 => ?_)
      · have hw := hw.1 c2272
        exact t_Mod_asks_67 hx hb hml hown hT hK hN hA hRc hRs hRf hRl hret hrec4 l1 l2 l3 v2270 x H locs ls  hw hW hS (lv_sub hl [1, 2, 3, 4, 0] rfl)
      · have hw := hw.2 c2272
        refine lv_aload_n hx hb d_Mod_asks_47 rfl (lv_at hl 1 rfl) ?_
        refine w_getf (q := 6) (k := 8) (t := 12) (C := R_Mod) (T := F_Mod) (N := 167) hx hb hT hown hK hW ko_0.1 ko_0.2 (by decide) in_Mod rfl rfl (by decide) rfl fr_Mod_8 w_8_184 d_Mod_asks_48 rfl ?_
        refine lv_iconst (v := 1) hx hb d_Mod_asks_51 (by decide) ?_
        refine lv_aload_n hx hb d_Mod_asks_52 rfl (lv_at hl 1 rfl) ?_
        refine w_getf (q := 85) (k := 128) (t := 12) (C := R_Mod) (T := F_Mod) (N := 167) hx hb hT hown hK hW ko_0.1 ko_0.2 (by decide) in_Mod rfl rfl (by decide) rfl fr_Mod_128 w_9_64 d_Mod_asks_53 rfl ?_
        refine lv_iload hx hb d_Mod_asks_56 (lv_at hl 0 rfl) ?_
        obtain ⟨hi, hw⟩ := hw
        refine w_iald (o := 85) hx hb hK hW ko_85.1 ko_85.2 hi d_Mod_asks_58 ?_
        have hF := hW.free hS hA
        refine va_calli (va_runS (As := [.int 1, .int (rA x 85 v2270)]) (rest := [.ref (ad 6)]) ⟨hx, hb, hml, hown, hT⟩ (k_Mod_place l dC dI cI cB cJ cZ ad H.size 1 (rA x 85 v2270) x  hw) ⟨callB_of 2 hT (gwt_in w_11_30) rfl rfl rfl (hT _ w_1_15) (hT _ w_11_28) (by decide +kernel) ⟨Nat.le_trans (Nat.le_of_ble_eq_true rfl) hRf, Nat.le_trans (Nat.le_of_ble_eq_true rfl) hRl⟩, hT _ w_11_29⟩ ⟨PW.blind, PW.at _ hW hK hN⟩ rfl rfl hl.1 rfl (lv_room (Nat.le_of_ble_eq_true rfl)) d_Mod_asks_59 ⟨hRc, hRs⟩) hS (fun q _ h => hF q h) hF (fun r2274 x2273 t H locs ht hvm hw hB hz1 hk1 hS => ?_)
        have hW := Wd.back hB ht hF
        clear hB ht hF hz1 hk1 hvm
        obtain ⟨hi, hw⟩ := hw
        refine w_iald (o := 6) hx hb hK hW ko_6.1 ko_6.2 hi d_Mod_asks_62 ?_
        refine lv_iload_n hx hb d_Mod_asks_63 rfl (lv_at hl 2 rfl) ?_
        refine lv_icmp_eq (tgt := 98) hx hb d_Mod_asks_64 (by decide) (fun c2275 => ?_) (fun c2275 => ?_)
        · have hw := hw.1 c2275
          exact t_Mod_asks_98 hx hb hml hown hT hK hN hA hRc hRs hRf hRl hret hrec4 l1 l2 l3 v2270 x2273 H locs ls  hw hW hS (lv_sub hl [1, 2, 3, 4, 0] rfl)
        · have hw := hw.2 c2275
          exact t_Mod_asks_67 hx hb hml hown hT hK hN hA hRc hRs hRf hRl hret hrec4 l1 l2 l3 v2270 x2273 H locs ls  hw hW hS (lv_sub hl [1, 2, 3, 4, 0] rfl)
set_option maxHeartbeats 4000000 in
set_option maxRecDepth 100000 in
theorem tl_Mod_asks_4 {p : Program} {l : Launch} {e : Env} {R : Room} {s : State} {m : MethodId} {args : Array Value} {below : List Frame} {meth : Method} {c : Code} {cells slots : Nat} {Q : State → Prop} {dC : Nat → ClassId} {dI : Nat → Nat → Nat} {cI cB cJ cZ : ClassId} {A : Nat → Prop} {ad : Nat → Nat} {post : Int32 → St → Prop} (hx : p.tables.exec = Jvm.exec) (hb : c.code = b_Mod_asks) (hml : c.maxLocals = 5) (hown : s.vm.findClass R_Mod = some m.cls) (hT : ∀ w ∈ TG, w.before args s = true) (hK : va_K (dC, dI) CL (TY cI cB cJ cZ) s) (hN : NW s) (hA : ∀ q : Nat, s.heap.size ≤ q → A q) (hRc : cells ≤ R.cells) (hRs : slots ≤ R.slots) (hRf : 1 ≤ R.frames) (hRl : 21 ≤ R.locals) (hret : ∀ (r : Int32) (x : St) (H : Heap) (locs : List Loc) (pc : Nat) (ls : Array Slot), decode b_Mod_asks pc = .ok (.ireturn, 1) → narrow .boolean (.int r) = .int r → post r x → Wd dC dI cI cB cJ cZ ad stM kcM 115 A x H → va_S A s.heap H locs → W p l e R s m args below meth c H locs cells slots Q (F0 m pc ls [.int r]))  : ∀ n : Nat, ∀ (l1 : Int32) (l2 : Int32) (l3 : Int32) (x : St) (H : Heap) (locs : List Loc) (ls : Array Slot), wl_Mod_asks_4 post n l1 l2 l3 x → Wd dC dI cI cB cJ cZ ad stM kcM 115 A x H → va_S A s.heap H locs → lv_has ls 5 [(0, .ref (ad 0)), (1, .int l1), (2, .int l2), (3, .int l3)] → W p l e R s m args below meth c H locs cells slots Q (F0 m 4 ls []) := by
  intro n
  induction n with
  | zero => intro l1 l2 l3 x H locs ls  hw; exact hw.elim
  | succ n ih => intro l1 l2 l3 x H locs ls  hw hW hS hl; exact t_Mod_asks_4 hx hb hml hown hT hK hN hA hRc hRs hRf hRl hret  ih l1 l2 l3 x H locs ls  hw hW hS hl
set_option maxRecDepth 100000 in
set_option maxHeartbeats 4000000 in
set_option maxRecDepth 100000 in
theorem t_Mod_asks_e {p : Program} {l : Launch} {e : Env} {R : Room} {s : State} {m : MethodId} {args : Array Value} {below : List Frame} {meth : Method} {c : Code} {cells slots : Nat} {Q : State → Prop} {dC : Nat → ClassId} {dI : Nat → Nat → Nat} {cI cB cJ cZ : ClassId} {A : Nat → Prop} {ad : Nat → Nat} {post : Int32 → St → Prop} (hx : p.tables.exec = Jvm.exec) (hb : c.code = b_Mod_asks) (hml : c.maxLocals = 5) (hown : s.vm.findClass R_Mod = some m.cls) (hT : ∀ w ∈ TG, w.before args s = true) (hK : va_K (dC, dI) CL (TY cI cB cJ cZ) s) (hN : NW s) (hA : ∀ q : Nat, s.heap.size ≤ q → A q) (hRc : cells ≤ R.cells) (hRs : slots ≤ R.slots) (hRf : 1 ≤ R.frames) (hRl : 21 ≤ R.locals) (hret : ∀ (r : Int32) (x : St) (H : Heap) (locs : List Loc) (pc : Nat) (ls : Array Slot), decode b_Mod_asks pc = .ok (.ireturn, 1) → narrow .boolean (.int r) = .int r → post r x → Wd dC dI cI cB cJ cZ ad stM kcM 115 A x H → va_S A s.heap H locs → W p l e R s m args below meth c H locs cells slots Q (F0 m pc ls [.int r])) : ∀ (l1 : Int32) (x : St) (H : Heap) (locs : List Loc) (ls : Array Slot), wp_Mod_asks post l1 x → Wd dC dI cI cB cJ cZ ad stM kcM 115 A x H → va_S A s.heap H locs → lv_has ls 5 [(0, .ref (ad 0)), (1, .int l1)] → W p l e R s m args below meth c H locs cells slots Q (F0 m 0 ls []) := by
  intro l1 x H locs ls  hw hW hS hl
  unfold wp_Mod_asks at hw
  refine lv_iconst (v := 0) hx hb d_Mod_asks_0 (by decide) ?_
  refine lv_istore_n (lv' := [(2, .int 0), (0, .ref (ad 0)), (1, .int l1)]) hx hb d_Mod_asks_1 rfl hl (by decide) rfl (fun ls hl => ?_)
  refine lv_iconst (v := 0) hx hb d_Mod_asks_2 (by decide) ?_
  refine lv_istore_n (lv' := [(3, .int 0), (2, .int 0), (0, .ref (ad 0)), (1, .int l1)]) hx hb d_Mod_asks_3 rfl hl (by decide) rfl (fun ls hl => ?_)
  obtain ⟨n, hw⟩ := hw
  exact tl_Mod_asks_4 hx hb hml hown hT hK hN hA hRc hRs hRf hRl hret  n l1 0 0 x H locs ls  hw hW hS (lv_sub hl [2, 3, 1, 0] rfl)
set_option maxHeartbeats 4000000 in
set_option maxRecDepth 100000 in
theorem k_Mod_asks (l : Launch) (dC : Nat → ClassId) (dI : Nat → Nat → Nat) (cI cB cJ cZ : ClassId) (ad : Nat → Nat) (sz : Nat) (l1 : Int32) (x : St) {post : Int32 → St → Prop} (hw : wp_Mod_asks post l1 x) : Met l y_Mod_asks (wsOf y_Mod_asks b_Mod_asks 5 (some (.boolean))) ({ frames := 1, cells := 0, slots := 0, locals := 21 }) (va_Pc [.ref (ad 0), .int l1] (PW dC dI cI cB cJ cZ ad stM kcM 115 sz x)) (va_Qi (fun (r : Int32) (y : St) => post r y) (fun y t => Wd dC dI cI cB cJ cZ ad stM kcM 115 (va_A (pic ad stM kcM 115 cI cB cJ cZ x) sz) y t.heap) (va_A (pic ad stM kcM 115 cI cB cJ cZ x) sz)) 0 0 (va_A (pic ad stM kcM 115 cI cB cJ cZ x) sz) := by
  refine Met.ofW (cc := b_Mod_asks) (maxL := 5) (ret := some (.boolean)) (by decide) rfl ?_
  intro p e s m args below meth c s₁ B hml hv
  obtain ⟨rfl, hsz, hW0, hK, hN⟩ := hv
  have hx := B.exec
  have hb := B.bytes
  have hr := B.returns
  have hts := atoms_spec B.pre
  have hT : ∀ w ∈ TG, w.before _ s = true := fun w h => hts w (List.mem_cons_of_mem _ h)
  have hown : s.vm.findClass R_Mod = some m.cls := findClass_of_methodNamed B.named
  have hlocks := B.notSynchronized
  subst hsz
  have hW : Wd dC dI cI cB cJ cZ ad stM kcM 115 (va_A (pic ad stM kcM 115 cI cB cJ cZ x) s.heap.size) x s.heap := ⟨hW0.1, hW0.2.1.self (sz := s.heap.size), hW0.2.2⟩
  generalize hAe : va_A (pic ad stM kcM 115 cI cB cJ cZ x) s.heap.size = A at hW ⊢
  have hA : ∀ q : Nat, s.heap.size ≤ q → A q := fun q h => by rw [← hAe]; exact Or.inr h
  have hS : va_S A s.heap s.heap [] := va_S.rf
  have hl := lv_entry ([.ref (ad 0), .int l1]) (n := 5) (Nat.le_of_ble_eq_true rfl)
  rw [lg_entry_eq]
  generalize (lg_sl ([.ref (ad 0), .int l1]) ++ List.replicate (5 - (lg_sl ([.ref (ad 0), .int l1])).length) Slot.unset).toArray = ls at hl ⊢
  have hl : lv_has ls 5 [(0, .ref (ad 0)), (1, .int l1)] := hl
  exact t_Mod_asks_e hx hb hml hown hT hK hN hA (Nat.le_refl 0) (Nat.le_refl 0) (Nat.le_refl 1) (Nat.le_refl 21) (fun r x H locs pc ls hd hz hp hW hS => W.zret (v := r) (ty := .boolean) hx hb hr hz (fun t ht hM => ⟨⟨r, x, rfl, hp, Wd.back hW ht.symm (fun _ z => z)⟩, hS.F ht⟩) hS.2.2 hd hlocks)  l1 x _ _ ls  hw hW hS hl
set_option maxRecDepth 100000 in
set_option maxHeartbeats 4000000 in
set_option maxRecDepth 100000 in
theorem t_Mod_tellChunk_e {p : Program} {l : Launch} {e : Env} {R : Room} {s : State} {m : MethodId} {args : Array Value} {below : List Frame} {meth : Method} {c : Code} {cells slots : Nat} {Q : State → Prop} {dC : Nat → ClassId} {dI : Nat → Nat → Nat} {cI cB cJ cZ : ClassId} {A : Nat → Prop} {ad : Nat → Nat} {post : St → Prop} (hx : p.tables.exec = Jvm.exec) (hb : c.code = b_Mod_tellChunk) (hml : c.maxLocals = 4) (hown : s.vm.findClass R_Mod = some m.cls) (hT : ∀ w ∈ TG, w.before args s = true) (hK : va_K (dC, dI) CL (TY cI cB cJ cZ) s) (hN : NW s) (hA : ∀ q : Nat, s.heap.size ≤ q → A q) (hRc : cells ≤ R.cells) (hRs : slots ≤ R.slots) (hRf : 0 ≤ R.frames) (hRl : 0 ≤ R.locals) (hret : ∀ (x : St) (H : Heap) (locs : List Loc) (pc : Nat) (ls : Array Slot), decode b_Mod_tellChunk pc = .ok (.return_, 1) → post x → Wd dC dI cI cB cJ cZ ad stM kcM 115 A x H → va_S A s.heap H locs → W p l e R s m args below meth c H locs cells slots Q (F0 m pc ls [])) : ∀ (l1 : Int32) (l2 : Int32) (x : St) (H : Heap) (locs : List Loc) (ls : Array Slot), wp_Mod_tellChunk post l1 l2 x → Wd dC dI cI cB cJ cZ ad stM kcM 115 A x H → va_S A s.heap H locs → lv_has ls 4 [(0, .ref (ad 0)), (1, .int l1), (2, .int l2)] → W p l e R s m args below meth c H locs cells slots Q (F0 m 0 ls []) := by
  intro l1 l2 x H locs ls  hw hW hS hl
  unfold wp_Mod_tellChunk at hw
  refine lv_aload_n hx hb d_Mod_tellChunk_0 rfl (lv_at hl 0 rfl) ?_
  refine w_getf (q := 10) (k := 12) (t := 12) (C := R_Mod) (T := F_Mod) (N := 167) hx hb hT hown hK hW ko_0.1 ko_0.2 (by decide) in_Mod rfl rfl (by decide) rfl fr_Mod_12 w_8_188 d_Mod_tellChunk_1 rfl ?_
  refine lv_iconst (v := 1) hx hb d_Mod_tellChunk_4 (by decide) ?_
  obtain ⟨hi, hw⟩ := hw
  refine w_iald (o := 10) hx hb hK hW ko_10.1 ko_10.2 hi d_Mod_tellChunk_5 ?_
  refine lv_iload_n hx hb d_Mod_tellChunk_6 rfl (lv_at hl 1 rfl) ?_
  refine lv_imul hx hb d_Mod_tellChunk_7 ?_
  refine lv_iload_n hx hb d_Mod_tellChunk_8 rfl (lv_at hl 2 rfl) ?_
  refine lv_iadd hx hb d_Mod_tellChunk_9 ?_
  refine lv_topi (fun v2276 ev2276 => ?_)
  have hw := hw v2276 ev2276
  refine lv_istore_n (lv' := [(3, .int v2276), (0, .ref (ad 0)), (1, .int l1), (2, .int l2)]) hx hb d_Mod_tellChunk_10 rfl hl (by decide) rfl (fun ls hl => ?_)
  refine lv_aload_n hx hb d_Mod_tellChunk_11 rfl (lv_at hl 1 rfl) ?_
  refine w_getf (q := 97) (k := 142) (t := 12) (C := R_Mod) (T := F_Mod) (N := 167) hx hb hT hown hK hW ko_0.1 ko_0.2 (by decide) in_Mod rfl rfl (by decide) rfl fr_Mod_142 w_9_78 d_Mod_tellChunk_12 rfl ?_
  refine lv_iload_n hx hb d_Mod_tellChunk_15 rfl (lv_at hl 3 rfl) ?_
  refine lv_aload_n hx hb d_Mod_tellChunk_16 rfl (lv_at hl 1 rfl) ?_
  refine w_getf (q := 61) (k := 98) (t := 12) (C := R_Mod) (T := F_Mod) (N := 167) hx hb hT hown hK hW ko_0.1 ko_0.2 (by decide) in_Mod rfl rfl (by decide) rfl fr_Mod_98 w_9_34 d_Mod_tellChunk_17 rfl ?_
  refine lv_iload_n hx hb d_Mod_tellChunk_20 rfl (lv_at hl 0 rfl) ?_
  obtain ⟨hi, hw⟩ := hw
  refine w_iald (o := 61) hx hb hK hW ko_61.1 ko_61.2 hi d_Mod_tellChunk_21 ?_
  obtain ⟨hi, hw⟩ := hw
  refine w_iast (o := 97) hx hb hK hW hS ko_97.1 ko_97.2 hi d_Mod_tellChunk_22 (fun H locs hW hS => ?_)
  obtain ⟨x2277, ex2277⟩ : ∃ y : St, y = setA x 97 l2 (rA x 61 v2276) := ⟨_, rfl⟩
  rw [← ex2277] at hW
  have hw := hw x2277 ex2277
  refine lv_aload_n hx hb d_Mod_tellChunk_23 rfl (lv_at hl 1 rfl) ?_
  refine w_getf (q := 98) (k := 143) (t := 12) (C := R_Mod) (T := F_Mod) (N := 167) hx hb hT hown hK hW ko_0.1 ko_0.2 (by decide) in_Mod rfl rfl (by decide) rfl fr_Mod_143 w_9_79 d_Mod_tellChunk_24 rfl ?_
  refine lv_iload_n hx hb d_Mod_tellChunk_27 rfl (lv_at hl 3 rfl) ?_
  refine lv_aload_n hx hb d_Mod_tellChunk_28 rfl (lv_at hl 1 rfl) ?_
  refine w_getf (q := 62) (k := 99) (t := 12) (C := R_Mod) (T := F_Mod) (N := 167) hx hb hT hown hK hW ko_0.1 ko_0.2 (by decide) in_Mod rfl rfl (by decide) rfl fr_Mod_99 w_9_35 d_Mod_tellChunk_29 rfl ?_
  refine lv_iload_n hx hb d_Mod_tellChunk_32 rfl (lv_at hl 0 rfl) ?_
  obtain ⟨hi, hw⟩ := hw
  refine w_iald (o := 62) hx hb hK hW ko_62.1 ko_62.2 hi d_Mod_tellChunk_33 ?_
  obtain ⟨hi, hw⟩ := hw
  refine w_iast (o := 98) hx hb hK hW hS ko_98.1 ko_98.2 hi d_Mod_tellChunk_34 (fun H locs hW hS => ?_)
  obtain ⟨x2278, ex2278⟩ : ∃ y : St, y = setA x2277 98 l2 (rA x2277 62 v2276) := ⟨_, rfl⟩
  rw [← ex2278] at hW
  have hw := hw x2278 ex2278
  refine lv_aload_n hx hb d_Mod_tellChunk_35 rfl (lv_at hl 1 rfl) ?_
  refine w_getf (q := 99) (k := 144) (t := 12) (C := R_Mod) (T := F_Mod) (N := 167) hx hb hT hown hK hW ko_0.1 ko_0.2 (by decide) in_Mod rfl rfl (by decide) rfl fr_Mod_144 w_9_80 d_Mod_tellChunk_36 rfl ?_
  refine lv_iload_n hx hb d_Mod_tellChunk_39 rfl (lv_at hl 3 rfl) ?_
  refine lv_aload_n hx hb d_Mod_tellChunk_40 rfl (lv_at hl 1 rfl) ?_
  refine w_getf (q := 63) (k := 100) (t := 12) (C := R_Mod) (T := F_Mod) (N := 167) hx hb hT hown hK hW ko_0.1 ko_0.2 (by decide) in_Mod rfl rfl (by decide) rfl fr_Mod_100 w_9_36 d_Mod_tellChunk_41 rfl ?_
  refine lv_iload_n hx hb d_Mod_tellChunk_44 rfl (lv_at hl 0 rfl) ?_
  obtain ⟨hi, hw⟩ := hw
  refine w_iald (o := 63) hx hb hK hW ko_63.1 ko_63.2 hi d_Mod_tellChunk_45 ?_
  obtain ⟨hi, hw⟩ := hw
  refine w_iast (o := 99) hx hb hK hW hS ko_99.1 ko_99.2 hi d_Mod_tellChunk_46 (fun H locs hW hS => ?_)
  obtain ⟨x2279, ex2279⟩ : ∃ y : St, y = setA x2278 99 l2 (rA x2278 63 v2276) := ⟨_, rfl⟩
  rw [← ex2279] at hW
  have hw := hw x2279 ex2279
  refine lv_aload_n hx hb d_Mod_tellChunk_47 rfl (lv_at hl 1 rfl) ?_
  refine w_getf (q := 100) (k := 145) (t := 12) (C := R_Mod) (T := F_Mod) (N := 167) hx hb hT hown hK hW ko_0.1 ko_0.2 (by decide) in_Mod rfl rfl (by decide) rfl fr_Mod_145 w_9_81 d_Mod_tellChunk_48 rfl ?_
  refine lv_iload_n hx hb d_Mod_tellChunk_51 rfl (lv_at hl 3 rfl) ?_
  refine lv_aload_n hx hb d_Mod_tellChunk_52 rfl (lv_at hl 1 rfl) ?_
  refine w_getf (q := 64) (k := 101) (t := 12) (C := R_Mod) (T := F_Mod) (N := 167) hx hb hT hown hK hW ko_0.1 ko_0.2 (by decide) in_Mod rfl rfl (by decide) rfl fr_Mod_101 w_9_37 d_Mod_tellChunk_53 rfl ?_
  refine lv_iload_n hx hb d_Mod_tellChunk_56 rfl (lv_at hl 0 rfl) ?_
  obtain ⟨hi, hw⟩ := hw
  refine w_iald (o := 64) hx hb hK hW ko_64.1 ko_64.2 hi d_Mod_tellChunk_57 ?_
  obtain ⟨hi, hw⟩ := hw
  refine w_iast (o := 100) hx hb hK hW hS ko_100.1 ko_100.2 hi d_Mod_tellChunk_58 (fun H locs hW hS => ?_)
  obtain ⟨x2280, ex2280⟩ : ∃ y : St, y = setA x2279 100 l2 (rA x2279 64 v2276) := ⟨_, rfl⟩
  rw [← ex2280] at hW
  have hw := hw x2280 ex2280
  refine lv_aload_n hx hb d_Mod_tellChunk_59 rfl (lv_at hl 1 rfl) ?_
  refine w_getf (q := 102) (k := 147) (t := 12) (C := R_Mod) (T := F_Mod) (N := 167) hx hb hT hown hK hW ko_0.1 ko_0.2 (by decide) in_Mod rfl rfl (by decide) rfl fr_Mod_147 w_9_83 d_Mod_tellChunk_60 rfl ?_
  refine lv_iload_n hx hb d_Mod_tellChunk_63 rfl (lv_at hl 3 rfl) ?_
  refine lv_iconst (v := 0) hx hb d_Mod_tellChunk_64 (by decide) ?_
  obtain ⟨hi, hw⟩ := hw
  refine w_iast (o := 102) hx hb hK hW hS ko_102.1 ko_102.2 hi d_Mod_tellChunk_65 (fun H locs hW hS => ?_)
  obtain ⟨x2281, ex2281⟩ : ∃ y : St, y = setA x2280 102 l2 0 := ⟨_, rfl⟩
  rw [← ex2281] at hW
  have hw := hw x2281 ex2281
  exact hret x2281 H locs 66 ls d_Mod_tellChunk_66 hw hW hS
set_option maxHeartbeats 4000000 in
set_option maxRecDepth 100000 in
theorem k_Mod_tellChunk (l : Launch) (dC : Nat → ClassId) (dI : Nat → Nat → Nat) (cI cB cJ cZ : ClassId) (ad : Nat → Nat) (sz : Nat) (l1 : Int32) (l2 : Int32) (x : St) {post : St → Prop} (hw : wp_Mod_tellChunk post l1 l2 x) : Met l y_Mod_tellChunk (wsOf y_Mod_tellChunk b_Mod_tellChunk 4 (none)) ({ frames := 0, cells := 0, slots := 0, locals := 0 }) (va_Pc [.ref (ad 0), .int l1, .int l2] (PW dC dI cI cB cJ cZ ad stM kcM 115 sz x)) (va_Qv (fun (y : St) => post y) (fun y t => Wd dC dI cI cB cJ cZ ad stM kcM 115 (va_A (pic ad stM kcM 115 cI cB cJ cZ x) sz) y t.heap) (va_A (pic ad stM kcM 115 cI cB cJ cZ x) sz)) 0 0 (va_A (pic ad stM kcM 115 cI cB cJ cZ x) sz) := by
  refine Met.ofW (cc := b_Mod_tellChunk) (maxL := 4) (ret := none) (by decide) rfl ?_
  intro p e s m args below meth c s₁ B hml hv
  obtain ⟨rfl, hsz, hW0, hK, hN⟩ := hv
  have hx := B.exec
  have hb := B.bytes
  have hr := B.returns
  have hts := atoms_spec B.pre
  have hT : ∀ w ∈ TG, w.before _ s = true := fun w h => hts w (List.mem_cons_of_mem _ h)
  have hown : s.vm.findClass R_Mod = some m.cls := findClass_of_methodNamed B.named
  have hlocks := B.notSynchronized
  subst hsz
  have hW : Wd dC dI cI cB cJ cZ ad stM kcM 115 (va_A (pic ad stM kcM 115 cI cB cJ cZ x) s.heap.size) x s.heap := ⟨hW0.1, hW0.2.1.self (sz := s.heap.size), hW0.2.2⟩
  generalize hAe : va_A (pic ad stM kcM 115 cI cB cJ cZ x) s.heap.size = A at hW ⊢
  have hA : ∀ q : Nat, s.heap.size ≤ q → A q := fun q h => by rw [← hAe]; exact Or.inr h
  have hS : va_S A s.heap s.heap [] := va_S.rf
  have hl := lv_entry ([.ref (ad 0), .int l1, .int l2]) (n := 4) (Nat.le_of_ble_eq_true rfl)
  rw [lg_entry_eq]
  generalize (lg_sl ([.ref (ad 0), .int l1, .int l2]) ++ List.replicate (4 - (lg_sl ([.ref (ad 0), .int l1, .int l2])).length) Slot.unset).toArray = ls at hl ⊢
  have hl : lv_has ls 4 [(0, .ref (ad 0)), (1, .int l1), (2, .int l2)] := hl
  exact t_Mod_tellChunk_e hx hb hml hown hT hK hN hA (Nat.le_refl 0) (Nat.le_refl 0) (Nat.le_refl 0) (Nat.le_refl 0) (fun x H locs pc ls hd hp hW hS => W.vret hx hb hr (fun t ht hM => ⟨⟨x, rfl, hp, Wd.back hW ht.symm (fun _ z => z)⟩, hS.F ht⟩) hS.2.2 hd hlocks)  l1 l2 x _ _ ls  hw hW hS hl
set_option maxRecDepth 100000 in
set_option maxHeartbeats 4000000 in
set_option maxRecDepth 100000 in
theorem t_Mod_holds_e {p : Program} {l : Launch} {e : Env} {R : Room} {s : State} {m : MethodId} {args : Array Value} {below : List Frame} {meth : Method} {c : Code} {cells slots : Nat} {Q : State → Prop} {dC : Nat → ClassId} {dI : Nat → Nat → Nat} {cI cB cJ cZ : ClassId} {A : Nat → Prop} {ad : Nat → Nat} {post : Int32 → St → Prop} (hx : p.tables.exec = Jvm.exec) (hb : c.code = b_Mod_holds) (hml : c.maxLocals = 2) (hown : s.vm.findClass R_Mod = some m.cls) (hT : ∀ w ∈ TG, w.before args s = true) (hK : va_K (dC, dI) CL (TY cI cB cJ cZ) s) (hN : NW s) (hA : ∀ q : Nat, s.heap.size ≤ q → A q) (hRc : cells ≤ R.cells) (hRs : slots ≤ R.slots) (hRf : 0 ≤ R.frames) (hRl : 0 ≤ R.locals) (hret : ∀ (r : Int32) (x : St) (H : Heap) (locs : List Loc) (pc : Nat) (ls : Array Slot), decode b_Mod_holds pc = .ok (.ireturn, 1) → narrow .boolean (.int r) = .int r → post r x → Wd dC dI cI cB cJ cZ ad stM kcM 115 A x H → va_S A s.heap H locs → W p l e R s m args below meth c H locs cells slots Q (F0 m pc ls [.int r])) : ∀ (l0 : Int32) (l1 : Int32) (x : St) (H : Heap) (locs : List Loc) (ls : Array Slot), wp_Mod_holds post l0 l1 x → Wd dC dI cI cB cJ cZ ad stM kcM 115 A x H → va_S A s.heap H locs → lv_has ls 2 [(0, .int l0), (1, .int l1)] → W p l e R s m args below meth c H locs cells slots Q (F0 m 0 ls []) := by
  intro l0 l1 x H locs ls  hw hW hS hl
  unfold wp_Mod_holds at hw
  refine lv_iload_n hx hb d_Mod_holds_0 rfl (lv_at hl 0 rfl) ?_
  refine lv_if_ne (tgt := 16) hx hb d_Mod_holds_1 (by decide) (fun c2282 => ?_) (fun c2282 => ?_)
  · have hw := hw.1 c2282
    refine lv_iload_n hx hb d_Mod_holds_16 rfl (lv_at hl 0 rfl) ?_
    refine lv_iconst (v := 1) hx hb d_Mod_holds_17 (by decide) ?_
    refine lv_icmp_ne (tgt := 33) hx hb d_Mod_holds_18 (by decide) (fun c2283 => ?_) (fun c2283 => ?_)
    · have hw := hw.1 c2283
      refine lv_iload_n hx hb d_Mod_holds_33 rfl (lv_at hl 0 rfl) ?_
      refine lv_iconst (v := 2) hx hb d_Mod_holds_34 (by decide) ?_
      refine lv_icmp_ne (tgt := 50) hx hb d_Mod_holds_35 (by decide) (fun c2284 => ?_) (fun c2284 => ?_)
      · have hw := hw.1 c2284
        refine lv_iload_n hx hb d_Mod_holds_50 rfl (lv_at hl 0 rfl) ?_
        refine lv_iconst (v := 3) hx hb d_Mod_holds_51 (by decide) ?_
        refine lv_icmp_ne (tgt := 67) hx hb d_Mod_holds_52 (by decide) (fun c2285 => ?_) (fun c2285 => ?_)
        · have hw := hw.1 c2285
          refine lv_iload_n hx hb d_Mod_holds_67 rfl (lv_at hl 0 rfl) ?_
          refine lv_iconst (v := 4) hx hb d_Mod_holds_68 (by decide) ?_
          refine lv_icmp_ne (tgt := 84) hx hb d_Mod_holds_69 (by decide) (fun c2286 => ?_) (fun c2286 => ?_)
          · have hw := hw.1 c2286
            refine lv_iload_n hx hb d_Mod_holds_84 rfl (lv_at hl 1 rfl) ?_
            refine lv_if_lt (tgt := 92) hx hb d_Mod_holds_85 (by decide) (fun c2287 => ?_) (fun c2287 => ?_)
            · have hw := hw.1 c2287
              refine lv_iconst (v := 0) hx hb d_Mod_holds_92 (by decide) ?_
              exact hret 0 x H locs 93 ls d_Mod_holds_93 rfl hw hW hS
            · have hw := hw.2 c2287
              refine lv_iconst (v := 1) hx hb d_Mod_holds_88 (by decide) ?_
              refine lv_goto (tgt := 93) hx hb d_Mod_holds_89 (by decide) ?_
              exact hret 1 x H locs 93 ls d_Mod_holds_93 rfl hw hW hS
          · have hw := hw.2 c2286
            refine lv_iload_n hx hb d_Mod_holds_72 rfl (lv_at hl 1 rfl) ?_
            refine lv_if_le (tgt := 80) hx hb d_Mod_holds_73 (by decide) (fun c2288 => ?_) (fun c2288 => ?_)
            · have hw := hw.1 c2288
              refine lv_iconst (v := 0) hx hb d_Mod_holds_80 (by decide) ?_
              refine lv_goto (tgt := 93) hx hb d_Mod_holds_81 (by decide) ?_
              exact hret 0 x H locs 93 ls d_Mod_holds_93 rfl hw hW hS
            · have hw := hw.2 c2288
              refine lv_iconst (v := 1) hx hb d_Mod_holds_76 (by decide) ?_
              refine lv_goto (tgt := 93) hx hb d_Mod_holds_77 (by decide) ?_
              exact hret 1 x H locs 93 ls d_Mod_holds_93 rfl hw hW hS
        · have hw := hw.2 c2285
          refine lv_iload_n hx hb d_Mod_holds_55 rfl (lv_at hl 1 rfl) ?_
          refine lv_if_gt (tgt := 63) hx hb d_Mod_holds_56 (by decide) (fun c2289 => ?_) (fun c2289 => ?_)
          · have hw := hw.1 c2289
            refine lv_iconst (v := 0) hx hb d_Mod_holds_63 (by decide) ?_
            refine lv_goto (tgt := 93) hx hb d_Mod_holds_64 (by decide) ?_
            exact hret 0 x H locs 93 ls d_Mod_holds_93 rfl hw hW hS
          · have hw := hw.2 c2289
            refine lv_iconst (v := 1) hx hb d_Mod_holds_59 (by decide) ?_
            refine lv_goto (tgt := 93) hx hb d_Mod_holds_60 (by decide) ?_
            exact hret 1 x H locs 93 ls d_Mod_holds_93 rfl hw hW hS
      · have hw := hw.2 c2284
        refine lv_iload_n hx hb d_Mod_holds_38 rfl (lv_at hl 1 rfl) ?_
        refine lv_if_ge (tgt := 46) hx hb d_Mod_holds_39 (by decide) (fun c2290 => ?_) (fun c2290 => ?_)
        · have hw := hw.1 c2290
          refine lv_iconst (v := 0) hx hb d_Mod_holds_46 (by decide) ?_
          refine lv_goto (tgt := 93) hx hb d_Mod_holds_47 (by decide) ?_
          exact hret 0 x H locs 93 ls d_Mod_holds_93 rfl hw hW hS
        · have hw := hw.2 c2290
          refine lv_iconst (v := 1) hx hb d_Mod_holds_42 (by decide) ?_
          refine lv_goto (tgt := 93) hx hb d_Mod_holds_43 (by decide) ?_
          exact hret 1 x H locs 93 ls d_Mod_holds_93 rfl hw hW hS
    · have hw := hw.2 c2283
      refine lv_iload_n hx hb d_Mod_holds_21 rfl (lv_at hl 1 rfl) ?_
      refine lv_if_eq (tgt := 29) hx hb d_Mod_holds_22 (by decide) (fun c2291 => ?_) (fun c2291 => ?_)
      · have hw := hw.1 c2291
        refine lv_iconst (v := 0) hx hb d_Mod_holds_29 (by decide) ?_
        refine lv_goto (tgt := 93) hx hb d_Mod_holds_30 (by decide) ?_
        exact hret 0 x H locs 93 ls d_Mod_holds_93 rfl hw hW hS
      · have hw := hw.2 c2291
        refine lv_iconst (v := 1) hx hb d_Mod_holds_25 (by decide) ?_
        refine lv_goto (tgt := 93) hx hb d_Mod_holds_26 (by decide) ?_
        exact hret 1 x H locs 93 ls d_Mod_holds_93 rfl hw hW hS
  · have hw := hw.2 c2282
    refine lv_iload_n hx hb d_Mod_holds_4 rfl (lv_at hl 1 rfl) ?_
    refine lv_if_ne (tgt := 12) hx hb d_Mod_holds_5 (by decide) (fun c2292 => ?_) (fun c2292 => ?_)
    · have hw := hw.1 c2292
      refine lv_iconst (v := 0) hx hb d_Mod_holds_12 (by decide) ?_
      refine lv_goto (tgt := 93) hx hb d_Mod_holds_13 (by decide) ?_
      exact hret 0 x H locs 93 ls d_Mod_holds_93 rfl hw hW hS
    · have hw := hw.2 c2292
      refine lv_iconst (v := 1) hx hb d_Mod_holds_8 (by decide) ?_
      refine lv_goto (tgt := 93) hx hb d_Mod_holds_9 (by decide) ?_
      exact hret 1 x H locs 93 ls d_Mod_holds_93 rfl hw hW hS
set_option maxHeartbeats 4000000 in
set_option maxRecDepth 100000 in
theorem k_Mod_holds (l : Launch) (dC : Nat → ClassId) (dI : Nat → Nat → Nat) (cI cB cJ cZ : ClassId) (ad : Nat → Nat) (sz : Nat) (l0 : Int32) (l1 : Int32) (x : St) {post : Int32 → St → Prop} (hw : wp_Mod_holds post l0 l1 x) : Met l y_Mod_holds (wsOf y_Mod_holds b_Mod_holds 2 (some (.boolean))) ({ frames := 0, cells := 0, slots := 0, locals := 0 }) (va_Pc [.int l0, .int l1] (PW dC dI cI cB cJ cZ ad stM kcM 115 sz x)) (va_Qi (fun (r : Int32) (y : St) => post r y) (fun y t => Wd dC dI cI cB cJ cZ ad stM kcM 115 (va_A (pic ad stM kcM 115 cI cB cJ cZ x) sz) y t.heap) (va_A (pic ad stM kcM 115 cI cB cJ cZ x) sz)) 0 0 (va_A (pic ad stM kcM 115 cI cB cJ cZ x) sz) := by
  refine Met.ofW (cc := b_Mod_holds) (maxL := 2) (ret := some (.boolean)) (by decide) rfl ?_
  intro p e s m args below meth c s₁ B hml hv
  obtain ⟨rfl, hsz, hW0, hK, hN⟩ := hv
  have hx := B.exec
  have hb := B.bytes
  have hr := B.returns
  have hts := atoms_spec B.pre
  have hT : ∀ w ∈ TG, w.before _ s = true := fun w h => hts w (List.mem_cons_of_mem _ h)
  have hown : s.vm.findClass R_Mod = some m.cls := findClass_of_methodNamed B.named
  have hlocks := B.notSynchronized
  subst hsz
  have hW : Wd dC dI cI cB cJ cZ ad stM kcM 115 (va_A (pic ad stM kcM 115 cI cB cJ cZ x) s.heap.size) x s.heap := ⟨hW0.1, hW0.2.1.self (sz := s.heap.size), hW0.2.2⟩
  generalize hAe : va_A (pic ad stM kcM 115 cI cB cJ cZ x) s.heap.size = A at hW ⊢
  have hA : ∀ q : Nat, s.heap.size ≤ q → A q := fun q h => by rw [← hAe]; exact Or.inr h
  have hS : va_S A s.heap s.heap [] := va_S.rf
  have hl := lv_entry ([.int l0, .int l1]) (n := 2) (Nat.le_of_ble_eq_true rfl)
  rw [lg_entry_eq]
  generalize (lg_sl ([.int l0, .int l1]) ++ List.replicate (2 - (lg_sl ([.int l0, .int l1])).length) Slot.unset).toArray = ls at hl ⊢
  have hl : lv_has ls 2 [(0, .int l0), (1, .int l1)] := hl
  exact t_Mod_holds_e hx hb hml hown hT hK hN hA (Nat.le_refl 0) (Nat.le_refl 0) (Nat.le_refl 0) (Nat.le_refl 0) (fun r x H locs pc ls hd hz hp hW hS => W.zret (v := r) (ty := .boolean) hx hb hr hz (fun t ht hM => ⟨⟨r, x, rfl, hp, Wd.back hW ht.symm (fun _ z => z)⟩, hS.F ht⟩) hS.2.2 hd hlocks)  l0 l1 x _ _ ls  hw hW hS hl
set_option maxRecDepth 100000 in
set_option maxHeartbeats 4000000 in
set_option maxRecDepth 100000 in
theorem t_Mod_canMeet_75 {p : Program} {l : Launch} {e : Env} {R : Room} {s : State} {m : MethodId} {args : Array Value} {below : List Frame} {meth : Method} {c : Code} {cells slots : Nat} {Q : State → Prop} {dC : Nat → ClassId} {dI : Nat → Nat → Nat} {cI cB cJ cZ : ClassId} {A : Nat → Prop} {ad : Nat → Nat} {post : Int32 → St → Prop} (hx : p.tables.exec = Jvm.exec) (hb : c.code = b_Mod_canMeet) (hml : c.maxLocals = 7) (hown : s.vm.findClass R_Mod = some m.cls) (hT : ∀ w ∈ TG, w.before args s = true) (hK : va_K (dC, dI) CL (TY cI cB cJ cZ) s) (hN : NW s) (hA : ∀ q : Nat, s.heap.size ≤ q → A q) (hRc : cells ≤ R.cells) (hRs : slots ≤ R.slots) (hRf : 1 ≤ R.frames) (hRl : 24 ≤ R.locals) (hret : ∀ (r : Int32) (x : St) (H : Heap) (locs : List Loc) (pc : Nat) (ls : Array Slot), decode b_Mod_canMeet pc = .ok (.ireturn, 1) → narrow .boolean (.int r) = .int r → post r x → Wd dC dI cI cB cJ cZ ad stM kcM 115 A x H → va_S A s.heap H locs → W p l e R s m args below meth c H locs cells slots Q (F0 m pc ls [.int r]))  : ∀ (l1 : Int32) (l2 : Int32) (l3 : Int32) (l4 : Int32) (l5 : Int32) (l6 : Int32) (x : St) (H : Heap) (locs : List Loc) (ls : Array Slot), j_Mod_canMeet_75 post l1 l2 l3 l4 l5 l6 x → Wd dC dI cI cB cJ cZ ad stM kcM 115 A x H → va_S A s.heap H locs → lv_has ls 7 [(0, .ref (ad 0)), (1, .int l1), (2, .int l2), (3, .int l3), (4, .int l4), (5, .int l5), (6, .int l6)] → W p l e R s m args below meth c H locs cells slots Q (F0 m 75 ls []) := by
  intro l1 l2 l3 l4 l5 l6 x H locs ls  hw hW hS hl
  unfold j_Mod_canMeet_75 at hw
  refine lv_iconst (v := 1) hx hb d_Mod_canMeet_75 (by decide) ?_
  refine lv_goto (tgt := 103) hx hb d_Mod_canMeet_76 (by decide) ?_
  exact hret 1 x H locs 103 ls d_Mod_canMeet_103 rfl hw hW hS
set_option maxRecDepth 100000 in
set_option maxHeartbeats 4000000 in
set_option maxRecDepth 100000 in
theorem t_Mod_canMeet_58 {p : Program} {l : Launch} {e : Env} {R : Room} {s : State} {m : MethodId} {args : Array Value} {below : List Frame} {meth : Method} {c : Code} {cells slots : Nat} {Q : State → Prop} {dC : Nat → ClassId} {dI : Nat → Nat → Nat} {cI cB cJ cZ : ClassId} {A : Nat → Prop} {ad : Nat → Nat} {post : Int32 → St → Prop} (hx : p.tables.exec = Jvm.exec) (hb : c.code = b_Mod_canMeet) (hml : c.maxLocals = 7) (hown : s.vm.findClass R_Mod = some m.cls) (hT : ∀ w ∈ TG, w.before args s = true) (hK : va_K (dC, dI) CL (TY cI cB cJ cZ) s) (hN : NW s) (hA : ∀ q : Nat, s.heap.size ≤ q → A q) (hRc : cells ≤ R.cells) (hRs : slots ≤ R.slots) (hRf : 1 ≤ R.frames) (hRl : 24 ≤ R.locals) (hret : ∀ (r : Int32) (x : St) (H : Heap) (locs : List Loc) (pc : Nat) (ls : Array Slot), decode b_Mod_canMeet pc = .ok (.ireturn, 1) → narrow .boolean (.int r) = .int r → post r x → Wd dC dI cI cB cJ cZ ad stM kcM 115 A x H → va_S A s.heap H locs → W p l e R s m args below meth c H locs cells slots Q (F0 m pc ls [.int r]))  : ∀ (l1 : Int32) (l2 : Int32) (l3 : Int32) (l4 : Int32) (l5 : Int32) (l6 : Int32) (x : St) (H : Heap) (locs : List Loc) (ls : Array Slot), j_Mod_canMeet_58 post l1 l2 l3 l4 l5 l6 x → Wd dC dI cI cB cJ cZ ad stM kcM 115 A x H → va_S A s.heap H locs → lv_has ls 7 [(0, .ref (ad 0)), (1, .int l1), (2, .int l2), (3, .int l3), (4, .int l4), (5, .int l5), (6, .int l6)] → W p l e R s m args below meth c H locs cells slots Q (F0 m 58 ls []) := by
  intro l1 l2 l3 l4 l5 l6 x H locs ls  hw hW hS hl
  unfold j_Mod_canMeet_58 at hw
  refine lv_iconst (v := 0) hx hb d_Mod_canMeet_58 (by decide) ?_
  exact hret 0 x H locs 59 ls d_Mod_canMeet_59 rfl hw hW hS
set_option maxRecDepth 100000 in
set_option maxHeartbeats 4000000 in
set_option maxRecDepth 100000 in
theorem t_Mod_canMeet_e {p : Program} {l : Launch} {e : Env} {R : Room} {s : State} {m : MethodId} {args : Array Value} {below : List Frame} {meth : Method} {c : Code} {cells slots : Nat} {Q : State → Prop} {dC : Nat → ClassId} {dI : Nat → Nat → Nat} {cI cB cJ cZ : ClassId} {A : Nat → Prop} {ad : Nat → Nat} {post : Int32 → St → Prop} (hx : p.tables.exec = Jvm.exec) (hb : c.code = b_Mod_canMeet) (hml : c.maxLocals = 7) (hown : s.vm.findClass R_Mod = some m.cls) (hT : ∀ w ∈ TG, w.before args s = true) (hK : va_K (dC, dI) CL (TY cI cB cJ cZ) s) (hN : NW s) (hA : ∀ q : Nat, s.heap.size ≤ q → A q) (hRc : cells ≤ R.cells) (hRs : slots ≤ R.slots) (hRf : 1 ≤ R.frames) (hRl : 24 ≤ R.locals) (hret : ∀ (r : Int32) (x : St) (H : Heap) (locs : List Loc) (pc : Nat) (ls : Array Slot), decode b_Mod_canMeet pc = .ok (.ireturn, 1) → narrow .boolean (.int r) = .int r → post r x → Wd dC dI cI cB cJ cZ ad stM kcM 115 A x H → va_S A s.heap H locs → W p l e R s m args below meth c H locs cells slots Q (F0 m pc ls [.int r])) : ∀ (l1 : Int32) (l2 : Int32) (l3 : Int32) (l4 : Int32) (x : St) (H : Heap) (locs : List Loc) (ls : Array Slot), wp_Mod_canMeet post l1 l2 l3 l4 x → Wd dC dI cI cB cJ cZ ad stM kcM 115 A x H → va_S A s.heap H locs → lv_has ls 7 [(0, .ref (ad 0)), (1, .int l1), (2, .int l2), (3, .int l3), (4, .int l4)] → W p l e R s m args below meth c H locs cells slots Q (F0 m 0 ls []) := by
  intro l1 l2 l3 l4 x H locs ls  hw hW hS hl
  unfold wp_Mod_canMeet at hw
  refine lv_aload_n hx hb d_Mod_canMeet_0 rfl (lv_at hl 0 rfl) ?_
  refine lv_iload_n hx hb d_Mod_canMeet_1 rfl (lv_at hl 1 rfl) ?_
  refine lv_aload_n hx hb d_Mod_canMeet_2 rfl (lv_at hl 0 rfl) ?_
  refine w_getf (q := 99) (k := 144) (t := 12) (C := R_Mod) (T := F_Mod) (N := 167) hx hb hT hown hK hW ko_0.1 ko_0.2 (by decide) in_Mod rfl rfl (by decide) rfl fr_Mod_144 w_9_80 d_Mod_canMeet_3 rfl ?_
  refine lv_iload_n hx hb d_Mod_canMeet_6 rfl (lv_at hl 2 rfl) ?_
  obtain ⟨hi, hw⟩ := hw
  refine w_iald (o := 99) hx hb hK hW ko_99.1 ko_99.2 hi d_Mod_canMeet_7 ?_
  refine lv_aload_n hx hb d_Mod_canMeet_8 rfl (lv_at hl 0 rfl) ?_
  refine w_getf (q := 100) (k := 145) (t := 12) (C := R_Mod) (T := F_Mod) (N := 167) hx hb hT hown hK hW ko_0.1 ko_0.2 (by decide) in_Mod rfl rfl (by decide) rfl fr_Mod_145 w_9_81 d_Mod_canMeet_9 rfl ?_
  refine lv_iload hx hb d_Mod_canMeet_12 (lv_at hl 4 rfl) ?_
  obtain ⟨hi, hw⟩ := hw
  refine w_iald (o := 100) hx hb hK hW ko_100.1 ko_100.2 hi d_Mod_canMeet_14 ?_
  have hF := hW.free hS hA
  refine va_calli (va_runV (C := R_Mod) (As := [.int l1, .int (rA x 99 l2), .int (rA x 100 l4)]) (rest := []) ⟨hx, hb, hml, hown, hT⟩ (k_Mod_compare l dC dI cI cB cJ cZ ad H.size l1 (rA x 99 l2) (rA x 100 l4) x  hw) ⟨callB_of 3 hT (gwt_in w_13_26) rfl rfl rfl (hT _ w_1_15) (hT _ w_13_23) (by decide +kernel) ⟨Nat.le_trans (Nat.le_of_ble_eq_true rfl) hRf, Nat.le_trans (Nat.le_of_ble_eq_true rfl) hRl⟩, hT _ w_13_25, hT _ ws_219⟩ ⟨PW.blind, va_recv hK hW.1 (ci := 12) (q0 := 0) rfl (pic_obj ko_0.1 ko_0.2 (by decide)), PW.at _ hW hK hN⟩ rfl rfl hl.1 rfl (lv_room (Nat.le_of_ble_eq_true rfl)) d_Mod_canMeet_15 ⟨hRc, hRs⟩) hS (fun q _ h => hF q h) hF (fun r2294 x2293 t H locs ht hvm hw hB hz1 hk1 hS => ?_)
  have hW := Wd.back hB ht hF
  clear hB ht hF hz1 hk1 hvm
  refine lv_istore (lv' := [(5, .int r2294), (0, .ref (ad 0)), (1, .int l1), (2, .int l2), (3, .int l3), (4, .int l4)]) hx hb d_Mod_canMeet_18 hl (by decide) rfl (fun ls hl => ?_)
  refine lv_aload_n hx hb d_Mod_canMeet_20 rfl (lv_at hl 1 rfl) ?_
  refine lv_iload_n hx hb d_Mod_canMeet_21 rfl (lv_at hl 2 rfl) ?_
  refine lv_aload_n hx hb d_Mod_canMeet_22 rfl (lv_at hl 1 rfl) ?_
  refine w_getf (q := 100) (k := 145) (t := 12) (C := R_Mod) (T := F_Mod) (N := 167) hx hb hT hown hK hW ko_0.1 ko_0.2 (by decide) in_Mod rfl rfl (by decide) rfl fr_Mod_145 w_9_81 d_Mod_canMeet_23 rfl ?_
  refine lv_iload_n hx hb d_Mod_canMeet_26 rfl (lv_at hl 3 rfl) ?_
  obtain ⟨hi, hw⟩ := hw
  refine w_iald (o := 100) hx hb hK hW ko_100.1 ko_100.2 hi d_Mod_canMeet_27 ?_
  refine lv_aload_n hx hb d_Mod_canMeet_28 rfl (lv_at hl 1 rfl) ?_
  refine w_getf (q := 99) (k := 144) (t := 12) (C := R_Mod) (T := F_Mod) (N := 167) hx hb hT hown hK hW ko_0.1 ko_0.2 (by decide) in_Mod rfl rfl (by decide) rfl fr_Mod_144 w_9_80 d_Mod_canMeet_29 rfl ?_
  refine lv_iload hx hb d_Mod_canMeet_32 (lv_at hl 5 rfl) ?_
  obtain ⟨hi, hw⟩ := hw
  refine w_iald (o := 99) hx hb hK hW ko_99.1 ko_99.2 hi d_Mod_canMeet_34 ?_
  have hF := hW.free hS hA
  refine va_calli (va_runV (C := R_Mod) (As := [.int l1, .int (rA x2293 100 l2), .int (rA x2293 99 l4)]) (rest := []) ⟨hx, hb, hml, hown, hT⟩ (k_Mod_compare l dC dI cI cB cJ cZ ad H.size l1 (rA x2293 100 l2) (rA x2293 99 l4) x2293  hw) ⟨callB_of 3 hT (gwt_in w_13_26) rfl rfl rfl (hT _ w_1_15) (hT _ w_13_23) (by decide +kernel) ⟨Nat.le_trans (Nat.le_of_ble_eq_true rfl) hRf, Nat.le_trans (Nat.le_of_ble_eq_true rfl) hRl⟩, hT _ w_13_25, hT _ ws_219⟩ ⟨PW.blind, va_recv hK hW.1 (ci := 12) (q0 := 0) rfl (pic_obj ko_0.1 ko_0.2 (by decide)), PW.at _ hW hK hN⟩ rfl rfl hl.1 rfl (lv_room (Nat.le_of_ble_eq_true rfl)) d_Mod_canMeet_35 ⟨hRc, hRs⟩) hS (fun q _ h => hF q h) hF (fun r2296 x2295 t H locs ht hvm hw hB hz1 hk1 hS => ?_)
  have hW := Wd.back hB ht hF
  clear hB ht hF hz1 hk1 hvm
  refine lv_istore (lv' := [(6, .int r2296), (5, .int r2294), (0, .ref (ad 0)), (1, .int l1), (2, .int l2), (3, .int l3), (4, .int l4)]) hx hb d_Mod_canMeet_38 hl (by decide) rfl (fun ls hl => ?_)
  refine lv_iload_n hx hb d_Mod_canMeet_40 rfl (lv_at hl 5 rfl) ?_
  refine lv_if_ne (tgt := 60) hx hb d_Mod_canMeet_41 (by decide) (fun c2297 => ?_) (fun c2297 => ?_)
  · have hw := hw.1 c2297
    refine lv_iload_n hx hb d_Mod_canMeet_60 rfl (lv_at hl 5 rfl) ?_
    refine lv_iconst (v := 1) hx hb d_Mod_canMeet_61 (by decide) ?_
    refine lv_icmp_ne (tgt := 83) hx hb d_Mod_canMeet_62 (by decide) (fun c2298 => ?_) (fun c2298 => ?_)
    · have hw := hw.1 c2298
      refine lv_iload_n hx hb d_Mod_canMeet_83 rfl (lv_at hl 5 rfl) ?_
      refine lv_iconst (v := 4) hx hb d_Mod_canMeet_84 (by decide) ?_
      refine lv_icmp_ge (tgt := 97) hx hb d_Mod_canMeet_85 (by decide) (fun c2299 => ?_) (fun c2299 => ?_)
      · have hw := hw.1 c2299
        refine lv_iload_n hx hb d_Mod_canMeet_97 rfl (lv_at hl 5 rfl) ?_
        refine lv_iload hx hb d_Mod_canMeet_98 (lv_at hl 0 rfl) ?_
        have hF := hW.free hS hA
        refine va_calli (va_runS (As := [.int l3, .int r2296]) (rest := []) ⟨hx, hb, hml, hown, hT⟩ (k_Mod_holds l dC dI cI cB cJ cZ ad H.size l3 r2296 x2295  hw) ⟨callB_of 2 hT (gwt_in w_13_226) rfl rfl rfl (hT _ w_1_15) (hT _ w_13_224) (by decide +kernel) ⟨Nat.le_trans (Nat.le_of_ble_eq_true rfl) hRf, Nat.le_trans (Nat.le_of_ble_eq_true rfl) hRl⟩, hT _ w_13_225⟩ ⟨PW.blind, PW.at _ hW hK hN⟩ rfl rfl hl.1 rfl (lv_room (Nat.le_of_ble_eq_true rfl)) d_Mod_canMeet_100 ⟨hRc, hRs⟩) hS (fun q _ h => hF q h) hF (fun r2301 x2300 t H locs ht hvm hw hB hz1 hk1 hS => ?_)
        have hW := Wd.back hB ht hF
        clear hB ht hF hz1 hk1 hvm
        exact hret r2301 x2300 H locs 103 ls d_Mod_canMeet_103 hw.1 hw.2 hW hS
      · have hw := hw.2 c2299
        refine lv_iload_n hx hb d_Mod_canMeet_88 rfl (lv_at hl 5 rfl) ?_
        refine lv_iload hx hb d_Mod_canMeet_89 (lv_at hl 1 rfl) ?_
        have hF := hW.free hS hA
        refine va_calli (va_runS (As := [.int l3, .int r2294]) (rest := []) ⟨hx, hb, hml, hown, hT⟩ (k_Mod_holds l dC dI cI cB cJ cZ ad H.size l3 r2294 x2295  hw) ⟨callB_of 2 hT (gwt_in w_13_226) rfl rfl rfl (hT _ w_1_15) (hT _ w_13_224) (by decide +kernel) ⟨Nat.le_trans (Nat.le_of_ble_eq_true rfl) hRf, Nat.le_trans (Nat.le_of_ble_eq_true rfl) hRl⟩, hT _ w_13_225⟩ ⟨PW.blind, PW.at _ hW hK hN⟩ rfl rfl hl.1 rfl (lv_room (Nat.le_of_ble_eq_true rfl)) d_Mod_canMeet_91 ⟨hRc, hRs⟩) hS (fun q _ h => hF q h) hF (fun r2303 x2302 t H locs ht hvm hw hB hz1 hk1 hS => ?_)
        have hW := Wd.back hB ht hF
        clear hB ht hF hz1 hk1 hvm
        refine lv_goto (tgt := 103) hx hb d_Mod_canMeet_94 (by decide) ?_
        exact hret r2303 x2302 H locs 103 ls d_Mod_canMeet_103 hw.1 hw.2 hW hS
    · have hw := hw.2 c2298
      refine lv_iload hx hb d_Mod_canMeet_65 (lv_at hl 1 rfl) ?_
      refine lv_if_ne (tgt := 75) hx hb d_Mod_canMeet_67 (by decide) (fun c2304 => ?_) (fun c2304 => ?_)
      · have hw := hw.1 c2304
        exact t_Mod_canMeet_75 hx hb hml hown hT hK hN hA hRc hRs hRf hRl hret  l1 l2 l3 l4 r2294 r2296 x2295 H locs ls  hw hW hS (lv_sub hl [2, 3, 4, 5, 6, 1, 0] rfl)
      · have hw := hw.2 c2304
        refine lv_iload hx hb d_Mod_canMeet_70 (lv_at hl 0 rfl) ?_
        refine lv_if_eq (tgt := 79) hx hb d_Mod_canMeet_72 (by decide) (fun c2305 => ?_) (fun c2305 => ?_)
        · have hw := hw.1 c2305
          refine lv_iconst (v := 0) hx hb d_Mod_canMeet_79 (by decide) ?_
          refine lv_goto (tgt := 103) hx hb d_Mod_canMeet_80 (by decide) ?_
          exact hret 0 x2295 H locs 103 ls d_Mod_canMeet_103 rfl hw hW hS
        · have hw := hw.2 c2305
          exact t_Mod_canMeet_75 hx hb hml hown hT hK hN hA hRc hRs hRf hRl hret  l1 l2 l3 l4 r2294 r2296 x2295 H locs ls  hw hW hS (lv_sub hl [2, 3, 4, 5, 6, 1, 0] rfl)
  · have hw := hw.2 c2297
    refine lv_iload hx hb d_Mod_canMeet_44 (lv_at hl 1 rfl) ?_
    refine lv_if_gt (tgt := 58) hx hb d_Mod_canMeet_46 (by decide) (fun c2306 => ?_) (fun c2306 => ?_)
    · have hw := hw.1 c2306
      exact t_Mod_canMeet_58 hx hb hml hown hT hK hN hA hRc hRs hRf hRl hret  l1 l2 l3 l4 r2294 r2296 x2295 H locs ls  hw hW hS (lv_sub hl [2, 3, 4, 5, 6, 1, 0] rfl)
    · have hw := hw.2 c2306
      refine lv_iload hx hb d_Mod_canMeet_49 (lv_at hl 0 rfl) ?_
      refine lv_if_lt (tgt := 58) hx hb d_Mod_canMeet_51 (by decide) (fun c2307 => ?_) (fun c2307 => ?_)
      · have hw := hw.1 c2307
        exact t_Mod_canMeet_58 hx hb hml hown hT hK hN hA hRc hRs hRf hRl hret  l1 l2 l3 l4 r2294 r2296 x2295 H locs ls  hw hW hS (lv_sub hl [2, 3, 4, 5, 6, 1, 0] rfl)
      · have hw := hw.2 c2307
        refine lv_iconst (v := 1) hx hb d_Mod_canMeet_54 (by decide) ?_
        refine lv_goto (tgt := 59) hx hb d_Mod_canMeet_55 (by decide) ?_
        exact hret 1 x2295 H locs 59 ls d_Mod_canMeet_59 rfl hw hW hS
set_option maxHeartbeats 4000000 in
set_option maxRecDepth 100000 in
theorem k_Mod_canMeet (l : Launch) (dC : Nat → ClassId) (dI : Nat → Nat → Nat) (cI cB cJ cZ : ClassId) (ad : Nat → Nat) (sz : Nat) (l1 : Int32) (l2 : Int32) (l3 : Int32) (l4 : Int32) (x : St) {post : Int32 → St → Prop} (hw : wp_Mod_canMeet post l1 l2 l3 l4 x) : Met l y_Mod_canMeet (wsOf y_Mod_canMeet b_Mod_canMeet 7 (some (.boolean))) ({ frames := 1, cells := 0, slots := 0, locals := 24 }) (va_Pc [.ref (ad 0), .int l1, .int l2, .int l3, .int l4] (PW dC dI cI cB cJ cZ ad stM kcM 115 sz x)) (va_Qi (fun (r : Int32) (y : St) => post r y) (fun y t => Wd dC dI cI cB cJ cZ ad stM kcM 115 (va_A (pic ad stM kcM 115 cI cB cJ cZ x) sz) y t.heap) (va_A (pic ad stM kcM 115 cI cB cJ cZ x) sz)) 0 0 (va_A (pic ad stM kcM 115 cI cB cJ cZ x) sz) := by
  refine Met.ofW (cc := b_Mod_canMeet) (maxL := 7) (ret := some (.boolean)) (by decide) rfl ?_
  intro p e s m args below meth c s₁ B hml hv
  obtain ⟨rfl, hsz, hW0, hK, hN⟩ := hv
  have hx := B.exec
  have hb := B.bytes
  have hr := B.returns
  have hts := atoms_spec B.pre
  have hT : ∀ w ∈ TG, w.before _ s = true := fun w h => hts w (List.mem_cons_of_mem _ h)
  have hown : s.vm.findClass R_Mod = some m.cls := findClass_of_methodNamed B.named
  have hlocks := B.notSynchronized
  subst hsz
  have hW : Wd dC dI cI cB cJ cZ ad stM kcM 115 (va_A (pic ad stM kcM 115 cI cB cJ cZ x) s.heap.size) x s.heap := ⟨hW0.1, hW0.2.1.self (sz := s.heap.size), hW0.2.2⟩
  generalize hAe : va_A (pic ad stM kcM 115 cI cB cJ cZ x) s.heap.size = A at hW ⊢
  have hA : ∀ q : Nat, s.heap.size ≤ q → A q := fun q h => by rw [← hAe]; exact Or.inr h
  have hS : va_S A s.heap s.heap [] := va_S.rf
  have hl := lv_entry ([.ref (ad 0), .int l1, .int l2, .int l3, .int l4]) (n := 7) (Nat.le_of_ble_eq_true rfl)
  rw [lg_entry_eq]
  generalize (lg_sl ([.ref (ad 0), .int l1, .int l2, .int l3, .int l4]) ++ List.replicate (7 - (lg_sl ([.ref (ad 0), .int l1, .int l2, .int l3, .int l4])).length) Slot.unset).toArray = ls at hl ⊢
  have hl : lv_has ls 7 [(0, .ref (ad 0)), (1, .int l1), (2, .int l2), (3, .int l3), (4, .int l4)] := hl
  exact t_Mod_canMeet_e hx hb hml hown hT hK hN hA (Nat.le_refl 0) (Nat.le_refl 0) (Nat.le_refl 1) (Nat.le_refl 24) (fun r x H locs pc ls hd hz hp hW hS => W.zret (v := r) (ty := .boolean) hx hb hr hz (fun t ht hM => ⟨⟨r, x, rfl, hp, Wd.back hW ht.symm (fun _ z => z)⟩, hS.F ht⟩) hS.2.2 hd hlocks)  l1 l2 l3 l4 x _ _ ls  hw hW hS hl
set_option maxRecDepth 100000 in
set_option maxHeartbeats 4000000 in
set_option maxRecDepth 100000 in
theorem t_Mod_contrary_e {p : Program} {l : Launch} {e : Env} {R : Room} {s : State} {m : MethodId} {args : Array Value} {below : List Frame} {meth : Method} {c : Code} {cells slots : Nat} {Q : State → Prop} {dC : Nat → ClassId} {dI : Nat → Nat → Nat} {cI cB cJ cZ : ClassId} {A : Nat → Prop} {ad : Nat → Nat} {post : Int32 → St → Prop} (hx : p.tables.exec = Jvm.exec) (hb : c.code = b_Mod_contrary) (hml : c.maxLocals = 1) (hown : s.vm.findClass R_Mod = some m.cls) (hT : ∀ w ∈ TG, w.before args s = true) (hK : va_K (dC, dI) CL (TY cI cB cJ cZ) s) (hN : NW s) (hA : ∀ q : Nat, s.heap.size ≤ q → A q) (hRc : cells ≤ R.cells) (hRs : slots ≤ R.slots) (hRf : 0 ≤ R.frames) (hRl : 0 ≤ R.locals) (hret : ∀ (r : Int32) (x : St) (H : Heap) (locs : List Loc) (pc : Nat) (ls : Array Slot), decode b_Mod_contrary pc = .ok (.ireturn, 1) → post r x → Wd dC dI cI cB cJ cZ ad stM kcM 115 A x H → va_S A s.heap H locs → W p l e R s m args below meth c H locs cells slots Q (F0 m pc ls [.int r])) : ∀ (l0 : Int32) (x : St) (H : Heap) (locs : List Loc) (ls : Array Slot), wp_Mod_contrary post l0 x → Wd dC dI cI cB cJ cZ ad stM kcM 115 A x H → va_S A s.heap H locs → lv_has ls 1 [(0, .int l0)] → W p l e R s m args below meth c H locs cells slots Q (F0 m 0 ls []) := by
  intro l0 x H locs ls  hw hW hS hl
  unfold wp_Mod_contrary at hw
  refine lv_iload_n hx hb d_Mod_contrary_0 rfl (lv_at hl 0 rfl) ?_
  refine lv_iconst (v := 2) hx hb d_Mod_contrary_1 (by decide) ?_
  refine lv_icmp_ge (tgt := 11) hx hb d_Mod_contrary_2 (by decide) (fun c2308 => ?_) (fun c2308 => ?_)
  · have hw := hw.1 c2308
    refine lv_bipush (v := 7) hx hb d_Mod_contrary_11 (by decide) ?_
    refine lv_iload_n hx hb d_Mod_contrary_13 rfl (lv_at hl 0 rfl) ?_
    refine lv_isub hx hb d_Mod_contrary_14 ?_
    exact hret (7 - l0) x H locs 15 ls d_Mod_contrary_15 hw hW hS
  · have hw := hw.2 c2308
    refine lv_iconst (v := 1) hx hb d_Mod_contrary_5 (by decide) ?_
    refine lv_iload_n hx hb d_Mod_contrary_6 rfl (lv_at hl 0 rfl) ?_
    refine lv_isub hx hb d_Mod_contrary_7 ?_
    refine lv_goto (tgt := 15) hx hb d_Mod_contrary_8 (by decide) ?_
    exact hret (1 - l0) x H locs 15 ls d_Mod_contrary_15 hw hW hS
set_option maxHeartbeats 4000000 in
set_option maxRecDepth 100000 in
theorem k_Mod_contrary (l : Launch) (dC : Nat → ClassId) (dI : Nat → Nat → Nat) (cI cB cJ cZ : ClassId) (ad : Nat → Nat) (sz : Nat) (l0 : Int32) (x : St) {post : Int32 → St → Prop} (hw : wp_Mod_contrary post l0 x) : Met l y_Mod_contrary (wsOf y_Mod_contrary b_Mod_contrary 1 (some (.int))) ({ frames := 0, cells := 0, slots := 0, locals := 0 }) (va_Pc [.int l0] (PW dC dI cI cB cJ cZ ad stM kcM 115 sz x)) (va_Qi (fun (r : Int32) (y : St) => post r y) (fun y t => Wd dC dI cI cB cJ cZ ad stM kcM 115 (va_A (pic ad stM kcM 115 cI cB cJ cZ x) sz) y t.heap) (va_A (pic ad stM kcM 115 cI cB cJ cZ x) sz)) 0 0 (va_A (pic ad stM kcM 115 cI cB cJ cZ x) sz) := by
  refine Met.ofW (cc := b_Mod_contrary) (maxL := 1) (ret := some (.int)) (by decide) rfl ?_
  intro p e s m args below meth c s₁ B hml hv
  obtain ⟨rfl, hsz, hW0, hK, hN⟩ := hv
  have hx := B.exec
  have hb := B.bytes
  have hr := B.returns
  have hts := atoms_spec B.pre
  have hT : ∀ w ∈ TG, w.before _ s = true := fun w h => hts w (List.mem_cons_of_mem _ h)
  have hown : s.vm.findClass R_Mod = some m.cls := findClass_of_methodNamed B.named
  have hlocks := B.notSynchronized
  subst hsz
  have hW : Wd dC dI cI cB cJ cZ ad stM kcM 115 (va_A (pic ad stM kcM 115 cI cB cJ cZ x) s.heap.size) x s.heap := ⟨hW0.1, hW0.2.1.self (sz := s.heap.size), hW0.2.2⟩
  generalize hAe : va_A (pic ad stM kcM 115 cI cB cJ cZ x) s.heap.size = A at hW ⊢
  have hA : ∀ q : Nat, s.heap.size ≤ q → A q := fun q h => by rw [← hAe]; exact Or.inr h
  have hS : va_S A s.heap s.heap [] := va_S.rf
  have hl := lv_entry ([.int l0]) (n := 1) (Nat.le_of_ble_eq_true rfl)
  rw [lg_entry_eq]
  generalize (lg_sl ([.int l0]) ++ List.replicate (1 - (lg_sl ([.int l0])).length) Slot.unset).toArray = ls at hl ⊢
  have hl : lv_has ls 1 [(0, .int l0)] := hl
  exact t_Mod_contrary_e hx hb hml hown hT hK hN hA (Nat.le_refl 0) (Nat.le_refl 0) (Nat.le_refl 0) (Nat.le_refl 0) (fun r x H locs pc ls hd hp hW hS => W.iret (v := r) hx hb hr (fun t ht hM => ⟨⟨r, x, rfl, hp, Wd.back hW ht.symm (fun _ z => z)⟩, hS.F ht⟩) hS.2.2 hd hlocks)  l0 x _ _ ls  hw hW hS hl
set_option maxRecDepth 100000 in
set_option maxHeartbeats 4000000 in
set_option maxRecDepth 100000 in
theorem t_Mod_againstLiteral_147 {p : Program} {l : Launch} {e : Env} {R : Room} {s : State} {m : MethodId} {args : Array Value} {below : List Frame} {meth : Method} {c : Code} {cells slots : Nat} {Q : State → Prop} {dC : Nat → ClassId} {dI : Nat → Nat → Nat} {cI cB cJ cZ : ClassId} {A : Nat → Prop} {ad : Nat → Nat} {post : Int32 → St → Prop} (hx : p.tables.exec = Jvm.exec) (hb : c.code = b_Mod_againstLiteral) (hml : c.maxLocals = 6) (hown : s.vm.findClass R_Mod = some m.cls) (hT : ∀ w ∈ TG, w.before args s = true) (hK : va_K (dC, dI) CL (TY cI cB cJ cZ) s) (hN : NW s) (hA : ∀ q : Nat, s.heap.size ≤ q → A q) (hRc : cells ≤ R.cells) (hRs : slots ≤ R.slots) (hRf : 0 ≤ R.frames) (hRl : 0 ≤ R.locals) (hret : ∀ (r : Int32) (x : St) (H : Heap) (locs : List Loc) (pc : Nat) (ls : Array Slot), decode b_Mod_againstLiteral pc = .ok (.ireturn, 1) → post r x → Wd dC dI cI cB cJ cZ ad stM kcM 115 A x H → va_S A s.heap H locs → W p l e R s m args below meth c H locs cells slots Q (F0 m pc ls [.int r]))  : ∀ (l1 : Int32) (l2 : Int32) (l3 : Int32) (l4 : Int32) (x : St) (H : Heap) (locs : List Loc) (ls : Array Slot), j_Mod_againstLiteral_147 post l1 l2 l3 l4 x → Wd dC dI cI cB cJ cZ ad stM kcM 115 A x H → va_S A s.heap H locs → lv_has ls 6 [(0, .ref (ad 0)), (1, .int l1), (2, .int l2), (3, .int l3), (4, .int l4)] → W p l e R s m args below meth c H locs cells slots Q (F0 m 147 ls []) := by
  intro l1 l2 l3 l4 x H locs ls  hw hW hS hl
  unfold j_Mod_againstLiteral_147 at hw
  refine lv_aload_n hx hb d_Mod_againstLiteral_147 rfl (lv_at hl 0 rfl) ?_
  refine w_getf (q := 56) (k := 91) (t := 12) (C := R_Mod) (T := F_Mod) (N := 167) hx hb hT hown hK hW ko_0.1 ko_0.2 (by decide) in_Mod rfl rfl (by decide) rfl fr_Mod_91 w_9_27 d_Mod_againstLiteral_148 rfl ?_
  refine lv_iload_n hx hb d_Mod_againstLiteral_151 rfl (lv_at hl 1 rfl) ?_
  obtain ⟨hi, hw⟩ := hw
  refine w_iald (o := 56) hx hb hK hW ko_56.1 ko_56.2 hi d_Mod_againstLiteral_152 ?_
  refine lv_iload_n hx hb d_Mod_againstLiteral_153 rfl (lv_at hl 3 rfl) ?_
  refine lv_isub hx hb d_Mod_againstLiteral_154 ?_
  exact hret ((rA x 56 l1) - l3) x H locs 155 ls d_Mod_againstLiteral_155 hw hW hS
set_option maxRecDepth 100000 in
set_option maxHeartbeats 4000000 in
set_option maxRecDepth 100000 in
theorem t_Mod_againstLiteral_62 {p : Program} {l : Launch} {e : Env} {R : Room} {s : State} {m : MethodId} {args : Array Value} {below : List Frame} {meth : Method} {c : Code} {cells slots : Nat} {Q : State → Prop} {dC : Nat → ClassId} {dI : Nat → Nat → Nat} {cI cB cJ cZ : ClassId} {A : Nat → Prop} {ad : Nat → Nat} {post : Int32 → St → Prop} {rec62 : Int32 → Int32 → Int32 → Int32 → St → Prop} (hx : p.tables.exec = Jvm.exec) (hb : c.code = b_Mod_againstLiteral) (hml : c.maxLocals = 6) (hown : s.vm.findClass R_Mod = some m.cls) (hT : ∀ w ∈ TG, w.before args s = true) (hK : va_K (dC, dI) CL (TY cI cB cJ cZ) s) (hN : NW s) (hA : ∀ q : Nat, s.heap.size ≤ q → A q) (hRc : cells ≤ R.cells) (hRs : slots ≤ R.slots) (hRf : 0 ≤ R.frames) (hRl : 0 ≤ R.locals) (hret : ∀ (r : Int32) (x : St) (H : Heap) (locs : List Loc) (pc : Nat) (ls : Array Slot), decode b_Mod_againstLiteral pc = .ok (.ireturn, 1) → post r x → Wd dC dI cI cB cJ cZ ad stM kcM 115 A x H → va_S A s.heap H locs → W p l e R s m args below meth c H locs cells slots Q (F0 m pc ls [.int r])) (hrec62 : ∀ (l1 : Int32) (l2 : Int32) (l3 : Int32) (l4 : Int32) (x : St) (H : Heap) (locs : List Loc) (ls : Array Slot), rec62 l1 l2 l3 l4 x → Wd dC dI cI cB cJ cZ ad stM kcM 115 A x H → va_S A s.heap H locs → lv_has ls 6 [(0, .ref (ad 0)), (1, .int l1), (2, .int l2), (3, .int l3), (4, .int l4)] → W p l e R s m args below meth c H locs cells slots Q (F0 m 62 ls [])) : ∀ (l1 : Int32) (l2 : Int32) (l3 : Int32) (l4 : Int32) (x : St) (H : Heap) (locs : List Loc) (ls : Array Slot), j_Mod_againstLiteral_62 post rec62 l1 l2 l3 l4 x → Wd dC dI cI cB cJ cZ ad stM kcM 115 A x H → va_S A s.heap H locs → lv_has ls 6 [(0, .ref (ad 0)), (1, .int l1), (2, .int l2), (3, .int l3), (4, .int l4)] → W p l e R s m args below meth c H locs cells slots Q (F0 m 62 ls []) := by
  intro l1 l2 l3 l4 x H locs ls  hw hW hS hl
  unfold j_Mod_againstLiteral_62 at hw
  refine lv_iload hx hb d_Mod_againstLiteral_62 (lv_at hl 4 rfl) ?_
  refine lv_iload_n hx hb d_Mod_againstLiteral_64 rfl (lv_at hl 3 rfl) ?_
  refine lv_icmp_ge (tgt := 147) hx hb d_Mod_againstLiteral_65 (by decide) (fun c2309 => ?_) (fun c2309 => ?_)
  · have hw := hw.1 c2309
    exact t_Mod_againstLiteral_147 hx hb hml hown hT hK hN hA hRc hRs hRf hRl hret  l1 l2 l3 l4 x H locs ls  hw hW hS (lv_sub hl [0, 1, 2, 3, 4] rfl)
  · have hw := hw.2 c2309
    refine lv_iload hx hb d_Mod_againstLiteral_68 (lv_at hl 4 rfl) ?_
    refine lv_aload_n hx hb d_Mod_againstLiteral_70 rfl (lv_at hl 0 rfl) ?_
    refine w_getf (q := 56) (k := 91) (t := 12) (C := R_Mod) (T := F_Mod) (N := 167) hx hb hT hown hK hW ko_0.1 ko_0.2 (by decide) in_Mod rfl rfl (by decide) rfl fr_Mod_91 w_9_27 d_Mod_againstLiteral_71 rfl ?_
    refine lv_iload_n hx hb d_Mod_againstLiteral_74 rfl (lv_at hl 1 rfl) ?_
    obtain ⟨hi, hw⟩ := hw
    refine w_iald (o := 56) hx hb hK hW ko_56.1 ko_56.2 hi d_Mod_againstLiteral_75 ?_
    refine lv_icmp_ge (tgt := 147) hx hb d_Mod_againstLiteral_76 (by decide) (fun c2310 => ?_) (fun c2310 => ?_)
    · have hw := hw.1 c2310
      exact t_Mod_againstLiteral_147 hx hb hml hown hT hK hN hA hRc hRs hRf hRl hret  l1 l2 l3 l4 x H locs ls  hw hW hS (lv_sub hl [0, 1, 2, 3, 4] rfl)
    · have hw := hw.2 c2310
      refine lv_aload_n hx hb d_Mod_againstLiteral_79 rfl (lv_at hl 0 rfl) ?_
      refine w_getf (q := 92) (k := 135) (t := 12) (C := R_Mod) (T := F_Mod) (N := 167) hx hb hT hown hK hW ko_0.1 ko_0.2 (by decide) in_Mod rfl rfl (by decide) rfl fr_Mod_135 w_9_71 d_Mod_againstLiteral_80 rfl ?_
      refine lv_aload_n hx hb d_Mod_againstLiteral_83 rfl (lv_at hl 0 rfl) ?_
      refine w_getf (q := 90) (k := 133) (t := 12) (C := R_Mod) (T := F_Mod) (N := 167) hx hb hT hown hK hW ko_0.1 ko_0.2 (by decide) in_Mod rfl rfl (by decide) rfl fr_Mod_133 w_9_69 d_Mod_againstLiteral_84 rfl ?_
      refine lv_iload_n hx hb d_Mod_againstLiteral_87 rfl (lv_at hl 2 rfl) ?_
      obtain ⟨hi, hw⟩ := hw
      refine w_iald (o := 90) hx hb hK hW ko_90.1 ko_90.2 hi d_Mod_againstLiteral_88 ?_
      refine lv_iload_n hx hb d_Mod_againstLiteral_89 rfl (lv_at hl 2 rfl) ?_
      refine lv_bipush (v := 64) hx hb d_Mod_againstLiteral_90 (by decide) ?_
      refine lv_idiv hx hb d_Mod_againstLiteral_92 (by decide) ?_
      refine lv_sipush (v := 2000) hx hb d_Mod_againstLiteral_93 (by decide) ?_
      refine lv_imul hx hb d_Mod_againstLiteral_96 ?_
      refine lv_iadd hx hb d_Mod_againstLiteral_97 ?_
      refine lv_iload hx hb d_Mod_againstLiteral_98 (lv_at hl 4 rfl) ?_
      refine lv_iadd hx hb d_Mod_againstLiteral_100 ?_
      obtain ⟨hi, hw⟩ := hw
      refine w_iald (o := 92) hx hb hK hW ko_92.1 ko_92.2 hi d_Mod_againstLiteral_101 ?_
      refine lv_topi (fun v2311 ev2311 => ?_)
      have hw := hw v2311 ev2311
      refine lv_istore (lv' := [(5, .int v2311), (0, .ref (ad 0)), (1, .int l1), (2, .int l2), (3, .int l3), (4, .int l4)]) hx hb d_Mod_againstLiteral_102 hl (by decide) rfl (fun ls hl => ?_)
      refine lv_aload_n hx hb d_Mod_againstLiteral_104 rfl (lv_at hl 1 rfl) ?_
      refine w_getf (q := 57) (k := 92) (t := 12) (C := R_Mod) (T := F_Mod) (N := 167) hx hb hT hown hK hW ko_0.1 ko_0.2 (by decide) in_Mod rfl rfl (by decide) rfl fr_Mod_92 w_9_28 d_Mod_againstLiteral_105 rfl ?_
      refine lv_aload_n hx hb d_Mod_againstLiteral_108 rfl (lv_at hl 1 rfl) ?_
      refine w_getf (q := 55) (k := 90) (t := 12) (C := R_Mod) (T := F_Mod) (N := 167) hx hb hT hown hK hW ko_0.1 ko_0.2 (by decide) in_Mod rfl rfl (by decide) rfl fr_Mod_90 w_9_26 d_Mod_againstLiteral_109 rfl ?_
      refine lv_iload_n hx hb d_Mod_againstLiteral_112 rfl (lv_at hl 2 rfl) ?_
      obtain ⟨hi, hw⟩ := hw
      refine w_iald (o := 55) hx hb hK hW ko_55.1 ko_55.2 hi d_Mod_againstLiteral_113 ?_
      refine lv_iload hx hb d_Mod_againstLiteral_114 (lv_at hl 5 rfl) ?_
      refine lv_iadd hx hb d_Mod_againstLiteral_116 ?_
      obtain ⟨hi, hw⟩ := hw
      refine w_iald (o := 57) hx hb hK hW ko_57.1 ko_57.2 hi d_Mod_againstLiteral_117 ?_
      refine lv_iload hx hb d_Mod_againstLiteral_118 (lv_at hl 0 rfl) ?_
      refine lv_icmp_eq (tgt := 141) hx hb d_Mod_againstLiteral_120 (by decide) (fun c2312 => ?_) (fun c2312 => ?_)
      · have hw := hw.1 c2312
        refine lv_iinc (v := (l4 + 1)) (lv' := [(4, .int (l4 + 1)), (5, .int v2311), (0, .ref (ad 0)), (1, .int l1), (2, .int l2), (3, .int l3)]) hx hb d_Mod_againstLiteral_141 hl (k := 5) rfl rfl (by decide) rfl (fun ls hl => ?_)
        refine lv_goto (tgt := 62) hx hb d_Mod_againstLiteral_144 (by decide) ?_
        exact hrec62 l1 l2 l3 (l4 + 1) x H locs ls  hw hW hS (lv_sub hl [2, 3, 4, 5, 0] rfl)
      · have hw := hw.2 c2312
        refine lv_aload_n hx hb d_Mod_againstLiteral_123 rfl (lv_at hl 1 rfl) ?_
        refine w_getf (q := 57) (k := 92) (t := 12) (C := R_Mod) (T := F_Mod) (N := 167) hx hb hT hown hK hW ko_0.1 ko_0.2 (by decide) in_Mod rfl rfl (by decide) rfl fr_Mod_92 w_9_28 d_Mod_againstLiteral_124 rfl ?_
        refine lv_aload_n hx hb d_Mod_againstLiteral_127 rfl (lv_at hl 1 rfl) ?_
        refine w_getf (q := 55) (k := 90) (t := 12) (C := R_Mod) (T := F_Mod) (N := 167) hx hb hT hown hK hW ko_0.1 ko_0.2 (by decide) in_Mod rfl rfl (by decide) rfl fr_Mod_90 w_9_26 d_Mod_againstLiteral_128 rfl ?_
        refine lv_iload_n hx hb d_Mod_againstLiteral_131 rfl (lv_at hl 2 rfl) ?_
        obtain ⟨hi, hw⟩ := hw
        refine w_iald (o := 55) hx hb hK hW ko_55.1 ko_55.2 hi d_Mod_againstLiteral_132 ?_
        refine lv_iload hx hb d_Mod_againstLiteral_133 (lv_at hl 5 rfl) ?_
        refine lv_iadd hx hb d_Mod_againstLiteral_135 ?_
        obtain ⟨hi, hw⟩ := hw
        refine w_iald (o := 57) hx hb hK hW ko_57.1 ko_57.2 hi d_Mod_againstLiteral_136 ?_
        refine lv_iload hx hb d_Mod_againstLiteral_137 (lv_at hl 0 rfl) ?_
        refine lv_isub hx hb d_Mod_againstLiteral_139 ?_
        exact hret ((rA x 57 ((rA x 55 l1) + l4)) - v2311) x H locs 140 ls d_Mod_againstLiteral_140 hw hW hS
set_option maxHeartbeats 4000000 in
set_option maxRecDepth 100000 in
theorem tl_Mod_againstLiteral_62 {p : Program} {l : Launch} {e : Env} {R : Room} {s : State} {m : MethodId} {args : Array Value} {below : List Frame} {meth : Method} {c : Code} {cells slots : Nat} {Q : State → Prop} {dC : Nat → ClassId} {dI : Nat → Nat → Nat} {cI cB cJ cZ : ClassId} {A : Nat → Prop} {ad : Nat → Nat} {post : Int32 → St → Prop} (hx : p.tables.exec = Jvm.exec) (hb : c.code = b_Mod_againstLiteral) (hml : c.maxLocals = 6) (hown : s.vm.findClass R_Mod = some m.cls) (hT : ∀ w ∈ TG, w.before args s = true) (hK : va_K (dC, dI) CL (TY cI cB cJ cZ) s) (hN : NW s) (hA : ∀ q : Nat, s.heap.size ≤ q → A q) (hRc : cells ≤ R.cells) (hRs : slots ≤ R.slots) (hRf : 0 ≤ R.frames) (hRl : 0 ≤ R.locals) (hret : ∀ (r : Int32) (x : St) (H : Heap) (locs : List Loc) (pc : Nat) (ls : Array Slot), decode b_Mod_againstLiteral pc = .ok (.ireturn, 1) → post r x → Wd dC dI cI cB cJ cZ ad stM kcM 115 A x H → va_S A s.heap H locs → W p l e R s m args below meth c H locs cells slots Q (F0 m pc ls [.int r]))  : ∀ n : Nat, ∀ (l1 : Int32) (l2 : Int32) (l3 : Int32) (l4 : Int32) (x : St) (H : Heap) (locs : List Loc) (ls : Array Slot), wl_Mod_againstLiteral_62 post n l1 l2 l3 l4 x → Wd dC dI cI cB cJ cZ ad stM kcM 115 A x H → va_S A s.heap H locs → lv_has ls 6 [(0, .ref (ad 0)), (1, .int l1), (2, .int l2), (3, .int l3), (4, .int l4)] → W p l e R s m args below meth c H locs cells slots Q (F0 m 62 ls []) := by
  intro n
  induction n with
  | zero => intro l1 l2 l3 l4 x H locs ls  hw; exact hw.elim
  | succ n ih => intro l1 l2 l3 l4 x H locs ls  hw hW hS hl; exact t_Mod_againstLiteral_62 hx hb hml hown hT hK hN hA hRc hRs hRf hRl hret  ih l1 l2 l3 l4 x H locs ls  hw hW hS hl
set_option maxRecDepth 100000 in
set_option maxHeartbeats 4000000 in
set_option maxRecDepth 100000 in
theorem t_Mod_againstLiteral_e {p : Program} {l : Launch} {e : Env} {R : Room} {s : State} {m : MethodId} {args : Array Value} {below : List Frame} {meth : Method} {c : Code} {cells slots : Nat} {Q : State → Prop} {dC : Nat → ClassId} {dI : Nat → Nat → Nat} {cI cB cJ cZ : ClassId} {A : Nat → Prop} {ad : Nat → Nat} {post : Int32 → St → Prop} (hx : p.tables.exec = Jvm.exec) (hb : c.code = b_Mod_againstLiteral) (hml : c.maxLocals = 6) (hown : s.vm.findClass R_Mod = some m.cls) (hT : ∀ w ∈ TG, w.before args s = true) (hK : va_K (dC, dI) CL (TY cI cB cJ cZ) s) (hN : NW s) (hA : ∀ q : Nat, s.heap.size ≤ q → A q) (hRc : cells ≤ R.cells) (hRs : slots ≤ R.slots) (hRf : 0 ≤ R.frames) (hRl : 0 ≤ R.locals) (hret : ∀ (r : Int32) (x : St) (H : Heap) (locs : List Loc) (pc : Nat) (ls : Array Slot), decode b_Mod_againstLiteral pc = .ok (.ireturn, 1) → post r x → Wd dC dI cI cB cJ cZ ad stM kcM 115 A x H → va_S A s.heap H locs → W p l e R s m args below meth c H locs cells slots Q (F0 m pc ls [.int r])) : ∀ (l1 : Int32) (l2 : Int32) (x : St) (H : Heap) (locs : List Loc) (ls : Array Slot), wp_Mod_againstLiteral post l1 l2 x → Wd dC dI cI cB cJ cZ ad stM kcM 115 A x H → va_S A s.heap H locs → lv_has ls 6 [(0, .ref (ad 0)), (1, .int l1), (2, .int l2)] → W p l e R s m args below meth c H locs cells slots Q (F0 m 0 ls []) := by
  intro l1 l2 x H locs ls  hw hW hS hl
  unfold wp_Mod_againstLiteral at hw
  refine lv_aload_n hx hb d_Mod_againstLiteral_0 rfl (lv_at hl 0 rfl) ?_
  refine w_getf (q := 89) (k := 132) (t := 12) (C := R_Mod) (T := F_Mod) (N := 167) hx hb hT hown hK hW ko_0.1 ko_0.2 (by decide) in_Mod rfl rfl (by decide) rfl fr_Mod_132 w_9_68 d_Mod_againstLiteral_1 rfl ?_
  refine lv_iload_n hx hb d_Mod_againstLiteral_4 rfl (lv_at hl 2 rfl) ?_
  obtain ⟨hi, hw⟩ := hw
  refine w_iald (o := 89) hx hb hK hW ko_89.1 ko_89.2 hi d_Mod_againstLiteral_5 ?_
  refine lv_iconst (v := 3) hx hb d_Mod_againstLiteral_6 (by decide) ?_
  refine lv_icmp_eq (tgt := 52) hx hb d_Mod_againstLiteral_7 (by decide) (fun c2313 => ?_) (fun c2313 => ?_)
  · have hw := hw.1 c2313
    refine lv_aload_n hx hb d_Mod_againstLiteral_52 rfl (lv_at hl 0 rfl) ?_
    refine w_getf (q := 91) (k := 134) (t := 12) (C := R_Mod) (T := F_Mod) (N := 167) hx hb hT hown hK hW ko_0.1 ko_0.2 (by decide) in_Mod rfl rfl (by decide) rfl fr_Mod_134 w_9_70 d_Mod_againstLiteral_53 rfl ?_
    refine lv_iload_n hx hb d_Mod_againstLiteral_56 rfl (lv_at hl 2 rfl) ?_
    obtain ⟨hi, hw⟩ := hw
    refine w_iald (o := 91) hx hb hK hW ko_91.1 ko_91.2 hi d_Mod_againstLiteral_57 ?_
    refine lv_topi (fun v2314 ev2314 => ?_)
    have hw := hw v2314 ev2314
    refine lv_istore_n (lv' := [(3, .int v2314), (0, .ref (ad 0)), (1, .int l1), (2, .int l2)]) hx hb d_Mod_againstLiteral_58 rfl hl (by decide) rfl (fun ls hl => ?_)
    refine lv_iconst (v := 0) hx hb d_Mod_againstLiteral_59 (by decide) ?_
    refine lv_istore (lv' := [(4, .int 0), (3, .int v2314), (0, .ref (ad 0)), (1, .int l1), (2, .int l2)]) hx hb d_Mod_againstLiteral_60 hl (by decide) rfl (fun ls hl => ?_)
    obtain ⟨n, hw⟩ := hw
    exact tl_Mod_againstLiteral_62 hx hb hml hown hT hK hN hA hRc hRs hRf hRl hret  n l1 l2 v2314 0 x H locs ls  hw hW hS (lv_sub hl [2, 3, 4, 1, 0] rfl)
  · have hw := hw.2 c2313
    refine lv_aload_n hx hb d_Mod_againstLiteral_10 rfl (lv_at hl 0 rfl) ?_
    refine w_getf (q := 54) (k := 89) (t := 12) (C := R_Mod) (T := F_Mod) (N := 167) hx hb hT hown hK hW ko_0.1 ko_0.2 (by decide) in_Mod rfl rfl (by decide) rfl fr_Mod_89 w_9_25 d_Mod_againstLiteral_11 rfl ?_
    refine lv_iload_n hx hb d_Mod_againstLiteral_14 rfl (lv_at hl 1 rfl) ?_
    obtain ⟨hi, hw⟩ := hw
    refine w_lald (o := 54) hx hb hK hW ko_54.1 ko_54.2 hi d_Mod_againstLiteral_15 ?_
    refine lv_aload_n hx hb d_Mod_againstLiteral_16 rfl (lv_at hl 0 rfl) ?_
    refine w_getf (q := 93) (k := 136) (t := 12) (C := R_Mod) (T := F_Mod) (N := 167) hx hb hT hown hK hW ko_0.1 ko_0.2 (by decide) in_Mod rfl rfl (by decide) rfl fr_Mod_136 w_9_72 d_Mod_againstLiteral_17 rfl ?_
    refine lv_iload_n hx hb d_Mod_againstLiteral_20 rfl (lv_at hl 2 rfl) ?_
    obtain ⟨hi, hw⟩ := hw
    refine w_lald (o := 93) hx hb hK hW ko_93.1 ko_93.2 hi d_Mod_againstLiteral_21 ?_
    refine W.lcmp hx hb d_Mod_againstLiteral_22 ?_
    refine lv_if_ge (tgt := 30) hx hb d_Mod_againstLiteral_23 (by decide) (fun c2315 => ?_) (fun c2315 => ?_)
    · have hw := hw.1 c2315
      refine lv_aload_n hx hb d_Mod_againstLiteral_30 rfl (lv_at hl 0 rfl) ?_
      refine w_getf (q := 54) (k := 89) (t := 12) (C := R_Mod) (T := F_Mod) (N := 167) hx hb hT hown hK hW ko_0.1 ko_0.2 (by decide) in_Mod rfl rfl (by decide) rfl fr_Mod_89 w_9_25 d_Mod_againstLiteral_31 rfl ?_
      refine lv_iload_n hx hb d_Mod_againstLiteral_34 rfl (lv_at hl 1 rfl) ?_
      obtain ⟨hi, hw⟩ := hw
      refine w_lald (o := 54) hx hb hK hW ko_54.1 ko_54.2 hi d_Mod_againstLiteral_35 ?_
      refine lv_aload_n hx hb d_Mod_againstLiteral_36 rfl (lv_at hl 0 rfl) ?_
      refine w_getf (q := 93) (k := 136) (t := 12) (C := R_Mod) (T := F_Mod) (N := 167) hx hb hT hown hK hW ko_0.1 ko_0.2 (by decide) in_Mod rfl rfl (by decide) rfl fr_Mod_136 w_9_72 d_Mod_againstLiteral_37 rfl ?_
      refine lv_iload_n hx hb d_Mod_againstLiteral_40 rfl (lv_at hl 2 rfl) ?_
      obtain ⟨hi, hw⟩ := hw
      refine w_lald (o := 93) hx hb hK hW ko_93.1 ko_93.2 hi d_Mod_againstLiteral_41 ?_
      refine W.lcmp hx hb d_Mod_againstLiteral_42 ?_
      refine lv_if_le (tgt := 50) hx hb d_Mod_againstLiteral_43 (by decide) (fun c2316 => ?_) (fun c2316 => ?_)
      · have hw := hw.1 c2316
        refine lv_iconst (v := 0) hx hb d_Mod_againstLiteral_50 (by decide) ?_
        exact hret 0 x H locs 51 ls d_Mod_againstLiteral_51 hw hW hS
      · have hw := hw.2 c2316
        refine lv_iconst (v := 1) hx hb d_Mod_againstLiteral_46 (by decide) ?_
        refine lv_goto (tgt := 51) hx hb d_Mod_againstLiteral_47 (by decide) ?_
        exact hret 1 x H locs 51 ls d_Mod_againstLiteral_51 hw hW hS
    · have hw := hw.2 c2315
      refine lv_iconst (v := (-1)) hx hb d_Mod_againstLiteral_26 (by decide) ?_
      refine lv_goto (tgt := 51) hx hb d_Mod_againstLiteral_27 (by decide) ?_
      exact hret (-1) x H locs 51 ls d_Mod_againstLiteral_51 hw hW hS
set_option maxHeartbeats 4000000 in
set_option maxRecDepth 100000 in
theorem k_Mod_againstLiteral (l : Launch) (dC : Nat → ClassId) (dI : Nat → Nat → Nat) (cI cB cJ cZ : ClassId) (ad : Nat → Nat) (sz : Nat) (l1 : Int32) (l2 : Int32) (x : St) {post : Int32 → St → Prop} (hw : wp_Mod_againstLiteral post l1 l2 x) : Met l y_Mod_againstLiteral (wsOf y_Mod_againstLiteral b_Mod_againstLiteral 6 (some (.int))) ({ frames := 0, cells := 0, slots := 0, locals := 0 }) (va_Pc [.ref (ad 0), .int l1, .int l2] (PW dC dI cI cB cJ cZ ad stM kcM 115 sz x)) (va_Qi (fun (r : Int32) (y : St) => post r y) (fun y t => Wd dC dI cI cB cJ cZ ad stM kcM 115 (va_A (pic ad stM kcM 115 cI cB cJ cZ x) sz) y t.heap) (va_A (pic ad stM kcM 115 cI cB cJ cZ x) sz)) 0 0 (va_A (pic ad stM kcM 115 cI cB cJ cZ x) sz) := by
  refine Met.ofW (cc := b_Mod_againstLiteral) (maxL := 6) (ret := some (.int)) (by decide) rfl ?_
  intro p e s m args below meth c s₁ B hml hv
  obtain ⟨rfl, hsz, hW0, hK, hN⟩ := hv
  have hx := B.exec
  have hb := B.bytes
  have hr := B.returns
  have hts := atoms_spec B.pre
  have hT : ∀ w ∈ TG, w.before _ s = true := fun w h => hts w (List.mem_cons_of_mem _ h)
  have hown : s.vm.findClass R_Mod = some m.cls := findClass_of_methodNamed B.named
  have hlocks := B.notSynchronized
  subst hsz
  have hW : Wd dC dI cI cB cJ cZ ad stM kcM 115 (va_A (pic ad stM kcM 115 cI cB cJ cZ x) s.heap.size) x s.heap := ⟨hW0.1, hW0.2.1.self (sz := s.heap.size), hW0.2.2⟩
  generalize hAe : va_A (pic ad stM kcM 115 cI cB cJ cZ x) s.heap.size = A at hW ⊢
  have hA : ∀ q : Nat, s.heap.size ≤ q → A q := fun q h => by rw [← hAe]; exact Or.inr h
  have hS : va_S A s.heap s.heap [] := va_S.rf
  have hl := lv_entry ([.ref (ad 0), .int l1, .int l2]) (n := 6) (Nat.le_of_ble_eq_true rfl)
  rw [lg_entry_eq]
  generalize (lg_sl ([.ref (ad 0), .int l1, .int l2]) ++ List.replicate (6 - (lg_sl ([.ref (ad 0), .int l1, .int l2])).length) Slot.unset).toArray = ls at hl ⊢
  have hl : lv_has ls 6 [(0, .ref (ad 0)), (1, .int l1), (2, .int l2)] := hl
  exact t_Mod_againstLiteral_e hx hb hml hown hT hK hN hA (Nat.le_refl 0) (Nat.le_refl 0) (Nat.le_refl 0) (Nat.le_refl 0) (fun r x H locs pc ls hd hp hW hS => W.iret (v := r) hx hb hr (fun t ht hM => ⟨⟨r, x, rfl, hp, Wd.back hW ht.symm (fun _ z => z)⟩, hS.F ht⟩) hS.2.2 hd hlocks)  l1 l2 x _ _ ls  hw hW hS hl
set_option maxRecDepth 100000 in
set_option maxHeartbeats 4000000 in
set_option maxRecDepth 100000 in
theorem t_Mod_canCompare_129 {p : Program} {l : Launch} {e : Env} {R : Room} {s : State} {m : MethodId} {args : Array Value} {below : List Frame} {meth : Method} {c : Code} {cells slots : Nat} {Q : State → Prop} {dC : Nat → ClassId} {dI : Nat → Nat → Nat} {cI cB cJ cZ : ClassId} {A : Nat → Prop} {ad : Nat → Nat} {post : Int32 → St → Prop} (hx : p.tables.exec = Jvm.exec) (hb : c.code = b_Mod_canCompare) (hml : c.maxLocals = 7) (hown : s.vm.findClass R_Mod = some m.cls) (hT : ∀ w ∈ TG, w.before args s = true) (hK : va_K (dC, dI) CL (TY cI cB cJ cZ) s) (hN : NW s) (hA : ∀ q : Nat, s.heap.size ≤ q → A q) (hRc : cells ≤ R.cells) (hRs : slots ≤ R.slots) (hRf : 1 ≤ R.frames) (hRl : 25 ≤ R.locals) (hret : ∀ (r : Int32) (x : St) (H : Heap) (locs : List Loc) (pc : Nat) (ls : Array Slot), decode b_Mod_canCompare pc = .ok (.ireturn, 1) → narrow .boolean (.int r) = .int r → post r x → Wd dC dI cI cB cJ cZ ad stM kcM 115 A x H → va_S A s.heap H locs → W p l e R s m args below meth c H locs cells slots Q (F0 m pc ls [.int r]))  : ∀ (l1 : Int32) (l2 : Int32) (l3 : Int32) (l4 : Int32) (l5 : Int32) (l6 : Int32) (x : St) (H : Heap) (locs : List Loc) (ls : Array Slot), j_Mod_canCompare_129 post l1 l2 l3 l4 l5 l6 x → Wd dC dI cI cB cJ cZ ad stM kcM 115 A x H → va_S A s.heap H locs → lv_has ls 7 [(0, .ref (ad 0)), (1, .int l1), (2, .int l2), (3, .int l3), (4, .int l4), (5, .int l5), (6, .int l6)] → W p l e R s m args below meth c H locs cells slots Q (F0 m 129 ls []) := by
  intro l1 l2 l3 l4 l5 l6 x H locs ls  hw hW hS hl
  unfold j_Mod_canCompare_129 at hw
  refine lv_iconst (v := 1) hx hb d_Mod_canCompare_129 (by decide) ?_
  refine lv_goto (tgt := 157) hx hb d_Mod_canCompare_130 (by decide) ?_
  exact hret 1 x H locs 157 ls d_Mod_canCompare_157 rfl hw hW hS
set_option maxRecDepth 100000 in
set_option maxHeartbeats 4000000 in
set_option maxRecDepth 100000 in
theorem t_Mod_canCompare_112 {p : Program} {l : Launch} {e : Env} {R : Room} {s : State} {m : MethodId} {args : Array Value} {below : List Frame} {meth : Method} {c : Code} {cells slots : Nat} {Q : State → Prop} {dC : Nat → ClassId} {dI : Nat → Nat → Nat} {cI cB cJ cZ : ClassId} {A : Nat → Prop} {ad : Nat → Nat} {post : Int32 → St → Prop} (hx : p.tables.exec = Jvm.exec) (hb : c.code = b_Mod_canCompare) (hml : c.maxLocals = 7) (hown : s.vm.findClass R_Mod = some m.cls) (hT : ∀ w ∈ TG, w.before args s = true) (hK : va_K (dC, dI) CL (TY cI cB cJ cZ) s) (hN : NW s) (hA : ∀ q : Nat, s.heap.size ≤ q → A q) (hRc : cells ≤ R.cells) (hRs : slots ≤ R.slots) (hRf : 1 ≤ R.frames) (hRl : 25 ≤ R.locals) (hret : ∀ (r : Int32) (x : St) (H : Heap) (locs : List Loc) (pc : Nat) (ls : Array Slot), decode b_Mod_canCompare pc = .ok (.ireturn, 1) → narrow .boolean (.int r) = .int r → post r x → Wd dC dI cI cB cJ cZ ad stM kcM 115 A x H → va_S A s.heap H locs → W p l e R s m args below meth c H locs cells slots Q (F0 m pc ls [.int r]))  : ∀ (l1 : Int32) (l2 : Int32) (l3 : Int32) (l4 : Int32) (l5 : Int32) (l6 : Int32) (x : St) (H : Heap) (locs : List Loc) (ls : Array Slot), j_Mod_canCompare_112 post l1 l2 l3 l4 l5 l6 x → Wd dC dI cI cB cJ cZ ad stM kcM 115 A x H → va_S A s.heap H locs → lv_has ls 7 [(0, .ref (ad 0)), (1, .int l1), (2, .int l2), (3, .int l3), (4, .int l4), (5, .int l5), (6, .int l6)] → W p l e R s m args below meth c H locs cells slots Q (F0 m 112 ls []) := by
  intro l1 l2 l3 l4 l5 l6 x H locs ls  hw hW hS hl
  unfold j_Mod_canCompare_112 at hw
  refine lv_iconst (v := 0) hx hb d_Mod_canCompare_112 (by decide) ?_
  exact hret 0 x H locs 113 ls d_Mod_canCompare_113 rfl hw hW hS
set_option maxRecDepth 100000 in
set_option maxHeartbeats 4000000 in
set_option maxRecDepth 100000 in
theorem t_Mod_canCompare_48 {p : Program} {l : Launch} {e : Env} {R : Room} {s : State} {m : MethodId} {args : Array Value} {below : List Frame} {meth : Method} {c : Code} {cells slots : Nat} {Q : State → Prop} {dC : Nat → ClassId} {dI : Nat → Nat → Nat} {cI cB cJ cZ : ClassId} {A : Nat → Prop} {ad : Nat → Nat} {post : Int32 → St → Prop} {rec6 : Int32 → Int32 → Int32 → Int32 → Int32 → St → Prop} (hx : p.tables.exec = Jvm.exec) (hb : c.code = b_Mod_canCompare) (hml : c.maxLocals = 7) (hown : s.vm.findClass R_Mod = some m.cls) (hT : ∀ w ∈ TG, w.before args s = true) (hK : va_K (dC, dI) CL (TY cI cB cJ cZ) s) (hN : NW s) (hA : ∀ q : Nat, s.heap.size ≤ q → A q) (hRc : cells ≤ R.cells) (hRs : slots ≤ R.slots) (hRf : 1 ≤ R.frames) (hRl : 25 ≤ R.locals) (hret : ∀ (r : Int32) (x : St) (H : Heap) (locs : List Loc) (pc : Nat) (ls : Array Slot), decode b_Mod_canCompare pc = .ok (.ireturn, 1) → narrow .boolean (.int r) = .int r → post r x → Wd dC dI cI cB cJ cZ ad stM kcM 115 A x H → va_S A s.heap H locs → W p l e R s m args below meth c H locs cells slots Q (F0 m pc ls [.int r])) (hrec6 : ∀ (l1 : Int32) (l2 : Int32) (l3 : Int32) (l4 : Int32) (l5 : Int32) (x : St) (H : Heap) (locs : List Loc) (ls : Array Slot), rec6 l1 l2 l3 l4 l5 x → Wd dC dI cI cB cJ cZ ad stM kcM 115 A x H → va_S A s.heap H locs → lv_has ls 7 [(0, .ref (ad 0)), (1, .int l1), (2, .int l2), (3, .int l3), (4, .int l4), (5, .int l5)] → W p l e R s m args below meth c H locs cells slots Q (F0 m 6 ls [])) : ∀ (l1 : Int32) (l2 : Int32) (l3 : Int32) (l4 : Int32) (l5 : Int32) (s0 : Int32) (x : St) (H : Heap) (locs : List Loc) (ls : Array Slot), j_Mod_canCompare_48 post rec6 l1 l2 l3 l4 l5 s0 x → Wd dC dI cI cB cJ cZ ad stM kcM 115 A x H → va_S A s.heap H locs → lv_has ls 7 [(0, .ref (ad 0)), (1, .int l1), (2, .int l2), (3, .int l3), (4, .int l4), (5, .int l5)] → W p l e R s m args below meth c H locs cells slots Q (F0 m 48 ls [.int s0]) := by
  intro l1 l2 l3 l4 l5 s0 x H locs ls  hw hW hS hl
  unfold j_Mod_canCompare_48 at hw
  refine lv_istore (lv' := [(4, .int s0), (0, .ref (ad 0)), (1, .int l1), (2, .int l2), (3, .int l3), (5, .int l5)]) hx hb d_Mod_canCompare_48 hl (by decide) rfl (fun ls hl => ?_)
  refine lv_iinc (v := (l5 + 1)) (lv' := [(5, .int (l5 + 1)), (4, .int s0), (0, .ref (ad 0)), (1, .int l1), (2, .int l2), (3, .int l3)]) hx hb d_Mod_canCompare_50 hl (k := 5) rfl rfl (by decide) rfl (fun ls hl => ?_)
  refine lv_goto (tgt := 6) hx hb d_Mod_canCompare_53 (by decide) ?_
  exact hrec6 l1 l2 l3 s0 (l5 + 1) x H locs ls  hw hW hS (lv_sub hl [2, 3, 4, 5, 1, 0] rfl)
set_option maxRecDepth 100000 in
set_option maxHeartbeats 4000000 in
set_option maxRecDepth 100000 in
theorem t_Mod_canCompare_43 {p : Program} {l : Launch} {e : Env} {R : Room} {s : State} {m : MethodId} {args : Array Value} {below : List Frame} {meth : Method} {c : Code} {cells slots : Nat} {Q : State → Prop} {dC : Nat → ClassId} {dI : Nat → Nat → Nat} {cI cB cJ cZ : ClassId} {A : Nat → Prop} {ad : Nat → Nat} {post : Int32 → St → Prop} {rec6 : Int32 → Int32 → Int32 → Int32 → Int32 → St → Prop} (hx : p.tables.exec = Jvm.exec) (hb : c.code = b_Mod_canCompare) (hml : c.maxLocals = 7) (hown : s.vm.findClass R_Mod = some m.cls) (hT : ∀ w ∈ TG, w.before args s = true) (hK : va_K (dC, dI) CL (TY cI cB cJ cZ) s) (hN : NW s) (hA : ∀ q : Nat, s.heap.size ≤ q → A q) (hRc : cells ≤ R.cells) (hRs : slots ≤ R.slots) (hRf : 1 ≤ R.frames) (hRl : 25 ≤ R.locals) (hret : ∀ (r : Int32) (x : St) (H : Heap) (locs : List Loc) (pc : Nat) (ls : Array Slot), decode b_Mod_canCompare pc = .ok (.ireturn, 1) → narrow .boolean (.int r) = .int r → post r x → Wd dC dI cI cB cJ cZ ad stM kcM 115 A x H → va_S A s.heap H locs → W p l e R s m args below meth c H locs cells slots Q (F0 m pc ls [.int r])) (hrec6 : ∀ (l1 : Int32) (l2 : Int32) (l3 : Int32) (l4 : Int32) (l5 : Int32) (x : St) (H : Heap) (locs : List Loc) (ls : Array Slot), rec6 l1 l2 l3 l4 l5 x → Wd dC dI cI cB cJ cZ ad stM kcM 115 A x H → va_S A s.heap H locs → lv_has ls 7 [(0, .ref (ad 0)), (1, .int l1), (2, .int l2), (3, .int l3), (4, .int l4), (5, .int l5)] → W p l e R s m args below meth c H locs cells slots Q (F0 m 6 ls [])) : ∀ (l1 : Int32) (l2 : Int32) (l3 : Int32) (l4 : Int32) (l5 : Int32) (x : St) (H : Heap) (locs : List Loc) (ls : Array Slot), j_Mod_canCompare_43 post rec6 l1 l2 l3 l4 l5 x → Wd dC dI cI cB cJ cZ ad stM kcM 115 A x H → va_S A s.heap H locs → lv_has ls 7 [(0, .ref (ad 0)), (1, .int l1), (2, .int l2), (3, .int l3), (4, .int l4), (5, .int l5)] → W p l e R s m args below meth c H locs cells slots Q (F0 m 43 ls []) := by
  intro l1 l2 l3 l4 l5 x H locs ls  hw hW hS hl
  unfold j_Mod_canCompare_43 at hw
  refine lv_iconst (v := 1) hx hb d_Mod_canCompare_43 (by decide) ?_
  refine lv_goto (tgt := 48) hx hb d_Mod_canCompare_44 (by decide) ?_
  exact t_Mod_canCompare_48 hx hb hml hown hT hK hN hA hRc hRs hRf hRl hret hrec6 l1 l2 l3 l4 l5 1 x H locs ls  hw hW hS (lv_sub hl [0, 1, 2, 3, 4, 5] rfl)
set_option maxRecDepth 100000 in
set_option maxHeartbeats 4000000 in
set_option maxRecDepth 100000 in
theorem t_Mod_canCompare_6 {p : Program} {l : Launch} {e : Env} {R : Room} {s : State} {m : MethodId} {args : Array Value} {below : List Frame} {meth : Method} {c : Code} {cells slots : Nat} {Q : State → Prop} {dC : Nat → ClassId} {dI : Nat → Nat → Nat} {cI cB cJ cZ : ClassId} {A : Nat → Prop} {ad : Nat → Nat} {post : Int32 → St → Prop} {rec6 : Int32 → Int32 → Int32 → Int32 → Int32 → St → Prop} (hx : p.tables.exec = Jvm.exec) (hb : c.code = b_Mod_canCompare) (hml : c.maxLocals = 7) (hown : s.vm.findClass R_Mod = some m.cls) (hT : ∀ w ∈ TG, w.before args s = true) (hK : va_K (dC, dI) CL (TY cI cB cJ cZ) s) (hN : NW s) (hA : ∀ q : Nat, s.heap.size ≤ q → A q) (hRc : cells ≤ R.cells) (hRs : slots ≤ R.slots) (hRf : 1 ≤ R.frames) (hRl : 25 ≤ R.locals) (hret : ∀ (r : Int32) (x : St) (H : Heap) (locs : List Loc) (pc : Nat) (ls : Array Slot), decode b_Mod_canCompare pc = .ok (.ireturn, 1) → narrow .boolean (.int r) = .int r → post r x → Wd dC dI cI cB cJ cZ ad stM kcM 115 A x H → va_S A s.heap H locs → W p l e R s m args below meth c H locs cells slots Q (F0 m pc ls [.int r])) (hrec6 : ∀ (l1 : Int32) (l2 : Int32) (l3 : Int32) (l4 : Int32) (l5 : Int32) (x : St) (H : Heap) (locs : List Loc) (ls : Array Slot), rec6 l1 l2 l3 l4 l5 x → Wd dC dI cI cB cJ cZ ad stM kcM 115 A x H → va_S A s.heap H locs → lv_has ls 7 [(0, .ref (ad 0)), (1, .int l1), (2, .int l2), (3, .int l3), (4, .int l4), (5, .int l5)] → W p l e R s m args below meth c H locs cells slots Q (F0 m 6 ls [])) : ∀ (l1 : Int32) (l2 : Int32) (l3 : Int32) (l4 : Int32) (l5 : Int32) (x : St) (H : Heap) (locs : List Loc) (ls : Array Slot), j_Mod_canCompare_6 post rec6 l1 l2 l3 l4 l5 x → Wd dC dI cI cB cJ cZ ad stM kcM 115 A x H → va_S A s.heap H locs → lv_has ls 7 [(0, .ref (ad 0)), (1, .int l1), (2, .int l2), (3, .int l3), (4, .int l4), (5, .int l5)] → W p l e R s m args below meth c H locs cells slots Q (F0 m 6 ls []) := by
  intro l1 l2 l3 l4 l5 x H locs ls  hw hW hS hl
  unfold j_Mod_canCompare_6 at hw
  refine lv_iload hx hb d_Mod_canCompare_6 (lv_at hl 5 rfl) ?_
  refine lv_aload_n hx hb d_Mod_canCompare_8 rfl (lv_at hl 0 rfl) ?_
  refine w_getf (q := 102) (k := 147) (t := 12) (C := R_Mod) (T := F_Mod) (N := 167) hx hb hT hown hK hW ko_0.1 ko_0.2 (by decide) in_Mod rfl rfl (by decide) rfl fr_Mod_147 w_9_83 d_Mod_canCompare_9 rfl ?_
  refine lv_iload_n hx hb d_Mod_canCompare_12 rfl (lv_at hl 1 rfl) ?_
  obtain ⟨hi, hw⟩ := hw
  refine w_iald (o := 102) hx hb hK hW ko_102.1 ko_102.2 hi d_Mod_canCompare_13 ?_
  refine lv_icmp_ge (tgt := 56) hx hb d_Mod_canCompare_14 (by decide) (fun c2317 => ?_) (fun c2317 => ?_)
  · have hw := hw.1 c2317
    refine lv_aload_n hx hb d_Mod_canCompare_56 rfl (lv_at hl 0 rfl) ?_
    refine w_getf (q := 102) (k := 147) (t := 12) (C := R_Mod) (T := F_Mod) (N := 167) hx hb hT hown hK hW ko_0.1 ko_0.2 (by decide) in_Mod rfl rfl (by decide) rfl fr_Mod_147 w_9_83 d_Mod_canCompare_57 rfl ?_
    refine lv_iload_n hx hb d_Mod_canCompare_60 rfl (lv_at hl 1 rfl) ?_
    obtain ⟨hi, hw⟩ := hw
    refine w_iald (o := 102) hx hb hK hW ko_102.1 ko_102.2 hi d_Mod_canCompare_61 ?_
    refine lv_if_le (tgt := 68) hx hb d_Mod_canCompare_62 (by decide) (fun c2318 => ?_) (fun c2318 => ?_)
    · have hw := hw.1 c2318
      refine lv_aload_n hx hb d_Mod_canCompare_68 rfl (lv_at hl 0 rfl) ?_
      refine lv_aload_n hx hb d_Mod_canCompare_69 rfl (lv_at hl 0 rfl) ?_
      refine w_getf (q := 99) (k := 144) (t := 12) (C := R_Mod) (T := F_Mod) (N := 167) hx hb hT hown hK hW ko_0.1 ko_0.2 (by decide) in_Mod rfl rfl (by decide) rfl fr_Mod_144 w_9_80 d_Mod_canCompare_70 rfl ?_
      refine lv_iload_n hx hb d_Mod_canCompare_73 rfl (lv_at hl 1 rfl) ?_
      obtain ⟨hi, hw⟩ := hw
      refine w_iald (o := 99) hx hb hK hW ko_99.1 ko_99.2 hi d_Mod_canCompare_74 ?_
      refine lv_iload_n hx hb d_Mod_canCompare_75 rfl (lv_at hl 3 rfl) ?_
      have hF := hW.free hS hA
      refine va_calli (va_runV (C := R_Mod) (As := [.int (rA x 99 l1), .int l3]) (rest := []) ⟨hx, hb, hml, hown, hT⟩ (k_Mod_againstLiteral l dC dI cI cB cJ cZ ad H.size (rA x 99 l1) l3 x  hw) ⟨callB_of 2 hT (gwt_in w_13_237) rfl rfl rfl (hT _ w_1_15) (hT _ w_13_234) (by decide +kernel) ⟨Nat.le_trans (Nat.le_of_ble_eq_true rfl) hRf, Nat.le_trans (Nat.le_of_ble_eq_true rfl) hRl⟩, hT _ w_13_236, hT _ ws_259⟩ ⟨PW.blind, va_recv hK hW.1 (ci := 12) (q0 := 0) rfl (pic_obj ko_0.1 ko_0.2 (by decide)), PW.at _ hW hK hN⟩ rfl rfl hl.1 rfl (lv_room (Nat.le_of_ble_eq_true rfl)) d_Mod_canCompare_76 ⟨hRc, hRs⟩) hS (fun q _ h => hF q h) hF (fun r2320 x2319 t H locs ht hvm hw hB hz1 hk1 hS => ?_)
      have hW := Wd.back hB ht hF
      clear hB ht hF hz1 hk1 hvm
      refine lv_istore (lv' := [(5, .int r2320), (0, .ref (ad 0)), (1, .int l1), (2, .int l2), (3, .int l3), (4, .int l4)]) hx hb d_Mod_canCompare_79 hl (by decide) rfl (fun ls hl => ?_)
      refine lv_aload_n hx hb d_Mod_canCompare_81 rfl (lv_at hl 1 rfl) ?_
      refine lv_aload_n hx hb d_Mod_canCompare_82 rfl (lv_at hl 1 rfl) ?_
      refine w_getf (q := 100) (k := 145) (t := 12) (C := R_Mod) (T := F_Mod) (N := 167) hx hb hT hown hK hW ko_0.1 ko_0.2 (by decide) in_Mod rfl rfl (by decide) rfl fr_Mod_145 w_9_81 d_Mod_canCompare_83 rfl ?_
      refine lv_iload_n hx hb d_Mod_canCompare_86 rfl (lv_at hl 2 rfl) ?_
      obtain ⟨hi, hw⟩ := hw
      refine w_iald (o := 100) hx hb hK hW ko_100.1 ko_100.2 hi d_Mod_canCompare_87 ?_
      refine lv_iload_n hx hb d_Mod_canCompare_88 rfl (lv_at hl 4 rfl) ?_
      have hF := hW.free hS hA
      refine va_calli (va_runV (C := R_Mod) (As := [.int (rA x2319 100 l1), .int l3]) (rest := []) ⟨hx, hb, hml, hown, hT⟩ (k_Mod_againstLiteral l dC dI cI cB cJ cZ ad H.size (rA x2319 100 l1) l3 x2319  hw) ⟨callB_of 2 hT (gwt_in w_13_237) rfl rfl rfl (hT _ w_1_15) (hT _ w_13_234) (by decide +kernel) ⟨Nat.le_trans (Nat.le_of_ble_eq_true rfl) hRf, Nat.le_trans (Nat.le_of_ble_eq_true rfl) hRl⟩, hT _ w_13_236, hT _ ws_259⟩ ⟨PW.blind, va_recv hK hW.1 (ci := 12) (q0 := 0) rfl (pic_obj ko_0.1 ko_0.2 (by decide)), PW.at _ hW hK hN⟩ rfl rfl hl.1 rfl (lv_room (Nat.le_of_ble_eq_true rfl)) d_Mod_canCompare_89 ⟨hRc, hRs⟩) hS (fun q _ h => hF q h) hF (fun r2322 x2321 t H locs ht hvm hw hB hz1 hk1 hS => ?_)
      have hW := Wd.back hB ht hF
      clear hB ht hF hz1 hk1 hvm
      refine lv_istore (lv' := [(6, .int r2322), (5, .int r2320), (0, .ref (ad 0)), (1, .int l1), (2, .int l2), (3, .int l3), (4, .int l4)]) hx hb d_Mod_canCompare_92 hl (by decide) rfl (fun ls hl => ?_)
      refine lv_iload_n hx hb d_Mod_canCompare_94 rfl (lv_at hl 4 rfl) ?_
      refine lv_if_ne (tgt := 114) hx hb d_Mod_canCompare_95 (by decide) (fun c2323 => ?_) (fun c2323 => ?_)
      · have hw := hw.1 c2323
        refine lv_iload_n hx hb d_Mod_canCompare_114 rfl (lv_at hl 4 rfl) ?_
        refine lv_iconst (v := 1) hx hb d_Mod_canCompare_115 (by decide) ?_
        refine lv_icmp_ne (tgt := 137) hx hb d_Mod_canCompare_116 (by decide) (fun c2324 => ?_) (fun c2324 => ?_)
        · have hw := hw.1 c2324
          refine lv_iload_n hx hb d_Mod_canCompare_137 rfl (lv_at hl 4 rfl) ?_
          refine lv_iconst (v := 4) hx hb d_Mod_canCompare_138 (by decide) ?_
          refine lv_icmp_ge (tgt := 151) hx hb d_Mod_canCompare_139 (by decide) (fun c2325 => ?_) (fun c2325 => ?_)
          · have hw := hw.1 c2325
            refine lv_iload_n hx hb d_Mod_canCompare_151 rfl (lv_at hl 4 rfl) ?_
            refine lv_iload hx hb d_Mod_canCompare_152 (lv_at hl 0 rfl) ?_
            have hF := hW.free hS hA
            refine va_calli (va_runS (As := [.int l2, .int r2322]) (rest := []) ⟨hx, hb, hml, hown, hT⟩ (k_Mod_holds l dC dI cI cB cJ cZ ad H.size l2 r2322 x2321  hw) ⟨callB_of 2 hT (gwt_in w_13_226) rfl rfl rfl (hT _ w_1_15) (hT _ w_13_224) (by decide +kernel) ⟨Nat.le_trans (Nat.le_of_ble_eq_true rfl) hRf, Nat.le_trans (Nat.le_of_ble_eq_true rfl) hRl⟩, hT _ w_13_225⟩ ⟨PW.blind, PW.at _ hW hK hN⟩ rfl rfl hl.1 rfl (lv_room (Nat.le_of_ble_eq_true rfl)) d_Mod_canCompare_154 ⟨hRc, hRs⟩) hS (fun q _ h => hF q h) hF (fun r2327 x2326 t H locs ht hvm hw hB hz1 hk1 hS => ?_)
            have hW := Wd.back hB ht hF
            clear hB ht hF hz1 hk1 hvm
            exact hret r2327 x2326 H locs 157 ls d_Mod_canCompare_157 hw.1 hw.2 hW hS
          · have hw := hw.2 c2325
            refine lv_iload_n hx hb d_Mod_canCompare_142 rfl (lv_at hl 4 rfl) ?_
            refine lv_iload hx hb d_Mod_canCompare_143 (lv_at hl 1 rfl) ?_
            have hF := hW.free hS hA
            refine va_calli (va_runS (As := [.int l2, .int r2320]) (rest := []) ⟨hx, hb, hml, hown, hT⟩ (k_Mod_holds l dC dI cI cB cJ cZ ad H.size l2 r2320 x2321  hw) ⟨callB_of 2 hT (gwt_in w_13_226) rfl rfl rfl (hT _ w_1_15) (hT _ w_13_224) (by decide +kernel) ⟨Nat.le_trans (Nat.le_of_ble_eq_true rfl) hRf, Nat.le_trans (Nat.le_of_ble_eq_true rfl) hRl⟩, hT _ w_13_225⟩ ⟨PW.blind, PW.at _ hW hK hN⟩ rfl rfl hl.1 rfl (lv_room (Nat.le_of_ble_eq_true rfl)) d_Mod_canCompare_145 ⟨hRc, hRs⟩) hS (fun q _ h => hF q h) hF (fun r2329 x2328 t H locs ht hvm hw hB hz1 hk1 hS => ?_)
            have hW := Wd.back hB ht hF
            clear hB ht hF hz1 hk1 hvm
            refine lv_goto (tgt := 157) hx hb d_Mod_canCompare_148 (by decide) ?_
            exact hret r2329 x2328 H locs 157 ls d_Mod_canCompare_157 hw.1 hw.2 hW hS
        · have hw := hw.2 c2324
          refine lv_iload hx hb d_Mod_canCompare_119 (lv_at hl 1 rfl) ?_
          refine lv_if_ne (tgt := 129) hx hb d_Mod_canCompare_121 (by decide) (fun c2330 => ?_) (fun c2330 => ?_)
          · have hw := hw.1 c2330
            exact t_Mod_canCompare_129 hx hb hml hown hT hK hN hA hRc hRs hRf hRl hret  l1 l2 l3 l4 r2320 r2322 x2321 H locs ls  hw hW hS (lv_sub hl [2, 3, 4, 5, 6, 1, 0] rfl)
          · have hw := hw.2 c2330
            refine lv_iload hx hb d_Mod_canCompare_124 (lv_at hl 0 rfl) ?_
            refine lv_if_eq (tgt := 133) hx hb d_Mod_canCompare_126 (by decide) (fun c2331 => ?_) (fun c2331 => ?_)
            · have hw := hw.1 c2331
              refine lv_iconst (v := 0) hx hb d_Mod_canCompare_133 (by decide) ?_
              refine lv_goto (tgt := 157) hx hb d_Mod_canCompare_134 (by decide) ?_
              exact hret 0 x2321 H locs 157 ls d_Mod_canCompare_157 rfl hw hW hS
            · have hw := hw.2 c2331
              exact t_Mod_canCompare_129 hx hb hml hown hT hK hN hA hRc hRs hRf hRl hret  l1 l2 l3 l4 r2320 r2322 x2321 H locs ls  hw hW hS (lv_sub hl [2, 3, 4, 5, 6, 1, 0] rfl)
      · have hw := hw.2 c2323
        refine lv_iload hx hb d_Mod_canCompare_98 (lv_at hl 1 rfl) ?_
        refine lv_if_gt (tgt := 112) hx hb d_Mod_canCompare_100 (by decide) (fun c2332 => ?_) (fun c2332 => ?_)
        · have hw := hw.1 c2332
          exact t_Mod_canCompare_112 hx hb hml hown hT hK hN hA hRc hRs hRf hRl hret  l1 l2 l3 l4 r2320 r2322 x2321 H locs ls  hw hW hS (lv_sub hl [2, 3, 4, 5, 6, 1, 0] rfl)
        · have hw := hw.2 c2332
          refine lv_iload hx hb d_Mod_canCompare_103 (lv_at hl 0 rfl) ?_
          refine lv_if_lt (tgt := 112) hx hb d_Mod_canCompare_105 (by decide) (fun c2333 => ?_) (fun c2333 => ?_)
          · have hw := hw.1 c2333
            exact t_Mod_canCompare_112 hx hb hml hown hT hK hN hA hRc hRs hRf hRl hret  l1 l2 l3 l4 r2320 r2322 x2321 H locs ls  hw hW hS (lv_sub hl [2, 3, 4, 5, 6, 1, 0] rfl)
          · have hw := hw.2 c2333
            refine lv_iconst (v := 1) hx hb d_Mod_canCompare_108 (by decide) ?_
            refine lv_goto (tgt := 113) hx hb d_Mod_canCompare_109 (by decide) ?_
            exact hret 1 x2321 H locs 113 ls d_Mod_canCompare_113 rfl hw hW hS
    · have hw := hw.2 c2318
      refine lv_iload hx hb d_Mod_canCompare_65 (lv_at hl 4 rfl) ?_
      exact hret l4 x H locs 67 ls d_Mod_canCompare_67 hw.1 hw.2 hW hS
  · have hw := hw.2 c2317
    refine lv_iload hx hb d_Mod_canCompare_17 (lv_at hl 4 rfl) ?_
    refine lv_if_ne (tgt := 43) hx hb d_Mod_canCompare_19 (by decide) (fun c2334 => ?_) (fun c2334 => ?_)
    · have hw := hw.1 c2334
      exact t_Mod_canCompare_43 hx hb hml hown hT hK hN hA hRc hRs hRf hRl hret hrec6 l1 l2 l3 l4 l5 x H locs ls  hw hW hS (lv_sub hl [0, 1, 2, 3, 4, 5] rfl)
    · have hw := hw.2 c2334
      refine lv_iload_n hx hb d_Mod_canCompare_22 rfl (lv_at hl 2 rfl) ?_
      refine lv_aload_n hx hb d_Mod_canCompare_23 rfl (lv_at hl 0 rfl) ?_
      refine lv_aload_n hx hb d_Mod_canCompare_24 rfl (lv_at hl 0 rfl) ?_
      refine w_getf (q := 101) (k := 146) (t := 12) (C := R_Mod) (T := F_Mod) (N := 167) hx hb hT hown hK hW ko_0.1 ko_0.2 (by decide) in_Mod rfl rfl (by decide) rfl fr_Mod_146 w_9_82 d_Mod_canCompare_25 rfl ?_
      refine lv_iload_n hx hb d_Mod_canCompare_28 rfl (lv_at hl 1 rfl) ?_
      obtain ⟨hi, hw⟩ := hw
      refine w_iald (o := 101) hx hb hK hW ko_101.1 ko_101.2 hi d_Mod_canCompare_29 ?_
      refine lv_iload hx hb d_Mod_canCompare_30 (lv_at hl 5 rfl) ?_
      refine lv_iadd hx hb d_Mod_canCompare_32 ?_
      refine lv_iload_n hx hb d_Mod_canCompare_33 rfl (lv_at hl 3 rfl) ?_
      have hF := hW.free hS hA
      refine va_calli (va_runV (C := R_Mod) (As := [.int ((rA x 101 l1) + l5), .int l3]) (rest := [.int l2]) ⟨hx, hb, hml, hown, hT⟩ (k_Mod_againstLiteral l dC dI cI cB cJ cZ ad H.size ((rA x 101 l1) + l5) l3 x  hw) ⟨callB_of 2 hT (gwt_in w_13_237) rfl rfl rfl (hT _ w_1_15) (hT _ w_13_234) (by decide +kernel) ⟨Nat.le_trans (Nat.le_of_ble_eq_true rfl) hRf, Nat.le_trans (Nat.le_of_ble_eq_true rfl) hRl⟩, hT _ w_13_236, hT _ ws_259⟩ ⟨PW.blind, va_recv hK hW.1 (ci := 12) (q0 := 0) rfl (pic_obj ko_0.1 ko_0.2 (by decide)), PW.at _ hW hK hN⟩ rfl rfl hl.1 rfl (lv_room (Nat.le_of_ble_eq_true rfl)) d_Mod_canCompare_34 ⟨hRc, hRs⟩) hS (fun q _ h => hF q h) hF (fun r2336 x2335 t H locs ht hvm hw hB hz1 hk1 hS => ?_)
      have hW := Wd.back hB ht hF
      clear hB ht hF hz1 hk1 hvm
      have hF := hW.free hS hA
      refine va_calli (va_runS (As := [.int l2, .int r2336]) (rest := []) ⟨hx, hb, hml, hown, hT⟩ (k_Mod_holds l dC dI cI cB cJ cZ ad H.size l2 r2336 x2335  hw) ⟨callB_of 2 hT (gwt_in w_13_226) rfl rfl rfl (hT _ w_1_15) (hT _ w_13_224) (by decide +kernel) ⟨Nat.le_trans (Nat.le_of_ble_eq_true rfl) hRf, Nat.le_trans (Nat.le_of_ble_eq_true rfl) hRl⟩, hT _ w_13_225⟩ ⟨PW.blind, PW.at _ hW hK hN⟩ rfl rfl hl.1 rfl (lv_room (Nat.le_of_ble_eq_true rfl)) d_Mod_canCompare_37 ⟨hRc, hRs⟩) hS (fun q _ h => hF q h) hF (fun r2338 x2337 t H locs ht hvm hw hB hz1 hk1 hS => ?_)
      have hW := Wd.back hB ht hF
      clear hB ht hF hz1 hk1 hvm
      refine lv_if_eq (tgt := 47) hx hb d_Mod_canCompare_40 (by decide) (fun c2339 => ?_) (fun c2339 => ?_)
      · have hw := hw.1 c2339
        refine lv_iconst (v := 0) hx hb d_Mod_canCompare_47 (by decide) ?_
        exact t_Mod_canCompare_48 hx hb hml hown hT hK hN hA hRc hRs hRf hRl hret hrec6 l1 l2 l3 l4 l5 0 x2337 H locs ls  hw hW hS (lv_sub hl [0, 1, 2, 3, 4, 5] rfl)
      · have hw := hw.2 c2339
        exact t_Mod_canCompare_43 hx hb hml hown hT hK hN hA hRc hRs hRf hRl hret hrec6 l1 l2 l3 l4 l5 x2337 H locs ls  hw hW hS (lv_sub hl [0, 1, 2, 3, 4, 5] rfl)
set_option maxHeartbeats 4000000 in
set_option maxRecDepth 100000 in
theorem tl_Mod_canCompare_6 {p : Program} {l : Launch} {e : Env} {R : Room} {s : State} {m : MethodId} {args : Array Value} {below : List Frame} {meth : Method} {c : Code} {cells slots : Nat} {Q : State → Prop} {dC : Nat → ClassId} {dI : Nat → Nat → Nat} {cI cB cJ cZ : ClassId} {A : Nat → Prop} {ad : Nat → Nat} {post : Int32 → St → Prop} (hx : p.tables.exec = Jvm.exec) (hb : c.code = b_Mod_canCompare) (hml : c.maxLocals = 7) (hown : s.vm.findClass R_Mod = some m.cls) (hT : ∀ w ∈ TG, w.before args s = true) (hK : va_K (dC, dI) CL (TY cI cB cJ cZ) s) (hN : NW s) (hA : ∀ q : Nat, s.heap.size ≤ q → A q) (hRc : cells ≤ R.cells) (hRs : slots ≤ R.slots) (hRf : 1 ≤ R.frames) (hRl : 25 ≤ R.locals) (hret : ∀ (r : Int32) (x : St) (H : Heap) (locs : List Loc) (pc : Nat) (ls : Array Slot), decode b_Mod_canCompare pc = .ok (.ireturn, 1) → narrow .boolean (.int r) = .int r → post r x → Wd dC dI cI cB cJ cZ ad stM kcM 115 A x H → va_S A s.heap H locs → W p l e R s m args below meth c H locs cells slots Q (F0 m pc ls [.int r]))  : ∀ n : Nat, ∀ (l1 : Int32) (l2 : Int32) (l3 : Int32) (l4 : Int32) (l5 : Int32) (x : St) (H : Heap) (locs : List Loc) (ls : Array Slot), wl_Mod_canCompare_6 post n l1 l2 l3 l4 l5 x → Wd dC dI cI cB cJ cZ ad stM kcM 115 A x H → va_S A s.heap H locs → lv_has ls 7 [(0, .ref (ad 0)), (1, .int l1), (2, .int l2), (3, .int l3), (4, .int l4), (5, .int l5)] → W p l e R s m args below meth c H locs cells slots Q (F0 m 6 ls []) := by
  intro n
  induction n with
  | zero => intro l1 l2 l3 l4 l5 x H locs ls  hw; exact hw.elim
  | succ n ih => intro l1 l2 l3 l4 l5 x H locs ls  hw hW hS hl; exact t_Mod_canCompare_6 hx hb hml hown hT hK hN hA hRc hRs hRf hRl hret  ih l1 l2 l3 l4 l5 x H locs ls  hw hW hS hl
set_option maxRecDepth 100000 in
set_option maxHeartbeats 4000000 in
set_option maxRecDepth 100000 in
theorem t_Mod_canCompare_e {p : Program} {l : Launch} {e : Env} {R : Room} {s : State} {m : MethodId} {args : Array Value} {below : List Frame} {meth : Method} {c : Code} {cells slots : Nat} {Q : State → Prop} {dC : Nat → ClassId} {dI : Nat → Nat → Nat} {cI cB cJ cZ : ClassId} {A : Nat → Prop} {ad : Nat → Nat} {post : Int32 → St → Prop} (hx : p.tables.exec = Jvm.exec) (hb : c.code = b_Mod_canCompare) (hml : c.maxLocals = 7) (hown : s.vm.findClass R_Mod = some m.cls) (hT : ∀ w ∈ TG, w.before args s = true) (hK : va_K (dC, dI) CL (TY cI cB cJ cZ) s) (hN : NW s) (hA : ∀ q : Nat, s.heap.size ≤ q → A q) (hRc : cells ≤ R.cells) (hRs : slots ≤ R.slots) (hRf : 1 ≤ R.frames) (hRl : 25 ≤ R.locals) (hret : ∀ (r : Int32) (x : St) (H : Heap) (locs : List Loc) (pc : Nat) (ls : Array Slot), decode b_Mod_canCompare pc = .ok (.ireturn, 1) → narrow .boolean (.int r) = .int r → post r x → Wd dC dI cI cB cJ cZ ad stM kcM 115 A x H → va_S A s.heap H locs → W p l e R s m args below meth c H locs cells slots Q (F0 m pc ls [.int r])) : ∀ (l1 : Int32) (l2 : Int32) (l3 : Int32) (x : St) (H : Heap) (locs : List Loc) (ls : Array Slot), wp_Mod_canCompare post l1 l2 l3 x → Wd dC dI cI cB cJ cZ ad stM kcM 115 A x H → va_S A s.heap H locs → lv_has ls 7 [(0, .ref (ad 0)), (1, .int l1), (2, .int l2), (3, .int l3)] → W p l e R s m args below meth c H locs cells slots Q (F0 m 0 ls []) := by
  intro l1 l2 l3 x H locs ls  hw hW hS hl
  unfold wp_Mod_canCompare at hw
  refine lv_iconst (v := 0) hx hb d_Mod_canCompare_0 (by decide) ?_
  refine lv_istore (lv' := [(4, .int 0), (0, .ref (ad 0)), (1, .int l1), (2, .int l2), (3, .int l3)]) hx hb d_Mod_canCompare_1 hl (by decide) rfl (fun ls hl => ?_)
  refine lv_iconst (v := 0) hx hb d_Mod_canCompare_3 (by decide) ?_
  refine lv_istore (lv' := [(5, .int 0), (4, .int 0), (0, .ref (ad 0)), (1, .int l1), (2, .int l2), (3, .int l3)]) hx hb d_Mod_canCompare_4 hl (by decide) rfl (fun ls hl => ?_)
  obtain ⟨n, hw⟩ := hw
  exact tl_Mod_canCompare_6 hx hb hml hown hT hK hN hA hRc hRs hRf hRl hret  n l1 l2 l3 0 0 x H locs ls  hw hW hS (lv_sub hl [2, 3, 4, 5, 1, 0] rfl)
set_option maxHeartbeats 4000000 in
set_option maxRecDepth 100000 in
theorem k_Mod_canCompare (l : Launch) (dC : Nat → ClassId) (dI : Nat → Nat → Nat) (cI cB cJ cZ : ClassId) (ad : Nat → Nat) (sz : Nat) (l1 : Int32) (l2 : Int32) (l3 : Int32) (x : St) {post : Int32 → St → Prop} (hw : wp_Mod_canCompare post l1 l2 l3 x) : Met l y_Mod_canCompare (wsOf y_Mod_canCompare b_Mod_canCompare 7 (some (.boolean))) ({ frames := 1, cells := 0, slots := 0, locals := 25 }) (va_Pc [.ref (ad 0), .int l1, .int l2, .int l3] (PW dC dI cI cB cJ cZ ad stM kcM 115 sz x)) (va_Qi (fun (r : Int32) (y : St) => post r y) (fun y t => Wd dC dI cI cB cJ cZ ad stM kcM 115 (va_A (pic ad stM kcM 115 cI cB cJ cZ x) sz) y t.heap) (va_A (pic ad stM kcM 115 cI cB cJ cZ x) sz)) 0 0 (va_A (pic ad stM kcM 115 cI cB cJ cZ x) sz) := by
  refine Met.ofW (cc := b_Mod_canCompare) (maxL := 7) (ret := some (.boolean)) (by decide) rfl ?_
  intro p e s m args below meth c s₁ B hml hv
  obtain ⟨rfl, hsz, hW0, hK, hN⟩ := hv
  have hx := B.exec
  have hb := B.bytes
  have hr := B.returns
  have hts := atoms_spec B.pre
  have hT : ∀ w ∈ TG, w.before _ s = true := fun w h => hts w (List.mem_cons_of_mem _ h)
  have hown : s.vm.findClass R_Mod = some m.cls := findClass_of_methodNamed B.named
  have hlocks := B.notSynchronized
  subst hsz
  have hW : Wd dC dI cI cB cJ cZ ad stM kcM 115 (va_A (pic ad stM kcM 115 cI cB cJ cZ x) s.heap.size) x s.heap := ⟨hW0.1, hW0.2.1.self (sz := s.heap.size), hW0.2.2⟩
  generalize hAe : va_A (pic ad stM kcM 115 cI cB cJ cZ x) s.heap.size = A at hW ⊢
  have hA : ∀ q : Nat, s.heap.size ≤ q → A q := fun q h => by rw [← hAe]; exact Or.inr h
  have hS : va_S A s.heap s.heap [] := va_S.rf
  have hl := lv_entry ([.ref (ad 0), .int l1, .int l2, .int l3]) (n := 7) (Nat.le_of_ble_eq_true rfl)
  rw [lg_entry_eq]
  generalize (lg_sl ([.ref (ad 0), .int l1, .int l2, .int l3]) ++ List.replicate (7 - (lg_sl ([.ref (ad 0), .int l1, .int l2, .int l3])).length) Slot.unset).toArray = ls at hl ⊢
  have hl : lv_has ls 7 [(0, .ref (ad 0)), (1, .int l1), (2, .int l2), (3, .int l3)] := hl
  exact t_Mod_canCompare_e hx hb hml hown hT hK hN hA (Nat.le_refl 0) (Nat.le_refl 0) (Nat.le_refl 1) (Nat.le_refl 25) (fun r x H locs pc ls hd hz hp hW hS => W.zret (v := r) (ty := .boolean) hx hb hr hz (fun t ht hM => ⟨⟨r, x, rfl, hp, Wd.back hW ht.symm (fun _ z => z)⟩, hS.F ht⟩) hS.2.2 hd hlocks)  l1 l2 l3 x _ _ ls  hw hW hS hl
end
