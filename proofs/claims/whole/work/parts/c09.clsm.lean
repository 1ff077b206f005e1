theorem fr_Src_1 : F_Src 1 = (R_Src, "pos", "I", false) := rfl
theorem fr_Src_2 : F_Src 2 = (R_Src, "stop", "I", false) := rfl
theorem fr_Src_3 : F_Src 3 = (R_Src, "fault", "I", false) := rfl
theorem fr_Wrt_13 : F_Wrt 13 = (R_Wrt, "least", "J", false) := rfl
theorem fr_Wrt_14 : F_Wrt 14 = (R_Wrt, "greatest", "J", false) := rfl
theorem w_2_237 : (Jvm.Cond.fieldLink "StripedVault$Source" (19 : Nat) "StripedVault$Source" "pos" "I") ∈ TG := tw_2 237 (by decide +kernel) (by decide +kernel)
theorem w_2_239 : (Jvm.Cond.fieldLink "StripedVault$Source" (29 : Nat) "StripedVault$Source" "stop" "I") ∈ TG := tw_2 239 (by decide +kernel) (by decide +kernel)
theorem w_2_64 : (Jvm.Cond.fieldLink "StripedVault$Writer" (157 : Nat) "StripedVault$Writer" "least" "J") ∈ TG := tw_2 64 (by decide +kernel) (by decide +kernel)
theorem w_2_65 : (Jvm.Cond.fieldLink "StripedVault$Writer" (165 : Nat) "StripedVault$Writer" "greatest" "J") ∈ TG := tw_2 65 (by decide +kernel) (by decide +kernel)
theorem w_3_1 : (Jvm.Cond.fieldLink "StripedVault$Source" (32 : Nat) "StripedVault$Source" "fault" "I") ∈ TG := tw_3 1 (by decide +kernel) (by decide +kernel)
theorem w_6_32 : (Jvm.Cond.methodLink "StripedVault$Writer" (161 : Nat) ({ cls := "StripedVault$Writer", name := "compare", desc := "(IJJ)I" } : Jvm.MethodName)) ∈ TG := tw_6 32 (by decide +kernel) (by decide +kernel)
theorem w_6_34 : (Jvm.Cond.instanceMethod ({ cls := "StripedVault$Writer", name := "compare", desc := "(IJJ)I" } : Jvm.MethodName)) ∈ TG := tw_6 34 (by decide +kernel) (by decide +kernel)
theorem w_6_35 : (Jvm.Cond.code ({ cls := "StripedVault$Writer", name := "compare", desc := "(IJJ)I" } : Jvm.MethodName) prog_12_method_7_code (6 : Nat) (Option.some Jvm.ClassFile.FieldType.int)) ∈ TG := tw_6 35 (by decide +kernel) (by decide +kernel)
theorem w_6_44 : (Jvm.Cond.fieldLink "StripedVault" (246 : Nat) "StripedVault" "CRC_OF_NIBBLE" "[I") ∈ TG := tw_6 44 (by decide +kernel) (by decide +kernel)
theorem w_6_89 : (Jvm.Cond.methodLink "StripedVault$Source" (23 : Nat) ({ cls := "java/lang/Math", name := "min", desc := "(II)I" } : Jvm.MethodName)) ∈ TG := tw_6 89 (by decide +kernel) (by decide +kernel)
theorem w_6_94 : (Jvm.Cond.constantLong "StripedVault$Source" (43 : Nat) (255 : Int64)) ∈ TG := tw_6 94 (by decide +kernel) (by decide +kernel)
theorem ws_32 : Cond.selects R_Wrt y_Wrt_compare y_Wrt_compare ∈ TG := tw_s 32 (by decide +kernel) (by decide +kernel)
theorem d_V_zigzag_0 : decode b_V_zigzag 0 = .ok (.lload_n 0, 1) := by decide +kernel
theorem d_V_zigzag_1 : decode b_V_zigzag 1 = .ok (.iconst 1, 1) := by decide +kernel
theorem d_V_zigzag_2 : decode b_V_zigzag 2 = .ok (.lshl, 1) := by decide +kernel
theorem d_V_zigzag_3 : decode b_V_zigzag 3 = .ok (.lload_n 0, 1) := by decide +kernel
theorem d_V_zigzag_4 : decode b_V_zigzag 4 = .ok (.bipush 63, 2) := by decide +kernel
theorem d_V_zigzag_6 : decode b_V_zigzag 6 = .ok (.lshr, 1) := by decide +kernel
theorem d_V_zigzag_7 : decode b_V_zigzag 7 = .ok (.lxor, 1) := by decide +kernel
theorem d_V_zigzag_8 : decode b_V_zigzag 8 = .ok (.lreturn, 1) := by decide +kernel
theorem d_Wrt_compare_0 : decode b_Wrt_compare 0 = .ok (.iload_n 1, 1) := by decide +kernel
theorem d_Wrt_compare_1 : decode b_Wrt_compare 1 = .ok (.aload_n 0, 1) := by decide +kernel
theorem d_Wrt_compare_2 : decode b_Wrt_compare 2 = .ok (.getfield 66, 3) := by decide +kernel
theorem d_Wrt_compare_5 : decode b_Wrt_compare 5 = .ok (.getfield 171, 3) := by decide +kernel
theorem d_Wrt_compare_8 : decode b_Wrt_compare 8 = .ok (.lload_n 2, 1) := by decide +kernel
theorem d_Wrt_compare_9 : decode b_Wrt_compare 9 = .ok (.aload_n 0, 1) := by decide +kernel
theorem d_Wrt_compare_10 : decode b_Wrt_compare 10 = .ok (.getfield 66, 3) := by decide +kernel
theorem d_Wrt_compare_13 : decode b_Wrt_compare 13 = .ok (.getfield 171, 3) := by decide +kernel
theorem d_Wrt_compare_16 : decode b_Wrt_compare 16 = .ok (.lload 4, 2) := by decide +kernel
theorem d_Wrt_compare_18 : decode b_Wrt_compare 18 = .ok (.invokestatic 178, 3) := by decide +kernel
theorem d_Wrt_compare_21 : decode b_Wrt_compare 21 = .ok (.ireturn, 1) := by decide +kernel
theorem d_Wrt_findBounds_86 : decode b_Wrt_findBounds 86 = .ok (.iinc 2 1, 3) := by decide +kernel
theorem d_Wrt_findBounds_89 : decode b_Wrt_findBounds 89 = .ok (.goto (-67), 3) := by decide +kernel
theorem d_Wrt_findBounds_58 : decode b_Wrt_findBounds 58 = .ok (.aload_n 0, 1) := by decide +kernel
theorem d_Wrt_findBounds_59 : decode b_Wrt_findBounds 59 = .ok (.iload_n 1, 1) := by decide +kernel
theorem d_Wrt_findBounds_60 : decode b_Wrt_findBounds 60 = .ok (.aload_n 0, 1) := by decide +kernel
theorem d_Wrt_findBounds_61 : decode b_Wrt_findBounds 61 = .ok (.getfield 43, 3) := by decide +kernel
theorem d_Wrt_findBounds_64 : decode b_Wrt_findBounds 64 = .ok (.iload_n 2, 1) := by decide +kernel
theorem d_Wrt_findBounds_65 : decode b_Wrt_findBounds 65 = .ok (.laload, 1) := by decide +kernel
theorem d_Wrt_findBounds_66 : decode b_Wrt_findBounds 66 = .ok (.aload_n 0, 1) := by decide +kernel
theorem d_Wrt_findBounds_67 : decode b_Wrt_findBounds 67 = .ok (.getfield 165, 3) := by decide +kernel
theorem d_Wrt_findBounds_70 : decode b_Wrt_findBounds 70 = .ok (.invokevirtual 161, 3) := by decide +kernel
theorem d_Wrt_findBounds_73 : decode b_Wrt_findBounds 73 = .ok (.ifCond .le 13, 3) := by decide +kernel
theorem d_Wrt_findBounds_76 : decode b_Wrt_findBounds 76 = .ok (.aload_n 0, 1) := by decide +kernel
theorem d_Wrt_findBounds_77 : decode b_Wrt_findBounds 77 = .ok (.aload_n 0, 1) := by decide +kernel
theorem d_Wrt_findBounds_78 : decode b_Wrt_findBounds 78 = .ok (.getfield 43, 3) := by decide +kernel
theorem d_Wrt_findBounds_81 : decode b_Wrt_findBounds 81 = .ok (.iload_n 2, 1) := by decide +kernel
theorem d_Wrt_findBounds_82 : decode b_Wrt_findBounds 82 = .ok (.laload, 1) := by decide +kernel
theorem d_Wrt_findBounds_83 : decode b_Wrt_findBounds 83 = .ok (.putfield 165, 3) := by decide +kernel
theorem d_Wrt_findBounds_22 : decode b_Wrt_findBounds 22 = .ok (.iload_n 2, 1) := by decide +kernel
theorem d_Wrt_findBounds_23 : decode b_Wrt_findBounds 23 = .ok (.aload_n 0, 1) := by decide +kernel
theorem d_Wrt_findBounds_24 : decode b_Wrt_findBounds 24 = .ok (.getfield 154, 3) := by decide +kernel
theorem d_Wrt_findBounds_27 : decode b_Wrt_findBounds 27 = .ok (.if_icmp .ge 65, 3) := by decide +kernel
theorem d_Wrt_findBounds_92 : decode b_Wrt_findBounds 92 = .ok (.return_, 1) := by decide +kernel
theorem d_Wrt_findBounds_30 : decode b_Wrt_findBounds 30 = .ok (.aload_n 0, 1) := by decide +kernel
theorem d_Wrt_findBounds_31 : decode b_Wrt_findBounds 31 = .ok (.iload_n 1, 1) := by decide +kernel
theorem d_Wrt_findBounds_32 : decode b_Wrt_findBounds 32 = .ok (.aload_n 0, 1) := by decide +kernel
theorem d_Wrt_findBounds_33 : decode b_Wrt_findBounds 33 = .ok (.getfield 43, 3) := by decide +kernel
theorem d_Wrt_findBounds_36 : decode b_Wrt_findBounds 36 = .ok (.iload_n 2, 1) := by decide +kernel
theorem d_Wrt_findBounds_37 : decode b_Wrt_findBounds 37 = .ok (.laload, 1) := by decide +kernel
theorem d_Wrt_findBounds_38 : decode b_Wrt_findBounds 38 = .ok (.aload_n 0, 1) := by decide +kernel
theorem d_Wrt_findBounds_39 : decode b_Wrt_findBounds 39 = .ok (.getfield 157, 3) := by decide +kernel
theorem d_Wrt_findBounds_42 : decode b_Wrt_findBounds 42 = .ok (.invokevirtual 161, 3) := by decide +kernel
theorem d_Wrt_findBounds_45 : decode b_Wrt_findBounds 45 = .ok (.ifCond .ge 13, 3) := by decide +kernel
theorem d_Wrt_findBounds_48 : decode b_Wrt_findBounds 48 = .ok (.aload_n 0, 1) := by decide +kernel
theorem d_Wrt_findBounds_49 : decode b_Wrt_findBounds 49 = .ok (.aload_n 0, 1) := by decide +kernel
theorem d_Wrt_findBounds_50 : decode b_Wrt_findBounds 50 = .ok (.getfield 43, 3) := by decide +kernel
theorem d_Wrt_findBounds_53 : decode b_Wrt_findBounds 53 = .ok (.iload_n 2, 1) := by decide +kernel
theorem d_Wrt_findBounds_54 : decode b_Wrt_findBounds 54 = .ok (.laload, 1) := by decide +kernel
theorem d_Wrt_findBounds_55 : decode b_Wrt_findBounds 55 = .ok (.putfield 157, 3) := by decide +kernel
theorem d_Wrt_findBounds_0 : decode b_Wrt_findBounds 0 = .ok (.aload_n 0, 1) := by decide +kernel
theorem d_Wrt_findBounds_1 : decode b_Wrt_findBounds 1 = .ok (.aload_n 0, 1) := by decide +kernel
theorem d_Wrt_findBounds_2 : decode b_Wrt_findBounds 2 = .ok (.getfield 43, 3) := by decide +kernel
theorem d_Wrt_findBounds_5 : decode b_Wrt_findBounds 5 = .ok (.iconst 0, 1) := by decide +kernel
theorem d_Wrt_findBounds_6 : decode b_Wrt_findBounds 6 = .ok (.laload, 1) := by decide +kernel
theorem d_Wrt_findBounds_7 : decode b_Wrt_findBounds 7 = .ok (.putfield 157, 3) := by decide +kernel
theorem d_Wrt_findBounds_10 : decode b_Wrt_findBounds 10 = .ok (.aload_n 0, 1) := by decide +kernel
theorem d_Wrt_findBounds_11 : decode b_Wrt_findBounds 11 = .ok (.aload_n 0, 1) := by decide +kernel
theorem d_Wrt_findBounds_12 : decode b_Wrt_findBounds 12 = .ok (.getfield 43, 3) := by decide +kernel
theorem d_Wrt_findBounds_15 : decode b_Wrt_findBounds 15 = .ok (.iconst 0, 1) := by decide +kernel
theorem d_Wrt_findBounds_16 : decode b_Wrt_findBounds 16 = .ok (.laload, 1) := by decide +kernel
theorem d_Wrt_findBounds_17 : decode b_Wrt_findBounds 17 = .ok (.putfield 165, 3) := by decide +kernel
theorem d_Wrt_findBounds_20 : decode b_Wrt_findBounds 20 = .ok (.iconst 1, 1) := by decide +kernel
theorem d_Wrt_findBounds_21 : decode b_Wrt_findBounds 21 = .ok (.istore_n 2, 1) := by decide +kernel
theorem d_V_checkOf_5 : decode b_V_checkOf 5 = .ok (.iload 4, 2) := by decide +kernel
theorem d_V_checkOf_7 : decode b_V_checkOf 7 = .ok (.iload_n 2, 1) := by decide +kernel
theorem d_V_checkOf_8 : decode b_V_checkOf 8 = .ok (.if_icmp .ge 46, 3) := by decide +kernel
theorem d_V_checkOf_54 : decode b_V_checkOf 54 = .ok (.iload_n 3, 1) := by decide +kernel
theorem d_V_checkOf_55 : decode b_V_checkOf 55 = .ok (.iconst (-1), 1) := by decide +kernel
theorem d_V_checkOf_56 : decode b_V_checkOf 56 = .ok (.ixor, 1) := by decide +kernel
theorem d_V_checkOf_57 : decode b_V_checkOf 57 = .ok (.ireturn, 1) := by decide +kernel
theorem d_V_checkOf_11 : decode b_V_checkOf 11 = .ok (.iload_n 3, 1) := by decide +kernel
theorem d_V_checkOf_12 : decode b_V_checkOf 12 = .ok (.aload_n 0, 1) := by decide +kernel
theorem d_V_checkOf_13 : decode b_V_checkOf 13 = .ok (.iload 4, 2) := by decide +kernel
theorem d_V_checkOf_15 : decode b_V_checkOf 15 = .ok (.baload, 1) := by decide +kernel
theorem d_V_checkOf_16 : decode b_V_checkOf 16 = .ok (.sipush 255, 3) := by decide +kernel
theorem d_V_checkOf_19 : decode b_V_checkOf 19 = .ok (.iand, 1) := by decide +kernel
theorem d_V_checkOf_20 : decode b_V_checkOf 20 = .ok (.ixor, 1) := by decide +kernel
theorem d_V_checkOf_21 : decode b_V_checkOf 21 = .ok (.istore_n 3, 1) := by decide +kernel
theorem d_V_checkOf_22 : decode b_V_checkOf 22 = .ok (.iload_n 3, 1) := by decide +kernel
theorem d_V_checkOf_23 : decode b_V_checkOf 23 = .ok (.iconst 4, 1) := by decide +kernel
theorem d_V_checkOf_24 : decode b_V_checkOf 24 = .ok (.iushr, 1) := by decide +kernel
theorem d_V_checkOf_25 : decode b_V_checkOf 25 = .ok (.getstatic 246, 3) := by decide +kernel
theorem d_V_checkOf_28 : decode b_V_checkOf 28 = .ok (.iload_n 3, 1) := by decide +kernel
theorem d_V_checkOf_29 : decode b_V_checkOf 29 = .ok (.bipush 15, 2) := by decide +kernel
theorem d_V_checkOf_31 : decode b_V_checkOf 31 = .ok (.iand, 1) := by decide +kernel
theorem d_V_checkOf_32 : decode b_V_checkOf 32 = .ok (.iaload, 1) := by decide +kernel
theorem d_V_checkOf_33 : decode b_V_checkOf 33 = .ok (.ixor, 1) := by decide +kernel
theorem d_V_checkOf_34 : decode b_V_checkOf 34 = .ok (.istore_n 3, 1) := by decide +kernel
theorem d_V_checkOf_35 : decode b_V_checkOf 35 = .ok (.iload_n 3, 1) := by decide +kernel
theorem d_V_checkOf_36 : decode b_V_checkOf 36 = .ok (.iconst 4, 1) := by decide +kernel
theorem d_V_checkOf_37 : decode b_V_checkOf 37 = .ok (.iushr, 1) := by decide +kernel
theorem d_V_checkOf_38 : decode b_V_checkOf 38 = .ok (.getstatic 246, 3) := by decide +kernel
theorem d_V_checkOf_41 : decode b_V_checkOf 41 = .ok (.iload_n 3, 1) := by decide +kernel
theorem d_V_checkOf_42 : decode b_V_checkOf 42 = .ok (.bipush 15, 2) := by decide +kernel
theorem d_V_checkOf_44 : decode b_V_checkOf 44 = .ok (.iand, 1) := by decide +kernel
theorem d_V_checkOf_45 : decode b_V_checkOf 45 = .ok (.iaload, 1) := by decide +kernel
theorem d_V_checkOf_46 : decode b_V_checkOf 46 = .ok (.ixor, 1) := by decide +kernel
theorem d_V_checkOf_47 : decode b_V_checkOf 47 = .ok (.istore_n 3, 1) := by decide +kernel
theorem d_V_checkOf_48 : decode b_V_checkOf 48 = .ok (.iinc 4 1, 3) := by decide +kernel
theorem d_V_checkOf_51 : decode b_V_checkOf 51 = .ok (.goto (-46), 3) := by decide +kernel
theorem d_V_checkOf_0 : decode b_V_checkOf 0 = .ok (.iconst (-1), 1) := by decide +kernel
theorem d_V_checkOf_1 : decode b_V_checkOf 1 = .ok (.istore_n 3, 1) := by decide +kernel
theorem d_V_checkOf_2 : decode b_V_checkOf 2 = .ok (.iload_n 1, 1) := by decide +kernel
theorem d_V_checkOf_3 : decode b_V_checkOf 3 = .ok (.istore 4, 2) := by decide +kernel
theorem d_Wrt_giveFile_0 : decode b_Wrt_giveFile 0 = .ok (.aload_n 0, 1) := by decide +kernel
theorem d_Wrt_giveFile_1 : decode b_Wrt_giveFile 1 = .ok (.getfield 15, 3) := by decide +kernel
theorem d_Wrt_giveFile_4 : decode b_Wrt_giveFile 4 = .ok (.astore_n 2, 1) := by decide +kernel
theorem d_Wrt_giveFile_5 : decode b_Wrt_giveFile 5 = .ok (.aload_n 0, 1) := by decide +kernel
theorem d_Wrt_giveFile_6 : decode b_Wrt_giveFile 6 = .ok (.aload_n 1, 1) := by decide +kernel
theorem d_Wrt_giveFile_7 : decode b_Wrt_giveFile 7 = .ok (.putfield 15, 3) := by decide +kernel
theorem d_Wrt_giveFile_10 : decode b_Wrt_giveFile 10 = .ok (.aload_n 2, 1) := by decide +kernel
theorem d_Wrt_giveFile_11 : decode b_Wrt_giveFile 11 = .ok (.areturn, 1) := by decide +kernel
theorem d_V_take_0 : decode b_V_take 0 = .ok (.aload_n 0, 1) := by decide +kernel
theorem d_V_take_1 : decode b_V_take 1 = .ok (.getfield 22, 3) := by decide +kernel
theorem d_V_take_4 : decode b_V_take 4 = .ok (.astore_n 1, 1) := by decide +kernel
theorem d_V_take_5 : decode b_V_take 5 = .ok (.aload_n 0, 1) := by decide +kernel
theorem d_V_take_6 : decode b_V_take 6 = .ok (.aload_n 0, 1) := by decide +kernel
theorem d_V_take_7 : decode b_V_take 7 = .ok (.getfield 19, 3) := by decide +kernel
theorem d_V_take_10 : decode b_V_take 10 = .ok (.putfield 22, 3) := by decide +kernel
theorem d_V_take_13 : decode b_V_take 13 = .ok (.aload_n 0, 1) := by decide +kernel
theorem d_V_take_14 : decode b_V_take 14 = .ok (.aload_n 1, 1) := by decide +kernel
theorem d_V_take_15 : decode b_V_take 15 = .ok (.putfield 19, 3) := by decide +kernel
theorem d_V_take_18 : decode b_V_take 18 = .ok (.aload_n 0, 1) := by decide +kernel
theorem d_V_take_19 : decode b_V_take 19 = .ok (.getfield 19, 3) := by decide +kernel
theorem d_V_take_22 : decode b_V_take 22 = .ok (.invokevirtual 109, 3) := by decide +kernel
theorem d_V_take_25 : decode b_V_take 25 = .ok (.return_, 1) := by decide +kernel
theorem d_V_size_0 : decode b_V_size 0 = .ok (.aload_n 0, 1) := by decide +kernel
theorem d_V_size_1 : decode b_V_size 1 = .ok (.getfield 22, 3) := by decide +kernel
theorem d_V_size_4 : decode b_V_size 4 = .ok (.getfield 99, 3) := by decide +kernel
theorem d_V_size_7 : decode b_V_size 7 = .ok (.ireturn, 1) := by decide +kernel
theorem d_V_byteOf_15 : decode b_V_byteOf 15 = .ok (.iconst (-1), 1) := by decide +kernel
theorem d_V_byteOf_16 : decode b_V_byteOf 16 = .ok (.goto 16, 3) := by decide +kernel
theorem d_V_byteOf_32 : decode b_V_byteOf 32 = .ok (.ireturn, 1) := by decide +kernel
theorem d_V_byteOf_0 : decode b_V_byteOf 0 = .ok (.iload_n 1, 1) := by decide +kernel
theorem d_V_byteOf_1 : decode b_V_byteOf 1 = .ok (.ifCond .lt 14, 3) := by decide +kernel
theorem d_V_byteOf_4 : decode b_V_byteOf 4 = .ok (.iload_n 1, 1) := by decide +kernel
theorem d_V_byteOf_5 : decode b_V_byteOf 5 = .ok (.aload_n 0, 1) := by decide +kernel
theorem d_V_byteOf_6 : decode b_V_byteOf 6 = .ok (.getfield 22, 3) := by decide +kernel
theorem d_V_byteOf_9 : decode b_V_byteOf 9 = .ok (.getfield 99, 3) := by decide +kernel
theorem d_V_byteOf_12 : decode b_V_byteOf 12 = .ok (.if_icmp .lt 7, 3) := by decide +kernel
theorem d_V_byteOf_19 : decode b_V_byteOf 19 = .ok (.aload_n 0, 1) := by decide +kernel
theorem d_V_byteOf_20 : decode b_V_byteOf 20 = .ok (.getfield 22, 3) := by decide +kernel
theorem d_V_byteOf_23 : decode b_V_byteOf 23 = .ok (.getfield 116, 3) := by decide +kernel
theorem d_V_byteOf_26 : decode b_V_byteOf 26 = .ok (.iload_n 1, 1) := by decide +kernel
theorem d_V_byteOf_27 : decode b_V_byteOf 27 = .ok (.baload, 1) := by decide +kernel
theorem d_V_byteOf_28 : decode b_V_byteOf 28 = .ok (.sipush 255, 3) := by decide +kernel
theorem d_V_byteOf_31 : decode b_V_byteOf 31 = .ok (.iand, 1) := by decide +kernel
theorem d_V_poke_15 : decode b_V_poke 15 = .ok (.iconst 0, 1) := by decide +kernel
theorem d_V_poke_16 : decode b_V_poke 16 = .ok (.ireturn, 1) := by decide +kernel
theorem d_V_poke_0 : decode b_V_poke 0 = .ok (.iload_n 1, 1) := by decide +kernel
theorem d_V_poke_1 : decode b_V_poke 1 = .ok (.ifCond .lt 14, 3) := by decide +kernel
theorem d_V_poke_4 : decode b_V_poke 4 = .ok (.iload_n 1, 1) := by decide +kernel
theorem d_V_poke_5 : decode b_V_poke 5 = .ok (.aload_n 0, 1) := by decide +kernel
theorem d_V_poke_6 : decode b_V_poke 6 = .ok (.getfield 22, 3) := by decide +kernel
theorem d_V_poke_9 : decode b_V_poke 9 = .ok (.getfield 99, 3) := by decide +kernel
theorem d_V_poke_12 : decode b_V_poke 12 = .ok (.if_icmp .lt 5, 3) := by decide +kernel
theorem d_V_poke_17 : decode b_V_poke 17 = .ok (.aload_n 0, 1) := by decide +kernel
theorem d_V_poke_18 : decode b_V_poke 18 = .ok (.getfield 22, 3) := by decide +kernel
theorem d_V_poke_21 : decode b_V_poke 21 = .ok (.getfield 116, 3) := by decide +kernel
theorem d_V_poke_24 : decode b_V_poke 24 = .ok (.iload_n 1, 1) := by decide +kernel
theorem d_V_poke_25 : decode b_V_poke 25 = .ok (.iload_n 2, 1) := by decide +kernel
theorem d_V_poke_26 : decode b_V_poke 26 = .ok (.i2b, 1) := by decide +kernel
theorem d_V_poke_27 : decode b_V_poke 27 = .ok (.bastore, 1) := by decide +kernel
theorem d_V_poke_28 : decode b_V_poke 28 = .ok (.iconst 1, 1) := by decide +kernel
theorem d_V_poke_29 : decode b_V_poke 29 = .ok (.ireturn, 1) := by decide +kernel
theorem d_Opn_lookAt_0 : decode b_Opn_lookAt 0 = .ok (.aload_n 0, 1) := by decide +kernel
theorem d_Opn_lookAt_1 : decode b_Opn_lookAt 1 = .ok (.getfield 9, 3) := by decide +kernel
theorem d_Opn_lookAt_4 : decode b_Opn_lookAt 4 = .ok (.iconst 0, 1) := by decide +kernel
theorem d_Opn_lookAt_5 : decode b_Opn_lookAt 5 = .ok (.iload_n 1, 1) := by decide +kernel
theorem d_Opn_lookAt_6 : decode b_Opn_lookAt 6 = .ok (.iastore, 1) := by decide +kernel
theorem d_Opn_lookAt_7 : decode b_Opn_lookAt 7 = .ok (.aload_n 0, 1) := by decide +kernel
theorem d_Opn_lookAt_8 : decode b_Opn_lookAt 8 = .ok (.getfield 9, 3) := by decide +kernel
theorem d_Opn_lookAt_11 : decode b_Opn_lookAt 11 = .ok (.iconst 1, 1) := by decide +kernel
theorem d_Opn_lookAt_12 : decode b_Opn_lookAt 12 = .ok (.iload_n 2, 1) := by decide +kernel
theorem d_Opn_lookAt_13 : decode b_Opn_lookAt 13 = .ok (.iastore, 1) := by decide +kernel
theorem d_Opn_lookAt_14 : decode b_Opn_lookAt 14 = .ok (.aload_n 0, 1) := by decide +kernel
theorem d_Opn_lookAt_15 : decode b_Opn_lookAt 15 = .ok (.getfield 9, 3) := by decide +kernel
theorem d_Opn_lookAt_18 : decode b_Opn_lookAt 18 = .ok (.iconst 2, 1) := by decide +kernel
theorem d_Opn_lookAt_19 : decode b_Opn_lookAt 19 = .ok (.iload_n 3, 1) := by decide +kernel
theorem d_Opn_lookAt_20 : decode b_Opn_lookAt 20 = .ok (.iastore, 1) := by decide +kernel
theorem d_Opn_lookAt_21 : decode b_Opn_lookAt 21 = .ok (.return_, 1) := by decide +kernel
theorem d_Src_begin_0 : decode b_Src_begin 0 = .ok (.aload_n 0, 1) := by decide +kernel
theorem d_Src_begin_1 : decode b_Src_begin 1 = .ok (.iload_n 1, 1) := by decide +kernel
theorem d_Src_begin_2 : decode b_Src_begin 2 = .ok (.putfield 19, 3) := by decide +kernel
theorem d_Src_begin_5 : decode b_Src_begin 5 = .ok (.aload_n 0, 1) := by decide +kernel
theorem d_Src_begin_6 : decode b_Src_begin 6 = .ok (.iload_n 2, 1) := by decide +kernel
theorem d_Src_begin_7 : decode b_Src_begin 7 = .ok (.aload_n 0, 1) := by decide +kernel
theorem d_Src_begin_8 : decode b_Src_begin 8 = .ok (.getfield 15, 3) := by decide +kernel
theorem d_Src_begin_11 : decode b_Src_begin 11 = .ok (.arraylength, 1) := by decide +kernel
theorem d_Src_begin_12 : decode b_Src_begin 12 = .ok (.invokestatic 23, 3) := by decide +kernel
theorem d_Src_begin_15 : decode b_Src_begin 15 = .ok (.putfield 29, 3) := by decide +kernel
theorem d_Src_begin_18 : decode b_Src_begin 18 = .ok (.aload_n 0, 1) := by decide +kernel
theorem d_Src_begin_19 : decode b_Src_begin 19 = .ok (.iconst 0, 1) := by decide +kernel
theorem d_Src_begin_20 : decode b_Src_begin 20 = .ok (.putfield 32, 3) := by decide +kernel
theorem d_Src_begin_23 : decode b_Src_begin 23 = .ok (.return_, 1) := by decide +kernel
theorem d_Src_readFixed_39 : decode b_Src_readFixed 39 = .ok (.iload 4, 2) := by decide +kernel
theorem d_Src_readFixed_41 : decode b_Src_readFixed 41 = .ok (.iload_n 1, 1) := by decide +kernel
theorem d_Src_readFixed_42 : decode b_Src_readFixed 42 = .ok (.if_icmp .ge 35, 3) := by decide +kernel
theorem d_Src_readFixed_77 : decode b_Src_readFixed 77 = .ok (.aload_n 0, 1) := by decide +kernel
theorem d_Src_readFixed_78 : decode b_Src_readFixed 78 = .ok (.dup, 1) := by decide +kernel
theorem d_Src_readFixed_79 : decode b_Src_readFixed 79 = .ok (.getfield 19, 3) := by decide +kernel
theorem d_Src_readFixed_82 : decode b_Src_readFixed 82 = .ok (.iload_n 1, 1) := by decide +kernel
theorem d_Src_readFixed_83 : decode b_Src_readFixed 83 = .ok (.iadd, 1) := by decide +kernel
theorem d_Src_readFixed_84 : decode b_Src_readFixed 84 = .ok (.putfield 19, 3) := by decide +kernel
theorem d_Src_readFixed_87 : decode b_Src_readFixed 87 = .ok (.lload_n 2, 1) := by decide +kernel
theorem d_Src_readFixed_88 : decode b_Src_readFixed 88 = .ok (.lreturn, 1) := by decide +kernel
theorem d_Src_readFixed_45 : decode b_Src_readFixed 45 = .ok (.lload_n 2, 1) := by decide +kernel
theorem d_Src_readFixed_46 : decode b_Src_readFixed 46 = .ok (.aload_n 0, 1) := by decide +kernel
theorem d_Src_readFixed_47 : decode b_Src_readFixed 47 = .ok (.getfield 15, 3) := by decide +kernel
theorem d_Src_readFixed_50 : decode b_Src_readFixed 50 = .ok (.aload_n 0, 1) := by decide +kernel
theorem d_Src_readFixed_51 : decode b_Src_readFixed 51 = .ok (.getfield 19, 3) := by decide +kernel
theorem d_Src_readFixed_54 : decode b_Src_readFixed 54 = .ok (.iload 4, 2) := by decide +kernel
theorem d_Src_readFixed_56 : decode b_Src_readFixed 56 = .ok (.iadd, 1) := by decide +kernel
theorem d_Src_readFixed_57 : decode b_Src_readFixed 57 = .ok (.baload, 1) := by decide +kernel
theorem d_Src_readFixed_58 : decode b_Src_readFixed 58 = .ok (.i2l, 1) := by decide +kernel
theorem d_Src_readFixed_59 : decode b_Src_readFixed 59 = .ok (.ldc2_w 43, 3) := by decide +kernel
theorem d_Src_readFixed_62 : decode b_Src_readFixed 62 = .ok (.land, 1) := by decide +kernel
theorem d_Src_readFixed_63 : decode b_Src_readFixed 63 = .ok (.bipush 8, 2) := by decide +kernel
theorem d_Src_readFixed_65 : decode b_Src_readFixed 65 = .ok (.iload 4, 2) := by decide +kernel
theorem d_Src_readFixed_67 : decode b_Src_readFixed 67 = .ok (.imul, 1) := by decide +kernel
theorem d_Src_readFixed_68 : decode b_Src_readFixed 68 = .ok (.lshl, 1) := by decide +kernel
theorem d_Src_readFixed_69 : decode b_Src_readFixed 69 = .ok (.lor, 1) := by decide +kernel
theorem d_Src_readFixed_70 : decode b_Src_readFixed 70 = .ok (.lstore_n 2, 1) := by decide +kernel
theorem d_Src_readFixed_71 : decode b_Src_readFixed 71 = .ok (.iinc 4 1, 3) := by decide +kernel
theorem d_Src_readFixed_74 : decode b_Src_readFixed 74 = .ok (.goto (-35), 3) := by decide +kernel
theorem d_Src_readFixed_25 : decode b_Src_readFixed 25 = .ok (.aload_n 0, 1) := by decide +kernel
theorem d_Src_readFixed_26 : decode b_Src_readFixed 26 = .ok (.getfield 32, 3) := by decide +kernel
theorem d_Src_readFixed_29 : decode b_Src_readFixed 29 = .ok (.ifCond .eq 5, 3) := by decide +kernel
theorem d_Src_readFixed_34 : decode b_Src_readFixed 34 = .ok (.lconst 0, 1) := by decide +kernel
theorem d_Src_readFixed_35 : decode b_Src_readFixed 35 = .ok (.lstore_n 2, 1) := by decide +kernel
theorem d_Src_readFixed_36 : decode b_Src_readFixed 36 = .ok (.iconst 0, 1) := by decide +kernel
theorem d_Src_readFixed_37 : decode b_Src_readFixed 37 = .ok (.istore 4, 2) := by decide +kernel
theorem d_Src_readFixed_32 : decode b_Src_readFixed 32 = .ok (.lconst 0, 1) := by decide +kernel
theorem d_Src_readFixed_33 : decode b_Src_readFixed 33 = .ok (.lreturn, 1) := by decide +kernel
theorem d_Src_readFixed_0 : decode b_Src_readFixed 0 = .ok (.aload_n 0, 1) := by decide +kernel
theorem d_Src_readFixed_1 : decode b_Src_readFixed 1 = .ok (.getfield 32, 3) := by decide +kernel
theorem d_Src_readFixed_4 : decode b_Src_readFixed 4 = .ok (.ifCond .ne 21, 3) := by decide +kernel
theorem d_Src_readFixed_7 : decode b_Src_readFixed 7 = .ok (.iload_n 1, 1) := by decide +kernel
theorem d_Src_readFixed_8 : decode b_Src_readFixed 8 = .ok (.aload_n 0, 1) := by decide +kernel
theorem d_Src_readFixed_9 : decode b_Src_readFixed 9 = .ok (.getfield 29, 3) := by decide +kernel
theorem d_Src_readFixed_12 : decode b_Src_readFixed 12 = .ok (.aload_n 0, 1) := by decide +kernel
theorem d_Src_readFixed_13 : decode b_Src_readFixed 13 = .ok (.getfield 19, 3) := by decide +kernel
theorem d_Src_readFixed_16 : decode b_Src_readFixed 16 = .ok (.isub, 1) := by decide +kernel
theorem d_Src_readFixed_17 : decode b_Src_readFixed 17 = .ok (.if_icmp .le 8, 3) := by decide +kernel
theorem d_Src_readFixed_20 : decode b_Src_readFixed 20 = .ok (.aload_n 0, 1) := by decide +kernel
theorem d_Src_readFixed_21 : decode b_Src_readFixed 21 = .ok (.iconst 1, 1) := by decide +kernel
theorem d_Src_readFixed_22 : decode b_Src_readFixed 22 = .ok (.putfield 32, 3) := by decide +kernel
section
variable (l : Launch) (dC : Nat → ClassId) (dI : Nat → Nat → Nat) (cI cB cJ cZ : ClassId)
set_option maxRecDepth 100000 in
set_option maxHeartbeats 4000000 in
set_option maxRecDepth 100000 in
theorem t_V_zigzag_e {p : Program} {l : Launch} {e : Env} {R : Room} {s : State} {m : MethodId} {args : Array Value} {below : List Frame} {meth : Method} {c : Code} {cells slots : Nat} {Q : State → Prop} {dC : Nat → ClassId} {dI : Nat → Nat → Nat} {cI cB cJ cZ : ClassId} {A : Nat → Prop} {ad : Nat → Nat} {NN : Nat} {E : Heap} {tM tC : Nat} {kK kV : Nat → Nat} {post : Int64 → St → Prop} (hx : p.tables.exec = Jvm.exec) (hb : c.code = b_V_zigzag) (hml : c.maxLocals = 2) (hown : s.vm.findClass R_V = some m.cls) (hT : ∀ w ∈ TG, w.before args s = true) (hK : va_K (dC, dI) CL (TY cI cB cJ cZ) s) (hN : NW s) (hA : ∀ q : Nat, s.heap.size ≤ q → A q) (hRc : cells ≤ R.cells) (hRs : slots ≤ R.slots) (hRf : 0 ≤ R.frames) (hRl : 0 ≤ R.locals) (hNN : 152 ≤ NN) (hE : CE E tM tC kK kV A s) (hret : ∀ (r : Int64) (x : St) (H : Heap) (locs : List Loc) (pc : Nat) (ls : Array Slot), decode b_V_zigzag pc = .ok (.lreturn, 1) → post r x → Wd dC dI cI cB cJ cZ ad stC kcC NN A x H → va_S A s.heap H locs → W p l e R s m args below meth c H locs cells slots Q (F0 m pc ls [.long r])) : ∀ (l0 : Int64) (x : St) (H : Heap) (locs : List Loc) (ls : Array Slot), wp_V_zigzag post l0 x → Wd dC dI cI cB cJ cZ ad stC kcC NN A x H → va_S A s.heap H locs → lv_has ls 2 [(0, .long l0)] → W p l e R s m args below meth c H locs cells slots Q (F0 m 0 ls []) := by
  intro l0 x H locs ls  hw hW hS hl
  unfold wp_V_zigzag at hw
  refine lv_lload_n hx hb d_V_zigzag_0 rfl (lv_at hl 0 rfl) ?_
  refine lv_iconst (v := 1) hx hb d_V_zigzag_1 (by decide) ?_
  refine lv_lshl hx hb d_V_zigzag_2 rfl ?_
  refine lv_lload_n hx hb d_V_zigzag_3 rfl (lv_at hl 0 rfl) ?_
  refine lv_bipush (v := 63) hx hb d_V_zigzag_4 (by decide) ?_
  refine lv_lshr hx hb d_V_zigzag_6 rfl ?_
  refine lv_lxor hx hb d_V_zigzag_7 ?_
  exact hret ((l0 <<< ((1 : Int32).toInt64 &&& 63)) ^^^ (l0 >>> ((63 : Int32).toInt64 &&& 63))) x H locs 8 ls d_V_zigzag_8 hw hW hS
set_option maxHeartbeats 4000000 in
set_option maxRecDepth 100000 in
theorem k_V_zigzag (l : Launch) (dC : Nat → ClassId) (dI : Nat → Nat → Nat) (cI cB cJ cZ : ClassId) (ad : Nat → Nat) (NN : Nat) (E : Heap) (tM tC : Nat) (kK kV : Nat → Nat) (hNN : 152 ≤ NN) (sz : Nat) (l0 : Int64) (x : St) {post : Int64 → St → Prop} (hw : wp_V_zigzag post l0 x) : Met l y_V_zigzag (wsOf y_V_zigzag b_V_zigzag 2 (some (.long))) ({ frames := 0, cells := 0, slots := 0, locals := 0 }) (va_Pc [.long l0] (PVc dC dI cI cB cJ cZ ad stC kcC NN E tM tC kK kV sz x)) (va_Ql (fun (r : Int64) (y : St) => post r y) (fun y t => Wd dC dI cI cB cJ cZ ad stC kcC NN (va_A (pic ad stC kcC NN cI cB cJ cZ x) sz) y t.heap) (va_A (pic ad stC kcC NN cI cB cJ cZ x) sz)) 0 0 (va_A (pic ad stC kcC NN cI cB cJ cZ x) sz) := by
  refine Met.ofW (cc := b_V_zigzag) (maxL := 2) (ret := some (.long)) (by decide) rfl ?_
  intro p e s m args below meth c s₁ B hml hv
  obtain ⟨rfl, ⟨hsz, hW0, hK, hN⟩, hE⟩ := hv
  have hx := B.exec
  have hb := B.bytes
  have hr := B.returns
  have hts := atoms_spec B.pre
  have hT : ∀ w ∈ TG, w.before _ s = true := fun w h => hts w (List.mem_cons_of_mem _ h)
  have hown : s.vm.findClass R_V = some m.cls := findClass_of_methodNamed B.named
  have hlocks := B.notSynchronized
  subst hsz
  have hW : Wd dC dI cI cB cJ cZ ad stC kcC NN (va_A (pic ad stC kcC NN cI cB cJ cZ x) s.heap.size) x s.heap := ⟨hW0.1, hW0.2.1.self (sz := s.heap.size), hW0.2.2⟩
  generalize hAe : va_A (pic ad stC kcC NN cI cB cJ cZ x) s.heap.size = A at hW hE ⊢
  have hA : ∀ q : Nat, s.heap.size ≤ q → A q := fun q h => by rw [← hAe]; exact Or.inr h
  have hS : va_S A s.heap s.heap [] := va_S.rf
  have hl := lv_entry ([.long l0]) (n := 2) (Nat.le_of_ble_eq_true rfl)
  rw [lg_entry_eq]
  generalize (lg_sl ([.long l0]) ++ List.replicate (2 - (lg_sl ([.long l0])).length) Slot.unset).toArray = ls at hl ⊢
  have hl : lv_has ls 2 [(0, .long l0)] := hl
  exact t_V_zigzag_e hx hb hml hown hT hK hN hA (Nat.le_refl 0) (Nat.le_refl 0) (Nat.le_refl 0) (Nat.le_refl 0) hNN hE (fun r x H locs pc ls hd hp hW hS => W.lret (v := r) hx hb hr (fun t ht hM => ⟨⟨r, x, rfl, hp, Wd.back hW ht.symm (fun _ z => z)⟩, hS.F ht⟩) hS.2.2 hd hlocks)  l0 x _ _ ls  hw hW hS hl
set_option maxRecDepth 100000 in
set_option maxHeartbeats 4000000 in
set_option maxRecDepth 100000 in
theorem t_Wrt_compare_e {p : Program} {l : Launch} {e : Env} {R : Room} {s : State} {m : MethodId} {args : Array Value} {below : List Frame} {meth : Method} {c : Code} {cells slots : Nat} {Q : State → Prop} {dC : Nat → ClassId} {dI : Nat → Nat → Nat} {cI cB cJ cZ : ClassId} {A : Nat → Prop} {ad : Nat → Nat} {NN : Nat} {E : Heap} {tM tC : Nat} {kK kV : Nat → Nat} {post : Int32 → St → Prop} (hx : p.tables.exec = Jvm.exec) (hb : c.code = b_Wrt_compare) (hml : c.maxLocals = 6) (hown : s.vm.findClass R_Wrt = some m.cls) (hT : ∀ w ∈ TG, w.before args s = true) (hK : va_K (dC, dI) CL (TY cI cB cJ cZ) s) (hN : NW s) (hA : ∀ q : Nat, s.heap.size ≤ q → A q) (hRc : cells ≤ R.cells) (hRs : slots ≤ R.slots) (hRf : 2 ≤ R.frames) (hRl : 112 ≤ R.locals) (hNN : 152 ≤ NN) (hE : CE E tM tC kK kV A s) (hret : ∀ (r : Int32) (x : St) (H : Heap) (locs : List Loc) (pc : Nat) (ls : Array Slot), decode b_Wrt_compare pc = .ok (.ireturn, 1) → post r x → Wd dC dI cI cB cJ cZ ad stC kcC NN A x H → va_S A s.heap H locs → W p l e R s m args below meth c H locs cells slots Q (F0 m pc ls [.int r])) : ∀ (o : Nat) (l1 : Int32) (l2 : Int64) (l4 : Int64) (x : St) (H : Heap) (locs : List Loc) (ls : Array Slot), (o < NN ∧ kcC o = 5) → wp_Wrt_compare post o l1 l2 l4 x → Wd dC dI cI cB cJ cZ ad stC kcC NN A x H → va_S A s.heap H locs → lv_has ls 6 [(0, .ref (ad o)), (1, .int l1), (2, .long l2), (4, .long l4)] → W p l e R s m args below meth c H locs cells slots Q (F0 m 0 ls []) := by
  intro o l1 l2 l4 x H locs ls fo hw hW hS hl
  unfold wp_Wrt_compare at hw
  refine lv_iload_n hx hb d_Wrt_compare_0 rfl (lv_at hl 1 rfl) ?_
  refine lv_aload_n hx hb d_Wrt_compare_1 rfl (lv_at hl 0 rfl) ?_
  obtain ⟨q1, hq1, hw⟩ := hw
  refine w_getr (q := q1) (k := 6) (t := 5) (C := R_Wrt) (T := F_Wrt) (N := 20) hx hb hT hown hK hW fo.1 fo.2 (by decide) in_Wrt rfl rfl (by decide) rfl fr_Wrt_6 w_2_57 d_Wrt_compare_2 hq1 (fun aq1 bq1 => ?_)
  have fq1 : q1 < NN ∧ kcC q1 = 4 := ⟨aq1, bq1⟩
  refine w_getf (q := (stC q1 12)) (k := 12) (t := 4) (C := R_Rec) (T := F_Rec) (N := 15) hx hb hT hown hK hW fq1.1 fq1.2 (by decide) in_Rec rfl rfl (by decide) rfl fr_Rec_12 w_2_7 d_Wrt_compare_5 rfl ?_
  refine lv_lload_n hx hb d_Wrt_compare_8 rfl (lv_at hl 2 rfl) ?_
  refine lv_aload_n hx hb d_Wrt_compare_9 rfl (lv_at hl 0 rfl) ?_
  obtain ⟨q2, hq2, hw⟩ := hw
  refine w_getr (q := q2) (k := 6) (t := 5) (C := R_Wrt) (T := F_Wrt) (N := 20) hx hb hT hown hK hW fo.1 fo.2 (by decide) in_Wrt rfl rfl (by decide) rfl fr_Wrt_6 w_2_57 d_Wrt_compare_10 hq2 (fun aq2 bq2 => ?_)
  have fq2 : q2 < NN ∧ kcC q2 = 4 := ⟨aq2, bq2⟩
  refine w_getf (q := (stC q2 12)) (k := 12) (t := 4) (C := R_Rec) (T := F_Rec) (N := 15) hx hb hT hown hK hW fq2.1 fq2.2 (by decide) in_Rec rfl rfl (by decide) rfl fr_Rec_12 w_2_7 d_Wrt_compare_13 rfl ?_
  refine lv_lload hx hb d_Wrt_compare_16 (lv_at hl 3 rfl) ?_
  have hF := hW.free hS hA
  refine va_calli (va_runSN (As := [.int l1, .ref (ad (stC q1 12)), .long l2, .ref (ad (stC q2 12)), .long l4]) (rest := []) ⟨hx, hb, hml, hown, hT⟩ (k_V_compareValues l dC dI cI cB cJ cZ ad NN E tM tC kK kV hNN H.size l1 (stC q1 12) l2 (stC q2 12) l4 x (st_ty hNN fq1.1 fq1.2 rfl) (st_ty hNN fq2.1 fq2.2 rfl) hw) ⟨va_cnB 5 hT (gwt_in w_5_225) rfl rfl rfl (hN _ wn_5_223 rfl) (hT _ w_1_1) (by decide +kernel) ⟨Nat.le_trans (Nat.le_of_ble_eq_true rfl) hRf, Nat.le_trans (Nat.le_of_ble_eq_true rfl) hRl⟩, hT _ w_5_224, trivial⟩ ⟨PVc.blind, PVc.at _ hW hK hN hE hS hF⟩ rfl rfl hl.1 rfl (lv_room (Nat.le_of_ble_eq_true rfl)) d_Wrt_compare_18 ⟨hRc, hRs⟩) hS (fun q _ h => hF q h) hF (fun r4 x3 t H locs ht hvm hw hB hz1 hk1 hS => ?_)
  have hW := Wd.back hB ht hF
  clear hB ht hF hz1 hk1 hvm
  exact hret r4 x3 H locs 21 ls d_Wrt_compare_21 hw hW hS
set_option maxHeartbeats 4000000 in
set_option maxRecDepth 100000 in
theorem k_Wrt_compare (l : Launch) (dC : Nat → ClassId) (dI : Nat → Nat → Nat) (cI cB cJ cZ : ClassId) (ad : Nat → Nat) (NN : Nat) (E : Heap) (tM tC : Nat) (kK kV : Nat → Nat) (hNN : 152 ≤ NN) (sz : Nat) (o : Nat) (l1 : Int32) (l2 : Int64) (l4 : Int64) (x : St) (fo : o < NN ∧ kcC o = 5) {post : Int32 → St → Prop} (hw : wp_Wrt_compare post o l1 l2 l4 x) : Met l y_Wrt_compare (wsOf y_Wrt_compare b_Wrt_compare 6 (some (.int))) ({ frames := 2, cells := 0, slots := 0, locals := 112 }) (va_Pc [.ref (ad o), .int l1, .long l2, .long l4] (PVc dC dI cI cB cJ cZ ad stC kcC NN E tM tC kK kV sz x)) (va_Qi (fun (r : Int32) (y : St) => post r y) (fun y t => Wd dC dI cI cB cJ cZ ad stC kcC NN (va_A (pic ad stC kcC NN cI cB cJ cZ x) sz) y t.heap) (va_A (pic ad stC kcC NN cI cB cJ cZ x) sz)) 0 0 (va_A (pic ad stC kcC NN cI cB cJ cZ x) sz) := by
  refine Met.ofW (cc := b_Wrt_compare) (maxL := 6) (ret := some (.int)) (by decide) rfl ?_
  intro p e s m args below meth c s₁ B hml hv
  obtain ⟨rfl, ⟨hsz, hW0, hK, hN⟩, hE⟩ := hv
  have hx := B.exec
  have hb := B.bytes
  have hr := B.returns
  have hts := atoms_spec B.pre
  have hT : ∀ w ∈ TG, w.before _ s = true := fun w h => hts w (List.mem_cons_of_mem _ h)
  have hown : s.vm.findClass R_Wrt = some m.cls := findClass_of_methodNamed B.named
  have hlocks := B.notSynchronized
  subst hsz
  have hW : Wd dC dI cI cB cJ cZ ad stC kcC NN (va_A (pic ad stC kcC NN cI cB cJ cZ x) s.heap.size) x s.heap := ⟨hW0.1, hW0.2.1.self (sz := s.heap.size), hW0.2.2⟩
  generalize hAe : va_A (pic ad stC kcC NN cI cB cJ cZ x) s.heap.size = A at hW hE ⊢
  have hA : ∀ q : Nat, s.heap.size ≤ q → A q := fun q h => by rw [← hAe]; exact Or.inr h
  have hS : va_S A s.heap s.heap [] := va_S.rf
  have hl := lv_entry ([.ref (ad o), .int l1, .long l2, .long l4]) (n := 6) (Nat.le_of_ble_eq_true rfl)
  rw [lg_entry_eq]
  generalize (lg_sl ([.ref (ad o), .int l1, .long l2, .long l4]) ++ List.replicate (6 - (lg_sl ([.ref (ad o), .int l1, .long l2, .long l4])).length) Slot.unset).toArray = ls at hl ⊢
  have hl : lv_has ls 6 [(0, .ref (ad o)), (1, .int l1), (2, .long l2), (4, .long l4)] := hl
  exact t_Wrt_compare_e hx hb hml hown hT hK hN hA (Nat.le_refl 0) (Nat.le_refl 0) (Nat.le_refl 2) (Nat.le_refl 112) hNN hE (fun r x H locs pc ls hd hp hW hS => W.iret (v := r) hx hb hr (fun t ht hM => ⟨⟨r, x, rfl, hp, Wd.back hW ht.symm (fun _ z => z)⟩, hS.F ht⟩) hS.2.2 hd hlocks)  o l1 l2 l4 x _ _ ls fo hw hW hS hl
set_option maxRecDepth 100000 in
set_option maxHeartbeats 4000000 in
set_option maxRecDepth 100000 in
theorem t_Wrt_findBounds_86 {p : Program} {l : Launch} {e : Env} {R : Room} {s : State} {m : MethodId} {args : Array Value} {below : List Frame} {meth : Method} {c : Code} {cells slots : Nat} {Q : State → Prop} {dC : Nat → ClassId} {dI : Nat → Nat → Nat} {cI cB cJ cZ : ClassId} {A : Nat → Prop} {ad : Nat → Nat} {NN : Nat} {E : Heap} {tM tC : Nat} {kK kV : Nat → Nat} {post : St → Prop} {rec22 : Nat → Int32 → Int32 → St → Prop} (hx : p.tables.exec = Jvm.exec) (hb : c.code = b_Wrt_findBounds) (hml : c.maxLocals = 3) (hown : s.vm.findClass R_Wrt = some m.cls) (hT : ∀ w ∈ TG, w.before args s = true) (hK : va_K (dC, dI) CL (TY cI cB cJ cZ) s) (hN : NW s) (hA : ∀ q : Nat, s.heap.size ≤ q → A q) (hRc : cells ≤ R.cells) (hRs : slots ≤ R.slots) (hRf : 3 ≤ R.frames) (hRl : 137 ≤ R.locals) (hNN : 152 ≤ NN) (hE : CE E tM tC kK kV A s) (hret : ∀ (x : St) (H : Heap) (locs : List Loc) (pc : Nat) (ls : Array Slot), decode b_Wrt_findBounds pc = .ok (.return_, 1) → post x → Wd dC dI cI cB cJ cZ ad stC kcC NN A x H → va_S A s.heap H locs → W p l e R s m args below meth c H locs cells slots Q (F0 m pc ls [])) (hrec22 : ∀ (o : Nat) (l1 : Int32) (l2 : Int32) (x : St) (H : Heap) (locs : List Loc) (ls : Array Slot), (o < NN ∧ kcC o = 5) → rec22 o l1 l2 x → Wd dC dI cI cB cJ cZ ad stC kcC NN A x H → va_S A s.heap H locs → lv_has ls 3 [(0, .ref (ad o)), (1, .int l1), (2, .int l2)] → W p l e R s m args below meth c H locs cells slots Q (F0 m 22 ls [])) : ∀ (o : Nat) (l1 : Int32) (l2 : Int32) (x : St) (H : Heap) (locs : List Loc) (ls : Array Slot), (o < NN ∧ kcC o = 5) → j_Wrt_findBounds_86 post rec22 o l1 l2 x → Wd dC dI cI cB cJ cZ ad stC kcC NN A x H → va_S A s.heap H locs → lv_has ls 3 [(0, .ref (ad o)), (1, .int l1), (2, .int l2)] → W p l e R s m args below meth c H locs cells slots Q (F0 m 86 ls []) := by
  intro o l1 l2 x H locs ls fo hw hW hS hl
  unfold j_Wrt_findBounds_86 at hw
  refine lv_iinc (v := (l2 + 1)) (lv' := [(2, .int (l2 + 1)), (0, .ref (ad o)), (1, .int l1)]) hx hb d_Wrt_findBounds_86 hl (k := 2) rfl rfl (by decide) rfl (fun ls hl => ?_)
  refine lv_goto (tgt := 22) hx hb d_Wrt_findBounds_89 (by decide) ?_
  exact hrec22 o l1 (l2 + 1) x H locs ls fo hw hW hS (lv_sub hl [1, 2, 0] rfl)
set_option maxRecDepth 100000 in
set_option maxHeartbeats 4000000 in
set_option maxRecDepth 100000 in
theorem t_Wrt_findBounds_58 {p : Program} {l : Launch} {e : Env} {R : Room} {s : State} {m : MethodId} {args : Array Value} {below : List Frame} {meth : Method} {c : Code} {cells slots : Nat} {Q : State → Prop} {dC : Nat → ClassId} {dI : Nat → Nat → Nat} {cI cB cJ cZ : ClassId} {A : Nat → Prop} {ad : Nat → Nat} {NN : Nat} {E : Heap} {tM tC : Nat} {kK kV : Nat → Nat} {post : St → Prop} {rec22 : Nat → Int32 → Int32 → St → Prop} (hx : p.tables.exec = Jvm.exec) (hb : c.code = b_Wrt_findBounds) (hml : c.maxLocals = 3) (hown : s.vm.findClass R_Wrt = some m.cls) (hT : ∀ w ∈ TG, w.before args s = true) (hK : va_K (dC, dI) CL (TY cI cB cJ cZ) s) (hN : NW s) (hA : ∀ q : Nat, s.heap.size ≤ q → A q) (hRc : cells ≤ R.cells) (hRs : slots ≤ R.slots) (hRf : 3 ≤ R.frames) (hRl : 137 ≤ R.locals) (hNN : 152 ≤ NN) (hE : CE E tM tC kK kV A s) (hret : ∀ (x : St) (H : Heap) (locs : List Loc) (pc : Nat) (ls : Array Slot), decode b_Wrt_findBounds pc = .ok (.return_, 1) → post x → Wd dC dI cI cB cJ cZ ad stC kcC NN A x H → va_S A s.heap H locs → W p l e R s m args below meth c H locs cells slots Q (F0 m pc ls [])) (hrec22 : ∀ (o : Nat) (l1 : Int32) (l2 : Int32) (x : St) (H : Heap) (locs : List Loc) (ls : Array Slot), (o < NN ∧ kcC o = 5) → rec22 o l1 l2 x → Wd dC dI cI cB cJ cZ ad stC kcC NN A x H → va_S A s.heap H locs → lv_has ls 3 [(0, .ref (ad o)), (1, .int l1), (2, .int l2)] → W p l e R s m args below meth c H locs cells slots Q (F0 m 22 ls [])) : ∀ (o : Nat) (l1 : Int32) (l2 : Int32) (x : St) (H : Heap) (locs : List Loc) (ls : Array Slot), (o < NN ∧ kcC o = 5) → j_Wrt_findBounds_58 post rec22 o l1 l2 x → Wd dC dI cI cB cJ cZ ad stC kcC NN A x H → va_S A s.heap H locs → lv_has ls 3 [(0, .ref (ad o)), (1, .int l1), (2, .int l2)] → W p l e R s m args below meth c H locs cells slots Q (F0 m 58 ls []) := by
  intro o l1 l2 x H locs ls fo hw hW hS hl
  unfold j_Wrt_findBounds_58 at hw
  refine lv_aload_n hx hb d_Wrt_findBounds_58 rfl (lv_at hl 0 rfl) ?_
  refine lv_iload_n hx hb d_Wrt_findBounds_59 rfl (lv_at hl 1 rfl) ?_
  refine lv_aload_n hx hb d_Wrt_findBounds_60 rfl (lv_at hl 0 rfl) ?_
  refine w_getf (q := (stC o 10)) (k := 10) (t := 5) (C := R_Wrt) (T := F_Wrt) (N := 20) hx hb hT hown hK hW fo.1 fo.2 (by decide) in_Wrt rfl rfl (by decide) rfl fr_Wrt_10 w_2_61 d_Wrt_findBounds_61 rfl ?_
  refine lv_iload_n hx hb d_Wrt_findBounds_64 rfl (lv_at hl 2 rfl) ?_
  obtain ⟨hi, hw⟩ := hw
  refine w_lald (o := (stC o 10)) hx hb hK hW (st_ty hNN fo.1 fo.2 rfl).1 (st_ty hNN fo.1 fo.2 rfl).2 hi d_Wrt_findBounds_65 ?_
  refine lv_aload_n hx hb d_Wrt_findBounds_66 rfl (lv_at hl 0 rfl) ?_
  refine w_getj (k := 14) (t := 5) (C := R_Wrt) (T := F_Wrt) (N := 20) hx hb hT hown hK hW fo.1 fo.2 (by decide) in_Wrt rfl rfl (by decide) rfl fr_Wrt_14 w_2_65 d_Wrt_findBounds_67 ?_
  have hF := hW.free hS hA
  refine va_calli (va_runV (C := R_Wrt) (As := [.int l1, .long (rL x (stC o 10) l2), .long (fJ x o 14)]) (rest := []) ⟨hx, hb, hml, hown, hT⟩ (k_Wrt_compare l dC dI cI cB cJ cZ ad NN E tM tC kK kV hNN H.size o l1 (rL x (stC o 10) l2) (fJ x o 14) x fo hw) ⟨callB_of 3 hT (gwt_in w_6_35) rfl rfl rfl (hT _ w_1_8) (hT _ w_6_32) (by decide +kernel) ⟨Nat.le_trans (Nat.le_of_ble_eq_true rfl) hRf, Nat.le_trans (Nat.le_of_ble_eq_true rfl) hRl⟩, hT _ w_6_34, hT _ ws_32⟩ ⟨PVc.blind, va_recv hK hW.1 (ci := 5) (q0 := o) rfl (pic_obj fo.1 fo.2 (by decide)), PVc.at _ hW hK hN hE hS hF⟩ rfl rfl hl.1 rfl (lv_room (Nat.le_of_ble_eq_true rfl)) d_Wrt_findBounds_70 ⟨hRc, hRs⟩) hS (fun q _ h => hF q h) hF (fun r2 x1 t H locs ht hvm hw hB hz1 hk1 hS => ?_)
  have hW := Wd.back hB ht hF
  clear hB ht hF hz1 hk1 hvm
  refine lv_if_le (tgt := 86) hx hb d_Wrt_findBounds_73 (by decide) (fun c3 => ?_) (fun c3 => ?_)
  · have hw := hw.1 c3
    exact t_Wrt_findBounds_86 hx hb hml hown hT hK hN hA hRc hRs hRf hRl hNN hE hret hrec22 o l1 l2 x1 H locs ls fo hw hW hS (lv_sub hl [0, 1, 2] rfl)
  · have hw := hw.2 c3
    refine lv_aload_n hx hb d_Wrt_findBounds_76 rfl (lv_at hl 0 rfl) ?_
    refine lv_aload_n hx hb d_Wrt_findBounds_77 rfl (lv_at hl 0 rfl) ?_
    refine w_getf (q := (stC o 10)) (k := 10) (t := 5) (C := R_Wrt) (T := F_Wrt) (N := 20) hx hb hT hown hK hW fo.1 fo.2 (by decide) in_Wrt rfl rfl (by decide) rfl fr_Wrt_10 w_2_61 d_Wrt_findBounds_78 rfl ?_
    refine lv_iload_n hx hb d_Wrt_findBounds_81 rfl (lv_at hl 2 rfl) ?_
    obtain ⟨hi, hw⟩ := hw
    refine w_lald (o := (stC o 10)) hx hb hK hW (st_ty hNN fo.1 fo.2 rfl).1 (st_ty hNN fo.1 fo.2 rfl).2 hi d_Wrt_findBounds_82 ?_
    refine w_putj (k := 14) (t := 5) (C := R_Wrt) (T := F_Wrt) (N := 20) hx hb hT hown hK hW hS fo.1 fo.2 (by decide) in_Wrt t_Wrt t_Wrt_ok n_Wrt rfl rfl (by decide) rfl fr_Wrt_14 w_2_65 (by decide +kernel) d_Wrt_findBounds_83 (fun H locs hW hS => ?_)
    obtain ⟨x4, ex4⟩ : ∃ y : St, y = setJ x1 o 14 (rL x1 (stC o 10) l2) := ⟨_, rfl⟩
    rw [← ex4] at hW
    have hw := hw x4 ex4
    exact t_Wrt_findBounds_86 hx hb hml hown hT hK hN hA hRc hRs hRf hRl hNN hE hret hrec22 o l1 l2 x4 H locs ls fo hw hW hS (lv_sub hl [0, 1, 2] rfl)
set_option maxRecDepth 100000 in
set_option maxHeartbeats 4000000 in
set_option maxRecDepth 100000 in
theorem t_Wrt_findBounds_22 {p : Program} {l : Launch} {e : Env} {R : Room} {s : State} {m : MethodId} {args : Array Value} {below : List Frame} {meth : Method} {c : Code} {cells slots : Nat} {Q : State → Prop} {dC : Nat → ClassId} {dI : Nat → Nat → Nat} {cI cB cJ cZ : ClassId} {A : Nat → Prop} {ad : Nat → Nat} {NN : Nat} {E : Heap} {tM tC : Nat} {kK kV : Nat → Nat} {post : St → Prop} {rec22 : Nat → Int32 → Int32 → St → Prop} (hx : p.tables.exec = Jvm.exec) (hb : c.code = b_Wrt_findBounds) (hml : c.maxLocals = 3) (hown : s.vm.findClass R_Wrt = some m.cls) (hT : ∀ w ∈ TG, w.before args s = true) (hK : va_K (dC, dI) CL (TY cI cB cJ cZ) s) (hN : NW s) (hA : ∀ q : Nat, s.heap.size ≤ q → A q) (hRc : cells ≤ R.cells) (hRs : slots ≤ R.slots) (hRf : 3 ≤ R.frames) (hRl : 137 ≤ R.locals) (hNN : 152 ≤ NN) (hE : CE E tM tC kK kV A s) (hret : ∀ (x : St) (H : Heap) (locs : List Loc) (pc : Nat) (ls : Array Slot), decode b_Wrt_findBounds pc = .ok (.return_, 1) → post x → Wd dC dI cI cB cJ cZ ad stC kcC NN A x H → va_S A s.heap H locs → W p l e R s m args below meth c H locs cells slots Q (F0 m pc ls [])) (hrec22 : ∀ (o : Nat) (l1 : Int32) (l2 : Int32) (x : St) (H : Heap) (locs : List Loc) (ls : Array Slot), (o < NN ∧ kcC o = 5) → rec22 o l1 l2 x → Wd dC dI cI cB cJ cZ ad stC kcC NN A x H → va_S A s.heap H locs → lv_has ls 3 [(0, .ref (ad o)), (1, .int l1), (2, .int l2)] → W p l e R s m args below meth c H locs cells slots Q (F0 m 22 ls [])) : ∀ (o : Nat) (l1 : Int32) (l2 : Int32) (x : St) (H : Heap) (locs : List Loc) (ls : Array Slot), (o < NN ∧ kcC o = 5) → j_Wrt_findBounds_22 post rec22 o l1 l2 x → Wd dC dI cI cB cJ cZ ad stC kcC NN A x H → va_S A s.heap H locs → lv_has ls 3 [(0, .ref (ad o)), (1, .int l1), (2, .int l2)] → W p l e R s m args below meth c H locs cells slots Q (F0 m 22 ls []) := by
  intro o l1 l2 x H locs ls fo hw hW hS hl
  unfold j_Wrt_findBounds_22 at hw
  refine lv_iload_n hx hb d_Wrt_findBounds_22 rfl (lv_at hl 2 rfl) ?_
  refine lv_aload_n hx hb d_Wrt_findBounds_23 rfl (lv_at hl 0 rfl) ?_
  refine w_geti (k := 12) (t := 5) (C := R_Wrt) (T := F_Wrt) (N := 20) hx hb hT hown hK hW fo.1 fo.2 (by decide) in_Wrt rfl rfl (by decide) rfl fr_Wrt_12 w_2_63 d_Wrt_findBounds_24 ?_
  refine lv_icmp_ge (tgt := 92) hx hb d_Wrt_findBounds_27 (by decide) (fun c5 => ?_) (fun c5 => ?_)
  · have hw := hw.1 c5
    exact hret x H locs 92 ls d_Wrt_findBounds_92 hw hW hS
  · have hw := hw.2 c5
    refine lv_aload_n hx hb d_Wrt_findBounds_30 rfl (lv_at hl 0 rfl) ?_
    refine lv_iload_n hx hb d_Wrt_findBounds_31 rfl (lv_at hl 1 rfl) ?_
    refine lv_aload_n hx hb d_Wrt_findBounds_32 rfl (lv_at hl 0 rfl) ?_
    refine w_getf (q := (stC o 10)) (k := 10) (t := 5) (C := R_Wrt) (T := F_Wrt) (N := 20) hx hb hT hown hK hW fo.1 fo.2 (by decide) in_Wrt rfl rfl (by decide) rfl fr_Wrt_10 w_2_61 d_Wrt_findBounds_33 rfl ?_
    refine lv_iload_n hx hb d_Wrt_findBounds_36 rfl (lv_at hl 2 rfl) ?_
    obtain ⟨hi, hw⟩ := hw
    refine w_lald (o := (stC o 10)) hx hb hK hW (st_ty hNN fo.1 fo.2 rfl).1 (st_ty hNN fo.1 fo.2 rfl).2 hi d_Wrt_findBounds_37 ?_
    refine lv_aload_n hx hb d_Wrt_findBounds_38 rfl (lv_at hl 0 rfl) ?_
    refine w_getj (k := 13) (t := 5) (C := R_Wrt) (T := F_Wrt) (N := 20) hx hb hT hown hK hW fo.1 fo.2 (by decide) in_Wrt rfl rfl (by decide) rfl fr_Wrt_13 w_2_64 d_Wrt_findBounds_39 ?_
    have hF := hW.free hS hA
    refine va_calli (va_runV (C := R_Wrt) (As := [.int l1, .long (rL x (stC o 10) l2), .long (fJ x o 13)]) (rest := []) ⟨hx, hb, hml, hown, hT⟩ (k_Wrt_compare l dC dI cI cB cJ cZ ad NN E tM tC kK kV hNN H.size o l1 (rL x (stC o 10) l2) (fJ x o 13) x fo hw) ⟨callB_of 3 hT (gwt_in w_6_35) rfl rfl rfl (hT _ w_1_8) (hT _ w_6_32) (by decide +kernel) ⟨Nat.le_trans (Nat.le_of_ble_eq_true rfl) hRf, Nat.le_trans (Nat.le_of_ble_eq_true rfl) hRl⟩, hT _ w_6_34, hT _ ws_32⟩ ⟨PVc.blind, va_recv hK hW.1 (ci := 5) (q0 := o) rfl (pic_obj fo.1 fo.2 (by decide)), PVc.at _ hW hK hN hE hS hF⟩ rfl rfl hl.1 rfl (lv_room (Nat.le_of_ble_eq_true rfl)) d_Wrt_findBounds_42 ⟨hRc, hRs⟩) hS (fun q _ h => hF q h) hF (fun r7 x6 t H locs ht hvm hw hB hz1 hk1 hS => ?_)
    have hW := Wd.back hB ht hF
    clear hB ht hF hz1 hk1 hvm
    refine lv_if_ge (tgt := 58) hx hb d_Wrt_findBounds_45 (by decide) (fun c8 => ?_) (fun c8 => ?_)
    · have hw := hw.1 c8
      exact t_Wrt_findBounds_58 hx hb hml hown hT hK hN hA hRc hRs hRf hRl hNN hE hret hrec22 o l1 l2 x6 H locs ls fo hw hW hS (lv_sub hl [0, 1, 2] rfl)
    · have hw := hw.2 c8
      refine lv_aload_n hx hb d_Wrt_findBounds_48 rfl (lv_at hl 0 rfl) ?_
      refine lv_aload_n hx hb d_Wrt_findBounds_49 rfl (lv_at hl 0 rfl) ?_
      refine w_getf (q := (stC o 10)) (k := 10) (t := 5) (C := R_Wrt) (T := F_Wrt) (N := 20) hx hb hT hown hK hW fo.1 fo.2 (by decide) in_Wrt rfl rfl (by decide) rfl fr_Wrt_10 w_2_61 d_Wrt_findBounds_50 rfl ?_
      refine lv_iload_n hx hb d_Wrt_findBounds_53 rfl (lv_at hl 2 rfl) ?_
      obtain ⟨hi, hw⟩ := hw
      refine w_lald (o := (stC o 10)) hx hb hK hW (st_ty hNN fo.1 fo.2 rfl).1 (st_ty hNN fo.1 fo.2 rfl).2 hi d_Wrt_findBounds_54 ?_
      refine w_putj (k := 13) (t := 5) (C := R_Wrt) (T := F_Wrt) (N := 20) hx hb hT hown hK hW hS fo.1 fo.2 (by decide) in_Wrt t_Wrt t_Wrt_ok n_Wrt rfl rfl (by decide) rfl fr_Wrt_13 w_2_64 (by decide +kernel) d_Wrt_findBounds_55 (fun H locs hW hS => ?_)
      obtain ⟨x9, ex9⟩ : ∃ y : St, y = setJ x6 o 13 (rL x6 (stC o 10) l2) := ⟨_, rfl⟩
      rw [← ex9] at hW
      have hw := hw x9 ex9
      exact t_Wrt_findBounds_58 hx hb hml hown hT hK hN hA hRc hRs hRf hRl hNN hE hret hrec22 o l1 l2 x9 H locs ls fo hw hW hS (lv_sub hl [0, 1, 2] rfl)
set_option maxHeartbeats 4000000 in
set_option maxRecDepth 100000 in
theorem tl_Wrt_findBounds_22 {p : Program} {l : Launch} {e : Env} {R : Room} {s : State} {m : MethodId} {args : Array Value} {below : List Frame} {meth : Method} {c : Code} {cells slots : Nat} {Q : State → Prop} {dC : Nat → ClassId} {dI : Nat → Nat → Nat} {cI cB cJ cZ : ClassId} {A : Nat → Prop} {ad : Nat → Nat} {NN : Nat} {E : Heap} {tM tC : Nat} {kK kV : Nat → Nat} {post : St → Prop} (hx : p.tables.exec = Jvm.exec) (hb : c.code = b_Wrt_findBounds) (hml : c.maxLocals = 3) (hown : s.vm.findClass R_Wrt = some m.cls) (hT : ∀ w ∈ TG, w.before args s = true) (hK : va_K (dC, dI) CL (TY cI cB cJ cZ) s) (hN : NW s) (hA : ∀ q : Nat, s.heap.size ≤ q → A q) (hRc : cells ≤ R.cells) (hRs : slots ≤ R.slots) (hRf : 3 ≤ R.frames) (hRl : 137 ≤ R.locals) (hNN : 152 ≤ NN) (hE : CE E tM tC kK kV A s) (hret : ∀ (x : St) (H : Heap) (locs : List Loc) (pc : Nat) (ls : Array Slot), decode b_Wrt_findBounds pc = .ok (.return_, 1) → post x → Wd dC dI cI cB cJ cZ ad stC kcC NN A x H → va_S A s.heap H locs → W p l e R s m args below meth c H locs cells slots Q (F0 m pc ls []))  : ∀ n : Nat, ∀ (o : Nat) (l1 : Int32) (l2 : Int32) (x : St) (H : Heap) (locs : List Loc) (ls : Array Slot), (o < NN ∧ kcC o = 5) → wl_Wrt_findBounds_22 post n o l1 l2 x → Wd dC dI cI cB cJ cZ ad stC kcC NN A x H → va_S A s.heap H locs → lv_has ls 3 [(0, .ref (ad o)), (1, .int l1), (2, .int l2)] → W p l e R s m args below meth c H locs cells slots Q (F0 m 22 ls []) := by
  intro n
  induction n with
  | zero => intro o l1 l2 x H locs ls fo hw; exact hw.elim
  | succ n ih => intro o l1 l2 x H locs ls fo hw hW hS hl; exact t_Wrt_findBounds_22 hx hb hml hown hT hK hN hA hRc hRs hRf hRl hNN hE hret  ih o l1 l2 x H locs ls fo hw hW hS hl
set_option maxRecDepth 100000 in
set_option maxHeartbeats 4000000 in
set_option maxRecDepth 100000 in
theorem t_Wrt_findBounds_e {p : Program} {l : Launch} {e : Env} {R : Room} {s : State} {m : MethodId} {args : Array Value} {below : List Frame} {meth : Method} {c : Code} {cells slots : Nat} {Q : State → Prop} {dC : Nat → ClassId} {dI : Nat → Nat → Nat} {cI cB cJ cZ : ClassId} {A : Nat → Prop} {ad : Nat → Nat} {NN : Nat} {E : Heap} {tM tC : Nat} {kK kV : Nat → Nat} {post : St → Prop} (hx : p.tables.exec = Jvm.exec) (hb : c.code = b_Wrt_findBounds) (hml : c.maxLocals = 3) (hown : s.vm.findClass R_Wrt = some m.cls) (hT : ∀ w ∈ TG, w.before args s = true) (hK : va_K (dC, dI) CL (TY cI cB cJ cZ) s) (hN : NW s) (hA : ∀ q : Nat, s.heap.size ≤ q → A q) (hRc : cells ≤ R.cells) (hRs : slots ≤ R.slots) (hRf : 3 ≤ R.frames) (hRl : 137 ≤ R.locals) (hNN : 152 ≤ NN) (hE : CE E tM tC kK kV A s) (hret : ∀ (x : St) (H : Heap) (locs : List Loc) (pc : Nat) (ls : Array Slot), decode b_Wrt_findBounds pc = .ok (.return_, 1) → post x → Wd dC dI cI cB cJ cZ ad stC kcC NN A x H → va_S A s.heap H locs → W p l e R s m args below meth c H locs cells slots Q (F0 m pc ls [])) : ∀ (o : Nat) (l1 : Int32) (x : St) (H : Heap) (locs : List Loc) (ls : Array Slot), (o < NN ∧ kcC o = 5) → wp_Wrt_findBounds post o l1 x → Wd dC dI cI cB cJ cZ ad stC kcC NN A x H → va_S A s.heap H locs → lv_has ls 3 [(0, .ref (ad o)), (1, .int l1)] → W p l e R s m args below meth c H locs cells slots Q (F0 m 0 ls []) := by
  intro o l1 x H locs ls fo hw hW hS hl
  unfold wp_Wrt_findBounds at hw
  refine lv_aload_n hx hb d_Wrt_findBounds_0 rfl (lv_at hl 0 rfl) ?_
  refine lv_aload_n hx hb d_Wrt_findBounds_1 rfl (lv_at hl 0 rfl) ?_
  refine w_getf (q := (stC o 10)) (k := 10) (t := 5) (C := R_Wrt) (T := F_Wrt) (N := 20) hx hb hT hown hK hW fo.1 fo.2 (by decide) in_Wrt rfl rfl (by decide) rfl fr_Wrt_10 w_2_61 d_Wrt_findBounds_2 rfl ?_
  refine lv_iconst (v := 0) hx hb d_Wrt_findBounds_5 (by decide) ?_
  obtain ⟨hi, hw⟩ := hw
  refine w_lald (o := (stC o 10)) hx hb hK hW (st_ty hNN fo.1 fo.2 rfl).1 (st_ty hNN fo.1 fo.2 rfl).2 hi d_Wrt_findBounds_6 ?_
  refine w_putj (k := 13) (t := 5) (C := R_Wrt) (T := F_Wrt) (N := 20) hx hb hT hown hK hW hS fo.1 fo.2 (by decide) in_Wrt t_Wrt t_Wrt_ok n_Wrt rfl rfl (by decide) rfl fr_Wrt_13 w_2_64 (by decide +kernel) d_Wrt_findBounds_7 (fun H locs hW hS => ?_)
  obtain ⟨x10, ex10⟩ : ∃ y : St, y = setJ x o 13 (rL x (stC o 10) 0) := ⟨_, rfl⟩
  rw [← ex10] at hW
  have hw := hw x10 ex10
  refine lv_aload_n hx hb d_Wrt_findBounds_10 rfl (lv_at hl 0 rfl) ?_
  refine lv_aload_n hx hb d_Wrt_findBounds_11 rfl (lv_at hl 0 rfl) ?_
  refine w_getf (q := (stC o 10)) (k := 10) (t := 5) (C := R_Wrt) (T := F_Wrt) (N := 20) hx hb hT hown hK hW fo.1 fo.2 (by decide) in_Wrt rfl rfl (by decide) rfl fr_Wrt_10 w_2_61 d_Wrt_findBounds_12 rfl ?_
  refine lv_iconst (v := 0) hx hb d_Wrt_findBounds_15 (by decide) ?_
  obtain ⟨hi, hw⟩ := hw
  refine w_lald (o := (stC o 10)) hx hb hK hW (st_ty hNN fo.1 fo.2 rfl).1 (st_ty hNN fo.1 fo.2 rfl).2 hi d_Wrt_findBounds_16 ?_
  refine w_putj (k := 14) (t := 5) (C := R_Wrt) (T := F_Wrt) (N := 20) hx hb hT hown hK hW hS fo.1 fo.2 (by decide) in_Wrt t_Wrt t_Wrt_ok n_Wrt rfl rfl (by decide) rfl fr_Wrt_14 w_2_65 (by decide +kernel) d_Wrt_findBounds_17 (fun H locs hW hS => ?_)
  obtain ⟨x11, ex11⟩ : ∃ y : St, y = setJ x10 o 14 (rL x10 (stC o 10) 0) := ⟨_, rfl⟩
  rw [← ex11] at hW
  have hw := hw x11 ex11
  refine lv_iconst (v := 1) hx hb d_Wrt_findBounds_20 (by decide) ?_
  refine lv_istore_n (lv' := [(2, .int 1), (0, .ref (ad o)), (1, .int l1)]) hx hb d_Wrt_findBounds_21 rfl hl (by decide) rfl (fun ls hl => ?_)
  obtain ⟨n, hw⟩ := hw
  exact tl_Wrt_findBounds_22 hx hb hml hown hT hK hN hA hRc hRs hRf hRl hNN hE hret  n o l1 1 x11 H locs ls fo hw hW hS (lv_sub hl [1, 2, 0] rfl)
set_option maxHeartbeats 4000000 in
set_option maxRecDepth 100000 in
theorem k_Wrt_findBounds (l : Launch) (dC : Nat → ClassId) (dI : Nat → Nat → Nat) (cI cB cJ cZ : ClassId) (ad : Nat → Nat) (NN : Nat) (E : Heap) (tM tC : Nat) (kK kV : Nat → Nat) (hNN : 152 ≤ NN) (sz : Nat) (o : Nat) (l1 : Int32) (x : St) (fo : o < NN ∧ kcC o = 5) {post : St → Prop} (hw : wp_Wrt_findBounds post o l1 x) : Met l y_Wrt_findBounds (wsOf y_Wrt_findBounds b_Wrt_findBounds 3 (none)) ({ frames := 3, cells := 0, slots := 0, locals := 137 }) (va_Pc [.ref (ad o), .int l1] (PVc dC dI cI cB cJ cZ ad stC kcC NN E tM tC kK kV sz x)) (va_Qv (fun (y : St) => post y) (fun y t => Wd dC dI cI cB cJ cZ ad stC kcC NN (va_A (pic ad stC kcC NN cI cB cJ cZ x) sz) y t.heap) (va_A (pic ad stC kcC NN cI cB cJ cZ x) sz)) 0 0 (va_A (pic ad stC kcC NN cI cB cJ cZ x) sz) := by
  refine Met.ofW (cc := b_Wrt_findBounds) (maxL := 3) (ret := none) (by decide) rfl ?_
  intro p e s m args below meth c s₁ B hml hv
  obtain ⟨rfl, ⟨hsz, hW0, hK, hN⟩, hE⟩ := hv
  have hx := B.exec
  have hb := B.bytes
  have hr := B.returns
  have hts := atoms_spec B.pre
  have hT : ∀ w ∈ TG, w.before _ s = true := fun w h => hts w (List.mem_cons_of_mem _ h)
  have hown : s.vm.findClass R_Wrt = some m.cls := findClass_of_methodNamed B.named
  have hlocks := B.notSynchronized
  subst hsz
  have hW : Wd dC dI cI cB cJ cZ ad stC kcC NN (va_A (pic ad stC kcC NN cI cB cJ cZ x) s.heap.size) x s.heap := ⟨hW0.1, hW0.2.1.self (sz := s.heap.size), hW0.2.2⟩
  generalize hAe : va_A (pic ad stC kcC NN cI cB cJ cZ x) s.heap.size = A at hW hE ⊢
  have hA : ∀ q : Nat, s.heap.size ≤ q → A q := fun q h => by rw [← hAe]; exact Or.inr h
  have hS : va_S A s.heap s.heap [] := va_S.rf
  have hl := lv_entry ([.ref (ad o), .int l1]) (n := 3) (Nat.le_of_ble_eq_true rfl)
  rw [lg_entry_eq]
  generalize (lg_sl ([.ref (ad o), .int l1]) ++ List.replicate (3 - (lg_sl ([.ref (ad o), .int l1])).length) Slot.unset).toArray = ls at hl ⊢
  have hl : lv_has ls 3 [(0, .ref (ad o)), (1, .int l1)] := hl
  exact t_Wrt_findBounds_e hx hb hml hown hT hK hN hA (Nat.le_refl 0) (Nat.le_refl 0) (Nat.le_refl 3) (Nat.le_refl 137) hNN hE (fun x H locs pc ls hd hp hW hS => W.vret hx hb hr (fun t ht hM => ⟨⟨x, rfl, hp, Wd.back hW ht.symm (fun _ z => z)⟩, hS.F ht⟩) hS.2.2 hd hlocks)  o l1 x _ _ ls fo hw hW hS hl
set_option maxRecDepth 100000 in
set_option maxHeartbeats 4000000 in
set_option maxRecDepth 100000 in
theorem t_V_checkOf_5 {p : Program} {l : Launch} {e : Env} {R : Room} {s : State} {m : MethodId} {args : Array Value} {below : List Frame} {meth : Method} {c : Code} {cells slots : Nat} {Q : State → Prop} {dC : Nat → ClassId} {dI : Nat → Nat → Nat} {cI cB cJ cZ : ClassId} {A : Nat → Prop} {ad : Nat → Nat} {NN : Nat} {E : Heap} {tM tC : Nat} {kK kV : Nat → Nat} {post : Int32 → St → Prop} {rec5 : Nat → Int32 → Int32 → Int32 → Int32 → St → Prop} (hx : p.tables.exec = Jvm.exec) (hb : c.code = b_V_checkOf) (hml : c.maxLocals = 5) (hown : s.vm.findClass R_V = some m.cls) (hT : ∀ w ∈ TG, w.before args s = true) (hK : va_K (dC, dI) CL (TY cI cB cJ cZ) s) (hN : NW s) (hA : ∀ q : Nat, s.heap.size ≤ q → A q) (hRc : cells ≤ R.cells) (hRs : slots ≤ R.slots) (hRf : 0 ≤ R.frames) (hRl : 0 ≤ R.locals) (hNN : 152 ≤ NN) (hE : CE E tM tC kK kV A s) (hret : ∀ (r : Int32) (x : St) (H : Heap) (locs : List Loc) (pc : Nat) (ls : Array Slot), decode b_V_checkOf pc = .ok (.ireturn, 1) → post r x → Wd dC dI cI cB cJ cZ ad stC kcC NN A x H → va_S A s.heap H locs → W p l e R s m args below meth c H locs cells slots Q (F0 m pc ls [.int r])) (hrec5 : ∀ (l0 : Nat) (l1 : Int32) (l2 : Int32) (l3 : Int32) (l4 : Int32) (x : St) (H : Heap) (locs : List Loc) (ls : Array Slot), (l0 < NN ∧ kcC l0 = 21) → rec5 l0 l1 l2 l3 l4 x → Wd dC dI cI cB cJ cZ ad stC kcC NN A x H → va_S A s.heap H locs → lv_has ls 5 [(0, .ref (ad l0)), (1, .int l1), (2, .int l2), (3, .int l3), (4, .int l4)] → W p l e R s m args below meth c H locs cells slots Q (F0 m 5 ls [])) : ∀ (l0 : Nat) (l1 : Int32) (l2 : Int32) (l3 : Int32) (l4 : Int32) (x : St) (H : Heap) (locs : List Loc) (ls : Array Slot), (l0 < NN ∧ kcC l0 = 21) → j_V_checkOf_5 post rec5 l0 l1 l2 l3 l4 x → Wd dC dI cI cB cJ cZ ad stC kcC NN A x H → va_S A s.heap H locs → lv_has ls 5 [(0, .ref (ad l0)), (1, .int l1), (2, .int l2), (3, .int l3), (4, .int l4)] → W p l e R s m args below meth c H locs cells slots Q (F0 m 5 ls []) := by
  intro l0 l1 l2 l3 l4 x H locs ls fl0 hw hW hS hl
  unfold j_V_checkOf_5 at hw
  refine lv_iload hx hb d_V_checkOf_5 (lv_at hl 4 rfl) ?_
  refine lv_iload_n hx hb d_V_checkOf_7 rfl (lv_at hl 2 rfl) ?_
  refine lv_icmp_ge (tgt := 54) hx hb d_V_checkOf_8 (by decide) (fun c1 => ?_) (fun c1 => ?_)
  · have hw := hw.1 c1
    refine lv_iload_n hx hb d_V_checkOf_54 rfl (lv_at hl 3 rfl) ?_
    refine lv_iconst (v := (-1)) hx hb d_V_checkOf_55 (by decide) ?_
    refine lv_ixor hx hb d_V_checkOf_56 ?_
    exact hret (l3 ^^^ (-1)) x H locs 57 ls d_V_checkOf_57 hw hW hS
  · have hw := hw.2 c1
    refine lv_iload_n hx hb d_V_checkOf_11 rfl (lv_at hl 3 rfl) ?_
    refine lv_aload_n hx hb d_V_checkOf_12 rfl (lv_at hl 0 rfl) ?_
    refine lv_iload hx hb d_V_checkOf_13 (lv_at hl 4 rfl) ?_
    obtain ⟨hi, hw⟩ := hw
    refine w_bald (o := l0) hx hb hK hW fl0.1 fl0.2 hi d_V_checkOf_15 ?_
    refine lv_sipush (v := 255) hx hb d_V_checkOf_16 (by decide) ?_
    refine lv_iand hx hb d_V_checkOf_19 ?_
    refine lv_ixor hx hb d_V_checkOf_20 ?_
    refine lv_topi (fun v2 ev2 => ?_)
    have hw := hw v2 ev2
    refine lv_istore_n (lv' := [(3, .int v2), (0, .ref (ad l0)), (1, .int l1), (2, .int l2), (4, .int l4)]) hx hb d_V_checkOf_21 rfl hl (by decide) rfl (fun ls hl => ?_)
    refine lv_iload_n hx hb d_V_checkOf_22 rfl (lv_at hl 0 rfl) ?_
    refine lv_iconst (v := 4) hx hb d_V_checkOf_23 (by decide) ?_
    refine lv_iushr hx hb d_V_checkOf_24 rfl ?_
    refine va_gets hx hb hE.zC hS hown (hT _ w_6_44) (fun _ h => h) d_V_checkOf_25 ?_
    refine lv_iload_n hx hb d_V_checkOf_28 rfl (lv_at hl 0 rfl) ?_
    refine lv_bipush (v := 15) hx hb d_V_checkOf_29 (by decide) ?_
    refine lv_iand hx hb d_V_checkOf_31 ?_
    obtain ⟨hi, hw⟩ := hw
    refine va_ti hx hb hE.rC hS hi (v := .int (crcI ((v2 &&& 15) : Int32).toNatClampNeg)) rfl d_V_checkOf_32 ?_
    refine lv_ixor hx hb d_V_checkOf_33 ?_
    refine lv_topi (fun v3 ev3 => ?_)
    have hw := hw v3 ev3
    refine lv_istore_n (lv' := [(3, .int v3), (0, .ref (ad l0)), (1, .int l1), (2, .int l2), (4, .int l4)]) hx hb d_V_checkOf_34 rfl hl (by decide) rfl (fun ls hl => ?_)
    refine lv_iload_n hx hb d_V_checkOf_35 rfl (lv_at hl 0 rfl) ?_
    refine lv_iconst (v := 4) hx hb d_V_checkOf_36 (by decide) ?_
    refine lv_iushr hx hb d_V_checkOf_37 rfl ?_
    refine va_gets hx hb hE.zC hS hown (hT _ w_6_44) (fun _ h => h) d_V_checkOf_38 ?_
    refine lv_iload_n hx hb d_V_checkOf_41 rfl (lv_at hl 0 rfl) ?_
    refine lv_bipush (v := 15) hx hb d_V_checkOf_42 (by decide) ?_
    refine lv_iand hx hb d_V_checkOf_44 ?_
    obtain ⟨hi, hw⟩ := hw
    refine va_ti hx hb hE.rC hS hi (v := .int (crcI ((v3 &&& 15) : Int32).toNatClampNeg)) rfl d_V_checkOf_45 ?_
    refine lv_ixor hx hb d_V_checkOf_46 ?_
    refine lv_topi (fun v4 ev4 => ?_)
    have hw := hw v4 ev4
    refine lv_istore_n (lv' := [(3, .int v4), (0, .ref (ad l0)), (1, .int l1), (2, .int l2), (4, .int l4)]) hx hb d_V_checkOf_47 rfl hl (by decide) rfl (fun ls hl => ?_)
    refine lv_iinc (v := (l4 + 1)) (lv' := [(4, .int (l4 + 1)), (3, .int v4), (0, .ref (ad l0)), (1, .int l1), (2, .int l2)]) hx hb d_V_checkOf_48 hl (k := 4) rfl rfl (by decide) rfl (fun ls hl => ?_)
    refine lv_goto (tgt := 5) hx hb d_V_checkOf_51 (by decide) ?_
    exact hrec5 l0 l1 l2 v4 (l4 + 1) x H locs ls fl0 hw hW hS (lv_sub hl [2, 3, 4, 1, 0] rfl)
set_option maxHeartbeats 4000000 in
set_option maxRecDepth 100000 in
theorem tl_V_checkOf_5 {p : Program} {l : Launch} {e : Env} {R : Room} {s : State} {m : MethodId} {args : Array Value} {below : List Frame} {meth : Method} {c : Code} {cells slots : Nat} {Q : State → Prop} {dC : Nat → ClassId} {dI : Nat → Nat → Nat} {cI cB cJ cZ : ClassId} {A : Nat → Prop} {ad : Nat → Nat} {NN : Nat} {E : Heap} {tM tC : Nat} {kK kV : Nat → Nat} {post : Int32 → St → Prop} (hx : p.tables.exec = Jvm.exec) (hb : c.code = b_V_checkOf) (hml : c.maxLocals = 5) (hown : s.vm.findClass R_V = some m.cls) (hT : ∀ w ∈ TG, w.before args s = true) (hK : va_K (dC, dI) CL (TY cI cB cJ cZ) s) (hN : NW s) (hA : ∀ q : Nat, s.heap.size ≤ q → A q) (hRc : cells ≤ R.cells) (hRs : slots ≤ R.slots) (hRf : 0 ≤ R.frames) (hRl : 0 ≤ R.locals) (hNN : 152 ≤ NN) (hE : CE E tM tC kK kV A s) (hret : ∀ (r : Int32) (x : St) (H : Heap) (locs : List Loc) (pc : Nat) (ls : Array Slot), decode b_V_checkOf pc = .ok (.ireturn, 1) → post r x → Wd dC dI cI cB cJ cZ ad stC kcC NN A x H → va_S A s.heap H locs → W p l e R s m args below meth c H locs cells slots Q (F0 m pc ls [.int r]))  : ∀ n : Nat, ∀ (l0 : Nat) (l1 : Int32) (l2 : Int32) (l3 : Int32) (l4 : Int32) (x : St) (H : Heap) (locs : List Loc) (ls : Array Slot), (l0 < NN ∧ kcC l0 = 21) → wl_V_checkOf_5 post n l0 l1 l2 l3 l4 x → Wd dC dI cI cB cJ cZ ad stC kcC NN A x H → va_S A s.heap H locs → lv_has ls 5 [(0, .ref (ad l0)), (1, .int l1), (2, .int l2), (3, .int l3), (4, .int l4)] → W p l e R s m args below meth c H locs cells slots Q (F0 m 5 ls []) := by
  intro n
  induction n with
  | zero => intro l0 l1 l2 l3 l4 x H locs ls fl0 hw; exact hw.elim
  | succ n ih => intro l0 l1 l2 l3 l4 x H locs ls fl0 hw hW hS hl; exact t_V_checkOf_5 hx hb hml hown hT hK hN hA hRc hRs hRf hRl hNN hE hret  ih l0 l1 l2 l3 l4 x H locs ls fl0 hw hW hS hl
set_option maxRecDepth 100000 in
set_option maxHeartbeats 4000000 in
set_option maxRecDepth 100000 in
theorem t_V_checkOf_e {p : Program} {l : Launch} {e : Env} {R : Room} {s : State} {m : MethodId} {args : Array Value} {below : List Frame} {meth : Method} {c : Code} {cells slots : Nat} {Q : State → Prop} {dC : Nat → ClassId} {dI : Nat → Nat → Nat} {cI cB cJ cZ : ClassId} {A : Nat → Prop} {ad : Nat → Nat} {NN : Nat} {E : Heap} {tM tC : Nat} {kK kV : Nat → Nat} {post : Int32 → St → Prop} (hx : p.tables.exec = Jvm.exec) (hb : c.code = b_V_checkOf) (hml : c.maxLocals = 5) (hown : s.vm.findClass R_V = some m.cls) (hT : ∀ w ∈ TG, w.before args s = true) (hK : va_K (dC, dI) CL (TY cI cB cJ cZ) s) (hN : NW s) (hA : ∀ q : Nat, s.heap.size ≤ q → A q) (hRc : cells ≤ R.cells) (hRs : slots ≤ R.slots) (hRf : 0 ≤ R.frames) (hRl : 0 ≤ R.locals) (hNN : 152 ≤ NN) (hE : CE E tM tC kK kV A s) (hret : ∀ (r : Int32) (x : St) (H : Heap) (locs : List Loc) (pc : Nat) (ls : Array Slot), decode b_V_checkOf pc = .ok (.ireturn, 1) → post r x → Wd dC dI cI cB cJ cZ ad stC kcC NN A x H → va_S A s.heap H locs → W p l e R s m args below meth c H locs cells slots Q (F0 m pc ls [.int r])) : ∀ (l0 : Nat) (l1 : Int32) (l2 : Int32) (x : St) (H : Heap) (locs : List Loc) (ls : Array Slot), (l0 < NN ∧ kcC l0 = 21) → wp_V_checkOf post l0 l1 l2 x → Wd dC dI cI cB cJ cZ ad stC kcC NN A x H → va_S A s.heap H locs → lv_has ls 5 [(0, .ref (ad l0)), (1, .int l1), (2, .int l2)] → W p l e R s m args below meth c H locs cells slots Q (F0 m 0 ls []) := by
  intro l0 l1 l2 x H locs ls fl0 hw hW hS hl
  unfold wp_V_checkOf at hw
  refine lv_iconst (v := (-1)) hx hb d_V_checkOf_0 (by decide) ?_
  refine lv_istore_n (lv' := [(3, .int (-1)), (0, .ref (ad l0)), (1, .int l1), (2, .int l2)]) hx hb d_V_checkOf_1 rfl hl (by decide) rfl (fun ls hl => ?_)
  refine lv_iload_n hx hb d_V_checkOf_2 rfl (lv_at hl 2 rfl) ?_
  refine lv_istore (lv' := [(4, .int l1), (3, .int (-1)), (0, .ref (ad l0)), (1, .int l1), (2, .int l2)]) hx hb d_V_checkOf_3 hl (by decide) rfl (fun ls hl => ?_)
  obtain ⟨n, hw⟩ := hw
  exact tl_V_checkOf_5 hx hb hml hown hT hK hN hA hRc hRs hRf hRl hNN hE hret  n l0 l1 l2 (-1) l1 x H locs ls fl0 hw hW hS (lv_sub hl [2, 3, 4, 1, 0] rfl)
set_option maxHeartbeats 4000000 in
set_option maxRecDepth 100000 in
theorem k_V_checkOf (l : Launch) (dC : Nat → ClassId) (dI : Nat → Nat → Nat) (cI cB cJ cZ : ClassId) (ad : Nat → Nat) (NN : Nat) (E : Heap) (tM tC : Nat) (kK kV : Nat → Nat) (hNN : 152 ≤ NN) (sz : Nat) (l0 : Nat) (l1 : Int32) (l2 : Int32) (x : St) (fl0 : l0 < NN ∧ kcC l0 = 21) {post : Int32 → St → Prop} (hw : wp_V_checkOf post l0 l1 l2 x) : Met l y_V_checkOf (wsOf y_V_checkOf b_V_checkOf 5 (some (.int))) ({ frames := 0, cells := 0, slots := 0, locals := 0 }) (va_Pc [.ref (ad l0), .int l1, .int l2] (PVc dC dI cI cB cJ cZ ad stC kcC NN E tM tC kK kV sz x)) (va_Qi (fun (r : Int32) (y : St) => post r y) (fun y t => Wd dC dI cI cB cJ cZ ad stC kcC NN (va_A (pic ad stC kcC NN cI cB cJ cZ x) sz) y t.heap) (va_A (pic ad stC kcC NN cI cB cJ cZ x) sz)) 0 0 (va_A (pic ad stC kcC NN cI cB cJ cZ x) sz) := by
  refine Met.ofW (cc := b_V_checkOf) (maxL := 5) (ret := some (.int)) (by decide) rfl ?_
  intro p e s m args below meth c s₁ B hml hv
  obtain ⟨rfl, ⟨hsz, hW0, hK, hN⟩, hE⟩ := hv
  have hx := B.exec
  have hb := B.bytes
  have hr := B.returns
  have hts := atoms_spec B.pre
  have hT : ∀ w ∈ TG, w.before _ s = true := fun w h => hts w (List.mem_cons_of_mem _ h)
  have hown : s.vm.findClass R_V = some m.cls := findClass_of_methodNamed B.named
  have hlocks := B.notSynchronized
  subst hsz
  have hW : Wd dC dI cI cB cJ cZ ad stC kcC NN (va_A (pic ad stC kcC NN cI cB cJ cZ x) s.heap.size) x s.heap := ⟨hW0.1, hW0.2.1.self (sz := s.heap.size), hW0.2.2⟩
  generalize hAe : va_A (pic ad stC kcC NN cI cB cJ cZ x) s.heap.size = A at hW hE ⊢
  have hA : ∀ q : Nat, s.heap.size ≤ q → A q := fun q h => by rw [← hAe]; exact Or.inr h
  have hS : va_S A s.heap s.heap [] := va_S.rf
  have hl := lv_entry ([.ref (ad l0), .int l1, .int l2]) (n := 5) (Nat.le_of_ble_eq_true rfl)
  rw [lg_entry_eq]
  generalize (lg_sl ([.ref (ad l0), .int l1, .int l2]) ++ List.replicate (5 - (lg_sl ([.ref (ad l0), .int l1, .int l2])).length) Slot.unset).toArray = ls at hl ⊢
  have hl : lv_has ls 5 [(0, .ref (ad l0)), (1, .int l1), (2, .int l2)] := hl
  exact t_V_checkOf_e hx hb hml hown hT hK hN hA (Nat.le_refl 0) (Nat.le_refl 0) (Nat.le_refl 0) (Nat.le_refl 0) hNN hE (fun r x H locs pc ls hd hp hW hS => W.iret (v := r) hx hb hr (fun t ht hM => ⟨⟨r, x, rfl, hp, Wd.back hW ht.symm (fun _ z => z)⟩, hS.F ht⟩) hS.2.2 hd hlocks)  l0 l1 l2 x _ _ ls fl0 hw hW hS hl
set_option maxRecDepth 100000 in
set_option maxHeartbeats 4000000 in
set_option maxRecDepth 100000 in
theorem t_Wrt_giveFile_e {p : Program} {l : Launch} {e : Env} {R : Room} {s : State} {m : MethodId} {args : Array Value} {below : List Frame} {meth : Method} {c : Code} {cells slots : Nat} {Q : State → Prop} {dC : Nat → ClassId} {dI : Nat → Nat → Nat} {cI cB cJ cZ : ClassId} {A : Nat → Prop} {ad : Nat → Nat} {NN : Nat} {E : Heap} {tM tC : Nat} {kK kV : Nat → Nat} {post : Nat → St → Prop} (hx : p.tables.exec = Jvm.exec) (hb : c.code = b_Wrt_giveFile) (hml : c.maxLocals = 3) (hown : s.vm.findClass R_Wrt = some m.cls) (hT : ∀ w ∈ TG, w.before args s = true) (hK : va_K (dC, dI) CL (TY cI cB cJ cZ) s) (hN : NW s) (hA : ∀ q : Nat, s.heap.size ≤ q → A q) (hRc : cells ≤ R.cells) (hRs : slots ≤ R.slots) (hRf : 0 ≤ R.frames) (hRl : 0 ≤ R.locals) (hNN : 152 ≤ NN) (hE : CE E tM tC kK kV A s) (hret : ∀ (r : Nat) (x : St) (H : Heap) (locs : List Loc) (pc : Nat) (ls : Array Slot), decode b_Wrt_giveFile pc = .ok (.areturn, 1) → (r < NN ∧ kcC r = 1) → post r x → Wd dC dI cI cB cJ cZ ad stC kcC NN A x H → va_S A s.heap H locs → W p l e R s m args below meth c H locs cells slots Q (F0 m pc ls [.ref (ad r)])) : ∀ (o : Nat) (l1 : Nat) (x : St) (H : Heap) (locs : List Loc) (ls : Array Slot), (o < NN ∧ kcC o = 5) → (l1 < NN ∧ kcC l1 = 1) → wp_Wrt_giveFile post o l1 x → Wd dC dI cI cB cJ cZ ad stC kcC NN A x H → va_S A s.heap H locs → lv_has ls 3 [(0, .ref (ad o)), (1, .ref (ad l1))] → W p l e R s m args below meth c H locs cells slots Q (F0 m 0 ls []) := by
  intro o l1 x H locs ls fo fl1 hw hW hS hl
  unfold wp_Wrt_giveFile at hw
  refine lv_aload_n hx hb d_Wrt_giveFile_0 rfl (lv_at hl 0 rfl) ?_
  obtain ⟨q1, hq1, hw⟩ := hw
  refine w_getr (q := q1) (k := 0) (t := 5) (C := R_Wrt) (T := F_Wrt) (N := 20) hx hb hT hown hK hW fo.1 fo.2 (by decide) in_Wrt rfl rfl (by decide) rfl fr_Wrt_0 w_2_51 d_Wrt_giveFile_1 hq1 (fun aq1 bq1 => ?_)
  have fq1 : q1 < NN ∧ kcC q1 = 1 := ⟨aq1, bq1⟩
  refine lv_astore_n (lv' := [(2, .ref (ad q1)), (0, .ref (ad o)), (1, .ref (ad l1))]) hx hb d_Wrt_giveFile_4 rfl hl (by decide) rfl (fun ls hl => ?_)
  refine lv_aload_n hx hb d_Wrt_giveFile_5 rfl (lv_at hl 1 rfl) ?_
  refine lv_aload_n hx hb d_Wrt_giveFile_6 rfl (lv_at hl 2 rfl) ?_
  refine w_putr (q := l1) (ty := .object "StripedVault$Sink") (k := 0) (t := 5) (C := R_Wrt) (T := F_Wrt) (N := 20) hx hb hT hown hK hW hS fo.1 fo.2 (by decide) in_Wrt t_Wrt t_Wrt_ok n_Wrt rfl rfl (by decide) rfl fr_Wrt_0 w_2_51 (by decide +kernel) rfl rfl fl1.1 fl1.2 d_Wrt_giveFile_7 (fun H locs hW hS => ?_)
  obtain ⟨x2, ex2⟩ : ∃ y : St, y = setR x o 0 (some l1) := ⟨_, rfl⟩
  rw [← ex2] at hW
  have hw := hw x2 ex2
  refine lv_aload_n hx hb d_Wrt_giveFile_10 rfl (lv_at hl 0 rfl) ?_
  exact hret q1 x2 H locs 11 ls d_Wrt_giveFile_11 fq1 hw hW hS
set_option maxHeartbeats 4000000 in
set_option maxRecDepth 100000 in
theorem k_Wrt_giveFile (l : Launch) (dC : Nat → ClassId) (dI : Nat → Nat → Nat) (cI cB cJ cZ : ClassId) (ad : Nat → Nat) (NN : Nat) (E : Heap) (tM tC : Nat) (kK kV : Nat → Nat) (hNN : 152 ≤ NN) (sz : Nat) (o : Nat) (l1 : Nat) (x : St) (fo : o < NN ∧ kcC o = 5) (fl1 : l1 < NN ∧ kcC l1 = 1) {post : Nat → St → Prop} (hw : wp_Wrt_giveFile post o l1 x) : Met l y_Wrt_giveFile (wsOf y_Wrt_giveFile b_Wrt_giveFile 3 (some (.object "StripedVault$Sink"))) ({ frames := 0, cells := 0, slots := 0, locals := 0 }) (va_Pc [.ref (ad o), .ref (ad l1)] (PVc dC dI cI cB cJ cZ ad stC kcC NN E tM tC kK kV sz x)) (va_Qr (fun (u : Nat × St) => post u.1 u.2) (fun u ra t => ra = ad u.1 ∧ (u.1 < NN ∧ kcC u.1 = 1) ∧ Wd dC dI cI cB cJ cZ ad stC kcC NN (va_A (pic ad stC kcC NN cI cB cJ cZ x) sz) u.2 t.heap) (va_A (pic ad stC kcC NN cI cB cJ cZ x) sz)) 0 0 (va_A (pic ad stC kcC NN cI cB cJ cZ x) sz) := by
  refine Met.ofW (cc := b_Wrt_giveFile) (maxL := 3) (ret := some (.object "StripedVault$Sink")) (by decide) rfl ?_
  intro p e s m args below meth c s₁ B hml hv
  obtain ⟨rfl, ⟨hsz, hW0, hK, hN⟩, hE⟩ := hv
  have hx := B.exec
  have hb := B.bytes
  have hr := B.returns
  have hts := atoms_spec B.pre
  have hT : ∀ w ∈ TG, w.before _ s = true := fun w h => hts w (List.mem_cons_of_mem _ h)
  have hown : s.vm.findClass R_Wrt = some m.cls := findClass_of_methodNamed B.named
  have hlocks := B.notSynchronized
  subst hsz
  have hW : Wd dC dI cI cB cJ cZ ad stC kcC NN (va_A (pic ad stC kcC NN cI cB cJ cZ x) s.heap.size) x s.heap := ⟨hW0.1, hW0.2.1.self (sz := s.heap.size), hW0.2.2⟩
  generalize hAe : va_A (pic ad stC kcC NN cI cB cJ cZ x) s.heap.size = A at hW hE ⊢
  have hA : ∀ q : Nat, s.heap.size ≤ q → A q := fun q h => by rw [← hAe]; exact Or.inr h
  have hS : va_S A s.heap s.heap [] := va_S.rf
  have hl := lv_entry ([.ref (ad o), .ref (ad l1)]) (n := 3) (Nat.le_of_ble_eq_true rfl)
  rw [lg_entry_eq]
  generalize (lg_sl ([.ref (ad o), .ref (ad l1)]) ++ List.replicate (3 - (lg_sl ([.ref (ad o), .ref (ad l1)])).length) Slot.unset).toArray = ls at hl ⊢
  have hl : lv_has ls 3 [(0, .ref (ad o)), (1, .ref (ad l1))] := hl
  exact t_Wrt_giveFile_e hx hb hml hown hT hK hN hA (Nat.le_refl 0) (Nat.le_refl 0) (Nat.le_refl 0) (Nat.le_refl 0) hNN hE (fun r x H locs pc ls hd hf hp hW hS => W.aret (v := .ref (ad r)) hx hb hr (Or.inl ⟨_, rfl⟩) (Or.inr ⟨_, rfl⟩) (fun t ht hM => ⟨⟨(r, x), ad r, rfl, hp, rfl, hf, Wd.back hW ht.symm (fun _ z => z)⟩, hS.F ht⟩) hS.2.2 hd hlocks)  o l1 x _ _ ls fo fl1 hw hW hS hl
set_option maxRecDepth 100000 in
set_option maxHeartbeats 4000000 in
set_option maxRecDepth 100000 in
theorem t_V_take_e {p : Program} {l : Launch} {e : Env} {R : Room} {s : State} {m : MethodId} {args : Array Value} {below : List Frame} {meth : Method} {c : Code} {cells slots : Nat} {Q : State → Prop} {dC : Nat → ClassId} {dI : Nat → Nat → Nat} {cI cB cJ cZ : ClassId} {A : Nat → Prop} {ad : Nat → Nat} {NN : Nat} {E : Heap} {tM tC : Nat} {kK kV : Nat → Nat} {post : St → Prop} (hx : p.tables.exec = Jvm.exec) (hb : c.code = b_V_take) (hml : c.maxLocals = 2) (hown : s.vm.findClass R_V = some m.cls) (hT : ∀ w ∈ TG, w.before args s = true) (hK : va_K (dC, dI) CL (TY cI cB cJ cZ) s) (hN : NW s) (hA : ∀ q : Nat, s.heap.size ≤ q → A q) (hRc : cells ≤ R.cells) (hRs : slots ≤ R.slots) (hRf : 1 ≤ R.frames) (hRl : 20 ≤ R.locals) (hNN : 152 ≤ NN) (hE : CE E tM tC kK kV A s) (hret : ∀ (x : St) (H : Heap) (locs : List Loc) (pc : Nat) (ls : Array Slot), decode b_V_take pc = .ok (.return_, 1) → post x → Wd dC dI cI cB cJ cZ ad stC kcC NN A x H → va_S A s.heap H locs → W p l e R s m args below meth c H locs cells slots Q (F0 m pc ls [])) : ∀ (o : Nat) (x : St) (H : Heap) (locs : List Loc) (ls : Array Slot), (o < NN ∧ kcC o = 0) → wp_V_take post o x → Wd dC dI cI cB cJ cZ ad stC kcC NN A x H → va_S A s.heap H locs → lv_has ls 2 [(0, .ref (ad o))] → W p l e R s m args below meth c H locs cells slots Q (F0 m 0 ls []) := by
  intro o x H locs ls fo hw hW hS hl
  unfold wp_V_take at hw
  refine lv_aload_n hx hb d_V_take_0 rfl (lv_at hl 0 rfl) ?_
  obtain ⟨q1, hq1, hw⟩ := hw
  refine w_getr (q := q1) (k := 2) (t := 0) (C := R_V) (T := F_V) (N := 15) hx hb hT hown hK hW fo.1 fo.2 (by decide) in_V rfl rfl (by decide) rfl fr_V_2 w_3_237 d_V_take_1 hq1 (fun aq1 bq1 => ?_)
  have fq1 : q1 < NN ∧ kcC q1 = 1 := ⟨aq1, bq1⟩
  refine lv_astore_n (lv' := [(1, .ref (ad q1)), (0, .ref (ad o))]) hx hb d_V_take_4 rfl hl (by decide) rfl (fun ls hl => ?_)
  refine lv_aload_n hx hb d_V_take_5 rfl (lv_at hl 1 rfl) ?_
  refine lv_aload_n hx hb d_V_take_6 rfl (lv_at hl 1 rfl) ?_
  obtain ⟨q2, hq2, hw⟩ := hw
  refine w_getr (q := q2) (k := 1) (t := 0) (C := R_V) (T := F_V) (N := 15) hx hb hT hown hK hW fo.1 fo.2 (by decide) in_V rfl rfl (by decide) rfl fr_V_1 w_3_236 d_V_take_7 hq2 (fun aq2 bq2 => ?_)
  have fq2 : q2 < NN ∧ kcC q2 = 1 := ⟨aq2, bq2⟩
  refine w_putr (q := q2) (ty := .object "StripedVault$Sink") (k := 2) (t := 0) (C := R_V) (T := F_V) (N := 15) hx hb hT hown hK hW hS fo.1 fo.2 (by decide) in_V t_V t_V_ok n_V rfl rfl (by decide) rfl fr_V_2 w_3_237 (by decide +kernel) rfl rfl fq2.1 fq2.2 d_V_take_10 (fun H locs hW hS => ?_)
  obtain ⟨x3, ex3⟩ : ∃ y : St, y = setR x o 2 (some q2) := ⟨_, rfl⟩
  rw [← ex3] at hW
  have hw := hw x3 ex3
  refine lv_aload_n hx hb d_V_take_13 rfl (lv_at hl 1 rfl) ?_
  refine lv_aload_n hx hb d_V_take_14 rfl (lv_at hl 0 rfl) ?_
  refine w_putr (q := q1) (ty := .object "StripedVault$Sink") (k := 1) (t := 0) (C := R_V) (T := F_V) (N := 15) hx hb hT hown hK hW hS fo.1 fo.2 (by decide) in_V t_V t_V_ok n_V rfl rfl (by decide) rfl fr_V_1 w_3_236 (by decide +kernel) rfl rfl fq1.1 fq1.2 d_V_take_15 (fun H locs hW hS => ?_)
  obtain ⟨x4, ex4⟩ : ∃ y : St, y = setR x3 o 1 (some q1) := ⟨_, rfl⟩
  rw [← ex4] at hW
  have hw := hw x4 ex4
  refine lv_aload_n hx hb d_V_take_18 rfl (lv_at hl 1 rfl) ?_
  obtain ⟨q5, hq5, hw⟩ := hw
  refine w_getr (q := q5) (k := 1) (t := 0) (C := R_V) (T := F_V) (N := 15) hx hb hT hown hK hW fo.1 fo.2 (by decide) in_V rfl rfl (by decide) rfl fr_V_1 w_3_236 d_V_take_19 hq5 (fun aq5 bq5 => ?_)
  have fq5 : q5 < NN ∧ kcC q5 = 1 := ⟨aq5, bq5⟩
  have hF := hW.free hS hA
  refine va_callv (va_runV (C := R_Snk) (As := []) (rest := []) ⟨hx, hb, hml, hown, hT⟩ (k_Snk_forget l dC dI cI cB cJ cZ ad NN E tM tC kK kV hNN H.size q5 x4 fq5 hw) ⟨callB_of 0 hT (gwt_in w_4_81) rfl rfl rfl (hT _ w_1_2) (hT _ w_4_78) (by decide +kernel) ⟨Nat.le_trans (Nat.le_of_ble_eq_true rfl) hRf, Nat.le_trans (Nat.le_of_ble_eq_true rfl) hRl⟩, hT _ w_4_79, hT _ w_4_80⟩ ⟨PVc.blind, va_recv hK hW.1 (ci := 1) (q0 := q5) rfl (pic_obj fq5.1 fq5.2 (by decide)), PVc.at _ hW hK hN hE hS hF⟩ rfl rfl hl.1 rfl (lv_room (Nat.le_of_ble_eq_true rfl)) d_V_take_22 ⟨hRc, hRs⟩) hS (fun q _ h => hF q h) hF (fun  x6 t H locs ht hvm hw hB hz1 hk1 hS => ?_)
  have hW := Wd.back hB ht hF
  clear hB ht hF hz1 hk1 hvm
  exact hret x6 H locs 25 ls d_V_take_25 hw hW hS
set_option maxHeartbeats 4000000 in
set_option maxRecDepth 100000 in
theorem k_V_take (l : Launch) (dC : Nat → ClassId) (dI : Nat → Nat → Nat) (cI cB cJ cZ : ClassId) (ad : Nat → Nat) (NN : Nat) (E : Heap) (tM tC : Nat) (kK kV : Nat → Nat) (hNN : 152 ≤ NN) (sz : Nat) (o : Nat) (x : St) (fo : o < NN ∧ kcC o = 0) {post : St → Prop} (hw : wp_V_take post o x) : Met l y_V_take (wsOf y_V_take b_V_take 2 (none)) ({ frames := 1, cells := 0, slots := 0, locals := 20 }) (va_Pc [.ref (ad o)] (PVc dC dI cI cB cJ cZ ad stC kcC NN E tM tC kK kV sz x)) (va_Qv (fun (y : St) => post y) (fun y t => Wd dC dI cI cB cJ cZ ad stC kcC NN (va_A (pic ad stC kcC NN cI cB cJ cZ x) sz) y t.heap) (va_A (pic ad stC kcC NN cI cB cJ cZ x) sz)) 0 0 (va_A (pic ad stC kcC NN cI cB cJ cZ x) sz) := by
  refine Met.ofW (cc := b_V_take) (maxL := 2) (ret := none) (by decide) rfl ?_
  intro p e s m args below meth c s₁ B hml hv
  obtain ⟨rfl, ⟨hsz, hW0, hK, hN⟩, hE⟩ := hv
  have hx := B.exec
  have hb := B.bytes
  have hr := B.returns
  have hts := atoms_spec B.pre
  have hT : ∀ w ∈ TG, w.before _ s = true := fun w h => hts w (List.mem_cons_of_mem _ h)
  have hown : s.vm.findClass R_V = some m.cls := findClass_of_methodNamed B.named
  have hlocks := B.notSynchronized
  subst hsz
  have hW : Wd dC dI cI cB cJ cZ ad stC kcC NN (va_A (pic ad stC kcC NN cI cB cJ cZ x) s.heap.size) x s.heap := ⟨hW0.1, hW0.2.1.self (sz := s.heap.size), hW0.2.2⟩
  generalize hAe : va_A (pic ad stC kcC NN cI cB cJ cZ x) s.heap.size = A at hW hE ⊢
  have hA : ∀ q : Nat, s.heap.size ≤ q → A q := fun q h => by rw [← hAe]; exact Or.inr h
  have hS : va_S A s.heap s.heap [] := va_S.rf
  have hl := lv_entry ([.ref (ad o)]) (n := 2) (Nat.le_of_ble_eq_true rfl)
  rw [lg_entry_eq]
  generalize (lg_sl ([.ref (ad o)]) ++ List.replicate (2 - (lg_sl ([.ref (ad o)])).length) Slot.unset).toArray = ls at hl ⊢
  have hl : lv_has ls 2 [(0, .ref (ad o))] := hl
  exact t_V_take_e hx hb hml hown hT hK hN hA (Nat.le_refl 0) (Nat.le_refl 0) (Nat.le_refl 1) (Nat.le_refl 20) hNN hE (fun x H locs pc ls hd hp hW hS => W.vret hx hb hr (fun t ht hM => ⟨⟨x, rfl, hp, Wd.back hW ht.symm (fun _ z => z)⟩, hS.F ht⟩) hS.2.2 hd hlocks)  o x _ _ ls fo hw hW hS hl
set_option maxRecDepth 100000 in
set_option maxHeartbeats 4000000 in
set_option maxRecDepth 100000 in
theorem t_V_size_e {p : Program} {l : Launch} {e : Env} {R : Room} {s : State} {m : MethodId} {args : Array Value} {below : List Frame} {meth : Method} {c : Code} {cells slots : Nat} {Q : State → Prop} {dC : Nat → ClassId} {dI : Nat → Nat → Nat} {cI cB cJ cZ : ClassId} {A : Nat → Prop} {ad : Nat → Nat} {NN : Nat} {E : Heap} {tM tC : Nat} {kK kV : Nat → Nat} {post : Int32 → St → Prop} (hx : p.tables.exec = Jvm.exec) (hb : c.code = b_V_size) (hml : c.maxLocals = 1) (hown : s.vm.findClass R_V = some m.cls) (hT : ∀ w ∈ TG, w.before args s = true) (hK : va_K (dC, dI) CL (TY cI cB cJ cZ) s) (hN : NW s) (hA : ∀ q : Nat, s.heap.size ≤ q → A q) (hRc : cells ≤ R.cells) (hRs : slots ≤ R.slots) (hRf : 0 ≤ R.frames) (hRl : 0 ≤ R.locals) (hNN : 152 ≤ NN) (hE : CE E tM tC kK kV A s) (hret : ∀ (r : Int32) (x : St) (H : Heap) (locs : List Loc) (pc : Nat) (ls : Array Slot), decode b_V_size pc = .ok (.ireturn, 1) → post r x → Wd dC dI cI cB cJ cZ ad stC kcC NN A x H → va_S A s.heap H locs → W p l e R s m args below meth c H locs cells slots Q (F0 m pc ls [.int r])) : ∀ (o : Nat) (x : St) (H : Heap) (locs : List Loc) (ls : Array Slot), (o < NN ∧ kcC o = 0) → wp_V_size post o x → Wd dC dI cI cB cJ cZ ad stC kcC NN A x H → va_S A s.heap H locs → lv_has ls 1 [(0, .ref (ad o))] → W p l e R s m args below meth c H locs cells slots Q (F0 m 0 ls []) := by
  intro o x H locs ls fo hw hW hS hl
  unfold wp_V_size at hw
  refine lv_aload_n hx hb d_V_size_0 rfl (lv_at hl 0 rfl) ?_
  obtain ⟨q1, hq1, hw⟩ := hw
  refine w_getr (q := q1) (k := 2) (t := 0) (C := R_V) (T := F_V) (N := 15) hx hb hT hown hK hW fo.1 fo.2 (by decide) in_V rfl rfl (by decide) rfl fr_V_2 w_3_237 d_V_size_1 hq1 (fun aq1 bq1 => ?_)
  have fq1 : q1 < NN ∧ kcC q1 = 1 := ⟨aq1, bq1⟩
  refine w_geti (k := 1) (t := 1) (C := R_Snk) (T := F_Snk) (N := 7) hx hb hT hown hK hW fq1.1 fq1.2 (by decide) in_Snk rfl rfl (by decide) rfl fr_Snk_1 w_1_44 d_V_size_4 ?_
  exact hret (fI x q1 1) x H locs 7 ls d_V_size_7 hw hW hS
set_option maxHeartbeats 4000000 in
set_option maxRecDepth 100000 in
theorem k_V_size (l : Launch) (dC : Nat → ClassId) (dI : Nat → Nat → Nat) (cI cB cJ cZ : ClassId) (ad : Nat → Nat) (NN : Nat) (E : Heap) (tM tC : Nat) (kK kV : Nat → Nat) (hNN : 152 ≤ NN) (sz : Nat) (o : Nat) (x : St) (fo : o < NN ∧ kcC o = 0) {post : Int32 → St → Prop} (hw : wp_V_size post o x) : Met l y_V_size (wsOf y_V_size b_V_size 1 (some (.int))) ({ frames := 0, cells := 0, slots := 0, locals := 0 }) (va_Pc [.ref (ad o)] (PVc dC dI cI cB cJ cZ ad stC kcC NN E tM tC kK kV sz x)) (va_Qi (fun (r : Int32) (y : St) => post r y) (fun y t => Wd dC dI cI cB cJ cZ ad stC kcC NN (va_A (pic ad stC kcC NN cI cB cJ cZ x) sz) y t.heap) (va_A (pic ad stC kcC NN cI cB cJ cZ x) sz)) 0 0 (va_A (pic ad stC kcC NN cI cB cJ cZ x) sz) := by
  refine Met.ofW (cc := b_V_size) (maxL := 1) (ret := some (.int)) (by decide) rfl ?_
  intro p e s m args below meth c s₁ B hml hv
  obtain ⟨rfl, ⟨hsz, hW0, hK, hN⟩, hE⟩ := hv
  have hx := B.exec
  have hb := B.bytes
  have hr := B.returns
  have hts := atoms_spec B.pre
  have hT : ∀ w ∈ TG, w.before _ s = true := fun w h => hts w (List.mem_cons_of_mem _ h)
  have hown : s.vm.findClass R_V = some m.cls := findClass_of_methodNamed B.named
  have hlocks := B.notSynchronized
  subst hsz
  have hW : Wd dC dI cI cB cJ cZ ad stC kcC NN (va_A (pic ad stC kcC NN cI cB cJ cZ x) s.heap.size) x s.heap := ⟨hW0.1, hW0.2.1.self (sz := s.heap.size), hW0.2.2⟩
  generalize hAe : va_A (pic ad stC kcC NN cI cB cJ cZ x) s.heap.size = A at hW hE ⊢
  have hA : ∀ q : Nat, s.heap.size ≤ q → A q := fun q h => by rw [← hAe]; exact Or.inr h
  have hS : va_S A s.heap s.heap [] := va_S.rf
  have hl := lv_entry ([.ref (ad o)]) (n := 1) (Nat.le_of_ble_eq_true rfl)
  rw [lg_entry_eq]
  generalize (lg_sl ([.ref (ad o)]) ++ List.replicate (1 - (lg_sl ([.ref (ad o)])).length) Slot.unset).toArray = ls at hl ⊢
  have hl : lv_has ls 1 [(0, .ref (ad o))] := hl
  exact t_V_size_e hx hb hml hown hT hK hN hA (Nat.le_refl 0) (Nat.le_refl 0) (Nat.le_refl 0) (Nat.le_refl 0) hNN hE (fun r x H locs pc ls hd hp hW hS => W.iret (v := r) hx hb hr (fun t ht hM => ⟨⟨r, x, rfl, hp, Wd.back hW ht.symm (fun _ z => z)⟩, hS.F ht⟩) hS.2.2 hd hlocks)  o x _ _ ls fo hw hW hS hl
set_option maxRecDepth 100000 in
set_option maxHeartbeats 4000000 in
set_option maxRecDepth 100000 in
theorem t_V_byteOf_15 {p : Program} {l : Launch} {e : Env} {R : Room} {s : State} {m : MethodId} {args : Array Value} {below : List Frame} {meth : Method} {c : Code} {cells slots : Nat} {Q : State → Prop} {dC : Nat → ClassId} {dI : Nat → Nat → Nat} {cI cB cJ cZ : ClassId} {A : Nat → Prop} {ad : Nat → Nat} {NN : Nat} {E : Heap} {tM tC : Nat} {kK kV : Nat → Nat} {post : Int32 → St → Prop} (hx : p.tables.exec = Jvm.exec) (hb : c.code = b_V_byteOf) (hml : c.maxLocals = 2) (hown : s.vm.findClass R_V = some m.cls) (hT : ∀ w ∈ TG, w.before args s = true) (hK : va_K (dC, dI) CL (TY cI cB cJ cZ) s) (hN : NW s) (hA : ∀ q : Nat, s.heap.size ≤ q → A q) (hRc : cells ≤ R.cells) (hRs : slots ≤ R.slots) (hRf : 0 ≤ R.frames) (hRl : 0 ≤ R.locals) (hNN : 152 ≤ NN) (hE : CE E tM tC kK kV A s) (hret : ∀ (r : Int32) (x : St) (H : Heap) (locs : List Loc) (pc : Nat) (ls : Array Slot), decode b_V_byteOf pc = .ok (.ireturn, 1) → post r x → Wd dC dI cI cB cJ cZ ad stC kcC NN A x H → va_S A s.heap H locs → W p l e R s m args below meth c H locs cells slots Q (F0 m pc ls [.int r]))  : ∀ (o : Nat) (l1 : Int32) (x : St) (H : Heap) (locs : List Loc) (ls : Array Slot), (o < NN ∧ kcC o = 0) → j_V_byteOf_15 post o l1 x → Wd dC dI cI cB cJ cZ ad stC kcC NN A x H → va_S A s.heap H locs → lv_has ls 2 [(0, .ref (ad o)), (1, .int l1)] → W p l e R s m args below meth c H locs cells slots Q (F0 m 15 ls []) := by
  intro o l1 x H locs ls fo hw hW hS hl
  unfold j_V_byteOf_15 at hw
  refine lv_iconst (v := (-1)) hx hb d_V_byteOf_15 (by decide) ?_
  refine lv_goto (tgt := 32) hx hb d_V_byteOf_16 (by decide) ?_
  exact hret (-1) x H locs 32 ls d_V_byteOf_32 hw hW hS
set_option maxRecDepth 100000 in
set_option maxHeartbeats 4000000 in
set_option maxRecDepth 100000 in
theorem t_V_byteOf_e {p : Program} {l : Launch} {e : Env} {R : Room} {s : State} {m : MethodId} {args : Array Value} {below : List Frame} {meth : Method} {c : Code} {cells slots : Nat} {Q : State → Prop} {dC : Nat → ClassId} {dI : Nat → Nat → Nat} {cI cB cJ cZ : ClassId} {A : Nat → Prop} {ad : Nat → Nat} {NN : Nat} {E : Heap} {tM tC : Nat} {kK kV : Nat → Nat} {post : Int32 → St → Prop} (hx : p.tables.exec = Jvm.exec) (hb : c.code = b_V_byteOf) (hml : c.maxLocals = 2) (hown : s.vm.findClass R_V = some m.cls) (hT : ∀ w ∈ TG, w.before args s = true) (hK : va_K (dC, dI) CL (TY cI cB cJ cZ) s) (hN : NW s) (hA : ∀ q : Nat, s.heap.size ≤ q → A q) (hRc : cells ≤ R.cells) (hRs : slots ≤ R.slots) (hRf : 0 ≤ R.frames) (hRl : 0 ≤ R.locals) (hNN : 152 ≤ NN) (hE : CE E tM tC kK kV A s) (hret : ∀ (r : Int32) (x : St) (H : Heap) (locs : List Loc) (pc : Nat) (ls : Array Slot), decode b_V_byteOf pc = .ok (.ireturn, 1) → post r x → Wd dC dI cI cB cJ cZ ad stC kcC NN A x H → va_S A s.heap H locs → W p l e R s m args below meth c H locs cells slots Q (F0 m pc ls [.int r])) : ∀ (o : Nat) (l1 : Int32) (x : St) (H : Heap) (locs : List Loc) (ls : Array Slot), (o < NN ∧ kcC o = 0) → wp_V_byteOf post o l1 x → Wd dC dI cI cB cJ cZ ad stC kcC NN A x H → va_S A s.heap H locs → lv_has ls 2 [(0, .ref (ad o)), (1, .int l1)] → W p l e R s m args below meth c H locs cells slots Q (F0 m 0 ls []) := by
  intro o l1 x H locs ls fo hw hW hS hl
  unfold wp_V_byteOf at hw
  refine lv_iload_n hx hb d_V_byteOf_0 rfl (lv_at hl 1 rfl) ?_
  refine lv_if_lt (tgt := 15) hx hb d_V_byteOf_1 (by decide) (fun c1 => ?_) (fun c1 => ?_)
  · have hw := hw.1 c1
    exact t_V_byteOf_15 hx hb hml hown hT hK hN hA hRc hRs hRf hRl hNN hE hret  o l1 x H locs ls fo hw hW hS (lv_sub hl [0, 1] rfl)
  · have hw := hw.2 c1
    refine lv_iload_n hx hb d_V_byteOf_4 rfl (lv_at hl 1 rfl) ?_
    refine lv_aload_n hx hb d_V_byteOf_5 rfl (lv_at hl 0 rfl) ?_
    obtain ⟨q2, hq2, hw⟩ := hw
    refine w_getr (q := q2) (k := 2) (t := 0) (C := R_V) (T := F_V) (N := 15) hx hb hT hown hK hW fo.1 fo.2 (by decide) in_V rfl rfl (by decide) rfl fr_V_2 w_3_237 d_V_byteOf_6 hq2 (fun aq2 bq2 => ?_)
    have fq2 : q2 < NN ∧ kcC q2 = 1 := ⟨aq2, bq2⟩
    refine w_geti (k := 1) (t := 1) (C := R_Snk) (T := F_Snk) (N := 7) hx hb hT hown hK hW fq2.1 fq2.2 (by decide) in_Snk rfl rfl (by decide) rfl fr_Snk_1 w_1_44 d_V_byteOf_9 ?_
    refine lv_icmp_lt (tgt := 19) hx hb d_V_byteOf_12 (by decide) (fun c3 => ?_) (fun c3 => ?_)
    · have hw := hw.1 c3
      refine lv_aload_n hx hb d_V_byteOf_19 rfl (lv_at hl 0 rfl) ?_
      obtain ⟨q4, hq4, hw⟩ := hw
      refine w_getr (q := q4) (k := 2) (t := 0) (C := R_V) (T := F_V) (N := 15) hx hb hT hown hK hW fo.1 fo.2 (by decide) in_V rfl rfl (by decide) rfl fr_V_2 w_3_237 d_V_byteOf_20 hq4 (fun aq4 bq4 => ?_)
      have fq4 : q4 < NN ∧ kcC q4 = 1 := ⟨aq4, bq4⟩
      obtain ⟨q5, hq5, hw⟩ := hw
      refine w_getr (q := q5) (k := 0) (t := 1) (C := R_Snk) (T := F_Snk) (N := 7) hx hb hT hown hK hW fq4.1 fq4.2 (by decide) in_Snk rfl rfl (by decide) rfl fr_Snk_0 w_1_42 d_V_byteOf_23 hq5 (fun aq5 bq5 => ?_)
      have fq5 : q5 < NN ∧ kcC q5 = 21 := ⟨aq5, bq5⟩
      refine lv_iload_n hx hb d_V_byteOf_26 rfl (lv_at hl 1 rfl) ?_
      obtain ⟨hi, hw⟩ := hw
      refine w_bald (o := q5) hx hb hK hW fq5.1 fq5.2 hi d_V_byteOf_27 ?_
      refine lv_sipush (v := 255) hx hb d_V_byteOf_28 (by decide) ?_
      refine lv_iand hx hb d_V_byteOf_31 ?_
      exact hret ((rA x q5 l1) &&& 255) x H locs 32 ls d_V_byteOf_32 hw hW hS
    · have hw := hw.2 c3
      exact t_V_byteOf_15 hx hb hml hown hT hK hN hA hRc hRs hRf hRl hNN hE hret  o l1 x H locs ls fo hw hW hS (lv_sub hl [0, 1] rfl)
set_option maxHeartbeats 4000000 in
set_option maxRecDepth 100000 in
theorem k_V_byteOf (l : Launch) (dC : Nat → ClassId) (dI : Nat → Nat → Nat) (cI cB cJ cZ : ClassId) (ad : Nat → Nat) (NN : Nat) (E : Heap) (tM tC : Nat) (kK kV : Nat → Nat) (hNN : 152 ≤ NN) (sz : Nat) (o : Nat) (l1 : Int32) (x : St) (fo : o < NN ∧ kcC o = 0) {post : Int32 → St → Prop} (hw : wp_V_byteOf post o l1 x) : Met l y_V_byteOf (wsOf y_V_byteOf b_V_byteOf 2 (some (.int))) ({ frames := 0, cells := 0, slots := 0, locals := 0 }) (va_Pc [.ref (ad o), .int l1] (PVc dC dI cI cB cJ cZ ad stC kcC NN E tM tC kK kV sz x)) (va_Qi (fun (r : Int32) (y : St) => post r y) (fun y t => Wd dC dI cI cB cJ cZ ad stC kcC NN (va_A (pic ad stC kcC NN cI cB cJ cZ x) sz) y t.heap) (va_A (pic ad stC kcC NN cI cB cJ cZ x) sz)) 0 0 (va_A (pic ad stC kcC NN cI cB cJ cZ x) sz) := by
  refine Met.ofW (cc := b_V_byteOf) (maxL := 2) (ret := some (.int)) (by decide) rfl ?_
  intro p e s m args below meth c s₁ B hml hv
  obtain ⟨rfl, ⟨hsz, hW0, hK, hN⟩, hE⟩ := hv
  have hx := B.exec
  have hb := B.bytes
  have hr := B.returns
  have hts := atoms_spec B.pre
  have hT : ∀ w ∈ TG, w.before _ s = true := fun w h => hts w (List.mem_cons_of_mem _ h)
  have hown : s.vm.findClass R_V = some m.cls := findClass_of_methodNamed B.named
  have hlocks := B.notSynchronized
  subst hsz
  have hW : Wd dC dI cI cB cJ cZ ad stC kcC NN (va_A (pic ad stC kcC NN cI cB cJ cZ x) s.heap.size) x s.heap := ⟨hW0.1, hW0.2.1.self (sz := s.heap.size), hW0.2.2⟩
  generalize hAe : va_A (pic ad stC kcC NN cI cB cJ cZ x) s.heap.size = A at hW hE ⊢
  have hA : ∀ q : Nat, s.heap.size ≤ q → A q := fun q h => by rw [← hAe]; exact Or.inr h
  have hS : va_S A s.heap s.heap [] := va_S.rf
  have hl := lv_entry ([.ref (ad o), .int l1]) (n := 2) (Nat.le_of_ble_eq_true rfl)
  rw [lg_entry_eq]
  generalize (lg_sl ([.ref (ad o), .int l1]) ++ List.replicate (2 - (lg_sl ([.ref (ad o), .int l1])).length) Slot.unset).toArray = ls at hl ⊢
  have hl : lv_has ls 2 [(0, .ref (ad o)), (1, .int l1)] := hl
  exact t_V_byteOf_e hx hb hml hown hT hK hN hA (Nat.le_refl 0) (Nat.le_refl 0) (Nat.le_refl 0) (Nat.le_refl 0) hNN hE (fun r x H locs pc ls hd hp hW hS => W.iret (v := r) hx hb hr (fun t ht hM => ⟨⟨r, x, rfl, hp, Wd.back hW ht.symm (fun _ z => z)⟩, hS.F ht⟩) hS.2.2 hd hlocks)  o l1 x _ _ ls fo hw hW hS hl
set_option maxRecDepth 100000 in
set_option maxHeartbeats 4000000 in
set_option maxRecDepth 100000 in
theorem t_V_poke_15 {p : Program} {l : Launch} {e : Env} {R : Room} {s : State} {m : MethodId} {args : Array Value} {below : List Frame} {meth : Method} {c : Code} {cells slots : Nat} {Q : State → Prop} {dC : Nat → ClassId} {dI : Nat → Nat → Nat} {cI cB cJ cZ : ClassId} {A : Nat → Prop} {ad : Nat → Nat} {NN : Nat} {E : Heap} {tM tC : Nat} {kK kV : Nat → Nat} {post : Int32 → St → Prop} (hx : p.tables.exec = Jvm.exec) (hb : c.code = b_V_poke) (hml : c.maxLocals = 3) (hown : s.vm.findClass R_V = some m.cls) (hT : ∀ w ∈ TG, w.before args s = true) (hK : va_K (dC, dI) CL (TY cI cB cJ cZ) s) (hN : NW s) (hA : ∀ q : Nat, s.heap.size ≤ q → A q) (hRc : cells ≤ R.cells) (hRs : slots ≤ R.slots) (hRf : 0 ≤ R.frames) (hRl : 0 ≤ R.locals) (hNN : 152 ≤ NN) (hE : CE E tM tC kK kV A s) (hret : ∀ (r : Int32) (x : St) (H : Heap) (locs : List Loc) (pc : Nat) (ls : Array Slot), decode b_V_poke pc = .ok (.ireturn, 1) → narrow .boolean (.int r) = .int r → post r x → Wd dC dI cI cB cJ cZ ad stC kcC NN A x H → va_S A s.heap H locs → W p l e R s m args below meth c H locs cells slots Q (F0 m pc ls [.int r]))  : ∀ (o : Nat) (l1 : Int32) (l2 : Int32) (x : St) (H : Heap) (locs : List Loc) (ls : Array Slot), (o < NN ∧ kcC o = 0) → j_V_poke_15 post o l1 l2 x → Wd dC dI cI cB cJ cZ ad stC kcC NN A x H → va_S A s.heap H locs → lv_has ls 3 [(0, .ref (ad o)), (1, .int l1), (2, .int l2)] → W p l e R s m args below meth c H locs cells slots Q (F0 m 15 ls []) := by
  intro o l1 l2 x H locs ls fo hw hW hS hl
  unfold j_V_poke_15 at hw
  refine lv_iconst (v := 0) hx hb d_V_poke_15 (by decide) ?_
  exact hret 0 x H locs 16 ls d_V_poke_16 rfl hw hW hS
set_option maxRecDepth 100000 in
set_option maxHeartbeats 4000000 in
set_option maxRecDepth 100000 in
theorem t_V_poke_e {p : Program} {l : Launch} {e : Env} {R : Room} {s : State} {m : MethodId} {args : Array Value} {below : List Frame} {meth : Method} {c : Code} {cells slots : Nat} {Q : State → Prop} {dC : Nat → ClassId} {dI : Nat → Nat → Nat} {cI cB cJ cZ : ClassId} {A : Nat → Prop} {ad : Nat → Nat} {NN : Nat} {E : Heap} {tM tC : Nat} {kK kV : Nat → Nat} {post : Int32 → St → Prop} (hx : p.tables.exec = Jvm.exec) (hb : c.code = b_V_poke) (hml : c.maxLocals = 3) (hown : s.vm.findClass R_V = some m.cls) (hT : ∀ w ∈ TG, w.before args s = true) (hK : va_K (dC, dI) CL (TY cI cB cJ cZ) s) (hN : NW s) (hA : ∀ q : Nat, s.heap.size ≤ q → A q) (hRc : cells ≤ R.cells) (hRs : slots ≤ R.slots) (hRf : 0 ≤ R.frames) (hRl : 0 ≤ R.locals) (hNN : 152 ≤ NN) (hE : CE E tM tC kK kV A s) (hret : ∀ (r : Int32) (x : St) (H : Heap) (locs : List Loc) (pc : Nat) (ls : Array Slot), decode b_V_poke pc = .ok (.ireturn, 1) → narrow .boolean (.int r) = .int r → post r x → Wd dC dI cI cB cJ cZ ad stC kcC NN A x H → va_S A s.heap H locs → W p l e R s m args below meth c H locs cells slots Q (F0 m pc ls [.int r])) : ∀ (o : Nat) (l1 : Int32) (l2 : Int32) (x : St) (H : Heap) (locs : List Loc) (ls : Array Slot), (o < NN ∧ kcC o = 0) → wp_V_poke post o l1 l2 x → Wd dC dI cI cB cJ cZ ad stC kcC NN A x H → va_S A s.heap H locs → lv_has ls 3 [(0, .ref (ad o)), (1, .int l1), (2, .int l2)] → W p l e R s m args below meth c H locs cells slots Q (F0 m 0 ls []) := by
  intro o l1 l2 x H locs ls fo hw hW hS hl
  unfold wp_V_poke at hw
  refine lv_iload_n hx hb d_V_poke_0 rfl (lv_at hl 1 rfl) ?_
  refine lv_if_lt (tgt := 15) hx hb d_V_poke_1 (by decide) (fun c1 => ?_) (fun c1 => ?_)
  · have hw := hw.1 c1
    exact t_V_poke_15 hx hb hml hown hT hK hN hA hRc hRs hRf hRl hNN hE hret  o l1 l2 x H locs ls fo hw hW hS (lv_sub hl [0, 1, 2] rfl)
  · have hw := hw.2 c1
    refine lv_iload_n hx hb d_V_poke_4 rfl (lv_at hl 1 rfl) ?_
    refine lv_aload_n hx hb d_V_poke_5 rfl (lv_at hl 0 rfl) ?_
    obtain ⟨q2, hq2, hw⟩ := hw
    refine w_getr (q := q2) (k := 2) (t := 0) (C := R_V) (T := F_V) (N := 15) hx hb hT hown hK hW fo.1 fo.2 (by decide) in_V rfl rfl (by decide) rfl fr_V_2 w_3_237 d_V_poke_6 hq2 (fun aq2 bq2 => ?_)
    have fq2 : q2 < NN ∧ kcC q2 = 1 := ⟨aq2, bq2⟩
    refine w_geti (k := 1) (t := 1) (C := R_Snk) (T := F_Snk) (N := 7) hx hb hT hown hK hW fq2.1 fq2.2 (by decide) in_Snk rfl rfl (by decide) rfl fr_Snk_1 w_1_44 d_V_poke_9 ?_
    refine lv_icmp_lt (tgt := 17) hx hb d_V_poke_12 (by decide) (fun c3 => ?_) (fun c3 => ?_)
    · have hw := hw.1 c3
      refine lv_aload_n hx hb d_V_poke_17 rfl (lv_at hl 0 rfl) ?_
      obtain ⟨q4, hq4, hw⟩ := hw
      refine w_getr (q := q4) (k := 2) (t := 0) (C := R_V) (T := F_V) (N := 15) hx hb hT hown hK hW fo.1 fo.2 (by decide) in_V rfl rfl (by decide) rfl fr_V_2 w_3_237 d_V_poke_18 hq4 (fun aq4 bq4 => ?_)
      have fq4 : q4 < NN ∧ kcC q4 = 1 := ⟨aq4, bq4⟩
      obtain ⟨q5, hq5, hw⟩ := hw
      refine w_getr (q := q5) (k := 0) (t := 1) (C := R_Snk) (T := F_Snk) (N := 7) hx hb hT hown hK hW fq4.1 fq4.2 (by decide) in_Snk rfl rfl (by decide) rfl fr_Snk_0 w_1_42 d_V_poke_21 hq5 (fun aq5 bq5 => ?_)
      have fq5 : q5 < NN ∧ kcC q5 = 21 := ⟨aq5, bq5⟩
      refine lv_iload_n hx hb d_V_poke_24 rfl (lv_at hl 1 rfl) ?_
      refine lv_iload_n hx hb d_V_poke_25 rfl (lv_at hl 2 rfl) ?_
      refine lv_i2b hx hb d_V_poke_26 rfl ?_
      obtain ⟨hi, hw⟩ := hw
      refine w_bast (o := q5) hx hb hK hW hS fq5.1 fq5.2 hi d_V_poke_27 (fun H locs hW hS => ?_)
      obtain ⟨x6, ex6⟩ : ∃ y : St, y = setA x q5 l1 (vp_nar .byte (l2 : Int32).toInt8.toInt32) := ⟨_, rfl⟩
      rw [← ex6] at hW
      have hw := hw x6 ex6
      refine lv_iconst (v := 1) hx hb d_V_poke_28 (by decide) ?_
      exact hret 1 x6 H locs 29 ls d_V_poke_29 rfl hw hW hS
    · have hw := hw.2 c3
      exact t_V_poke_15 hx hb hml hown hT hK hN hA hRc hRs hRf hRl hNN hE hret  o l1 l2 x H locs ls fo hw hW hS (lv_sub hl [0, 1, 2] rfl)
set_option maxHeartbeats 4000000 in
set_option maxRecDepth 100000 in
theorem k_V_poke (l : Launch) (dC : Nat → ClassId) (dI : Nat → Nat → Nat) (cI cB cJ cZ : ClassId) (ad : Nat → Nat) (NN : Nat) (E : Heap) (tM tC : Nat) (kK kV : Nat → Nat) (hNN : 152 ≤ NN) (sz : Nat) (o : Nat) (l1 : Int32) (l2 : Int32) (x : St) (fo : o < NN ∧ kcC o = 0) {post : Int32 → St → Prop} (hw : wp_V_poke post o l1 l2 x) : Met l y_V_poke (wsOf y_V_poke b_V_poke 3 (some (.boolean))) ({ frames := 0, cells := 0, slots := 0, locals := 0 }) (va_Pc [.ref (ad o), .int l1, .int l2] (PVc dC dI cI cB cJ cZ ad stC kcC NN E tM tC kK kV sz x)) (va_Qi (fun (r : Int32) (y : St) => post r y) (fun y t => Wd dC dI cI cB cJ cZ ad stC kcC NN (va_A (pic ad stC kcC NN cI cB cJ cZ x) sz) y t.heap) (va_A (pic ad stC kcC NN cI cB cJ cZ x) sz)) 0 0 (va_A (pic ad stC kcC NN cI cB cJ cZ x) sz) := by
  refine Met.ofW (cc := b_V_poke) (maxL := 3) (ret := some (.boolean)) (by decide) rfl ?_
  intro p e s m args below meth c s₁ B hml hv
  obtain ⟨rfl, ⟨hsz, hW0, hK, hN⟩, hE⟩ := hv
  have hx := B.exec
  have hb := B.bytes
  have hr := B.returns
  have hts := atoms_spec B.pre
  have hT : ∀ w ∈ TG, w.before _ s = true := fun w h => hts w (List.mem_cons_of_mem _ h)
  have hown : s.vm.findClass R_V = some m.cls := findClass_of_methodNamed B.named
  have hlocks := B.notSynchronized
  subst hsz
  have hW : Wd dC dI cI cB cJ cZ ad stC kcC NN (va_A (pic ad stC kcC NN cI cB cJ cZ x) s.heap.size) x s.heap := ⟨hW0.1, hW0.2.1.self (sz := s.heap.size), hW0.2.2⟩
  generalize hAe : va_A (pic ad stC kcC NN cI cB cJ cZ x) s.heap.size = A at hW hE ⊢
  have hA : ∀ q : Nat, s.heap.size ≤ q → A q := fun q h => by rw [← hAe]; exact Or.inr h
  have hS : va_S A s.heap s.heap [] := va_S.rf
  have hl := lv_entry ([.ref (ad o), .int l1, .int l2]) (n := 3) (Nat.le_of_ble_eq_true rfl)
  rw [lg_entry_eq]
  generalize (lg_sl ([.ref (ad o), .int l1, .int l2]) ++ List.replicate (3 - (lg_sl ([.ref (ad o), .int l1, .int l2])).length) Slot.unset).toArray = ls at hl ⊢
  have hl : lv_has ls 3 [(0, .ref (ad o)), (1, .int l1), (2, .int l2)] := hl
  exact t_V_poke_e hx hb hml hown hT hK hN hA (Nat.le_refl 0) (Nat.le_refl 0) (Nat.le_refl 0) (Nat.le_refl 0) hNN hE (fun r x H locs pc ls hd hz hp hW hS => W.zret (v := r) (ty := .boolean) hx hb hr hz (fun t ht hM => ⟨⟨r, x, rfl, hp, Wd.back hW ht.symm (fun _ z => z)⟩, hS.F ht⟩) hS.2.2 hd hlocks)  o l1 l2 x _ _ ls fo hw hW hS hl
set_option maxRecDepth 100000 in
set_option maxHeartbeats 4000000 in
set_option maxRecDepth 100000 in
theorem t_Opn_lookAt_e {p : Program} {l : Launch} {e : Env} {R : Room} {s : State} {m : MethodId} {args : Array Value} {below : List Frame} {meth : Method} {c : Code} {cells slots : Nat} {Q : State → Prop} {dC : Nat → ClassId} {dI : Nat → Nat → Nat} {cI cB cJ cZ : ClassId} {A : Nat → Prop} {ad : Nat → Nat} {NN : Nat} {E : Heap} {tM tC : Nat} {kK kV : Nat → Nat} {post : St → Prop} (hx : p.tables.exec = Jvm.exec) (hb : c.code = b_Opn_lookAt) (hml : c.maxLocals = 4) (hown : s.vm.findClass R_Opn = some m.cls) (hT : ∀ w ∈ TG, w.before args s = true) (hK : va_K (dC, dI) CL (TY cI cB cJ cZ) s) (hN : NW s) (hA : ∀ q : Nat, s.heap.size ≤ q → A q) (hRc : cells ≤ R.cells) (hRs : slots ≤ R.slots) (hRf : 0 ≤ R.frames) (hRl : 0 ≤ R.locals) (hNN : 152 ≤ NN) (hE : CE E tM tC kK kV A s) (hret : ∀ (x : St) (H : Heap) (locs : List Loc) (pc : Nat) (ls : Array Slot), decode b_Opn_lookAt pc = .ok (.return_, 1) → post x → Wd dC dI cI cB cJ cZ ad stC kcC NN A x H → va_S A s.heap H locs → W p l e R s m args below meth c H locs cells slots Q (F0 m pc ls [])) : ∀ (o : Nat) (l1 : Int32) (l2 : Int32) (l3 : Int32) (x : St) (H : Heap) (locs : List Loc) (ls : Array Slot), (o < NN ∧ kcC o = 7) → wp_Opn_lookAt post o l1 l2 l3 x → Wd dC dI cI cB cJ cZ ad stC kcC NN A x H → va_S A s.heap H locs → lv_has ls 4 [(0, .ref (ad o)), (1, .int l1), (2, .int l2), (3, .int l3)] → W p l e R s m args below meth c H locs cells slots Q (F0 m 0 ls []) := by
  intro o l1 l2 l3 x H locs ls fo hw hW hS hl
  unfold wp_Opn_lookAt at hw
  refine lv_aload_n hx hb d_Opn_lookAt_0 rfl (lv_at hl 0 rfl) ?_
  refine w_getf (q := (stC o 4)) (k := 4) (t := 7) (C := R_Opn) (T := F_Opn) (N := 17) hx hb hT hown hK hW fo.1 fo.2 (by decide) in_Opn rfl rfl (by decide) rfl fr_Opn_4 w_3_19 d_Opn_lookAt_1 rfl ?_
  refine lv_iconst (v := 0) hx hb d_Opn_lookAt_4 (by decide) ?_
  refine lv_iload_n hx hb d_Opn_lookAt_5 rfl (lv_at hl 1 rfl) ?_
  obtain ⟨hi, hw⟩ := hw
  refine w_iast (o := (stC o 4)) hx hb hK hW hS (st_ty hNN fo.1 fo.2 rfl).1 (st_ty hNN fo.1 fo.2 rfl).2 hi d_Opn_lookAt_6 (fun H locs hW hS => ?_)
  obtain ⟨x1, ex1⟩ : ∃ y : St, y = setA x (stC o 4) 0 l1 := ⟨_, rfl⟩
  rw [← ex1] at hW
  have hw := hw x1 ex1
  refine lv_aload_n hx hb d_Opn_lookAt_7 rfl (lv_at hl 0 rfl) ?_
  refine w_getf (q := (stC o 4)) (k := 4) (t := 7) (C := R_Opn) (T := F_Opn) (N := 17) hx hb hT hown hK hW fo.1 fo.2 (by decide) in_Opn rfl rfl (by decide) rfl fr_Opn_4 w_3_19 d_Opn_lookAt_8 rfl ?_
  refine lv_iconst (v := 1) hx hb d_Opn_lookAt_11 (by decide) ?_
  refine lv_iload_n hx hb d_Opn_lookAt_12 rfl (lv_at hl 2 rfl) ?_
  obtain ⟨hi, hw⟩ := hw
  refine w_iast (o := (stC o 4)) hx hb hK hW hS (st_ty hNN fo.1 fo.2 rfl).1 (st_ty hNN fo.1 fo.2 rfl).2 hi d_Opn_lookAt_13 (fun H locs hW hS => ?_)
  obtain ⟨x2, ex2⟩ : ∃ y : St, y = setA x1 (stC o 4) 1 l2 := ⟨_, rfl⟩
  rw [← ex2] at hW
  have hw := hw x2 ex2
  refine lv_aload_n hx hb d_Opn_lookAt_14 rfl (lv_at hl 0 rfl) ?_
  refine w_getf (q := (stC o 4)) (k := 4) (t := 7) (C := R_Opn) (T := F_Opn) (N := 17) hx hb hT hown hK hW fo.1 fo.2 (by decide) in_Opn rfl rfl (by decide) rfl fr_Opn_4 w_3_19 d_Opn_lookAt_15 rfl ?_
  refine lv_iconst (v := 2) hx hb d_Opn_lookAt_18 (by decide) ?_
  refine lv_iload_n hx hb d_Opn_lookAt_19 rfl (lv_at hl 3 rfl) ?_
  obtain ⟨hi, hw⟩ := hw
  refine w_iast (o := (stC o 4)) hx hb hK hW hS (st_ty hNN fo.1 fo.2 rfl).1 (st_ty hNN fo.1 fo.2 rfl).2 hi d_Opn_lookAt_20 (fun H locs hW hS => ?_)
  obtain ⟨x3, ex3⟩ : ∃ y : St, y = setA x2 (stC o 4) 2 l3 := ⟨_, rfl⟩
  rw [← ex3] at hW
  have hw := hw x3 ex3
  exact hret x3 H locs 21 ls d_Opn_lookAt_21 hw hW hS
set_option maxHeartbeats 4000000 in
set_option maxRecDepth 100000 in
theorem k_Opn_lookAt (l : Launch) (dC : Nat → ClassId) (dI : Nat → Nat → Nat) (cI cB cJ cZ : ClassId) (ad : Nat → Nat) (NN : Nat) (E : Heap) (tM tC : Nat) (kK kV : Nat → Nat) (hNN : 152 ≤ NN) (sz : Nat) (o : Nat) (l1 : Int32) (l2 : Int32) (l3 : Int32) (x : St) (fo : o < NN ∧ kcC o = 7) {post : St → Prop} (hw : wp_Opn_lookAt post o l1 l2 l3 x) : Met l y_Opn_lookAt (wsOf y_Opn_lookAt b_Opn_lookAt 4 (none)) ({ frames := 0, cells := 0, slots := 0, locals := 0 }) (va_Pc [.ref (ad o), .int l1, .int l2, .int l3] (PVc dC dI cI cB cJ cZ ad stC kcC NN E tM tC kK kV sz x)) (va_Qv (fun (y : St) => post y) (fun y t => Wd dC dI cI cB cJ cZ ad stC kcC NN (va_A (pic ad stC kcC NN cI cB cJ cZ x) sz) y t.heap) (va_A (pic ad stC kcC NN cI cB cJ cZ x) sz)) 0 0 (va_A (pic ad stC kcC NN cI cB cJ cZ x) sz) := by
  refine Met.ofW (cc := b_Opn_lookAt) (maxL := 4) (ret := none) (by decide) rfl ?_
  intro p e s m args below meth c s₁ B hml hv
  obtain ⟨rfl, ⟨hsz, hW0, hK, hN⟩, hE⟩ := hv
  have hx := B.exec
  have hb := B.bytes
  have hr := B.returns
  have hts := atoms_spec B.pre
  have hT : ∀ w ∈ TG, w.before _ s = true := fun w h => hts w (List.mem_cons_of_mem _ h)
  have hown : s.vm.findClass R_Opn = some m.cls := findClass_of_methodNamed B.named
  have hlocks := B.notSynchronized
  subst hsz
  have hW : Wd dC dI cI cB cJ cZ ad stC kcC NN (va_A (pic ad stC kcC NN cI cB cJ cZ x) s.heap.size) x s.heap := ⟨hW0.1, hW0.2.1.self (sz := s.heap.size), hW0.2.2⟩
  generalize hAe : va_A (pic ad stC kcC NN cI cB cJ cZ x) s.heap.size = A at hW hE ⊢
  have hA : ∀ q : Nat, s.heap.size ≤ q → A q := fun q h => by rw [← hAe]; exact Or.inr h
  have hS : va_S A s.heap s.heap [] := va_S.rf
  have hl := lv_entry ([.ref (ad o), .int l1, .int l2, .int l3]) (n := 4) (Nat.le_of_ble_eq_true rfl)
  rw [lg_entry_eq]
  generalize (lg_sl ([.ref (ad o), .int l1, .int l2, .int l3]) ++ List.replicate (4 - (lg_sl ([.ref (ad o), .int l1, .int l2, .int l3])).length) Slot.unset).toArray = ls at hl ⊢
  have hl : lv_has ls 4 [(0, .ref (ad o)), (1, .int l1), (2, .int l2), (3, .int l3)] := hl
  exact t_Opn_lookAt_e hx hb hml hown hT hK hN hA (Nat.le_refl 0) (Nat.le_refl 0) (Nat.le_refl 0) (Nat.le_refl 0) hNN hE (fun x H locs pc ls hd hp hW hS => W.vret hx hb hr (fun t ht hM => ⟨⟨x, rfl, hp, Wd.back hW ht.symm (fun _ z => z)⟩, hS.F ht⟩) hS.2.2 hd hlocks)  o l1 l2 l3 x _ _ ls fo hw hW hS hl
set_option maxRecDepth 100000 in
set_option maxHeartbeats 4000000 in
set_option maxRecDepth 100000 in
theorem t_Src_begin_e {p : Program} {l : Launch} {e : Env} {R : Room} {s : State} {m : MethodId} {args : Array Value} {below : List Frame} {meth : Method} {c : Code} {cells slots : Nat} {Q : State → Prop} {dC : Nat → ClassId} {dI : Nat → Nat → Nat} {cI cB cJ cZ : ClassId} {A : Nat → Prop} {ad : Nat → Nat} {NN : Nat} {E : Heap} {tM tC : Nat} {kK kV : Nat → Nat} {post : St → Prop} (hx : p.tables.exec = Jvm.exec) (hb : c.code = b_Src_begin) (hml : c.maxLocals = 3) (hown : s.vm.findClass R_Src = some m.cls) (hT : ∀ w ∈ TG, w.before args s = true) (hK : va_K (dC, dI) CL (TY cI cB cJ cZ) s) (hN : NW s) (hA : ∀ q : Nat, s.heap.size ≤ q → A q) (hRc : cells ≤ R.cells) (hRs : slots ≤ R.slots) (hRf : 1 ≤ R.frames) (hRl : 80 ≤ R.locals) (hNN : 152 ≤ NN) (hE : CE E tM tC kK kV A s) (hret : ∀ (x : St) (H : Heap) (locs : List Loc) (pc : Nat) (ls : Array Slot), decode b_Src_begin pc = .ok (.return_, 1) → post x → Wd dC dI cI cB cJ cZ ad stC kcC NN A x H → va_S A s.heap H locs → W p l e R s m args below meth c H locs cells slots Q (F0 m pc ls [])) : ∀ (o : Nat) (l1 : Int32) (l2 : Int32) (x : St) (H : Heap) (locs : List Loc) (ls : Array Slot), (o < NN ∧ kcC o = 8) → wp_Src_begin post o l1 l2 x → Wd dC dI cI cB cJ cZ ad stC kcC NN A x H → va_S A s.heap H locs → lv_has ls 3 [(0, .ref (ad o)), (1, .int l1), (2, .int l2)] → W p l e R s m args below meth c H locs cells slots Q (F0 m 0 ls []) := by
  intro o l1 l2 x H locs ls fo hw hW hS hl
  unfold wp_Src_begin at hw
  refine lv_aload_n hx hb d_Src_begin_0 rfl (lv_at hl 0 rfl) ?_
  refine lv_iload_n hx hb d_Src_begin_1 rfl (lv_at hl 1 rfl) ?_
  refine w_puti (ty := .int) (k := 1) (t := 8) (C := R_Src) (T := F_Src) (N := 5) hx hb hT hown hK hW hS fo.1 fo.2 (by decide) in_Src t_Src t_Src_ok n_Src rfl rfl (by decide) rfl fr_Src_1 w_2_237 (by decide +kernel) rfl rfl d_Src_begin_2 (fun H locs hW hS => ?_)
  obtain ⟨x1, ex1⟩ : ∃ y : St, y = setI x o 1 l1 := ⟨_, rfl⟩
  rw [← ex1] at hW
  have hw := hw x1 ex1
  refine lv_aload_n hx hb d_Src_begin_5 rfl (lv_at hl 0 rfl) ?_
  refine lv_iload_n hx hb d_Src_begin_6 rfl (lv_at hl 2 rfl) ?_
  refine lv_aload_n hx hb d_Src_begin_7 rfl (lv_at hl 0 rfl) ?_
  refine w_getf (q := (stC o 0)) (k := 0) (t := 8) (C := R_Src) (T := F_Src) (N := 5) hx hb hT hown hK hW fo.1 fo.2 (by decide) in_Src rfl rfl (by decide) rfl fr_Src_0 w_2_236 d_Src_begin_8 rfl ?_
  refine w_alen (o := (stC o 0)) (t0 := 1) hx hb hK hW (pic_byte (st_ty hNN fo.1 fo.2 rfl).1 (st_ty hNN fo.1 fo.2 rfl).2) rfl rfl d_Src_begin_11 ?_
  refine va_mmin hx hb (hml.trans hl.1.symm) hown (hT _ w_6_89) (hT _ w_1_38) (hT _ w_1_3) (hT _ w_1_39) (Nat.le_trans (by decide) hRf) (Nat.le_trans (Nat.le_of_ble_eq_true rfl) hRl) hRc hRs d_Src_begin_12 ?_
  refine w_puti (ty := .int) (k := 2) (t := 8) (C := R_Src) (T := F_Src) (N := 5) hx hb hT hown hK hW hS fo.1 fo.2 (by decide) in_Src t_Src t_Src_ok n_Src rfl rfl (by decide) rfl fr_Src_2 w_2_239 (by decide +kernel) rfl rfl d_Src_begin_15 (fun H locs hW hS => ?_)
  obtain ⟨x2, ex2⟩ : ∃ y : St, y = setI x1 o 2 (if (nI (fN x1 (stC o 0))) < l2 then (nI (fN x1 (stC o 0))) else l2) := ⟨_, rfl⟩
  rw [← ex2] at hW
  have hw := hw x2 ex2
  refine lv_aload_n hx hb d_Src_begin_18 rfl (lv_at hl 0 rfl) ?_
  refine lv_iconst (v := 0) hx hb d_Src_begin_19 (by decide) ?_
  refine w_puti (ty := .int) (k := 3) (t := 8) (C := R_Src) (T := F_Src) (N := 5) hx hb hT hown hK hW hS fo.1 fo.2 (by decide) in_Src t_Src t_Src_ok n_Src rfl rfl (by decide) rfl fr_Src_3 w_3_1 (by decide +kernel) rfl rfl d_Src_begin_20 (fun H locs hW hS => ?_)
  obtain ⟨x3, ex3⟩ : ∃ y : St, y = setI x2 o 3 0 := ⟨_, rfl⟩
  rw [← ex3] at hW
  have hw := hw x3 ex3
  exact hret x3 H locs 23 ls d_Src_begin_23 hw hW hS
set_option maxHeartbeats 4000000 in
set_option maxRecDepth 100000 in
theorem k_Src_begin (l : Launch) (dC : Nat → ClassId) (dI : Nat → Nat → Nat) (cI cB cJ cZ : ClassId) (ad : Nat → Nat) (NN : Nat) (E : Heap) (tM tC : Nat) (kK kV : Nat → Nat) (hNN : 152 ≤ NN) (sz : Nat) (o : Nat) (l1 : Int32) (l2 : Int32) (x : St) (fo : o < NN ∧ kcC o = 8) {post : St → Prop} (hw : wp_Src_begin post o l1 l2 x) : Met l y_Src_begin (wsOf y_Src_begin b_Src_begin 3 (none)) ({ frames := 1, cells := 0, slots := 0, locals := 80 }) (va_Pc [.ref (ad o), .int l1, .int l2] (PVc dC dI cI cB cJ cZ ad stC kcC NN E tM tC kK kV sz x)) (va_Qv (fun (y : St) => post y) (fun y t => Wd dC dI cI cB cJ cZ ad stC kcC NN (va_A (pic ad stC kcC NN cI cB cJ cZ x) sz) y t.heap) (va_A (pic ad stC kcC NN cI cB cJ cZ x) sz)) 0 0 (va_A (pic ad stC kcC NN cI cB cJ cZ x) sz) := by
  refine Met.ofW (cc := b_Src_begin) (maxL := 3) (ret := none) (by decide) rfl ?_
  intro p e s m args below meth c s₁ B hml hv
  obtain ⟨rfl, ⟨hsz, hW0, hK, hN⟩, hE⟩ := hv
  have hx := B.exec
  have hb := B.bytes
  have hr := B.returns
  have hts := atoms_spec B.pre
  have hT : ∀ w ∈ TG, w.before _ s = true := fun w h => hts w (List.mem_cons_of_mem _ h)
  have hown : s.vm.findClass R_Src = some m.cls := findClass_of_methodNamed B.named
  have hlocks := B.notSynchronized
  subst hsz
  have hW : Wd dC dI cI cB cJ cZ ad stC kcC NN (va_A (pic ad stC kcC NN cI cB cJ cZ x) s.heap.size) x s.heap := ⟨hW0.1, hW0.2.1.self (sz := s.heap.size), hW0.2.2⟩
  generalize hAe : va_A (pic ad stC kcC NN cI cB cJ cZ x) s.heap.size = A at hW hE ⊢
  have hA : ∀ q : Nat, s.heap.size ≤ q → A q := fun q h => by rw [← hAe]; exact Or.inr h
  have hS : va_S A s.heap s.heap [] := va_S.rf
  have hl := lv_entry ([.ref (ad o), .int l1, .int l2]) (n := 3) (Nat.le_of_ble_eq_true rfl)
  rw [lg_entry_eq]
  generalize (lg_sl ([.ref (ad o), .int l1, .int l2]) ++ List.replicate (3 - (lg_sl ([.ref (ad o), .int l1, .int l2])).length) Slot.unset).toArray = ls at hl ⊢
  have hl : lv_has ls 3 [(0, .ref (ad o)), (1, .int l1), (2, .int l2)] := hl
  exact t_Src_begin_e hx hb hml hown hT hK hN hA (Nat.le_refl 0) (Nat.le_refl 0) (Nat.le_refl 1) (Nat.le_refl 80) hNN hE (fun x H locs pc ls hd hp hW hS => W.vret hx hb hr (fun t ht hM => ⟨⟨x, rfl, hp, Wd.back hW ht.symm (fun _ z => z)⟩, hS.F ht⟩) hS.2.2 hd hlocks)  o l1 l2 x _ _ ls fo hw hW hS hl
set_option maxRecDepth 100000 in
set_option maxHeartbeats 4000000 in
set_option maxRecDepth 100000 in
theorem t_Src_readFixed_39 {p : Program} {l : Launch} {e : Env} {R : Room} {s : State} {m : MethodId} {args : Array Value} {below : List Frame} {meth : Method} {c : Code} {cells slots : Nat} {Q : State → Prop} {dC : Nat → ClassId} {dI : Nat → Nat → Nat} {cI cB cJ cZ : ClassId} {A : Nat → Prop} {ad : Nat → Nat} {NN : Nat} {E : Heap} {tM tC : Nat} {kK kV : Nat → Nat} {post : Int64 → St → Prop} {rec39 : Nat → Int32 → Int64 → Int32 → St → Prop} (hx : p.tables.exec = Jvm.exec) (hb : c.code = b_Src_readFixed) (hml : c.maxLocals = 5) (hown : s.vm.findClass R_Src = some m.cls) (hT : ∀ w ∈ TG, w.before args s = true) (hK : va_K (dC, dI) CL (TY cI cB cJ cZ) s) (hN : NW s) (hA : ∀ q : Nat, s.heap.size ≤ q → A q) (hRc : cells ≤ R.cells) (hRs : slots ≤ R.slots) (hRf : 0 ≤ R.frames) (hRl : 0 ≤ R.locals) (hNN : 152 ≤ NN) (hE : CE E tM tC kK kV A s) (hret : ∀ (r : Int64) (x : St) (H : Heap) (locs : List Loc) (pc : Nat) (ls : Array Slot), decode b_Src_readFixed pc = .ok (.lreturn, 1) → post r x → Wd dC dI cI cB cJ cZ ad stC kcC NN A x H → va_S A s.heap H locs → W p l e R s m args below meth c H locs cells slots Q (F0 m pc ls [.long r])) (hrec39 : ∀ (o : Nat) (l1 : Int32) (l2 : Int64) (l4 : Int32) (x : St) (H : Heap) (locs : List Loc) (ls : Array Slot), (o < NN ∧ kcC o = 8) → rec39 o l1 l2 l4 x → Wd dC dI cI cB cJ cZ ad stC kcC NN A x H → va_S A s.heap H locs → lv_has ls 5 [(0, .ref (ad o)), (1, .int l1), (2, .long l2), (4, .int l4)] → W p l e R s m args below meth c H locs cells slots Q (F0 m 39 ls [])) : ∀ (o : Nat) (l1 : Int32) (l2 : Int64) (l4 : Int32) (x : St) (H : Heap) (locs : List Loc) (ls : Array Slot), (o < NN ∧ kcC o = 8) → j_Src_readFixed_39 post rec39 o l1 l2 l4 x → Wd dC dI cI cB cJ cZ ad stC kcC NN A x H → va_S A s.heap H locs → lv_has ls 5 [(0, .ref (ad o)), (1, .int l1), (2, .long l2), (4, .int l4)] → W p l e R s m args below meth c H locs cells slots Q (F0 m 39 ls []) := by
  intro o l1 l2 l4 x H locs ls fo hw hW hS hl
  unfold j_Src_readFixed_39 at hw
  refine lv_iload hx hb d_Src_readFixed_39 (lv_at hl 3 rfl) ?_
  refine lv_iload_n hx hb d_Src_readFixed_41 rfl (lv_at hl 1 rfl) ?_
  refine lv_icmp_ge (tgt := 77) hx hb d_Src_readFixed_42 (by decide) (fun c1 => ?_) (fun c1 => ?_)
  · have hw := hw.1 c1
    refine lv_aload_n hx hb d_Src_readFixed_77 rfl (lv_at hl 0 rfl) ?_
    refine lv_dup hx hb d_Src_readFixed_78 rfl ?_
    refine w_geti (k := 1) (t := 8) (C := R_Src) (T := F_Src) (N := 5) hx hb hT hown hK hW fo.1 fo.2 (by decide) in_Src rfl rfl (by decide) rfl fr_Src_1 w_2_237 d_Src_readFixed_79 ?_
    refine lv_iload_n hx hb d_Src_readFixed_82 rfl (lv_at hl 1 rfl) ?_
    refine lv_iadd hx hb d_Src_readFixed_83 ?_
    refine w_puti (ty := .int) (k := 1) (t := 8) (C := R_Src) (T := F_Src) (N := 5) hx hb hT hown hK hW hS fo.1 fo.2 (by decide) in_Src t_Src t_Src_ok n_Src rfl rfl (by decide) rfl fr_Src_1 w_2_237 (by decide +kernel) rfl rfl d_Src_readFixed_84 (fun H locs hW hS => ?_)
    obtain ⟨x2, ex2⟩ : ∃ y : St, y = setI x o 1 ((fI x o 1) + l1) := ⟨_, rfl⟩
    rw [← ex2] at hW
    have hw := hw x2 ex2
    refine lv_lload_n hx hb d_Src_readFixed_87 rfl (lv_at hl 2 rfl) ?_
    exact hret l2 x2 H locs 88 ls d_Src_readFixed_88 hw hW hS
  · have hw := hw.2 c1
    refine lv_lload_n hx hb d_Src_readFixed_45 rfl (lv_at hl 2 rfl) ?_
    refine lv_aload_n hx hb d_Src_readFixed_46 rfl (lv_at hl 0 rfl) ?_
    refine w_getf (q := (stC o 0)) (k := 0) (t := 8) (C := R_Src) (T := F_Src) (N := 5) hx hb hT hown hK hW fo.1 fo.2 (by decide) in_Src rfl rfl (by decide) rfl fr_Src_0 w_2_236 d_Src_readFixed_47 rfl ?_
    refine lv_aload_n hx hb d_Src_readFixed_50 rfl (lv_at hl 0 rfl) ?_
    refine w_geti (k := 1) (t := 8) (C := R_Src) (T := F_Src) (N := 5) hx hb hT hown hK hW fo.1 fo.2 (by decide) in_Src rfl rfl (by decide) rfl fr_Src_1 w_2_237 d_Src_readFixed_51 ?_
    refine lv_iload hx hb d_Src_readFixed_54 (lv_at hl 3 rfl) ?_
    refine lv_iadd hx hb d_Src_readFixed_56 ?_
    obtain ⟨hi, hw⟩ := hw
    refine w_bald (o := (stC o 0)) hx hb hK hW (st_ty hNN fo.1 fo.2 rfl).1 (st_ty hNN fo.1 fo.2 rfl).2 hi d_Src_readFixed_57 ?_
    refine lv_i2l hx hb d_Src_readFixed_58 rfl ?_
    refine lv_ldc2 hx hb hown (hT _ w_6_94) d_Src_readFixed_59 ?_
    refine lv_land hx hb d_Src_readFixed_62 ?_
    refine lv_bipush (v := 8) hx hb d_Src_readFixed_63 (by decide) ?_
    refine lv_iload hx hb d_Src_readFixed_65 (lv_at hl 3 rfl) ?_
    refine lv_imul hx hb d_Src_readFixed_67 ?_
    refine lv_lshl hx hb d_Src_readFixed_68 rfl ?_
    refine lv_lor hx hb d_Src_readFixed_69 ?_
    refine lv_topl (fun v3 ev3 => ?_)
    have hw := hw v3 ev3
    refine lv_lstore_n (lv' := [(2, .long v3), (0, .ref (ad o)), (1, .int l1), (4, .int l4)]) hx hb d_Src_readFixed_70 rfl hl (by decide) rfl (fun ls hl => ?_)
    refine lv_iinc (v := (l4 + 1)) (lv' := [(4, .int (l4 + 1)), (2, .long v3), (0, .ref (ad o)), (1, .int l1)]) hx hb d_Src_readFixed_71 hl (k := 3) rfl rfl (by decide) rfl (fun ls hl => ?_)
    refine lv_goto (tgt := 39) hx hb d_Src_readFixed_74 (by decide) ?_
    exact hrec39 o l1 v3 (l4 + 1) x H locs ls fo hw hW hS (lv_sub hl [2, 3, 1, 0] rfl)
set_option maxHeartbeats 4000000 in
set_option maxRecDepth 100000 in
theorem tl_Src_readFixed_39 {p : Program} {l : Launch} {e : Env} {R : Room} {s : State} {m : MethodId} {args : Array Value} {below : List Frame} {meth : Method} {c : Code} {cells slots : Nat} {Q : State → Prop} {dC : Nat → ClassId} {dI : Nat → Nat → Nat} {cI cB cJ cZ : ClassId} {A : Nat → Prop} {ad : Nat → Nat} {NN : Nat} {E : Heap} {tM tC : Nat} {kK kV : Nat → Nat} {post : Int64 → St → Prop} (hx : p.tables.exec = Jvm.exec) (hb : c.code = b_Src_readFixed) (hml : c.maxLocals = 5) (hown : s.vm.findClass R_Src = some m.cls) (hT : ∀ w ∈ TG, w.before args s = true) (hK : va_K (dC, dI) CL (TY cI cB cJ cZ) s) (hN : NW s) (hA : ∀ q : Nat, s.heap.size ≤ q → A q) (hRc : cells ≤ R.cells) (hRs : slots ≤ R.slots) (hRf : 0 ≤ R.frames) (hRl : 0 ≤ R.locals) (hNN : 152 ≤ NN) (hE : CE E tM tC kK kV A s) (hret : ∀ (r : Int64) (x : St) (H : Heap) (locs : List Loc) (pc : Nat) (ls : Array Slot), decode b_Src_readFixed pc = .ok (.lreturn, 1) → post r x → Wd dC dI cI cB cJ cZ ad stC kcC NN A x H → va_S A s.heap H locs → W p l e R s m args below meth c H locs cells slots Q (F0 m pc ls [.long r]))  : ∀ n : Nat, ∀ (o : Nat) (l1 : Int32) (l2 : Int64) (l4 : Int32) (x : St) (H : Heap) (locs : List Loc) (ls : Array Slot), (o < NN ∧ kcC o = 8) → wl_Src_readFixed_39 post n o l1 l2 l4 x → Wd dC dI cI cB cJ cZ ad stC kcC NN A x H → va_S A s.heap H locs → lv_has ls 5 [(0, .ref (ad o)), (1, .int l1), (2, .long l2), (4, .int l4)] → W p l e R s m args below meth c H locs cells slots Q (F0 m 39 ls []) := by
  intro n
  induction n with
  | zero => intro o l1 l2 l4 x H locs ls fo hw; exact hw.elim
  | succ n ih => intro o l1 l2 l4 x H locs ls fo hw hW hS hl; exact t_Src_readFixed_39 hx hb hml hown hT hK hN hA hRc hRs hRf hRl hNN hE hret  ih o l1 l2 l4 x H locs ls fo hw hW hS hl
set_option maxRecDepth 100000 in
set_option maxHeartbeats 4000000 in
set_option maxRecDepth 100000 in
theorem t_Src_readFixed_25 {p : Program} {l : Launch} {e : Env} {R : Room} {s : State} {m : MethodId} {args : Array Value} {below : List Frame} {meth : Method} {c : Code} {cells slots : Nat} {Q : State → Prop} {dC : Nat → ClassId} {dI : Nat → Nat → Nat} {cI cB cJ cZ : ClassId} {A : Nat → Prop} {ad : Nat → Nat} {NN : Nat} {E : Heap} {tM tC : Nat} {kK kV : Nat → Nat} {post : Int64 → St → Prop} (hx : p.tables.exec = Jvm.exec) (hb : c.code = b_Src_readFixed) (hml : c.maxLocals = 5) (hown : s.vm.findClass R_Src = some m.cls) (hT : ∀ w ∈ TG, w.before args s = true) (hK : va_K (dC, dI) CL (TY cI cB cJ cZ) s) (hN : NW s) (hA : ∀ q : Nat, s.heap.size ≤ q → A q) (hRc : cells ≤ R.cells) (hRs : slots ≤ R.slots) (hRf : 0 ≤ R.frames) (hRl : 0 ≤ R.locals) (hNN : 152 ≤ NN) (hE : CE E tM tC kK kV A s) (hret : ∀ (r : Int64) (x : St) (H : Heap) (locs : List Loc) (pc : Nat) (ls : Array Slot), decode b_Src_readFixed pc = .ok (.lreturn, 1) → post r x → Wd dC dI cI cB cJ cZ ad stC kcC NN A x H → va_S A s.heap H locs → W p l e R s m args below meth c H locs cells slots Q (F0 m pc ls [.long r]))  : ∀ (o : Nat) (l1 : Int32) (x : St) (H : Heap) (locs : List Loc) (ls : Array Slot), (o < NN ∧ kcC o = 8) → j_Src_readFixed_25 post o l1 x → Wd dC dI cI cB cJ cZ ad stC kcC NN A x H → va_S A s.heap H locs → lv_has ls 5 [(0, .ref (ad o)), (1, .int l1)] → W p l e R s m args below meth c H locs cells slots Q (F0 m 25 ls []) := by
  intro o l1 x H locs ls fo hw hW hS hl
  unfold j_Src_readFixed_25 at hw
  refine lv_aload_n hx hb d_Src_readFixed_25 rfl (lv_at hl 0 rfl) ?_
  refine w_geti (k := 3) (t := 8) (C := R_Src) (T := F_Src) (N := 5) hx hb hT hown hK hW fo.1 fo.2 (by decide) in_Src rfl rfl (by decide) rfl fr_Src_3 w_3_1 d_Src_readFixed_26 ?_
  refine lv_if_eq (tgt := 34) hx hb d_Src_readFixed_29 (by decide) (fun c4 => ?_) (fun c4 => ?_)
  · have hw := hw.1 c4
    refine lv_lconst (v := 0) hx hb d_Src_readFixed_34 (by decide) ?_
    refine lv_lstore_n (lv' := [(2, .long 0), (0, .ref (ad o)), (1, .int l1)]) hx hb d_Src_readFixed_35 rfl hl (by decide) rfl (fun ls hl => ?_)
    refine lv_iconst (v := 0) hx hb d_Src_readFixed_36 (by decide) ?_
    refine lv_istore (lv' := [(4, .int 0), (2, .long 0), (0, .ref (ad o)), (1, .int l1)]) hx hb d_Src_readFixed_37 hl (by decide) rfl (fun ls hl => ?_)
    obtain ⟨n, hw⟩ := hw
    exact tl_Src_readFixed_39 hx hb hml hown hT hK hN hA hRc hRs hRf hRl hNN hE hret  n o l1 0 0 x H locs ls fo hw hW hS (lv_sub hl [2, 3, 1, 0] rfl)
  · have hw := hw.2 c4
    refine lv_lconst (v := 0) hx hb d_Src_readFixed_32 (by decide) ?_
    exact hret 0 x H locs 33 ls d_Src_readFixed_33 hw hW hS
set_option maxRecDepth 100000 in
set_option maxHeartbeats 4000000 in
set_option maxRecDepth 100000 in
theorem t_Src_readFixed_e {p : Program} {l : Launch} {e : Env} {R : Room} {s : State} {m : MethodId} {args : Array Value} {below : List Frame} {meth : Method} {c : Code} {cells slots : Nat} {Q : State → Prop} {dC : Nat → ClassId} {dI : Nat → Nat → Nat} {cI cB cJ cZ : ClassId} {A : Nat → Prop} {ad : Nat → Nat} {NN : Nat} {E : Heap} {tM tC : Nat} {kK kV : Nat → Nat} {post : Int64 → St → Prop} (hx : p.tables.exec = Jvm.exec) (hb : c.code = b_Src_readFixed) (hml : c.maxLocals = 5) (hown : s.vm.findClass R_Src = some m.cls) (hT : ∀ w ∈ TG, w.before args s = true) (hK : va_K (dC, dI) CL (TY cI cB cJ cZ) s) (hN : NW s) (hA : ∀ q : Nat, s.heap.size ≤ q → A q) (hRc : cells ≤ R.cells) (hRs : slots ≤ R.slots) (hRf : 0 ≤ R.frames) (hRl : 0 ≤ R.locals) (hNN : 152 ≤ NN) (hE : CE E tM tC kK kV A s) (hret : ∀ (r : Int64) (x : St) (H : Heap) (locs : List Loc) (pc : Nat) (ls : Array Slot), decode b_Src_readFixed pc = .ok (.lreturn, 1) → post r x → Wd dC dI cI cB cJ cZ ad stC kcC NN A x H → va_S A s.heap H locs → W p l e R s m args below meth c H locs cells slots Q (F0 m pc ls [.long r])) : ∀ (o : Nat) (l1 : Int32) (x : St) (H : Heap) (locs : List Loc) (ls : Array Slot), (o < NN ∧ kcC o = 8) → wp_Src_readFixed post o l1 x → Wd dC dI cI cB cJ cZ ad stC kcC NN A x H → va_S A s.heap H locs → lv_has ls 5 [(0, .ref (ad o)), (1, .int l1)] → W p l e R s m args below meth c H locs cells slots Q (F0 m 0 ls []) := by
  intro o l1 x H locs ls fo hw hW hS hl
  unfold wp_Src_readFixed at hw
  refine lv_aload_n hx hb d_Src_readFixed_0 rfl (lv_at hl 0 rfl) ?_
  refine w_geti (k := 3) (t := 8) (C := R_Src) (T := F_Src) (N := 5) hx hb hT hown hK hW fo.1 fo.2 (by decide) in_Src rfl rfl (by decide) rfl fr_Src_3 w_3_1 d_Src_readFixed_1 ?_
  refine lv_if_ne (tgt := 25) hx hb d_Src_readFixed_4 (by decide) (fun c5 => ?_) (fun c5 => ?_)
  · have hw := hw.1 c5
    exact t_Src_readFixed_25 hx hb hml hown hT hK hN hA hRc hRs hRf hRl hNN hE hret  o l1 x H locs ls fo hw hW hS (lv_sub hl [0, 1] rfl)
  · have hw := hw.2 c5
    refine lv_iload_n hx hb d_Src_readFixed_7 rfl (lv_at hl 1 rfl) ?_
    refine lv_aload_n hx hb d_Src_readFixed_8 rfl (lv_at hl 0 rfl) ?_
    refine w_geti (k := 2) (t := 8) (C := R_Src) (T := F_Src) (N := 5) hx hb hT hown hK hW fo.1 fo.2 (by decide) in_Src rfl rfl (by decide) rfl fr_Src_2 w_2_239 d_Src_readFixed_9 ?_
    refine lv_aload_n hx hb d_Src_readFixed_12 rfl (lv_at hl 0 rfl) ?_
    refine w_geti (k := 1) (t := 8) (C := R_Src) (T := F_Src) (N := 5) hx hb hT hown hK hW fo.1 fo.2 (by decide) in_Src rfl rfl (by decide) rfl fr_Src_1 w_2_237 d_Src_readFixed_13 ?_
    refine lv_isub hx hb d_Src_readFixed_16 ?_
    refine lv_icmp_le (tgt := 25) hx hb d_Src_readFixed_17 (by decide) (fun c6 => ?_) (fun c6 => ?_)
    · have hw := hw.1 c6
      exact t_Src_readFixed_25 hx hb hml hown hT hK hN hA hRc hRs hRf hRl hNN hE hret  o l1 x H locs ls fo hw hW hS (lv_sub hl [0, 1] rfl)
    · have hw := hw.2 c6
      refine lv_aload_n hx hb d_Src_readFixed_20 rfl (lv_at hl 0 rfl) ?_
      refine lv_iconst (v := 1) hx hb d_Src_readFixed_21 (by decide) ?_
      refine w_puti (ty := .int) (k := 3) (t := 8) (C := R_Src) (T := F_Src) (N := 5) hx hb hT hown hK hW hS fo.1 fo.2 (by decide) in_Src t_Src t_Src_ok n_Src rfl rfl (by decide) rfl fr_Src_3 w_3_1 (by decide +kernel) rfl rfl d_Src_readFixed_22 (fun H locs hW hS => ?_)
      obtain ⟨x7, ex7⟩ : ∃ y : St, y = setI x o 3 1 := ⟨_, rfl⟩
      rw [← ex7] at hW
      have hw := hw x7 ex7
      exact t_Src_readFixed_25 hx hb hml hown hT hK hN hA hRc hRs hRf hRl hNN hE hret  o l1 x7 H locs ls fo hw hW hS (lv_sub hl [0, 1] rfl)
set_option maxHeartbeats 4000000 in
set_option maxRecDepth 100000 in
theorem k_Src_readFixed (l : Launch) (dC : Nat → ClassId) (dI : Nat → Nat → Nat) (cI cB cJ cZ : ClassId) (ad : Nat → Nat) (NN : Nat) (E : Heap) (tM tC : Nat) (kK kV : Nat → Nat) (hNN : 152 ≤ NN) (sz : Nat) (o : Nat) (l1 : Int32) (x : St) (fo : o < NN ∧ kcC o = 8) {post : Int64 → St → Prop} (hw : wp_Src_readFixed post o l1 x) : Met l y_Src_readFixed (wsOf y_Src_readFixed b_Src_readFixed 5 (some (.long))) ({ frames := 0, cells := 0, slots := 0, locals := 0 }) (va_Pc [.ref (ad o), .int l1] (PVc dC dI cI cB cJ cZ ad stC kcC NN E tM tC kK kV sz x)) (va_Ql (fun (r : Int64) (y : St) => post r y) (fun y t => Wd dC dI cI cB cJ cZ ad stC kcC NN (va_A (pic ad stC kcC NN cI cB cJ cZ x) sz) y t.heap) (va_A (pic ad stC kcC NN cI cB cJ cZ x) sz)) 0 0 (va_A (pic ad stC kcC NN cI cB cJ cZ x) sz) := by
  refine Met.ofW (cc := b_Src_readFixed) (maxL := 5) (ret := some (.long)) (by decide) rfl ?_
  intro p e s m args below meth c s₁ B hml hv
  obtain ⟨rfl, ⟨hsz, hW0, hK, hN⟩, hE⟩ := hv
  have hx := B.exec
  have hb := B.bytes
  have hr := B.returns
  have hts := atoms_spec B.pre
  have hT : ∀ w ∈ TG, w.before _ s = true := fun w h => hts w (List.mem_cons_of_mem _ h)
  have hown : s.vm.findClass R_Src = some m.cls := findClass_of_methodNamed B.named
  have hlocks := B.notSynchronized
  subst hsz
  have hW : Wd dC dI cI cB cJ cZ ad stC kcC NN (va_A (pic ad stC kcC NN cI cB cJ cZ x) s.heap.size) x s.heap := ⟨hW0.1, hW0.2.1.self (sz := s.heap.size), hW0.2.2⟩
  generalize hAe : va_A (pic ad stC kcC NN cI cB cJ cZ x) s.heap.size = A at hW hE ⊢
  have hA : ∀ q : Nat, s.heap.size ≤ q → A q := fun q h => by rw [← hAe]; exact Or.inr h
  have hS : va_S A s.heap s.heap [] := va_S.rf
  have hl := lv_entry ([.ref (ad o), .int l1]) (n := 5) (Nat.le_of_ble_eq_true rfl)
  rw [lg_entry_eq]
  generalize (lg_sl ([.ref (ad o), .int l1]) ++ List.replicate (5 - (lg_sl ([.ref (ad o), .int l1])).length) Slot.unset).toArray = ls at hl ⊢
  have hl : lv_has ls 5 [(0, .ref (ad o)), (1, .int l1)] := hl
  exact t_Src_readFixed_e hx hb hml hown hT hK hN hA (Nat.le_refl 0) (Nat.le_refl 0) (Nat.le_refl 0) (Nat.le_refl 0) hNN hE (fun r x H locs pc ls hd hp hW hS => W.lret (v := r) hx hb hr (fun t ht hM => ⟨⟨r, x, rfl, hp, Wd.back hW ht.symm (fun _ z => z)⟩, hS.F ht⟩) hS.2.2 hd hlocks)  o l1 x _ _ ls fo hw hW hS hl
end
