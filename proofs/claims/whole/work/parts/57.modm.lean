theorem fr_Mod_67 : F_Mod 67 = (R_Mod, "pos", "I", false) := rfl
theorem fr_Mod_69 : F_Mod 69 = (R_Mod, "fault", "I", false) := rfl
theorem w_12_104 : (Jvm.Cond.methodLink "StripedVaultModel" (841 : Nat) ({ cls := "StripedVaultModel", name := "faults", desc := "(ZI)V" } : Jvm.MethodName)) ∈ TG := tw_12 104 (by decide +kernel) (by decide +kernel)
theorem w_12_106 : (Jvm.Cond.instanceMethod ({ cls := "StripedVaultModel", name := "faults", desc := "(ZI)V" } : Jvm.MethodName)) ∈ TG := tw_12 106 (by decide +kernel) (by decide +kernel)
theorem w_12_107 : (Jvm.Cond.code ({ cls := "StripedVaultModel", name := "faults", desc := "(ZI)V" } : Jvm.MethodName) prog_14_method_123_code (3 : Nat) (Option.none : Option Jvm.ClassFile.FieldType)) ∈ TG := tw_12 107 (by decide +kernel) (by decide +kernel)
theorem w_12_108 : (Jvm.Cond.methodLink "StripedVaultModel" (717 : Nat) ({ cls := "StripedVaultModel", name := "fixed", desc := "(II)J" } : Jvm.MethodName)) ∈ TG := tw_12 108 (by decide +kernel) (by decide +kernel)
theorem w_12_110 : (Jvm.Cond.instanceMethod ({ cls := "StripedVaultModel", name := "fixed", desc := "(II)J" } : Jvm.MethodName)) ∈ TG := tw_12 110 (by decide +kernel) (by decide +kernel)
theorem w_12_111 : (Jvm.Cond.code ({ cls := "StripedVaultModel", name := "fixed", desc := "(II)J" } : Jvm.MethodName) prog_14_method_50_code (6 : Nat) (Option.some Jvm.ClassFile.FieldType.long)) ∈ TG := tw_12 111 (by decide +kernel) (by decide +kernel)
theorem w_12_121 : (Jvm.Cond.methodLink "StripedVaultModel" (571 : Nat) ({ cls := "StripedVaultModel", name := "varint", desc := "(I)J" } : Jvm.MethodName)) ∈ TG := tw_12 121 (by decide +kernel) (by decide +kernel)
theorem w_12_123 : (Jvm.Cond.instanceMethod ({ cls := "StripedVaultModel", name := "varint", desc := "(I)J" } : Jvm.MethodName)) ∈ TG := tw_12 123 (by decide +kernel) (by decide +kernel)
theorem w_12_124 : (Jvm.Cond.code ({ cls := "StripedVaultModel", name := "varint", desc := "(I)J" } : Jvm.MethodName) prog_14_method_47_code (6 : Nat) (Option.some Jvm.ClassFile.FieldType.long)) ∈ TG := tw_12 124 (by decide +kernel) (by decide +kernel)
theorem w_12_129 : (Jvm.Cond.constantLong "StripedVaultModel" (845 : Nat) (16 : Int64)) ∈ TG := tw_12 129 (by decide +kernel) (by decide +kernel)
theorem w_9_3 : (Jvm.Cond.fieldLink "StripedVaultModel" (553 : Nat) "StripedVaultModel" "pos" "I") ∈ TG := tw_9 3 (by decide +kernel) (by decide +kernel)
theorem w_9_5 : (Jvm.Cond.fieldLink "StripedVaultModel" (550 : Nat) "StripedVaultModel" "fault" "I") ∈ TG := tw_9 5 (by decide +kernel) (by decide +kernel)
theorem ws_183 : Cond.selects R_Mod y_Mod_faults y_Mod_faults ∈ TG := tw_s 183 (by decide +kernel) (by decide +kernel)
theorem ws_184 : Cond.selects R_Mod y_Mod_fixed y_Mod_fixed ∈ TG := tw_s 184 (by decide +kernel) (by decide +kernel)
theorem ws_187 : Cond.selects R_Mod y_Mod_varint y_Mod_varint ∈ TG := tw_s 187 (by decide +kernel) (by decide +kernel)
theorem d_Mod_take_7 : decode b_Mod_take 7 = .ok (.iload_n 1, 1) := by decide +kernel
theorem d_Mod_take_8 : decode b_Mod_take 8 = .ok (.aload_n 0, 1) := by decide +kernel
theorem d_Mod_take_9 : decode b_Mod_take 9 = .ok (.getfield 367, 3) := by decide +kernel
theorem d_Mod_take_12 : decode b_Mod_take 12 = .ok (.if_icmp .ge 21, 3) := by decide +kernel
theorem d_Mod_take_33 : decode b_Mod_take 33 = .ok (.aload_n 0, 1) := by decide +kernel
theorem d_Mod_take_34 : decode b_Mod_take 34 = .ok (.aload_n 0, 1) := by decide +kernel
theorem d_Mod_take_35 : decode b_Mod_take 35 = .ok (.getfield 367, 3) := by decide +kernel
theorem d_Mod_take_38 : decode b_Mod_take 38 = .ok (.putfield 832, 3) := by decide +kernel
theorem d_Mod_take_41 : decode b_Mod_take 41 = .ok (.aload_n 0, 1) := by decide +kernel
theorem d_Mod_take_42 : decode b_Mod_take 42 = .ok (.iconst 0, 1) := by decide +kernel
theorem d_Mod_take_43 : decode b_Mod_take 43 = .ok (.putfield 367, 3) := by decide +kernel
theorem d_Mod_take_46 : decode b_Mod_take 46 = .ok (.return_, 1) := by decide +kernel
theorem d_Mod_take_15 : decode b_Mod_take 15 = .ok (.aload_n 0, 1) := by decide +kernel
theorem d_Mod_take_16 : decode b_Mod_take 16 = .ok (.getfield 133, 3) := by decide +kernel
theorem d_Mod_take_19 : decode b_Mod_take 19 = .ok (.iload_n 1, 1) := by decide +kernel
theorem d_Mod_take_20 : decode b_Mod_take 20 = .ok (.aload_n 0, 1) := by decide +kernel
theorem d_Mod_take_21 : decode b_Mod_take 21 = .ok (.getfield 14, 3) := by decide +kernel
theorem d_Mod_take_24 : decode b_Mod_take 24 = .ok (.iload_n 1, 1) := by decide +kernel
theorem d_Mod_take_25 : decode b_Mod_take 25 = .ok (.iaload, 1) := by decide +kernel
theorem d_Mod_take_26 : decode b_Mod_take 26 = .ok (.iastore, 1) := by decide +kernel
theorem d_Mod_take_27 : decode b_Mod_take 27 = .ok (.iinc 1 1, 3) := by decide +kernel
theorem d_Mod_take_30 : decode b_Mod_take 30 = .ok (.goto (-23), 3) := by decide +kernel
theorem d_Mod_take_0 : decode b_Mod_take 0 = .ok (.aload_n 0, 1) := by decide +kernel
theorem d_Mod_take_1 : decode b_Mod_take 1 = .ok (.iconst 0, 1) := by decide +kernel
theorem d_Mod_take_2 : decode b_Mod_take 2 = .ok (.putfield 360, 3) := by decide +kernel
theorem d_Mod_take_5 : decode b_Mod_take 5 = .ok (.iconst 0, 1) := by decide +kernel
theorem d_Mod_take_6 : decode b_Mod_take 6 = .ok (.istore_n 1, 1) := by decide +kernel
theorem d_Mod_size_0 : decode b_Mod_size 0 = .ok (.aload_n 0, 1) := by decide +kernel
theorem d_Mod_size_1 : decode b_Mod_size 1 = .ok (.iconst 0, 1) := by decide +kernel
theorem d_Mod_size_2 : decode b_Mod_size 2 = .ok (.putfield 360, 3) := by decide +kernel
theorem d_Mod_size_5 : decode b_Mod_size 5 = .ok (.aload_n 0, 1) := by decide +kernel
theorem d_Mod_size_6 : decode b_Mod_size 6 = .ok (.getfield 832, 3) := by decide +kernel
theorem d_Mod_size_9 : decode b_Mod_size 9 = .ok (.ireturn, 1) := by decide +kernel
theorem d_Mod_byteOf_17 : decode b_Mod_byteOf 17 = .ok (.iconst (-1), 1) := by decide +kernel
theorem d_Mod_byteOf_18 : decode b_Mod_byteOf 18 = .ok (.goto 9, 3) := by decide +kernel
theorem d_Mod_byteOf_27 : decode b_Mod_byteOf 27 = .ok (.ireturn, 1) := by decide +kernel
theorem d_Mod_byteOf_0 : decode b_Mod_byteOf 0 = .ok (.aload_n 0, 1) := by decide +kernel
theorem d_Mod_byteOf_1 : decode b_Mod_byteOf 1 = .ok (.iconst 0, 1) := by decide +kernel
theorem d_Mod_byteOf_2 : decode b_Mod_byteOf 2 = .ok (.putfield 360, 3) := by decide +kernel
theorem d_Mod_byteOf_5 : decode b_Mod_byteOf 5 = .ok (.iload_n 1, 1) := by decide +kernel
theorem d_Mod_byteOf_6 : decode b_Mod_byteOf 6 = .ok (.ifCond .lt 11, 3) := by decide +kernel
theorem d_Mod_byteOf_9 : decode b_Mod_byteOf 9 = .ok (.iload_n 1, 1) := by decide +kernel
theorem d_Mod_byteOf_10 : decode b_Mod_byteOf 10 = .ok (.aload_n 0, 1) := by decide +kernel
theorem d_Mod_byteOf_11 : decode b_Mod_byteOf 11 = .ok (.getfield 832, 3) := by decide +kernel
theorem d_Mod_byteOf_14 : decode b_Mod_byteOf 14 = .ok (.if_icmp .lt 7, 3) := by decide +kernel
theorem d_Mod_byteOf_21 : decode b_Mod_byteOf 21 = .ok (.aload_n 0, 1) := by decide +kernel
theorem d_Mod_byteOf_22 : decode b_Mod_byteOf 22 = .ok (.getfield 133, 3) := by decide +kernel
theorem d_Mod_byteOf_25 : decode b_Mod_byteOf 25 = .ok (.iload_n 1, 1) := by decide +kernel
theorem d_Mod_byteOf_26 : decode b_Mod_byteOf 26 = .ok (.iaload, 1) := by decide +kernel
theorem d_Mod_poke_17 : decode b_Mod_poke 17 = .ok (.iconst 0, 1) := by decide +kernel
theorem d_Mod_poke_18 : decode b_Mod_poke 18 = .ok (.ireturn, 1) := by decide +kernel
theorem d_Mod_poke_0 : decode b_Mod_poke 0 = .ok (.aload_n 0, 1) := by decide +kernel
theorem d_Mod_poke_1 : decode b_Mod_poke 1 = .ok (.iconst 0, 1) := by decide +kernel
theorem d_Mod_poke_2 : decode b_Mod_poke 2 = .ok (.putfield 360, 3) := by decide +kernel
theorem d_Mod_poke_5 : decode b_Mod_poke 5 = .ok (.iload_n 1, 1) := by decide +kernel
theorem d_Mod_poke_6 : decode b_Mod_poke 6 = .ok (.ifCond .lt 11, 3) := by decide +kernel
theorem d_Mod_poke_9 : decode b_Mod_poke 9 = .ok (.iload_n 1, 1) := by decide +kernel
theorem d_Mod_poke_10 : decode b_Mod_poke 10 = .ok (.aload_n 0, 1) := by decide +kernel
theorem d_Mod_poke_11 : decode b_Mod_poke 11 = .ok (.getfield 832, 3) := by decide +kernel
theorem d_Mod_poke_14 : decode b_Mod_poke 14 = .ok (.if_icmp .lt 5, 3) := by decide +kernel
theorem d_Mod_poke_19 : decode b_Mod_poke 19 = .ok (.aload_n 0, 1) := by decide +kernel
theorem d_Mod_poke_20 : decode b_Mod_poke 20 = .ok (.getfield 133, 3) := by decide +kernel
theorem d_Mod_poke_23 : decode b_Mod_poke 23 = .ok (.iload_n 1, 1) := by decide +kernel
theorem d_Mod_poke_24 : decode b_Mod_poke 24 = .ok (.iload_n 2, 1) := by decide +kernel
theorem d_Mod_poke_25 : decode b_Mod_poke 25 = .ok (.sipush 255, 3) := by decide +kernel
theorem d_Mod_poke_28 : decode b_Mod_poke 28 = .ok (.iand, 1) := by decide +kernel
theorem d_Mod_poke_29 : decode b_Mod_poke 29 = .ok (.iastore, 1) := by decide +kernel
theorem d_Mod_poke_30 : decode b_Mod_poke 30 = .ok (.iconst 1, 1) := by decide +kernel
theorem d_Mod_poke_31 : decode b_Mod_poke 31 = .ok (.ireturn, 1) := by decide +kernel
theorem d_Mod_isFrame_54 : decode b_Mod_isFrame 54 = .ok (.iconst 0, 1) := by decide +kernel
theorem d_Mod_isFrame_55 : decode b_Mod_isFrame 55 = .ok (.ireturn, 1) := by decide +kernel
theorem d_Mod_isFrame_0 : decode b_Mod_isFrame 0 = .ok (.aload_n 0, 1) := by decide +kernel
theorem d_Mod_isFrame_1 : decode b_Mod_isFrame 1 = .ok (.getfield 133, 3) := by decide +kernel
theorem d_Mod_isFrame_4 : decode b_Mod_isFrame 4 = .ok (.iload_n 1, 1) := by decide +kernel
theorem d_Mod_isFrame_5 : decode b_Mod_isFrame 5 = .ok (.iaload, 1) := by decide +kernel
theorem d_Mod_isFrame_6 : decode b_Mod_isFrame 6 = .ok (.bipush 83, 2) := by decide +kernel
theorem d_Mod_isFrame_8 : decode b_Mod_isFrame 8 = .ok (.if_icmp .ne 46, 3) := by decide +kernel
theorem d_Mod_isFrame_11 : decode b_Mod_isFrame 11 = .ok (.aload_n 0, 1) := by decide +kernel
theorem d_Mod_isFrame_12 : decode b_Mod_isFrame 12 = .ok (.getfield 133, 3) := by decide +kernel
theorem d_Mod_isFrame_15 : decode b_Mod_isFrame 15 = .ok (.iload_n 1, 1) := by decide +kernel
theorem d_Mod_isFrame_16 : decode b_Mod_isFrame 16 = .ok (.iconst 1, 1) := by decide +kernel
theorem d_Mod_isFrame_17 : decode b_Mod_isFrame 17 = .ok (.iadd, 1) := by decide +kernel
theorem d_Mod_isFrame_18 : decode b_Mod_isFrame 18 = .ok (.iaload, 1) := by decide +kernel
theorem d_Mod_isFrame_19 : decode b_Mod_isFrame 19 = .ok (.bipush 84, 2) := by decide +kernel
theorem d_Mod_isFrame_21 : decode b_Mod_isFrame 21 = .ok (.if_icmp .ne 33, 3) := by decide +kernel
theorem d_Mod_isFrame_24 : decode b_Mod_isFrame 24 = .ok (.aload_n 0, 1) := by decide +kernel
theorem d_Mod_isFrame_25 : decode b_Mod_isFrame 25 = .ok (.getfield 133, 3) := by decide +kernel
theorem d_Mod_isFrame_28 : decode b_Mod_isFrame 28 = .ok (.iload_n 1, 1) := by decide +kernel
theorem d_Mod_isFrame_29 : decode b_Mod_isFrame 29 = .ok (.iconst 2, 1) := by decide +kernel
theorem d_Mod_isFrame_30 : decode b_Mod_isFrame 30 = .ok (.iadd, 1) := by decide +kernel
theorem d_Mod_isFrame_31 : decode b_Mod_isFrame 31 = .ok (.iaload, 1) := by decide +kernel
theorem d_Mod_isFrame_32 : decode b_Mod_isFrame 32 = .ok (.bipush 82, 2) := by decide +kernel
theorem d_Mod_isFrame_34 : decode b_Mod_isFrame 34 = .ok (.if_icmp .ne 20, 3) := by decide +kernel
theorem d_Mod_isFrame_37 : decode b_Mod_isFrame 37 = .ok (.aload_n 0, 1) := by decide +kernel
theorem d_Mod_isFrame_38 : decode b_Mod_isFrame 38 = .ok (.getfield 133, 3) := by decide +kernel
theorem d_Mod_isFrame_41 : decode b_Mod_isFrame 41 = .ok (.iload_n 1, 1) := by decide +kernel
theorem d_Mod_isFrame_42 : decode b_Mod_isFrame 42 = .ok (.iconst 3, 1) := by decide +kernel
theorem d_Mod_isFrame_43 : decode b_Mod_isFrame 43 = .ok (.iadd, 1) := by decide +kernel
theorem d_Mod_isFrame_44 : decode b_Mod_isFrame 44 = .ok (.iaload, 1) := by decide +kernel
theorem d_Mod_isFrame_45 : decode b_Mod_isFrame 45 = .ok (.bipush 66, 2) := by decide +kernel
theorem d_Mod_isFrame_47 : decode b_Mod_isFrame 47 = .ok (.if_icmp .ne 7, 3) := by decide +kernel
theorem d_Mod_isFrame_50 : decode b_Mod_isFrame 50 = .ok (.iconst 1, 1) := by decide +kernel
theorem d_Mod_isFrame_51 : decode b_Mod_isFrame 51 = .ok (.goto 4, 3) := by decide +kernel
theorem d_Mod_faults_0 : decode b_Mod_faults 0 = .ok (.iload_n 1, 1) := by decide +kernel
theorem d_Mod_faults_1 : decode b_Mod_faults 1 = .ok (.ifCond .eq 15, 3) := by decide +kernel
theorem d_Mod_faults_16 : decode b_Mod_faults 16 = .ok (.return_, 1) := by decide +kernel
theorem d_Mod_faults_4 : decode b_Mod_faults 4 = .ok (.aload_n 0, 1) := by decide +kernel
theorem d_Mod_faults_5 : decode b_Mod_faults 5 = .ok (.getfield 550, 3) := by decide +kernel
theorem d_Mod_faults_8 : decode b_Mod_faults 8 = .ok (.ifCond .ne 8, 3) := by decide +kernel
theorem d_Mod_faults_11 : decode b_Mod_faults 11 = .ok (.aload_n 0, 1) := by decide +kernel
theorem d_Mod_faults_12 : decode b_Mod_faults 12 = .ok (.iload_n 2, 1) := by decide +kernel
theorem d_Mod_faults_13 : decode b_Mod_faults 13 = .ok (.putfield 550, 3) := by decide +kernel
theorem d_Mod_fixed_38 : decode b_Mod_fixed 38 = .ok (.iload 5, 2) := by decide +kernel
theorem d_Mod_fixed_40 : decode b_Mod_fixed 40 = .ok (.ifCond .lt 28, 3) := by decide +kernel
theorem d_Mod_fixed_68 : decode b_Mod_fixed 68 = .ok (.aload_n 0, 1) := by decide +kernel
theorem d_Mod_fixed_69 : decode b_Mod_fixed 69 = .ok (.dup, 1) := by decide +kernel
theorem d_Mod_fixed_70 : decode b_Mod_fixed 70 = .ok (.getfield 553, 3) := by decide +kernel
theorem d_Mod_fixed_73 : decode b_Mod_fixed 73 = .ok (.iload_n 1, 1) := by decide +kernel
theorem d_Mod_fixed_74 : decode b_Mod_fixed 74 = .ok (.iadd, 1) := by decide +kernel
theorem d_Mod_fixed_75 : decode b_Mod_fixed 75 = .ok (.putfield 553, 3) := by decide +kernel
theorem d_Mod_fixed_78 : decode b_Mod_fixed 78 = .ok (.lload_n 3, 1) := by decide +kernel
theorem d_Mod_fixed_79 : decode b_Mod_fixed 79 = .ok (.lreturn, 1) := by decide +kernel
theorem d_Mod_fixed_43 : decode b_Mod_fixed 43 = .ok (.lload_n 3, 1) := by decide +kernel
theorem d_Mod_fixed_44 : decode b_Mod_fixed 44 = .ok (.bipush 8, 2) := by decide +kernel
theorem d_Mod_fixed_46 : decode b_Mod_fixed 46 = .ok (.lshl, 1) := by decide +kernel
theorem d_Mod_fixed_47 : decode b_Mod_fixed 47 = .ok (.aload_n 0, 1) := by decide +kernel
theorem d_Mod_fixed_48 : decode b_Mod_fixed 48 = .ok (.getfield 133, 3) := by decide +kernel
theorem d_Mod_fixed_51 : decode b_Mod_fixed 51 = .ok (.aload_n 0, 1) := by decide +kernel
theorem d_Mod_fixed_52 : decode b_Mod_fixed 52 = .ok (.getfield 553, 3) := by decide +kernel
theorem d_Mod_fixed_55 : decode b_Mod_fixed 55 = .ok (.iload 5, 2) := by decide +kernel
theorem d_Mod_fixed_57 : decode b_Mod_fixed 57 = .ok (.iadd, 1) := by decide +kernel
theorem d_Mod_fixed_58 : decode b_Mod_fixed 58 = .ok (.iaload, 1) := by decide +kernel
theorem d_Mod_fixed_59 : decode b_Mod_fixed 59 = .ok (.i2l, 1) := by decide +kernel
theorem d_Mod_fixed_60 : decode b_Mod_fixed 60 = .ok (.lor, 1) := by decide +kernel
theorem d_Mod_fixed_61 : decode b_Mod_fixed 61 = .ok (.lstore_n 3, 1) := by decide +kernel
theorem d_Mod_fixed_62 : decode b_Mod_fixed 62 = .ok (.iinc 5 (-1), 3) := by decide +kernel
theorem d_Mod_fixed_65 : decode b_Mod_fixed 65 = .ok (.goto (-27), 3) := by decide +kernel
theorem d_Mod_fixed_22 : decode b_Mod_fixed 22 = .ok (.aload_n 0, 1) := by decide +kernel
theorem d_Mod_fixed_23 : decode b_Mod_fixed 23 = .ok (.getfield 550, 3) := by decide +kernel
theorem d_Mod_fixed_26 : decode b_Mod_fixed 26 = .ok (.ifCond .eq 5, 3) := by decide +kernel
theorem d_Mod_fixed_31 : decode b_Mod_fixed 31 = .ok (.lconst 0, 1) := by decide +kernel
theorem d_Mod_fixed_32 : decode b_Mod_fixed 32 = .ok (.lstore_n 3, 1) := by decide +kernel
theorem d_Mod_fixed_33 : decode b_Mod_fixed 33 = .ok (.iload_n 1, 1) := by decide +kernel
theorem d_Mod_fixed_34 : decode b_Mod_fixed 34 = .ok (.iconst 1, 1) := by decide +kernel
theorem d_Mod_fixed_35 : decode b_Mod_fixed 35 = .ok (.isub, 1) := by decide +kernel
theorem d_Mod_fixed_36 : decode b_Mod_fixed 36 = .ok (.istore 5, 2) := by decide +kernel
theorem d_Mod_fixed_29 : decode b_Mod_fixed 29 = .ok (.lconst 0, 1) := by decide +kernel
theorem d_Mod_fixed_30 : decode b_Mod_fixed 30 = .ok (.lreturn, 1) := by decide +kernel
theorem d_Mod_fixed_0 : decode b_Mod_fixed 0 = .ok (.aload_n 0, 1) := by decide +kernel
theorem d_Mod_fixed_1 : decode b_Mod_fixed 1 = .ok (.getfield 550, 3) := by decide +kernel
theorem d_Mod_fixed_4 : decode b_Mod_fixed 4 = .ok (.ifCond .ne 18, 3) := by decide +kernel
theorem d_Mod_fixed_7 : decode b_Mod_fixed 7 = .ok (.iload_n 2, 1) := by decide +kernel
theorem d_Mod_fixed_8 : decode b_Mod_fixed 8 = .ok (.aload_n 0, 1) := by decide +kernel
theorem d_Mod_fixed_9 : decode b_Mod_fixed 9 = .ok (.getfield 553, 3) := by decide +kernel
theorem d_Mod_fixed_12 : decode b_Mod_fixed 12 = .ok (.isub, 1) := by decide +kernel
theorem d_Mod_fixed_13 : decode b_Mod_fixed 13 = .ok (.iload_n 1, 1) := by decide +kernel
theorem d_Mod_fixed_14 : decode b_Mod_fixed 14 = .ok (.if_icmp .ge 8, 3) := by decide +kernel
theorem d_Mod_fixed_17 : decode b_Mod_fixed 17 = .ok (.aload_n 0, 1) := by decide +kernel
theorem d_Mod_fixed_18 : decode b_Mod_fixed 18 = .ok (.iconst 1, 1) := by decide +kernel
theorem d_Mod_fixed_19 : decode b_Mod_fixed 19 = .ok (.putfield 550, 3) := by decide +kernel
theorem d_Mod_varint_108 : decode b_Mod_varint 108 = .ok (.goto (-103), 3) := by decide +kernel
theorem d_Mod_varint_80 : decode b_Mod_varint 80 = .ok (.lload_n 2, 1) := by decide +kernel
theorem d_Mod_varint_81 : decode b_Mod_varint 81 = .ok (.iload 5, 2) := by decide +kernel
theorem d_Mod_varint_83 : decode b_Mod_varint 83 = .ok (.bipush 127, 2) := by decide +kernel
theorem d_Mod_varint_85 : decode b_Mod_varint 85 = .ok (.iand, 1) := by decide +kernel
theorem d_Mod_varint_86 : decode b_Mod_varint 86 = .ok (.i2l, 1) := by decide +kernel
theorem d_Mod_varint_87 : decode b_Mod_varint 87 = .ok (.bipush 7, 2) := by decide +kernel
theorem d_Mod_varint_89 : decode b_Mod_varint 89 = .ok (.iload 4, 2) := by decide +kernel
theorem d_Mod_varint_91 : decode b_Mod_varint 91 = .ok (.imul, 1) := by decide +kernel
theorem d_Mod_varint_92 : decode b_Mod_varint 92 = .ok (.lshl, 1) := by decide +kernel
theorem d_Mod_varint_93 : decode b_Mod_varint 93 = .ok (.lor, 1) := by decide +kernel
theorem d_Mod_varint_94 : decode b_Mod_varint 94 = .ok (.lstore_n 2, 1) := by decide +kernel
theorem d_Mod_varint_95 : decode b_Mod_varint 95 = .ok (.iload 5, 2) := by decide +kernel
theorem d_Mod_varint_97 : decode b_Mod_varint 97 = .ok (.sipush 128, 3) := by decide +kernel
theorem d_Mod_varint_100 : decode b_Mod_varint 100 = .ok (.if_icmp .ge 5, 3) := by decide +kernel
theorem d_Mod_varint_105 : decode b_Mod_varint 105 = .ok (.iinc 4 1, 3) := by decide +kernel
theorem d_Mod_varint_103 : decode b_Mod_varint 103 = .ok (.lload_n 2, 1) := by decide +kernel
theorem d_Mod_varint_104 : decode b_Mod_varint 104 = .ok (.lreturn, 1) := by decide +kernel
theorem d_Mod_varint_72 : decode b_Mod_varint 72 = .ok (.aload_n 0, 1) := by decide +kernel
theorem d_Mod_varint_73 : decode b_Mod_varint 73 = .ok (.iconst 2, 1) := by decide +kernel
theorem d_Mod_varint_74 : decode b_Mod_varint 74 = .ok (.putfield 550, 3) := by decide +kernel
theorem d_Mod_varint_77 : decode b_Mod_varint 77 = .ok (.goto 31, 3) := by decide +kernel
theorem d_Mod_varint_62 : decode b_Mod_varint 62 = .ok (.iload 4, 2) := by decide +kernel
theorem d_Mod_varint_64 : decode b_Mod_varint 64 = .ok (.ifCond .le 16, 3) := by decide +kernel
theorem d_Mod_varint_67 : decode b_Mod_varint 67 = .ok (.iload 5, 2) := by decide +kernel
theorem d_Mod_varint_69 : decode b_Mod_varint 69 = .ok (.ifCond .ne 11, 3) := by decide +kernel
theorem d_Mod_varint_5 : decode b_Mod_varint 5 = .ok (.aload_n 0, 1) := by decide +kernel
theorem d_Mod_varint_6 : decode b_Mod_varint 6 = .ok (.getfield 550, 3) := by decide +kernel
theorem d_Mod_varint_9 : decode b_Mod_varint 9 = .ok (.ifCond .ne 102, 3) := by decide +kernel
theorem d_Mod_varint_111 : decode b_Mod_varint 111 = .ok (.lconst 0, 1) := by decide +kernel
theorem d_Mod_varint_112 : decode b_Mod_varint 112 = .ok (.lreturn, 1) := by decide +kernel
theorem d_Mod_varint_12 : decode b_Mod_varint 12 = .ok (.aload_n 0, 1) := by decide +kernel
theorem d_Mod_varint_13 : decode b_Mod_varint 13 = .ok (.getfield 553, 3) := by decide +kernel
theorem d_Mod_varint_16 : decode b_Mod_varint 16 = .ok (.iload_n 1, 1) := by decide +kernel
theorem d_Mod_varint_17 : decode b_Mod_varint 17 = .ok (.if_icmp .lt 11, 3) := by decide +kernel
theorem d_Mod_varint_28 : decode b_Mod_varint 28 = .ok (.aload_n 0, 1) := by decide +kernel
theorem d_Mod_varint_29 : decode b_Mod_varint 29 = .ok (.getfield 133, 3) := by decide +kernel
theorem d_Mod_varint_32 : decode b_Mod_varint 32 = .ok (.aload_n 0, 1) := by decide +kernel
theorem d_Mod_varint_33 : decode b_Mod_varint 33 = .ok (.getfield 553, 3) := by decide +kernel
theorem d_Mod_varint_36 : decode b_Mod_varint 36 = .ok (.iaload, 1) := by decide +kernel
theorem d_Mod_varint_37 : decode b_Mod_varint 37 = .ok (.istore 5, 2) := by decide +kernel
theorem d_Mod_varint_39 : decode b_Mod_varint 39 = .ok (.aload_n 0, 1) := by decide +kernel
theorem d_Mod_varint_40 : decode b_Mod_varint 40 = .ok (.dup, 1) := by decide +kernel
theorem d_Mod_varint_41 : decode b_Mod_varint 41 = .ok (.getfield 553, 3) := by decide +kernel
theorem d_Mod_varint_44 : decode b_Mod_varint 44 = .ok (.iconst 1, 1) := by decide +kernel
theorem d_Mod_varint_45 : decode b_Mod_varint 45 = .ok (.iadd, 1) := by decide +kernel
theorem d_Mod_varint_46 : decode b_Mod_varint 46 = .ok (.putfield 553, 3) := by decide +kernel
theorem d_Mod_varint_49 : decode b_Mod_varint 49 = .ok (.iload 4, 2) := by decide +kernel
theorem d_Mod_varint_51 : decode b_Mod_varint 51 = .ok (.bipush 9, 2) := by decide +kernel
theorem d_Mod_varint_53 : decode b_Mod_varint 53 = .ok (.if_icmp .ne 9, 3) := by decide +kernel
theorem d_Mod_varint_56 : decode b_Mod_varint 56 = .ok (.iload 5, 2) := by decide +kernel
theorem d_Mod_varint_58 : decode b_Mod_varint 58 = .ok (.iconst 1, 1) := by decide +kernel
theorem d_Mod_varint_59 : decode b_Mod_varint 59 = .ok (.if_icmp .gt 13, 3) := by decide +kernel
theorem d_Mod_varint_20 : decode b_Mod_varint 20 = .ok (.aload_n 0, 1) := by decide +kernel
theorem d_Mod_varint_21 : decode b_Mod_varint 21 = .ok (.iconst 1, 1) := by decide +kernel
theorem d_Mod_varint_22 : decode b_Mod_varint 22 = .ok (.putfield 550, 3) := by decide +kernel
theorem d_Mod_varint_25 : decode b_Mod_varint 25 = .ok (.goto (-20), 3) := by decide +kernel
theorem d_Mod_varint_0 : decode b_Mod_varint 0 = .ok (.lconst 0, 1) := by decide +kernel
theorem d_Mod_varint_1 : decode b_Mod_varint 1 = .ok (.lstore_n 2, 1) := by decide +kernel
theorem d_Mod_varint_2 : decode b_Mod_varint 2 = .ok (.iconst 0, 1) := by decide +kernel
theorem d_Mod_varint_3 : decode b_Mod_varint 3 = .ok (.istore 4, 2) := by decide +kernel
theorem d_Mod_number4_28 : decode b_Mod_number4 28 = .ok (.iload_n 3, 1) := by decide +kernel
theorem d_Mod_number4_29 : decode b_Mod_number4 29 = .ok (.invokevirtual 841, 3) := by decide +kernel
theorem d_Mod_number4_32 : decode b_Mod_number4 32 = .ok (.aload_n 0, 1) := by decide +kernel
theorem d_Mod_number4_33 : decode b_Mod_number4 33 = .ok (.getfield 550, 3) := by decide +kernel
theorem d_Mod_number4_36 : decode b_Mod_number4 36 = .ok (.ifCond .ne 9, 3) := by decide +kernel
theorem d_Mod_number4_45 : decode b_Mod_number4 45 = .ok (.iconst 0, 1) := by decide +kernel
theorem d_Mod_number4_46 : decode b_Mod_number4 46 = .ok (.ireturn, 1) := by decide +kernel
theorem d_Mod_number4_39 : decode b_Mod_number4 39 = .ok (.lload 4, 2) := by decide +kernel
theorem d_Mod_number4_41 : decode b_Mod_number4 41 = .ok (.l2i, 1) := by decide +kernel
theorem d_Mod_number4_42 : decode b_Mod_number4 42 = .ok (.goto 4, 3) := by decide +kernel
theorem d_Mod_number4_23 : decode b_Mod_number4 23 = .ok (.iconst 1, 1) := by decide +kernel
theorem d_Mod_number4_24 : decode b_Mod_number4 24 = .ok (.goto 4, 3) := by decide +kernel
theorem d_Mod_number4_0 : decode b_Mod_number4 0 = .ok (.aload_n 0, 1) := by decide +kernel
theorem d_Mod_number4_1 : decode b_Mod_number4 1 = .ok (.iload_n 1, 1) := by decide +kernel
theorem d_Mod_number4_2 : decode b_Mod_number4 2 = .ok (.invokevirtual 571, 3) := by decide +kernel
theorem d_Mod_number4_5 : decode b_Mod_number4 5 = .ok (.lstore 4, 2) := by decide +kernel
theorem d_Mod_number4_7 : decode b_Mod_number4 7 = .ok (.aload_n 0, 1) := by decide +kernel
theorem d_Mod_number4_8 : decode b_Mod_number4 8 = .ok (.lload 4, 2) := by decide +kernel
theorem d_Mod_number4_10 : decode b_Mod_number4 10 = .ok (.lconst 0, 1) := by decide +kernel
theorem d_Mod_number4_11 : decode b_Mod_number4 11 = .ok (.lcmp, 1) := by decide +kernel
theorem d_Mod_number4_12 : decode b_Mod_number4 12 = .ok (.ifCond .lt 11, 3) := by decide +kernel
theorem d_Mod_number4_15 : decode b_Mod_number4 15 = .ok (.lload 4, 2) := by decide +kernel
theorem d_Mod_number4_17 : decode b_Mod_number4 17 = .ok (.iload_n 2, 1) := by decide +kernel
theorem d_Mod_number4_18 : decode b_Mod_number4 18 = .ok (.i2l, 1) := by decide +kernel
theorem d_Mod_number4_19 : decode b_Mod_number4 19 = .ok (.lcmp, 1) := by decide +kernel
theorem d_Mod_number4_20 : decode b_Mod_number4 20 = .ok (.ifCond .le 7, 3) := by decide +kernel
theorem d_Mod_number4_27 : decode b_Mod_number4 27 = .ok (.iconst 0, 1) := by decide +kernel
theorem d_Mod_openField_349 : decode b_Mod_openField 349 = .ok (.aload_n 0, 1) := by decide +kernel
theorem d_Mod_openField_350 : decode b_Mod_openField 350 = .ok (.getfield 550, 3) := by decide +kernel
theorem d_Mod_openField_353 : decode b_Mod_openField 353 = .ok (.ifCond .ne 24, 3) := by decide +kernel
theorem d_Mod_openField_377 : decode b_Mod_openField 377 = .ok (.return_, 1) := by decide +kernel
theorem d_Mod_openField_356 : decode b_Mod_openField 356 = .ok (.aload_n 0, 1) := by decide +kernel
theorem d_Mod_openField_357 : decode b_Mod_openField 357 = .ok (.iload_n 2, 1) := by decide +kernel
theorem d_Mod_openField_358 : decode b_Mod_openField 358 = .ok (.iconst 3, 1) := by decide +kernel
theorem d_Mod_openField_359 : decode b_Mod_openField 359 = .ok (.irem, 1) := by decide +kernel
theorem d_Mod_openField_360 : decode b_Mod_openField 360 = .ok (.iload_n 2, 1) := by decide +kernel
theorem d_Mod_openField_361 : decode b_Mod_openField 361 = .ok (.iconst 3, 1) := by decide +kernel
theorem d_Mod_openField_362 : decode b_Mod_openField 362 = .ok (.idiv, 1) := by decide +kernel
theorem d_Mod_openField_363 : decode b_Mod_openField 363 = .ok (.iload 9, 2) := by decide +kernel
theorem d_Mod_openField_365 : decode b_Mod_openField 365 = .ok (.aload_n 0, 1) := by decide +kernel
theorem d_Mod_openField_366 : decode b_Mod_openField 366 = .ok (.getfield 133, 3) := by decide +kernel
theorem d_Mod_openField_369 : decode b_Mod_openField 369 = .ok (.iload 7, 2) := by decide +kernel
theorem d_Mod_openField_371 : decode b_Mod_openField 371 = .ok (.lload 5, 2) := by decide +kernel
theorem d_Mod_openField_373 : decode b_Mod_openField 373 = .ok (.l2i, 1) := by decide +kernel
theorem d_Mod_openField_374 : decode b_Mod_openField 374 = .ok (.invokevirtual 450, 3) := by decide +kernel
theorem d_Mod_openField_344 : decode b_Mod_openField 344 = .ok (.bipush 15, 2) := by decide +kernel
theorem d_Mod_openField_346 : decode b_Mod_openField 346 = .ok (.invokevirtual 841, 3) := by decide +kernel
theorem d_Mod_openField_339 : decode b_Mod_openField 339 = .ok (.iconst 1, 1) := by decide +kernel
theorem d_Mod_openField_340 : decode b_Mod_openField 340 = .ok (.goto 4, 3) := by decide +kernel
theorem d_Mod_openField_294 : decode b_Mod_openField 294 = .ok (.bipush 15, 2) := by decide +kernel
theorem d_Mod_openField_296 : decode b_Mod_openField 296 = .ok (.invokevirtual 841, 3) := by decide +kernel
theorem d_Mod_openField_299 : decode b_Mod_openField 299 = .ok (.aload_n 0, 1) := by decide +kernel
theorem d_Mod_openField_300 : decode b_Mod_openField 300 = .ok (.getfield 550, 3) := by decide +kernel
theorem d_Mod_openField_303 : decode b_Mod_openField 303 = .ok (.ifCond .ne 46, 3) := by decide +kernel
theorem d_Mod_openField_306 : decode b_Mod_openField 306 = .ok (.aload_n 0, 1) := by decide +kernel
theorem d_Mod_openField_307 : decode b_Mod_openField 307 = .ok (.aload_n 0, 1) := by decide +kernel
theorem d_Mod_openField_308 : decode b_Mod_openField 308 = .ok (.iconst 2, 1) := by decide +kernel
theorem d_Mod_openField_309 : decode b_Mod_openField 309 = .ok (.iload 9, 2) := by decide +kernel
theorem d_Mod_openField_311 : decode b_Mod_openField 311 = .ok (.aload_n 0, 1) := by decide +kernel
theorem d_Mod_openField_312 : decode b_Mod_openField 312 = .ok (.getfield 133, 3) := by decide +kernel
theorem d_Mod_openField_315 : decode b_Mod_openField 315 = .ok (.iload 7, 2) := by decide +kernel
theorem d_Mod_openField_317 : decode b_Mod_openField 317 = .ok (.lload 5, 2) := by decide +kernel
theorem d_Mod_openField_319 : decode b_Mod_openField 319 = .ok (.l2i, 1) := by decide +kernel
theorem d_Mod_openField_320 : decode b_Mod_openField 320 = .ok (.invokevirtual 446, 3) := by decide +kernel
theorem d_Mod_openField_323 : decode b_Mod_openField 323 = .ok (.iconst (-1), 1) := by decide +kernel
theorem d_Mod_openField_324 : decode b_Mod_openField 324 = .ok (.if_icmp .ne 15, 3) := by decide +kernel
theorem d_Mod_openField_327 : decode b_Mod_openField 327 = .ok (.aload_n 0, 1) := by decide +kernel
theorem d_Mod_openField_328 : decode b_Mod_openField 328 = .ok (.iload_n 2, 1) := by decide +kernel
theorem d_Mod_openField_329 : decode b_Mod_openField 329 = .ok (.iconst 3, 1) := by decide +kernel
theorem d_Mod_openField_330 : decode b_Mod_openField 330 = .ok (.idiv, 1) := by decide +kernel
theorem d_Mod_openField_331 : decode b_Mod_openField 331 = .ok (.iload 9, 2) := by decide +kernel
theorem d_Mod_openField_333 : decode b_Mod_openField 333 = .ok (.invokevirtual 442, 3) := by decide +kernel
theorem d_Mod_openField_336 : decode b_Mod_openField 336 = .ok (.ifCond .ne 7, 3) := by decide +kernel
theorem d_Mod_openField_343 : decode b_Mod_openField 343 = .ok (.iconst 0, 1) := by decide +kernel
theorem d_Mod_openField_289 : decode b_Mod_openField 289 = .ok (.iconst 1, 1) := by decide +kernel
theorem d_Mod_openField_290 : decode b_Mod_openField 290 = .ok (.goto 4, 3) := by decide +kernel
theorem d_Mod_openField_270 : decode b_Mod_openField 270 = .ok (.istore 9, 2) := by decide +kernel
theorem d_Mod_openField_272 : decode b_Mod_openField 272 = .ok (.aload_n 0, 1) := by decide +kernel
theorem d_Mod_openField_273 : decode b_Mod_openField 273 = .ok (.iload_n 2, 1) := by decide +kernel
theorem d_Mod_openField_274 : decode b_Mod_openField 274 = .ok (.bipush 14, 2) := by decide +kernel
theorem d_Mod_openField_276 : decode b_Mod_openField 276 = .ok (.if_icmp .gt 13, 3) := by decide +kernel
theorem d_Mod_openField_279 : decode b_Mod_openField 279 = .ok (.iload 10, 2) := by decide +kernel
theorem d_Mod_openField_281 : decode b_Mod_openField 281 = .ok (.ifCond .eq 8, 3) := by decide +kernel
theorem d_Mod_openField_284 : decode b_Mod_openField 284 = .ok (.iload 8, 2) := by decide +kernel
theorem d_Mod_openField_286 : decode b_Mod_openField 286 = .ok (.ifCond .ne 7, 3) := by decide +kernel
theorem d_Mod_openField_293 : decode b_Mod_openField 293 = .ok (.iconst 0, 1) := by decide +kernel
theorem d_Mod_openField_256 : decode b_Mod_openField 256 = .ok (.istore 10, 2) := by decide +kernel
theorem d_Mod_openField_258 : decode b_Mod_openField 258 = .ok (.lload_n 3, 1) := by decide +kernel
theorem d_Mod_openField_259 : decode b_Mod_openField 259 = .ok (.lconst 0, 1) := by decide +kernel
theorem d_Mod_openField_260 : decode b_Mod_openField 260 = .ok (.lcmp, 1) := by decide +kernel
theorem d_Mod_openField_261 : decode b_Mod_openField 261 = .ok (.ifCond .ne 7, 3) := by decide +kernel
theorem d_Mod_openField_268 : decode b_Mod_openField 268 = .ok (.iload 9, 2) := by decide +kernel
theorem d_Mod_openField_264 : decode b_Mod_openField 264 = .ok (.iconst (-1), 1) := by decide +kernel
theorem d_Mod_openField_265 : decode b_Mod_openField 265 = .ok (.goto 5, 3) := by decide +kernel
theorem d_Mod_openField_255 : decode b_Mod_openField 255 = .ok (.iconst 0, 1) := by decide +kernel
theorem d_Mod_openField_251 : decode b_Mod_openField 251 = .ok (.iconst 1, 1) := by decide +kernel
theorem d_Mod_openField_252 : decode b_Mod_openField 252 = .ok (.goto 4, 3) := by decide +kernel
theorem d_Mod_openField_224 : decode b_Mod_openField 224 = .ok (.lload_n 3, 1) := by decide +kernel
theorem d_Mod_openField_225 : decode b_Mod_openField 225 = .ok (.lconst 0, 1) := by decide +kernel
theorem d_Mod_openField_226 : decode b_Mod_openField 226 = .ok (.lcmp, 1) := by decide +kernel
theorem d_Mod_openField_227 : decode b_Mod_openField 227 = .ok (.ifCond .eq 24, 3) := by decide +kernel
theorem d_Mod_openField_230 : decode b_Mod_openField 230 = .ok (.iload 9, 2) := by decide +kernel
theorem d_Mod_openField_232 : decode b_Mod_openField 232 = .ok (.iconst (-1), 1) := by decide +kernel
theorem d_Mod_openField_233 : decode b_Mod_openField 233 = .ok (.if_icmp .eq 22, 3) := by decide +kernel
theorem d_Mod_openField_236 : decode b_Mod_openField 236 = .ok (.aload_n 0, 1) := by decide +kernel
theorem d_Mod_openField_237 : decode b_Mod_openField 237 = .ok (.getfield 20, 3) := by decide +kernel
theorem d_Mod_openField_240 : decode b_Mod_openField 240 = .ok (.iconst 2, 1) := by decide +kernel
theorem d_Mod_openField_241 : decode b_Mod_openField 241 = .ok (.iload 9, 2) := by decide +kernel
theorem d_Mod_openField_243 : decode b_Mod_openField 243 = .ok (.invokestatic 412, 3) := by decide +kernel
theorem d_Mod_openField_246 : decode b_Mod_openField 246 = .ok (.iaload, 1) := by decide +kernel
theorem d_Mod_openField_247 : decode b_Mod_openField 247 = .ok (.iconst 4, 1) := by decide +kernel
theorem d_Mod_openField_248 : decode b_Mod_openField 248 = .ok (.if_icmp .ne 7, 3) := by decide +kernel
theorem d_Mod_openField_192 : decode b_Mod_openField 192 = .ok (.iload 9, 2) := by decide +kernel
theorem d_Mod_openField_194 : decode b_Mod_openField 194 = .ok (.iconst (-1), 1) := by decide +kernel
theorem d_Mod_openField_195 : decode b_Mod_openField 195 = .ok (.if_icmp .eq 29, 3) := by decide +kernel
theorem d_Mod_openField_198 : decode b_Mod_openField 198 = .ok (.iload 9, 2) := by decide +kernel
theorem d_Mod_openField_200 : decode b_Mod_openField 200 = .ok (.i2l, 1) := by decide +kernel
theorem d_Mod_openField_201 : decode b_Mod_openField 201 = .ok (.lconst 1, 1) := by decide +kernel
theorem d_Mod_openField_202 : decode b_Mod_openField 202 = .ok (.ladd, 1) := by decide +kernel
theorem d_Mod_openField_203 : decode b_Mod_openField 203 = .ok (.lload_n 3, 1) := by decide +kernel
theorem d_Mod_openField_204 : decode b_Mod_openField 204 = .ok (.lcmp, 1) := by decide +kernel
theorem d_Mod_openField_205 : decode b_Mod_openField 205 = .ok (.ifCond .eq 19, 3) := by decide +kernel
theorem d_Mod_openField_208 : decode b_Mod_openField 208 = .ok (.aload_n 0, 1) := by decide +kernel
theorem d_Mod_openField_209 : decode b_Mod_openField 209 = .ok (.getfield 23, 3) := by decide +kernel
theorem d_Mod_openField_212 : decode b_Mod_openField 212 = .ok (.iconst 2, 1) := by decide +kernel
theorem d_Mod_openField_213 : decode b_Mod_openField 213 = .ok (.iload 9, 2) := by decide +kernel
theorem d_Mod_openField_215 : decode b_Mod_openField 215 = .ok (.invokestatic 412, 3) := by decide +kernel
theorem d_Mod_openField_218 : decode b_Mod_openField 218 = .ok (.iaload, 1) := by decide +kernel
theorem d_Mod_openField_219 : decode b_Mod_openField 219 = .ok (.istore 9, 2) := by decide +kernel
theorem d_Mod_openField_221 : decode b_Mod_openField 221 = .ok (.goto (-29), 3) := by decide +kernel
theorem d_Mod_openField_170 : decode b_Mod_openField 170 = .ok (.aload_n 0, 1) := by decide +kernel
theorem d_Mod_openField_171 : decode b_Mod_openField 171 = .ok (.dup, 1) := by decide +kernel
theorem d_Mod_openField_172 : decode b_Mod_openField 172 = .ok (.getfield 553, 3) := by decide +kernel
theorem d_Mod_openField_175 : decode b_Mod_openField 175 = .ok (.lload 5, 2) := by decide +kernel
theorem d_Mod_openField_177 : decode b_Mod_openField 177 = .ok (.l2i, 1) := by decide +kernel
theorem d_Mod_openField_178 : decode b_Mod_openField 178 = .ok (.iadd, 1) := by decide +kernel
theorem d_Mod_openField_179 : decode b_Mod_openField 179 = .ok (.putfield 553, 3) := by decide +kernel
theorem d_Mod_openField_182 : decode b_Mod_openField 182 = .ok (.aload_n 0, 1) := by decide +kernel
theorem d_Mod_openField_183 : decode b_Mod_openField 183 = .ok (.getfield 35, 3) := by decide +kernel
theorem d_Mod_openField_186 : decode b_Mod_openField 186 = .ok (.iconst 2, 1) := by decide +kernel
theorem d_Mod_openField_187 : decode b_Mod_openField 187 = .ok (.iaload, 1) := by decide +kernel
theorem d_Mod_openField_188 : decode b_Mod_openField 188 = .ok (.iconst 1, 1) := by decide +kernel
theorem d_Mod_openField_189 : decode b_Mod_openField 189 = .ok (.isub, 1) := by decide +kernel
theorem d_Mod_openField_190 : decode b_Mod_openField 190 = .ok (.istore 9, 2) := by decide +kernel
theorem d_Mod_openField_162 : decode b_Mod_openField 162 = .ok (.istore 8, 2) := by decide +kernel
theorem d_Mod_openField_164 : decode b_Mod_openField 164 = .ok (.iinc 9 1, 3) := by decide +kernel
theorem d_Mod_openField_167 : decode b_Mod_openField 167 = .ok (.goto (-76), 3) := by decide +kernel
theorem d_Mod_openField_161 : decode b_Mod_openField 161 = .ok (.iconst 0, 1) := by decide +kernel
theorem d_Mod_openField_157 : decode b_Mod_openField 157 = .ok (.iconst 1, 1) := by decide +kernel
theorem d_Mod_openField_158 : decode b_Mod_openField 158 = .ok (.goto 4, 3) := by decide +kernel
theorem d_Mod_openField_91 : decode b_Mod_openField 91 = .ok (.iload 9, 2) := by decide +kernel
theorem d_Mod_openField_93 : decode b_Mod_openField 93 = .ok (.i2l, 1) := by decide +kernel
theorem d_Mod_openField_94 : decode b_Mod_openField 94 = .ok (.lload 5, 2) := by decide +kernel
theorem d_Mod_openField_96 : decode b_Mod_openField 96 = .ok (.lcmp, 1) := by decide +kernel
theorem d_Mod_openField_97 : decode b_Mod_openField 97 = .ok (.ifCond .ge 73, 3) := by decide +kernel
theorem d_Mod_openField_100 : decode b_Mod_openField 100 = .ok (.iload 8, 2) := by decide +kernel
theorem d_Mod_openField_102 : decode b_Mod_openField 102 = .ok (.ifCond .eq 68, 3) := by decide +kernel
theorem d_Mod_openField_105 : decode b_Mod_openField 105 = .ok (.aload_n 0, 1) := by decide +kernel
theorem d_Mod_openField_106 : decode b_Mod_openField 106 = .ok (.getfield 133, 3) := by decide +kernel
theorem d_Mod_openField_109 : decode b_Mod_openField 109 = .ok (.iload 7, 2) := by decide +kernel
theorem d_Mod_openField_111 : decode b_Mod_openField 111 = .ok (.iload 9, 2) := by decide +kernel
theorem d_Mod_openField_113 : decode b_Mod_openField 113 = .ok (.iadd, 1) := by decide +kernel
theorem d_Mod_openField_114 : decode b_Mod_openField 114 = .ok (.iaload, 1) := by decide +kernel
theorem d_Mod_openField_115 : decode b_Mod_openField 115 = .ok (.invokestatic 383, 3) := by decide +kernel
theorem d_Mod_openField_118 : decode b_Mod_openField 118 = .ok (.ifCond .ne 39, 3) := by decide +kernel
theorem d_Mod_openField_121 : decode b_Mod_openField 121 = .ok (.iload 9, 2) := by decide +kernel
theorem d_Mod_openField_123 : decode b_Mod_openField 123 = .ok (.ifCond .le 38, 3) := by decide +kernel
theorem d_Mod_openField_126 : decode b_Mod_openField 126 = .ok (.aload_n 0, 1) := by decide +kernel
theorem d_Mod_openField_127 : decode b_Mod_openField 127 = .ok (.getfield 133, 3) := by decide +kernel
theorem d_Mod_openField_130 : decode b_Mod_openField 130 = .ok (.iload 7, 2) := by decide +kernel
theorem d_Mod_openField_132 : decode b_Mod_openField 132 = .ok (.iload 9, 2) := by decide +kernel
theorem d_Mod_openField_134 : decode b_Mod_openField 134 = .ok (.iadd, 1) := by decide +kernel
theorem d_Mod_openField_135 : decode b_Mod_openField 135 = .ok (.iaload, 1) := by decide +kernel
theorem d_Mod_openField_136 : decode b_Mod_openField 136 = .ok (.invokestatic 387, 3) := by decide +kernel
theorem d_Mod_openField_139 : decode b_Mod_openField 139 = .ok (.ifCond .ne 18, 3) := by decide +kernel
theorem d_Mod_openField_142 : decode b_Mod_openField 142 = .ok (.aload_n 0, 1) := by decide +kernel
theorem d_Mod_openField_143 : decode b_Mod_openField 143 = .ok (.getfield 133, 3) := by decide +kernel
theorem d_Mod_openField_146 : decode b_Mod_openField 146 = .ok (.iload 7, 2) := by decide +kernel
theorem d_Mod_openField_148 : decode b_Mod_openField 148 = .ok (.iload 9, 2) := by decide +kernel
theorem d_Mod_openField_150 : decode b_Mod_openField 150 = .ok (.iadd, 1) := by decide +kernel
theorem d_Mod_openField_151 : decode b_Mod_openField 151 = .ok (.iaload, 1) := by decide +kernel
theorem d_Mod_openField_152 : decode b_Mod_openField 152 = .ok (.bipush 95, 2) := by decide +kernel
theorem d_Mod_openField_154 : decode b_Mod_openField 154 = .ok (.if_icmp .ne 7, 3) := by decide +kernel
theorem d_Mod_openField_86 : decode b_Mod_openField 86 = .ok (.istore 8, 2) := by decide +kernel
theorem d_Mod_openField_88 : decode b_Mod_openField 88 = .ok (.iconst 0, 1) := by decide +kernel
theorem d_Mod_openField_89 : decode b_Mod_openField 89 = .ok (.istore 9, 2) := by decide +kernel
theorem d_Mod_openField_85 : decode b_Mod_openField 85 = .ok (.iconst 0, 1) := by decide +kernel
theorem d_Mod_openField_47 : decode b_Mod_openField 47 = .ok (.iconst 1, 1) := by decide +kernel
theorem d_Mod_openField_48 : decode b_Mod_openField 48 = .ok (.invokevirtual 841, 3) := by decide +kernel
theorem d_Mod_openField_51 : decode b_Mod_openField 51 = .ok (.aload_n 0, 1) := by decide +kernel
theorem d_Mod_openField_52 : decode b_Mod_openField 52 = .ok (.getfield 550, 3) := by decide +kernel
theorem d_Mod_openField_55 : decode b_Mod_openField 55 = .ok (.ifCond .eq 4, 3) := by decide +kernel
theorem d_Mod_openField_59 : decode b_Mod_openField 59 = .ok (.aload_n 0, 1) := by decide +kernel
theorem d_Mod_openField_60 : decode b_Mod_openField 60 = .ok (.getfield 553, 3) := by decide +kernel
theorem d_Mod_openField_63 : decode b_Mod_openField 63 = .ok (.istore 7, 2) := by decide +kernel
theorem d_Mod_openField_65 : decode b_Mod_openField 65 = .ok (.lload 5, 2) := by decide +kernel
theorem d_Mod_openField_67 : decode b_Mod_openField 67 = .ok (.lconst 0, 1) := by decide +kernel
theorem d_Mod_openField_68 : decode b_Mod_openField 68 = .ok (.lcmp, 1) := by decide +kernel
theorem d_Mod_openField_69 : decode b_Mod_openField 69 = .ok (.ifCond .le 16, 3) := by decide +kernel
theorem d_Mod_openField_72 : decode b_Mod_openField 72 = .ok (.lload 5, 2) := by decide +kernel
theorem d_Mod_openField_74 : decode b_Mod_openField 74 = .ok (.ldc2_w 845, 3) := by decide +kernel
theorem d_Mod_openField_77 : decode b_Mod_openField 77 = .ok (.lcmp, 1) := by decide +kernel
theorem d_Mod_openField_78 : decode b_Mod_openField 78 = .ok (.ifCond .gt 7, 3) := by decide +kernel
theorem d_Mod_openField_81 : decode b_Mod_openField 81 = .ok (.iconst 1, 1) := by decide +kernel
theorem d_Mod_openField_82 : decode b_Mod_openField 82 = .ok (.goto 4, 3) := by decide +kernel
theorem d_Mod_openField_58 : decode b_Mod_openField 58 = .ok (.return_, 1) := by decide +kernel
theorem d_Mod_openField_42 : decode b_Mod_openField 42 = .ok (.iconst 1, 1) := by decide +kernel
theorem d_Mod_openField_43 : decode b_Mod_openField 43 = .ok (.goto 4, 3) := by decide +kernel
theorem d_Mod_openField_0 : decode b_Mod_openField 0 = .ok (.aload_n 0, 1) := by decide +kernel
theorem d_Mod_openField_1 : decode b_Mod_openField 1 = .ok (.iconst 1, 1) := by decide +kernel
theorem d_Mod_openField_2 : decode b_Mod_openField 2 = .ok (.iload_n 1, 1) := by decide +kernel
theorem d_Mod_openField_3 : decode b_Mod_openField 3 = .ok (.invokevirtual 717, 3) := by decide +kernel
theorem d_Mod_openField_6 : decode b_Mod_openField 6 = .ok (.l2i, 1) := by decide +kernel
theorem d_Mod_openField_7 : decode b_Mod_openField 7 = .ok (.istore_n 2, 1) := by decide +kernel
theorem d_Mod_openField_8 : decode b_Mod_openField 8 = .ok (.aload_n 0, 1) := by decide +kernel
theorem d_Mod_openField_9 : decode b_Mod_openField 9 = .ok (.iload_n 1, 1) := by decide +kernel
theorem d_Mod_openField_10 : decode b_Mod_openField 10 = .ok (.invokevirtual 571, 3) := by decide +kernel
theorem d_Mod_openField_13 : decode b_Mod_openField 13 = .ok (.lstore_n 3, 1) := by decide +kernel
theorem d_Mod_openField_14 : decode b_Mod_openField 14 = .ok (.aload_n 0, 1) := by decide +kernel
theorem d_Mod_openField_15 : decode b_Mod_openField 15 = .ok (.iload_n 1, 1) := by decide +kernel
theorem d_Mod_openField_16 : decode b_Mod_openField 16 = .ok (.invokevirtual 571, 3) := by decide +kernel
theorem d_Mod_openField_19 : decode b_Mod_openField 19 = .ok (.lstore 5, 2) := by decide +kernel
theorem d_Mod_openField_21 : decode b_Mod_openField 21 = .ok (.aload_n 0, 1) := by decide +kernel
theorem d_Mod_openField_22 : decode b_Mod_openField 22 = .ok (.lload 5, 2) := by decide +kernel
theorem d_Mod_openField_24 : decode b_Mod_openField 24 = .ok (.lconst 0, 1) := by decide +kernel
theorem d_Mod_openField_25 : decode b_Mod_openField 25 = .ok (.lcmp, 1) := by decide +kernel
theorem d_Mod_openField_26 : decode b_Mod_openField 26 = .ok (.ifCond .lt 16, 3) := by decide +kernel
theorem d_Mod_openField_29 : decode b_Mod_openField 29 = .ok (.lload 5, 2) := by decide +kernel
theorem d_Mod_openField_31 : decode b_Mod_openField 31 = .ok (.iload_n 1, 1) := by decide +kernel
theorem d_Mod_openField_32 : decode b_Mod_openField 32 = .ok (.aload_n 0, 1) := by decide +kernel
theorem d_Mod_openField_33 : decode b_Mod_openField 33 = .ok (.getfield 553, 3) := by decide +kernel
theorem d_Mod_openField_36 : decode b_Mod_openField 36 = .ok (.isub, 1) := by decide +kernel
theorem d_Mod_openField_37 : decode b_Mod_openField 37 = .ok (.i2l, 1) := by decide +kernel
theorem d_Mod_openField_38 : decode b_Mod_openField 38 = .ok (.lcmp, 1) := by decide +kernel
theorem d_Mod_openField_39 : decode b_Mod_openField 39 = .ok (.ifCond .le 7, 3) := by decide +kernel
theorem d_Mod_openField_46 : decode b_Mod_openField 46 = .ok (.iconst 0, 1) := by decide +kernel
section
variable (l : Launch) (dC : Nat → ClassId) (dI : Nat → Nat → Nat) (cI cB cJ cZ : ClassId)
set_option maxRecDepth 100000 in
set_option maxHeartbeats 4000000 in
set_option maxRecDepth 100000 in
theorem t_Mod_take_7 {p : Program} {l : Launch} {e : Env} {R : Room} {s : State} {m : MethodId} {args : Array Value} {below : List Frame} {meth : Method} {c : Code} {cells slots : Nat} {Q : State → Prop} {dC : Nat → ClassId} {dI : Nat → Nat → Nat} {cI cB cJ cZ : ClassId} {A : Nat → Prop} {ad : Nat → Nat} {post : St → Prop} {rec7 : Int32 → St → Prop} (hx : p.tables.exec = Jvm.exec) (hb : c.code = b_Mod_take) (hml : c.maxLocals = 2) (hown : s.vm.findClass R_Mod = some m.cls) (hT : ∀ w ∈ TG, w.before args s = true) (hK : va_K (dC, dI) CL (TY cI cB cJ cZ) s) (hN : NW s) (hA : ∀ q : Nat, s.heap.size ≤ q → A q) (hRc : cells ≤ R.cells) (hRs : slots ≤ R.slots) (hRf : 0 ≤ R.frames) (hRl : 0 ≤ R.locals) (hret : ∀ (x : St) (H : Heap) (locs : List Loc) (pc : Nat) (ls : Array Slot), decode b_Mod_take pc = .ok (.return_, 1) → post x → Wd dC dI cI cB cJ cZ ad stM kcM 115 A x H → va_S A s.heap H locs → W p l e R s m args below meth c H locs cells slots Q (F0 m pc ls [])) (hrec7 : ∀ (l1 : Int32) (x : St) (H : Heap) (locs : List Loc) (ls : Array Slot), rec7 l1 x → Wd dC dI cI cB cJ cZ ad stM kcM 115 A x H → va_S A s.heap H locs → lv_has ls 2 [(0, .ref (ad 0)), (1, .int l1)] → W p l e R s m args below meth c H locs cells slots Q (F0 m 7 ls [])) : ∀ (l1 : Int32) (x : St) (H : Heap) (locs : List Loc) (ls : Array Slot), j_Mod_take_7 post rec7 l1 x → Wd dC dI cI cB cJ cZ ad stM kcM 115 A x H → va_S A s.heap H locs → lv_has ls 2 [(0, .ref (ad 0)), (1, .int l1)] → W p l e R s m args below meth c H locs cells slots Q (F0 m 7 ls []) := by
  intro l1 x H locs ls  hw hW hS hl
  unfold j_Mod_take_7 at hw
  refine lv_iload_n hx hb d_Mod_take_7 rfl (lv_at hl 1 rfl) ?_
  refine lv_aload_n hx hb d_Mod_take_8 rfl (lv_at hl 0 rfl) ?_
  refine w_geti (k := 4) (t := 12) (C := R_Mod) (T := F_Mod) (N := 167) hx hb hT hown hK hW ko_0.1 ko_0.2 (by decide) in_Mod rfl rfl (by decide) rfl fr_Mod_4 w_8_180 d_Mod_take_9 ?_
  refine lv_icmp_ge (tgt := 33) hx hb d_Mod_take_12 (by decide) (fun c892 => ?_) (fun c892 => ?_)
  · have hw := hw.1 c892
    refine lv_aload_n hx hb d_Mod_take_33 rfl (lv_at hl 0 rfl) ?_
    refine lv_aload_n hx hb d_Mod_take_34 rfl (lv_at hl 0 rfl) ?_
    refine w_geti (k := 4) (t := 12) (C := R_Mod) (T := F_Mod) (N := 167) hx hb hT hown hK hW ko_0.1 ko_0.2 (by decide) in_Mod rfl rfl (by decide) rfl fr_Mod_4 w_8_180 d_Mod_take_35 ?_
    refine w_puti (ty := .int) (k := 65) (t := 12) (C := R_Mod) (T := F_Mod) (N := 167) hx hb hT hown hK hW hS ko_0.1 ko_0.2 (by decide) in_Mod t_Mod t_Mod_ok n_Mod rfl rfl (by decide) rfl fr_Mod_65 w_9_1 (by decide +kernel) rfl rfl d_Mod_take_38 (fun H locs hW hS => ?_)
    obtain ⟨x893, ex893⟩ : ∃ y : St, y = setI x 0 65 (fI x 0 4) := ⟨_, rfl⟩
    rw [← ex893] at hW
    have hw := hw x893 ex893
    refine lv_aload_n hx hb d_Mod_take_41 rfl (lv_at hl 0 rfl) ?_
    refine lv_iconst (v := 0) hx hb d_Mod_take_42 (by decide) ?_
    refine w_puti (ty := .int) (k := 4) (t := 12) (C := R_Mod) (T := F_Mod) (N := 167) hx hb hT hown hK hW hS ko_0.1 ko_0.2 (by decide) in_Mod t_Mod t_Mod_ok n_Mod rfl rfl (by decide) rfl fr_Mod_4 w_8_180 (by decide +kernel) rfl rfl d_Mod_take_43 (fun H locs hW hS => ?_)
    obtain ⟨x894, ex894⟩ : ∃ y : St, y = setI x893 0 4 0 := ⟨_, rfl⟩
    rw [← ex894] at hW
    have hw := hw x894 ex894
    exact hret x894 H locs 46 ls d_Mod_take_46 hw hW hS
  · have hw := hw.2 c892
    refine lv_aload_n hx hb d_Mod_take_15 rfl (lv_at hl 0 rfl) ?_
    refine w_getf (q := 41) (k := 62) (t := 12) (C := R_Mod) (T := F_Mod) (N := 167) hx hb hT hown hK hW ko_0.1 ko_0.2 (by decide) in_Mod rfl rfl (by decide) rfl fr_Mod_62 w_8_238 d_Mod_take_16 rfl ?_
    refine lv_iload_n hx hb d_Mod_take_19 rfl (lv_at hl 1 rfl) ?_
    refine lv_aload_n hx hb d_Mod_take_20 rfl (lv_at hl 0 rfl) ?_
    refine w_getf (q := 2) (k := 2) (t := 12) (C := R_Mod) (T := F_Mod) (N := 167) hx hb hT hown hK hW ko_0.1 ko_0.2 (by decide) in_Mod rfl rfl (by decide) rfl fr_Mod_2 w_8_178 d_Mod_take_21 rfl ?_
    refine lv_iload_n hx hb d_Mod_take_24 rfl (lv_at hl 1 rfl) ?_
    obtain ⟨hi, hw⟩ := hw
    refine w_iald (o := 2) hx hb hK hW ko_2.1 ko_2.2 hi d_Mod_take_25 ?_
    obtain ⟨hi, hw⟩ := hw
    refine w_iast (o := 41) hx hb hK hW hS ko_41.1 ko_41.2 hi d_Mod_take_26 (fun H locs hW hS => ?_)
    obtain ⟨x895, ex895⟩ : ∃ y : St, y = setA x 41 l1 (rA x 2 l1) := ⟨_, rfl⟩
    rw [← ex895] at hW
    have hw := hw x895 ex895
    refine lv_iinc (v := (l1 + 1)) (lv' := [(1, .int (l1 + 1)), (0, .ref (ad 0))]) hx hb d_Mod_take_27 hl (k := 1) rfl rfl (by decide) rfl (fun ls hl => ?_)
    refine lv_goto (tgt := 7) hx hb d_Mod_take_30 (by decide) ?_
    exact hrec7 (l1 + 1) x895 H locs ls  hw hW hS (lv_sub hl [1, 0] rfl)
set_option maxHeartbeats 4000000 in
set_option maxRecDepth 100000 in
theorem tl_Mod_take_7 {p : Program} {l : Launch} {e : Env} {R : Room} {s : State} {m : MethodId} {args : Array Value} {below : List Frame} {meth : Method} {c : Code} {cells slots : Nat} {Q : State → Prop} {dC : Nat → ClassId} {dI : Nat → Nat → Nat} {cI cB cJ cZ : ClassId} {A : Nat → Prop} {ad : Nat → Nat} {post : St → Prop} (hx : p.tables.exec = Jvm.exec) (hb : c.code = b_Mod_take) (hml : c.maxLocals = 2) (hown : s.vm.findClass R_Mod = some m.cls) (hT : ∀ w ∈ TG, w.before args s = true) (hK : va_K (dC, dI) CL (TY cI cB cJ cZ) s) (hN : NW s) (hA : ∀ q : Nat, s.heap.size ≤ q → A q) (hRc : cells ≤ R.cells) (hRs : slots ≤ R.slots) (hRf : 0 ≤ R.frames) (hRl : 0 ≤ R.locals) (hret : ∀ (x : St) (H : Heap) (locs : List Loc) (pc : Nat) (ls : Array Slot), decode b_Mod_take pc = .ok (.return_, 1) → post x → Wd dC dI cI cB cJ cZ ad stM kcM 115 A x H → va_S A s.heap H locs → W p l e R s m args below meth c H locs cells slots Q (F0 m pc ls []))  : ∀ n : Nat, ∀ (l1 : Int32) (x : St) (H : Heap) (locs : List Loc) (ls : Array Slot), wl_Mod_take_7 post n l1 x → Wd dC dI cI cB cJ cZ ad stM kcM 115 A x H → va_S A s.heap H locs → lv_has ls 2 [(0, .ref (ad 0)), (1, .int l1)] → W p l e R s m args below meth c H locs cells slots Q (F0 m 7 ls []) := by
  intro n
  induction n with
  | zero => intro l1 x H locs ls  hw; exact hw.elim
  | succ n ih => intro l1 x H locs ls  hw hW hS hl; exact t_Mod_take_7 hx hb hml hown hT hK hN hA hRc hRs hRf hRl hret  ih l1 x H locs ls  hw hW hS hl
set_option maxRecDepth 100000 in
set_option maxHeartbeats 4000000 in
set_option maxRecDepth 100000 in
theorem t_Mod_take_e {p : Program} {l : Launch} {e : Env} {R : Room} {s : State} {m : MethodId} {args : Array Value} {below : List Frame} {meth : Method} {c : Code} {cells slots : Nat} {Q : State → Prop} {dC : Nat → ClassId} {dI : Nat → Nat → Nat} {cI cB cJ cZ : ClassId} {A : Nat → Prop} {ad : Nat → Nat} {post : St → Prop} (hx : p.tables.exec = Jvm.exec) (hb : c.code = b_Mod_take) (hml : c.maxLocals = 2) (hown : s.vm.findClass R_Mod = some m.cls) (hT : ∀ w ∈ TG, w.before args s = true) (hK : va_K (dC, dI) CL (TY cI cB cJ cZ) s) (hN : NW s) (hA : ∀ q : Nat, s.heap.size ≤ q → A q) (hRc : cells ≤ R.cells) (hRs : slots ≤ R.slots) (hRf : 0 ≤ R.frames) (hRl : 0 ≤ R.locals) (hret : ∀ (x : St) (H : Heap) (locs : List Loc) (pc : Nat) (ls : Array Slot), decode b_Mod_take pc = .ok (.return_, 1) → post x → Wd dC dI cI cB cJ cZ ad stM kcM 115 A x H → va_S A s.heap H locs → W p l e R s m args below meth c H locs cells slots Q (F0 m pc ls [])) : ∀  (x : St) (H : Heap) (locs : List Loc) (ls : Array Slot), wp_Mod_take post  x → Wd dC dI cI cB cJ cZ ad stM kcM 115 A x H → va_S A s.heap H locs → lv_has ls 2 [(0, .ref (ad 0))] → W p l e R s m args below meth c H locs cells slots Q (F0 m 0 ls []) := by
  intro  x H locs ls  hw hW hS hl
  unfold wp_Mod_take at hw
  refine lv_aload_n hx hb d_Mod_take_0 rfl (lv_at hl 0 rfl) ?_
  refine lv_iconst (v := 0) hx hb d_Mod_take_1 (by decide) ?_
  refine w_puti (ty := .int) (k := 0) (t := 12) (C := R_Mod) (T := F_Mod) (N := 167) hx hb hT hown hK hW hS ko_0.1 ko_0.2 (by decide) in_Mod t_Mod t_Mod_ok n_Mod rfl rfl (by decide) rfl fr_Mod_0 w_8_176 (by decide +kernel) rfl rfl d_Mod_take_2 (fun H locs hW hS => ?_)
  obtain ⟨x896, ex896⟩ : ∃ y : St, y = setI x 0 0 0 := ⟨_, rfl⟩
  rw [← ex896] at hW
  have hw := hw x896 ex896
  refine lv_iconst (v := 0) hx hb d_Mod_take_5 (by decide) ?_
  refine lv_istore_n (lv' := [(1, .int 0), (0, .ref (ad 0))]) hx hb d_Mod_take_6 rfl hl (by decide) rfl (fun ls hl => ?_)
  obtain ⟨n, hw⟩ := hw
  exact tl_Mod_take_7 hx hb hml hown hT hK hN hA hRc hRs hRf hRl hret  n 0 x896 H locs ls  hw hW hS (lv_sub hl [1, 0] rfl)
set_option maxHeartbeats 4000000 in
set_option maxRecDepth 100000 in
theorem k_Mod_take (l : Launch) (dC : Nat → ClassId) (dI : Nat → Nat → Nat) (cI cB cJ cZ : ClassId) (ad : Nat → Nat) (sz : Nat)  (x : St) {post : St → Prop} (hw : wp_Mod_take post  x) : Met l y_Mod_take (wsOf y_Mod_take b_Mod_take 2 (none)) ({ frames := 0, cells := 0, slots := 0, locals := 0 }) (va_Pc [.ref (ad 0)] (PW dC dI cI cB cJ cZ ad stM kcM 115 sz x)) (va_Qv (fun (y : St) => post y) (fun y t => Wd dC dI cI cB cJ cZ ad stM kcM 115 (va_A (pic ad stM kcM 115 cI cB cJ cZ x) sz) y t.heap) (va_A (pic ad stM kcM 115 cI cB cJ cZ x) sz)) 0 0 (va_A (pic ad stM kcM 115 cI cB cJ cZ x) sz) := by
  refine Met.ofW (cc := b_Mod_take) (maxL := 2) (ret := none) (by decide) rfl ?_
  intro p e s m args below meth c s₁ B hml hv
  obtain ⟨rfl, hsz, hW0, hK, hN⟩ := hv
  have hx := B.exec
  have hb := B.bytes
  have hr := B.returns
  have hts := atoms_spec B.pre
  have hT : ∀ w ∈ TG, w.before _ s = true := fun w h => hts w (List.mem_cons_of_mem _ h)
  have hown : s.vm.findClass R_Mod = some m.cls := findClass_of_methodNamed B.named
  have hlocks := B.notSynchronized
  subst hsz
  have hW : Wd dC dI cI cB cJ cZ ad stM kcM 115 (va_A (pic ad stM kcM 115 cI cB cJ cZ x) s.heap.size) x s.heap := ⟨hW0.1, hW0.2.1.self (sz := s.heap.size), hW0.2.2⟩
  generalize hAe : va_A (pic ad stM kcM 115 cI cB cJ cZ x) s.heap.size = A at hW ⊢
  have hA : ∀ q : Nat, s.heap.size ≤ q → A q := fun q h => by rw [← hAe]; exact Or.inr h
  have hS : va_S A s.heap s.heap [] := va_S.rf
  have hl := lv_entry ([.ref (ad 0)]) (n := 2) (Nat.le_of_ble_eq_true rfl)
  rw [lg_entry_eq]
  generalize (lg_sl ([.ref (ad 0)]) ++ List.replicate (2 - (lg_sl ([.ref (ad 0)])).length) Slot.unset).toArray = ls at hl ⊢
  have hl : lv_has ls 2 [(0, .ref (ad 0))] := hl
  exact t_Mod_take_e hx hb hml hown hT hK hN hA (Nat.le_refl 0) (Nat.le_refl 0) (Nat.le_refl 0) (Nat.le_refl 0) (fun x H locs pc ls hd hp hW hS => W.vret hx hb hr (fun t ht hM => ⟨⟨x, rfl, hp, Wd.back hW ht.symm (fun _ z => z)⟩, hS.F ht⟩) hS.2.2 hd hlocks)   x _ _ ls  hw hW hS hl
set_option maxRecDepth 100000 in
set_option maxHeartbeats 4000000 in
set_option maxRecDepth 100000 in
theorem t_Mod_size_e {p : Program} {l : Launch} {e : Env} {R : Room} {s : State} {m : MethodId} {args : Array Value} {below : List Frame} {meth : Method} {c : Code} {cells slots : Nat} {Q : State → Prop} {dC : Nat → ClassId} {dI : Nat → Nat → Nat} {cI cB cJ cZ : ClassId} {A : Nat → Prop} {ad : Nat → Nat} {post : Int32 → St → Prop} (hx : p.tables.exec = Jvm.exec) (hb : c.code = b_Mod_size) (hml : c.maxLocals = 1) (hown : s.vm.findClass R_Mod = some m.cls) (hT : ∀ w ∈ TG, w.before args s = true) (hK : va_K (dC, dI) CL (TY cI cB cJ cZ) s) (hN : NW s) (hA : ∀ q : Nat, s.heap.size ≤ q → A q) (hRc : cells ≤ R.cells) (hRs : slots ≤ R.slots) (hRf : 0 ≤ R.frames) (hRl : 0 ≤ R.locals) (hret : ∀ (r : Int32) (x : St) (H : Heap) (locs : List Loc) (pc : Nat) (ls : Array Slot), decode b_Mod_size pc = .ok (.ireturn, 1) → post r x → Wd dC dI cI cB cJ cZ ad stM kcM 115 A x H → va_S A s.heap H locs → W p l e R s m args below meth c H locs cells slots Q (F0 m pc ls [.int r])) : ∀  (x : St) (H : Heap) (locs : List Loc) (ls : Array Slot), wp_Mod_size post  x → Wd dC dI cI cB cJ cZ ad stM kcM 115 A x H → va_S A s.heap H locs → lv_has ls 1 [(0, .ref (ad 0))] → W p l e R s m args below meth c H locs cells slots Q (F0 m 0 ls []) := by
  intro  x H locs ls  hw hW hS hl
  unfold wp_Mod_size at hw
  refine lv_aload_n hx hb d_Mod_size_0 rfl (lv_at hl 0 rfl) ?_
  refine lv_iconst (v := 0) hx hb d_Mod_size_1 (by decide) ?_
  refine w_puti (ty := .int) (k := 0) (t := 12) (C := R_Mod) (T := F_Mod) (N := 167) hx hb hT hown hK hW hS ko_0.1 ko_0.2 (by decide) in_Mod t_Mod t_Mod_ok n_Mod rfl rfl (by decide) rfl fr_Mod_0 w_8_176 (by decide +kernel) rfl rfl d_Mod_size_2 (fun H locs hW hS => ?_)
  obtain ⟨x897, ex897⟩ : ∃ y : St, y = setI x 0 0 0 := ⟨_, rfl⟩
  rw [← ex897] at hW
  have hw := hw x897 ex897
  refine lv_aload_n hx hb d_Mod_size_5 rfl (lv_at hl 0 rfl) ?_
  refine w_geti (k := 65) (t := 12) (C := R_Mod) (T := F_Mod) (N := 167) hx hb hT hown hK hW ko_0.1 ko_0.2 (by decide) in_Mod rfl rfl (by decide) rfl fr_Mod_65 w_9_1 d_Mod_size_6 ?_
  exact hret (fI x897 0 65) x897 H locs 9 ls d_Mod_size_9 hw hW hS
set_option maxHeartbeats 4000000 in
set_option maxRecDepth 100000 in
theorem k_Mod_size (l : Launch) (dC : Nat → ClassId) (dI : Nat → Nat → Nat) (cI cB cJ cZ : ClassId) (ad : Nat → Nat) (sz : Nat)  (x : St) {post : Int32 → St → Prop} (hw : wp_Mod_size post  x) : Met l y_Mod_size (wsOf y_Mod_size b_Mod_size 1 (some (.int))) ({ frames := 0, cells := 0, slots := 0, locals := 0 }) (va_Pc [.ref (ad 0)] (PW dC dI cI cB cJ cZ ad stM kcM 115 sz x)) (va_Qi (fun (r : Int32) (y : St) => post r y) (fun y t => Wd dC dI cI cB cJ cZ ad stM kcM 115 (va_A (pic ad stM kcM 115 cI cB cJ cZ x) sz) y t.heap) (va_A (pic ad stM kcM 115 cI cB cJ cZ x) sz)) 0 0 (va_A (pic ad stM kcM 115 cI cB cJ cZ x) sz) := by
  refine Met.ofW (cc := b_Mod_size) (maxL := 1) (ret := some (.int)) (by decide) rfl ?_
  intro p e s m args below meth c s₁ B hml hv
  obtain ⟨rfl, hsz, hW0, hK, hN⟩ := hv
  have hx := B.exec
  have hb := B.bytes
  have hr := B.returns
  have hts := atoms_spec B.pre
  have hT : ∀ w ∈ TG, w.before _ s = true := fun w h => hts w (List.mem_cons_of_mem _ h)
  have hown : s.vm.findClass R_Mod = some m.cls := findClass_of_methodNamed B.named
  have hlocks := B.notSynchronized
  subst hsz
  have hW : Wd dC dI cI cB cJ cZ ad stM kcM 115 (va_A (pic ad stM kcM 115 cI cB cJ cZ x) s.heap.size) x s.heap := ⟨hW0.1, hW0.2.1.self (sz := s.heap.size), hW0.2.2⟩
  generalize hAe : va_A (pic ad stM kcM 115 cI cB cJ cZ x) s.heap.size = A at hW ⊢
  have hA : ∀ q : Nat, s.heap.size ≤ q → A q := fun q h => by rw [← hAe]; exact Or.inr h
  have hS : va_S A s.heap s.heap [] := va_S.rf
  have hl := lv_entry ([.ref (ad 0)]) (n := 1) (Nat.le_of_ble_eq_true rfl)
  rw [lg_entry_eq]
  generalize (lg_sl ([.ref (ad 0)]) ++ List.replicate (1 - (lg_sl ([.ref (ad 0)])).length) Slot.unset).toArray = ls at hl ⊢
  have hl : lv_has ls 1 [(0, .ref (ad 0))] := hl
  exact t_Mod_size_e hx hb hml hown hT hK hN hA (Nat.le_refl 0) (Nat.le_refl 0) (Nat.le_refl 0) (Nat.le_refl 0) (fun r x H locs pc ls hd hp hW hS => W.iret (v := r) hx hb hr (fun t ht hM => ⟨⟨r, x, rfl, hp, Wd.back hW ht.symm (fun _ z => z)⟩, hS.F ht⟩) hS.2.2 hd hlocks)   x _ _ ls  hw hW hS hl
set_option maxRecDepth 100000 in
set_option maxHeartbeats 4000000 in
set_option maxRecDepth 100000 in
theorem t_Mod_byteOf_17 {p : Program} {l : Launch} {e : Env} {R : Room} {s : State} {m : MethodId} {args : Array Value} {below : List Frame} {meth : Method} {c : Code} {cells slots : Nat} {Q : State → Prop} {dC : Nat → ClassId} {dI : Nat → Nat → Nat} {cI cB cJ cZ : ClassId} {A : Nat → Prop} {ad : Nat → Nat} {post : Int32 → St → Prop} (hx : p.tables.exec = Jvm.exec) (hb : c.code = b_Mod_byteOf) (hml : c.maxLocals = 2) (hown : s.vm.findClass R_Mod = some m.cls) (hT : ∀ w ∈ TG, w.before args s = true) (hK : va_K (dC, dI) CL (TY cI cB cJ cZ) s) (hN : NW s) (hA : ∀ q : Nat, s.heap.size ≤ q → A q) (hRc : cells ≤ R.cells) (hRs : slots ≤ R.slots) (hRf : 0 ≤ R.frames) (hRl : 0 ≤ R.locals) (hret : ∀ (r : Int32) (x : St) (H : Heap) (locs : List Loc) (pc : Nat) (ls : Array Slot), decode b_Mod_byteOf pc = .ok (.ireturn, 1) → post r x → Wd dC dI cI cB cJ cZ ad stM kcM 115 A x H → va_S A s.heap H locs → W p l e R s m args below meth c H locs cells slots Q (F0 m pc ls [.int r]))  : ∀ (l1 : Int32) (x : St) (H : Heap) (locs : List Loc) (ls : Array Slot), j_Mod_byteOf_17 post l1 x → Wd dC dI cI cB cJ cZ ad stM kcM 115 A x H → va_S A s.heap H locs → lv_has ls 2 [(0, .ref (ad 0)), (1, .int l1)] → W p l e R s m args below meth c H locs cells slots Q (F0 m 17 ls []) := by
  intro l1 x H locs ls  hw hW hS hl
  unfold j_Mod_byteOf_17 at hw
  refine lv_iconst (v := (-1)) hx hb d_Mod_byteOf_17 (by decide) ?_
  refine lv_goto (tgt := 27) hx hb d_Mod_byteOf_18 (by decide) ?_
  exact hret (-1) x H locs 27 ls d_Mod_byteOf_27 hw hW hS
set_option maxRecDepth 100000 in
set_option maxHeartbeats 4000000 in
set_option maxRecDepth 100000 in
theorem t_Mod_byteOf_e {p : Program} {l : Launch} {e : Env} {R : Room} {s : State} {m : MethodId} {args : Array Value} {below : List Frame} {meth : Method} {c : Code} {cells slots : Nat} {Q : State → Prop} {dC : Nat → ClassId} {dI : Nat → Nat → Nat} {cI cB cJ cZ : ClassId} {A : Nat → Prop} {ad : Nat → Nat} {post : Int32 → St → Prop} (hx : p.tables.exec = Jvm.exec) (hb : c.code = b_Mod_byteOf) (hml : c.maxLocals = 2) (hown : s.vm.findClass R_Mod = some m.cls) (hT : ∀ w ∈ TG, w.before args s = true) (hK : va_K (dC, dI) CL (TY cI cB cJ cZ) s) (hN : NW s) (hA : ∀ q : Nat, s.heap.size ≤ q → A q) (hRc : cells ≤ R.cells) (hRs : slots ≤ R.slots) (hRf : 0 ≤ R.frames) (hRl : 0 ≤ R.locals) (hret : ∀ (r : Int32) (x : St) (H : Heap) (locs : List Loc) (pc : Nat) (ls : Array Slot), decode b_Mod_byteOf pc = .ok (.ireturn, 1) → post r x → Wd dC dI cI cB cJ cZ ad stM kcM 115 A x H → va_S A s.heap H locs → W p l e R s m args below meth c H locs cells slots Q (F0 m pc ls [.int r])) : ∀ (l1 : Int32) (x : St) (H : Heap) (locs : List Loc) (ls : Array Slot), wp_Mod_byteOf post l1 x → Wd dC dI cI cB cJ cZ ad stM kcM 115 A x H → va_S A s.heap H locs → lv_has ls 2 [(0, .ref (ad 0)), (1, .int l1)] → W p l e R s m args below meth c H locs cells slots Q (F0 m 0 ls []) := by
  intro l1 x H locs ls  hw hW hS hl
  unfold wp_Mod_byteOf at hw
  refine lv_aload_n hx hb d_Mod_byteOf_0 rfl (lv_at hl 0 rfl) ?_
  refine lv_iconst (v := 0) hx hb d_Mod_byteOf_1 (by decide) ?_
  refine w_puti (ty := .int) (k := 0) (t := 12) (C := R_Mod) (T := F_Mod) (N := 167) hx hb hT hown hK hW hS ko_0.1 ko_0.2 (by decide) in_Mod t_Mod t_Mod_ok n_Mod rfl rfl (by decide) rfl fr_Mod_0 w_8_176 (by decide +kernel) rfl rfl d_Mod_byteOf_2 (fun H locs hW hS => ?_)
  obtain ⟨x898, ex898⟩ : ∃ y : St, y = setI x 0 0 0 := ⟨_, rfl⟩
  rw [← ex898] at hW
  have hw := hw x898 ex898
  refine lv_iload_n hx hb d_Mod_byteOf_5 rfl (lv_at hl 1 rfl) ?_
  refine lv_if_lt (tgt := 17) hx hb d_Mod_byteOf_6 (by decide) (fun c899 => ?_) (fun c899 => ?_)
  · have hw := hw.1 c899
    exact t_Mod_byteOf_17 hx hb hml hown hT hK hN hA hRc hRs hRf hRl hret  l1 x898 H locs ls  hw hW hS (lv_sub hl [0, 1] rfl)
  · have hw := hw.2 c899
    refine lv_iload_n hx hb d_Mod_byteOf_9 rfl (lv_at hl 1 rfl) ?_
    refine lv_aload_n hx hb d_Mod_byteOf_10 rfl (lv_at hl 0 rfl) ?_
    refine w_geti (k := 65) (t := 12) (C := R_Mod) (T := F_Mod) (N := 167) hx hb hT hown hK hW ko_0.1 ko_0.2 (by decide) in_Mod rfl rfl (by decide) rfl fr_Mod_65 w_9_1 d_Mod_byteOf_11 ?_
    refine lv_icmp_lt (tgt := 21) hx hb d_Mod_byteOf_14 (by decide) (fun c900 => ?_) (fun c900 => ?_)
    · have hw := hw.1 c900
      refine lv_aload_n hx hb d_Mod_byteOf_21 rfl (lv_at hl 0 rfl) ?_
      refine w_getf (q := 41) (k := 62) (t := 12) (C := R_Mod) (T := F_Mod) (N := 167) hx hb hT hown hK hW ko_0.1 ko_0.2 (by decide) in_Mod rfl rfl (by decide) rfl fr_Mod_62 w_8_238 d_Mod_byteOf_22 rfl ?_
      refine lv_iload_n hx hb d_Mod_byteOf_25 rfl (lv_at hl 1 rfl) ?_
      obtain ⟨hi, hw⟩ := hw
      refine w_iald (o := 41) hx hb hK hW ko_41.1 ko_41.2 hi d_Mod_byteOf_26 ?_
      exact hret (rA x898 41 l1) x898 H locs 27 ls d_Mod_byteOf_27 hw hW hS
    · have hw := hw.2 c900
      exact t_Mod_byteOf_17 hx hb hml hown hT hK hN hA hRc hRs hRf hRl hret  l1 x898 H locs ls  hw hW hS (lv_sub hl [0, 1] rfl)
set_option maxHeartbeats 4000000 in
set_option maxRecDepth 100000 in
theorem k_Mod_byteOf (l : Launch) (dC : Nat → ClassId) (dI : Nat → Nat → Nat) (cI cB cJ cZ : ClassId) (ad : Nat → Nat) (sz : Nat) (l1 : Int32) (x : St) {post : Int32 → St → Prop} (hw : wp_Mod_byteOf post l1 x) : Met l y_Mod_byteOf (wsOf y_Mod_byteOf b_Mod_byteOf 2 (some (.int))) ({ frames := 0, cells := 0, slots := 0, locals := 0 }) (va_Pc [.ref (ad 0), .int l1] (PW dC dI cI cB cJ cZ ad stM kcM 115 sz x)) (va_Qi (fun (r : Int32) (y : St) => post r y) (fun y t => Wd dC dI cI cB cJ cZ ad stM kcM 115 (va_A (pic ad stM kcM 115 cI cB cJ cZ x) sz) y t.heap) (va_A (pic ad stM kcM 115 cI cB cJ cZ x) sz)) 0 0 (va_A (pic ad stM kcM 115 cI cB cJ cZ x) sz) := by
  refine Met.ofW (cc := b_Mod_byteOf) (maxL := 2) (ret := some (.int)) (by decide) rfl ?_
  intro p e s m args below meth c s₁ B hml hv
  obtain ⟨rfl, hsz, hW0, hK, hN⟩ := hv
  have hx := B.exec
  have hb := B.bytes
  have hr := B.returns
  have hts := atoms_spec B.pre
  have hT : ∀ w ∈ TG, w.before _ s = true := fun w h => hts w (List.mem_cons_of_mem _ h)
  have hown : s.vm.findClass R_Mod = some m.cls := findClass_of_methodNamed B.named
  have hlocks := B.notSynchronized
  subst hsz
  have hW : Wd dC dI cI cB cJ cZ ad stM kcM 115 (va_A (pic ad stM kcM 115 cI cB cJ cZ x) s.heap.size) x s.heap := ⟨hW0.1, hW0.2.1.self (sz := s.heap.size), hW0.2.2⟩
  generalize hAe : va_A (pic ad stM kcM 115 cI cB cJ cZ x) s.heap.size = A at hW ⊢
  have hA : ∀ q : Nat, s.heap.size ≤ q → A q := fun q h => by rw [← hAe]; exact Or.inr h
  have hS : va_S A s.heap s.heap [] := va_S.rf
  have hl := lv_entry ([.ref (ad 0), .int l1]) (n := 2) (Nat.le_of_ble_eq_true rfl)
  rw [lg_entry_eq]
  generalize (lg_sl ([.ref (ad 0), .int l1]) ++ List.replicate (2 - (lg_sl ([.ref (ad 0), .int l1])).length) Slot.unset).toArray = ls at hl ⊢
  have hl : lv_has ls 2 [(0, .ref (ad 0)), (1, .int l1)] := hl
  exact t_Mod_byteOf_e hx hb hml hown hT hK hN hA (Nat.le_refl 0) (Nat.le_refl 0) (Nat.le_refl 0) (Nat.le_refl 0) (fun r x H locs pc ls hd hp hW hS => W.iret (v := r) hx hb hr (fun t ht hM => ⟨⟨r, x, rfl, hp, Wd.back hW ht.symm (fun _ z => z)⟩, hS.F ht⟩) hS.2.2 hd hlocks)  l1 x _ _ ls  hw hW hS hl
set_option maxRecDepth 100000 in
set_option maxHeartbeats 4000000 in
set_option maxRecDepth 100000 in
theorem t_Mod_poke_17 {p : Program} {l : Launch} {e : Env} {R : Room} {s : State} {m : MethodId} {args : Array Value} {below : List Frame} {meth : Method} {c : Code} {cells slots : Nat} {Q : State → Prop} {dC : Nat → ClassId} {dI : Nat → Nat → Nat} {cI cB cJ cZ : ClassId} {A : Nat → Prop} {ad : Nat → Nat} {post : Int32 → St → Prop} (hx : p.tables.exec = Jvm.exec) (hb : c.code = b_Mod_poke) (hml : c.maxLocals = 3) (hown : s.vm.findClass R_Mod = some m.cls) (hT : ∀ w ∈ TG, w.before args s = true) (hK : va_K (dC, dI) CL (TY cI cB cJ cZ) s) (hN : NW s) (hA : ∀ q : Nat, s.heap.size ≤ q → A q) (hRc : cells ≤ R.cells) (hRs : slots ≤ R.slots) (hRf : 0 ≤ R.frames) (hRl : 0 ≤ R.locals) (hret : ∀ (r : Int32) (x : St) (H : Heap) (locs : List Loc) (pc : Nat) (ls : Array Slot), decode b_Mod_poke pc = .ok (.ireturn, 1) → narrow .boolean (.int r) = .int r → post r x → Wd dC dI cI cB cJ cZ ad stM kcM 115 A x H → va_S A s.heap H locs → W p l e R s m args below meth c H locs cells slots Q (F0 m pc ls [.int r]))  : ∀ (l1 : Int32) (l2 : Int32) (x : St) (H : Heap) (locs : List Loc) (ls : Array Slot), j_Mod_poke_17 post l1 l2 x → Wd dC dI cI cB cJ cZ ad stM kcM 115 A x H → va_S A s.heap H locs → lv_has ls 3 [(0, .ref (ad 0)), (1, .int l1), (2, .int l2)] → W p l e R s m args below meth c H locs cells slots Q (F0 m 17 ls []) := by
  intro l1 l2 x H locs ls  hw hW hS hl
  unfold j_Mod_poke_17 at hw
  refine lv_iconst (v := 0) hx hb d_Mod_poke_17 (by decide) ?_
  exact hret 0 x H locs 18 ls d_Mod_poke_18 rfl hw hW hS
set_option maxRecDepth 100000 in
set_option maxHeartbeats 4000000 in
set_option maxRecDepth 100000 in
theorem t_Mod_poke_e {p : Program} {l : Launch} {e : Env} {R : Room} {s : State} {m : MethodId} {args : Array Value} {below : List Frame} {meth : Method} {c : Code} {cells slots : Nat} {Q : State → Prop} {dC : Nat → ClassId} {dI : Nat → Nat → Nat} {cI cB cJ cZ : ClassId} {A : Nat → Prop} {ad : Nat → Nat} {post : Int32 → St → Prop} (hx : p.tables.exec = Jvm.exec) (hb : c.code = b_Mod_poke) (hml : c.maxLocals = 3) (hown : s.vm.findClass R_Mod = some m.cls) (hT : ∀ w ∈ TG, w.before args s = true) (hK : va_K (dC, dI) CL (TY cI cB cJ cZ) s) (hN : NW s) (hA : ∀ q : Nat, s.heap.size ≤ q → A q) (hRc : cells ≤ R.cells) (hRs : slots ≤ R.slots) (hRf : 0 ≤ R.frames) (hRl : 0 ≤ R.locals) (hret : ∀ (r : Int32) (x : St) (H : Heap) (locs : List Loc) (pc : Nat) (ls : Array Slot), decode b_Mod_poke pc = .ok (.ireturn, 1) → narrow .boolean (.int r) = .int r → post r x → Wd dC dI cI cB cJ cZ ad stM kcM 115 A x H → va_S A s.heap H locs → W p l e R s m args below meth c H locs cells slots Q (F0 m pc ls [.int r])) : ∀ (l1 : Int32) (l2 : Int32) (x : St) (H : Heap) (locs : List Loc) (ls : Array Slot), wp_Mod_poke post l1 l2 x → Wd dC dI cI cB cJ cZ ad stM kcM 115 A x H → va_S A s.heap H locs → lv_has ls 3 [(0, .ref (ad 0)), (1, .int l1), (2, .int l2)] → W p l e R s m args below meth c H locs cells slots Q (F0 m 0 ls []) := by
  intro l1 l2 x H locs ls  hw hW hS hl
  unfold wp_Mod_poke at hw
  refine lv_aload_n hx hb d_Mod_poke_0 rfl (lv_at hl 0 rfl) ?_
  refine lv_iconst (v := 0) hx hb d_Mod_poke_1 (by decide) ?_
  refine w_puti (ty := .int) (k := 0) (t := 12) (C := R_Mod) (T := F_Mod) (N := 167) hx hb hT hown hK hW hS ko_0.1 ko_0.2 (by decide) in_Mod t_Mod t_Mod_ok n_Mod rfl rfl (by decide) rfl fr_Mod_0 w_8_176 (by decide +kernel) rfl rfl d_Mod_poke_2 (fun H locs hW hS => ?_)
  obtain ⟨x901, ex901⟩ : ∃ y : St, y = setI x 0 0 0 := ⟨_, rfl⟩
  rw [← ex901] at hW
  have hw := hw x901 ex901
  refine lv_iload_n hx hb d_Mod_poke_5 rfl (lv_at hl 1 rfl) ?_
  refine lv_if_lt (tgt := 17) hx hb d_Mod_poke_6 (by decide) (fun c902 => ?_) (fun c902 => ?_)
  · have hw := hw.1 c902
    exact t_Mod_poke_17 hx hb hml hown hT hK hN hA hRc hRs hRf hRl hret  l1 l2 x901 H locs ls  hw hW hS (lv_sub hl [0, 1, 2] rfl)
  · have hw := hw.2 c902
    refine lv_iload_n hx hb d_Mod_poke_9 rfl (lv_at hl 1 rfl) ?_
    refine lv_aload_n hx hb d_Mod_poke_10 rfl (lv_at hl 0 rfl) ?_
    refine w_geti (k := 65) (t := 12) (C := R_Mod) (T := F_Mod) (N := 167) hx hb hT hown hK hW ko_0.1 ko_0.2 (by decide) in_Mod rfl rfl (by decide) rfl fr_Mod_65 w_9_1 d_Mod_poke_11 ?_
    refine lv_icmp_lt (tgt := 19) hx hb d_Mod_poke_14 (by decide) (fun c903 => ?_) (fun c903 => ?_)
    · have hw := hw.1 c903
      refine lv_aload_n hx hb d_Mod_poke_19 rfl (lv_at hl 0 rfl) ?_
      refine w_getf (q := 41) (k := 62) (t := 12) (C := R_Mod) (T := F_Mod) (N := 167) hx hb hT hown hK hW ko_0.1 ko_0.2 (by decide) in_Mod rfl rfl (by decide) rfl fr_Mod_62 w_8_238 d_Mod_poke_20 rfl ?_
      refine lv_iload_n hx hb d_Mod_poke_23 rfl (lv_at hl 1 rfl) ?_
      refine lv_iload_n hx hb d_Mod_poke_24 rfl (lv_at hl 2 rfl) ?_
      refine lv_sipush (v := 255) hx hb d_Mod_poke_25 (by decide) ?_
      refine lv_iand hx hb d_Mod_poke_28 ?_
      obtain ⟨hi, hw⟩ := hw
      refine w_iast (o := 41) hx hb hK hW hS ko_41.1 ko_41.2 hi d_Mod_poke_29 (fun H locs hW hS => ?_)
      obtain ⟨x904, ex904⟩ : ∃ y : St, y = setA x901 41 l1 (l2 &&& 255) := ⟨_, rfl⟩
      rw [← ex904] at hW
      have hw := hw x904 ex904
      refine lv_iconst (v := 1) hx hb d_Mod_poke_30 (by decide) ?_
      exact hret 1 x904 H locs 31 ls d_Mod_poke_31 rfl hw hW hS
    · have hw := hw.2 c903
      exact t_Mod_poke_17 hx hb hml hown hT hK hN hA hRc hRs hRf hRl hret  l1 l2 x901 H locs ls  hw hW hS (lv_sub hl [0, 1, 2] rfl)
set_option maxHeartbeats 4000000 in
set_option maxRecDepth 100000 in
theorem k_Mod_poke (l : Launch) (dC : Nat → ClassId) (dI : Nat → Nat → Nat) (cI cB cJ cZ : ClassId) (ad : Nat → Nat) (sz : Nat) (l1 : Int32) (l2 : Int32) (x : St) {post : Int32 → St → Prop} (hw : wp_Mod_poke post l1 l2 x) : Met l y_Mod_poke (wsOf y_Mod_poke b_Mod_poke 3 (some (.boolean))) ({ frames := 0, cells := 0, slots := 0, locals := 0 }) (va_Pc [.ref (ad 0), .int l1, .int l2] (PW dC dI cI cB cJ cZ ad stM kcM 115 sz x)) (va_Qi (fun (r : Int32) (y : St) => post r y) (fun y t => Wd dC dI cI cB cJ cZ ad stM kcM 115 (va_A (pic ad stM kcM 115 cI cB cJ cZ x) sz) y t.heap) (va_A (pic ad stM kcM 115 cI cB cJ cZ x) sz)) 0 0 (va_A (pic ad stM kcM 115 cI cB cJ cZ x) sz) := by
  refine Met.ofW (cc := b_Mod_poke) (maxL := 3) (ret := some (.boolean)) (by decide) rfl ?_
  intro p e s m args below meth c s₁ B hml hv
  obtain ⟨rfl, hsz, hW0, hK, hN⟩ := hv
  have hx := B.exec
  have hb := B.bytes
  have hr := B.returns
  have hts := atoms_spec B.pre
  have hT : ∀ w ∈ TG, w.before _ s = true := fun w h => hts w (List.mem_cons_of_mem _ h)
  have hown : s.vm.findClass R_Mod = some m.cls := findClass_of_methodNamed B.named
  have hlocks := B.notSynchronized
  subst hsz
  have hW : Wd dC dI cI cB cJ cZ ad stM kcM 115 (va_A (pic ad stM kcM 115 cI cB cJ cZ x) s.heap.size) x s.heap := ⟨hW0.1, hW0.2.1.self (sz := s.heap.size), hW0.2.2⟩
  generalize hAe : va_A (pic ad stM kcM 115 cI cB cJ cZ x) s.heap.size = A at hW ⊢
  have hA : ∀ q : Nat, s.heap.size ≤ q → A q := fun q h => by rw [← hAe]; exact Or.inr h
  have hS : va_S A s.heap s.heap [] := va_S.rf
  have hl := lv_entry ([.ref (ad 0), .int l1, .int l2]) (n := 3) (Nat.le_of_ble_eq_true rfl)
  rw [lg_entry_eq]
  generalize (lg_sl ([.ref (ad 0), .int l1, .int l2]) ++ List.replicate (3 - (lg_sl ([.ref (ad 0), .int l1, .int l2])).length) Slot.unset).toArray = ls at hl ⊢
  have hl : lv_has ls 3 [(0, .ref (ad 0)), (1, .int l1), (2, .int l2)] := hl
  exact t_Mod_poke_e hx hb hml hown hT hK hN hA (Nat.le_refl 0) (Nat.le_refl 0) (Nat.le_refl 0) (Nat.le_refl 0) (fun r x H locs pc ls hd hz hp hW hS => W.zret (v := r) (ty := .boolean) hx hb hr hz (fun t ht hM => ⟨⟨r, x, rfl, hp, Wd.back hW ht.symm (fun _ z => z)⟩, hS.F ht⟩) hS.2.2 hd hlocks)  l1 l2 x _ _ ls  hw hW hS hl
set_option maxRecDepth 100000 in
set_option maxHeartbeats 4000000 in
set_option maxRecDepth 100000 in
theorem t_Mod_isFrame_54 {p : Program} {l : Launch} {e : Env} {R : Room} {s : State} {m : MethodId} {args : Array Value} {below : List Frame} {meth : Method} {c : Code} {cells slots : Nat} {Q : State → Prop} {dC : Nat → ClassId} {dI : Nat → Nat → Nat} {cI cB cJ cZ : ClassId} {A : Nat → Prop} {ad : Nat → Nat} {post : Int32 → St → Prop} (hx : p.tables.exec = Jvm.exec) (hb : c.code = b_Mod_isFrame) (hml : c.maxLocals = 2) (hown : s.vm.findClass R_Mod = some m.cls) (hT : ∀ w ∈ TG, w.before args s = true) (hK : va_K (dC, dI) CL (TY cI cB cJ cZ) s) (hN : NW s) (hA : ∀ q : Nat, s.heap.size ≤ q → A q) (hRc : cells ≤ R.cells) (hRs : slots ≤ R.slots) (hRf : 0 ≤ R.frames) (hRl : 0 ≤ R.locals) (hret : ∀ (r : Int32) (x : St) (H : Heap) (locs : List Loc) (pc : Nat) (ls : Array Slot), decode b_Mod_isFrame pc = .ok (.ireturn, 1) → narrow .boolean (.int r) = .int r → post r x → Wd dC dI cI cB cJ cZ ad stM kcM 115 A x H → va_S A s.heap H locs → W p l e R s m args below meth c H locs cells slots Q (F0 m pc ls [.int r]))  : ∀ (l1 : Int32) (x : St) (H : Heap) (locs : List Loc) (ls : Array Slot), j_Mod_isFrame_54 post l1 x → Wd dC dI cI cB cJ cZ ad stM kcM 115 A x H → va_S A s.heap H locs → lv_has ls 2 [(0, .ref (ad 0)), (1, .int l1)] → W p l e R s m args below meth c H locs cells slots Q (F0 m 54 ls []) := by
  intro l1 x H locs ls  hw hW hS hl
  unfold j_Mod_isFrame_54 at hw
  refine lv_iconst (v := 0) hx hb d_Mod_isFrame_54 (by decide) ?_
  exact hret 0 x H locs 55 ls d_Mod_isFrame_55 rfl hw hW hS
set_option maxRecDepth 100000 in
set_option maxHeartbeats 4000000 in
set_option maxRecDepth 100000 in
theorem t_Mod_isFrame_e {p : Program} {l : Launch} {e : Env} {R : Room} {s : State} {m : MethodId} {args : Array Value} {below : List Frame} {meth : Method} {c : Code} {cells slots : Nat} {Q : State → Prop} {dC : Nat → ClassId} {dI : Nat → Nat → Nat} {cI cB cJ cZ : ClassId} {A : Nat → Prop} {ad : Nat → Nat} {post : Int32 → St → Prop} (hx : p.tables.exec = Jvm.exec) (hb : c.code = b_Mod_isFrame) (hml : c.maxLocals = 2) (hown : s.vm.findClass R_Mod = some m.cls) (hT : ∀ w ∈ TG, w.before args s = true) (hK : va_K (dC, dI) CL (TY cI cB cJ cZ) s) (hN : NW s) (hA : ∀ q : Nat, s.heap.size ≤ q → A q) (hRc : cells ≤ R.cells) (hRs : slots ≤ R.slots) (hRf : 0 ≤ R.frames) (hRl : 0 ≤ R.locals) (hret : ∀ (r : Int32) (x : St) (H : Heap) (locs : List Loc) (pc : Nat) (ls : Array Slot), decode b_Mod_isFrame pc = .ok (.ireturn, 1) → narrow .boolean (.int r) = .int r → post r x → Wd dC dI cI cB cJ cZ ad stM kcM 115 A x H → va_S A s.heap H locs → W p l e R s m args below meth c H locs cells slots Q (F0 m pc ls [.int r])) : ∀ (l1 : Int32) (x : St) (H : Heap) (locs : List Loc) (ls : Array Slot), wp_Mod_isFrame post l1 x → Wd dC dI cI cB cJ cZ ad stM kcM 115 A x H → va_S A s.heap H locs → lv_has ls 2 [(0, .ref (ad 0)), (1, .int l1)] → W p l e R s m args below meth c H locs cells slots Q (F0 m 0 ls []) := by
  intro l1 x H locs ls  hw hW hS hl
  unfold wp_Mod_isFrame at hw
  refine lv_aload_n hx hb d_Mod_isFrame_0 rfl (lv_at hl 0 rfl) ?_
  refine w_getf (q := 41) (k := 62) (t := 12) (C := R_Mod) (T := F_Mod) (N := 167) hx hb hT hown hK hW ko_0.1 ko_0.2 (by decide) in_Mod rfl rfl (by decide) rfl fr_Mod_62 w_8_238 d_Mod_isFrame_1 rfl ?_
  refine lv_iload_n hx hb d_Mod_isFrame_4 rfl (lv_at hl 1 rfl) ?_
  obtain ⟨hi, hw⟩ := hw
  refine w_iald (o := 41) hx hb hK hW ko_41.1 ko_41.2 hi d_Mod_isFrame_5 ?_
  refine lv_bipush (v := 83) hx hb d_Mod_isFrame_6 (by decide) ?_
  refine lv_icmp_ne (tgt := 54) hx hb d_Mod_isFrame_8 (by decide) (fun c905 => ?_) (fun c905 => ?_)
  · have hw := hw.1 c905
    exact t_Mod_isFrame_54 hx hb hml hown hT hK hN hA hRc hRs hRf hRl hret  l1 x H locs ls  hw hW hS (lv_sub hl [0, 1] rfl)
  · have hw := hw.2 c905
    refine lv_aload_n hx hb d_Mod_isFrame_11 rfl (lv_at hl 0 rfl) ?_
    refine w_getf (q := 41) (k := 62) (t := 12) (C := R_Mod) (T := F_Mod) (N := 167) hx hb hT hown hK hW ko_0.1 ko_0.2 (by decide) in_Mod rfl rfl (by decide) rfl fr_Mod_62 w_8_238 d_Mod_isFrame_12 rfl ?_
    refine lv_iload_n hx hb d_Mod_isFrame_15 rfl (lv_at hl 1 rfl) ?_
    refine lv_iconst (v := 1) hx hb d_Mod_isFrame_16 (by decide) ?_
    refine lv_iadd hx hb d_Mod_isFrame_17 ?_
    obtain ⟨hi, hw⟩ := hw
    refine w_iald (o := 41) hx hb hK hW ko_41.1 ko_41.2 hi d_Mod_isFrame_18 ?_
    refine lv_bipush (v := 84) hx hb d_Mod_isFrame_19 (by decide) ?_
    refine lv_icmp_ne (tgt := 54) hx hb d_Mod_isFrame_21 (by decide) (fun c906 => ?_) (fun c906 => ?_)
    · have hw := hw.1 c906
      exact t_Mod_isFrame_54 hx hb hml hown hT hK hN hA hRc hRs hRf hRl hret  l1 x H locs ls  hw hW hS (lv_sub hl [0, 1] rfl)
    · have hw := hw.2 c906
      refine lv_aload_n hx hb d_Mod_isFrame_24 rfl (lv_at hl 0 rfl) ?_
      refine w_getf (q := 41) (k := 62) (t := 12) (C := R_Mod) (T := F_Mod) (N := 167) hx hb hT hown hK hW ko_0.1 ko_0.2 (by decide) in_Mod rfl rfl (by decide) rfl fr_Mod_62 w_8_238 d_Mod_isFrame_25 rfl ?_
      refine lv_iload_n hx hb d_Mod_isFrame_28 rfl (lv_at hl 1 rfl) ?_
      refine lv_iconst (v := 2) hx hb d_Mod_isFrame_29 (by decide) ?_
      refine lv_iadd hx hb d_Mod_isFrame_30 ?_
      obtain ⟨hi, hw⟩ := hw
      refine w_iald (o := 41) hx hb hK hW ko_41.1 ko_41.2 hi d_Mod_isFrame_31 ?_
      refine lv_bipush (v := 82) hx hb d_Mod_isFrame_32 (by decide) ?_
      refine lv_icmp_ne (tgt := 54) hx hb d_Mod_isFrame_34 (by decide) (fun c907 => ?_) (fun c907 => ?_)
      · have hw := hw.1 c907
        exact t_Mod_isFrame_54 hx hb hml hown hT hK hN hA hRc hRs hRf hRl hret  l1 x H locs ls  hw hW hS (lv_sub hl [0, 1] rfl)
      · have hw := hw.2 c907
        refine lv_aload_n hx hb d_Mod_isFrame_37 rfl (lv_at hl 0 rfl) ?_
        refine w_getf (q := 41) (k := 62) (t := 12) (C := R_Mod) (T := F_Mod) (N := 167) hx hb hT hown hK hW ko_0.1 ko_0.2 (by decide) in_Mod rfl rfl (by decide) rfl fr_Mod_62 w_8_238 d_Mod_isFrame_38 rfl ?_
        refine lv_iload_n hx hb d_Mod_isFrame_41 rfl (lv_at hl 1 rfl) ?_
        refine lv_iconst (v := 3) hx hb d_Mod_isFrame_42 (by decide) ?_
        refine lv_iadd hx hb d_Mod_isFrame_43 ?_
        obtain ⟨hi, hw⟩ := hw
        refine w_iald (o := 41) hx hb hK hW ko_41.1 ko_41.2 hi d_Mod_isFrame_44 ?_
        refine lv_bipush (v := 66) hx hb d_Mod_isFrame_45 (by decide) ?_
        refine lv_icmp_ne (tgt := 54) hx hb d_Mod_isFrame_47 (by decide) (fun c908 => ?_) (fun c908 => ?_)
        · have hw := hw.1 c908
          exact t_Mod_isFrame_54 hx hb hml hown hT hK hN hA hRc hRs hRf hRl hret  l1 x H locs ls  hw hW hS (lv_sub hl [0, 1] rfl)
        · have hw := hw.2 c908
          refine lv_iconst (v := 1) hx hb d_Mod_isFrame_50 (by decide) ?_
          refine lv_goto (tgt := 55) hx hb d_Mod_isFrame_51 (by decide) ?_
          exact hret 1 x H locs 55 ls d_Mod_isFrame_55 rfl hw hW hS
set_option maxHeartbeats 4000000 in
set_option maxRecDepth 100000 in
theorem k_Mod_isFrame (l : Launch) (dC : Nat → ClassId) (dI : Nat → Nat → Nat) (cI cB cJ cZ : ClassId) (ad : Nat → Nat) (sz : Nat) (l1 : Int32) (x : St) {post : Int32 → St → Prop} (hw : wp_Mod_isFrame post l1 x) : Met l y_Mod_isFrame (wsOf y_Mod_isFrame b_Mod_isFrame 2 (some (.boolean))) ({ frames := 0, cells := 0, slots := 0, locals := 0 }) (va_Pc [.ref (ad 0), .int l1] (PW dC dI cI cB cJ cZ ad stM kcM 115 sz x)) (va_Qi (fun (r : Int32) (y : St) => post r y) (fun y t => Wd dC dI cI cB cJ cZ ad stM kcM 115 (va_A (pic ad stM kcM 115 cI cB cJ cZ x) sz) y t.heap) (va_A (pic ad stM kcM 115 cI cB cJ cZ x) sz)) 0 0 (va_A (pic ad stM kcM 115 cI cB cJ cZ x) sz) := by
  refine Met.ofW (cc := b_Mod_isFrame) (maxL := 2) (ret := some (.boolean)) (by decide) rfl ?_
  intro p e s m args below meth c s₁ B hml hv
  obtain ⟨rfl, hsz, hW0, hK, hN⟩ := hv
  have hx := B.exec
  have hb := B.bytes
  have hr := B.returns
  have hts := atoms_spec B.pre
  have hT : ∀ w ∈ TG, w.before _ s = true := fun w h => hts w (List.mem_cons_of_mem _ h)
  have hown : s.vm.findClass R_Mod = some m.cls := findClass_of_methodNamed B.named
  have hlocks := B.notSynchronized
  subst hsz
  have hW : Wd dC dI cI cB cJ cZ ad stM kcM 115 (va_A (pic ad stM kcM 115 cI cB cJ cZ x) s.heap.size) x s.heap := ⟨hW0.1, hW0.2.1.self (sz := s.heap.size), hW0.2.2⟩
  generalize hAe : va_A (pic ad stM kcM 115 cI cB cJ cZ x) s.heap.size = A at hW ⊢
  have hA : ∀ q : Nat, s.heap.size ≤ q → A q := fun q h => by rw [← hAe]; exact Or.inr h
  have hS : va_S A s.heap s.heap [] := va_S.rf
  have hl := lv_entry ([.ref (ad 0), .int l1]) (n := 2) (Nat.le_of_ble_eq_true rfl)
  rw [lg_entry_eq]
  generalize (lg_sl ([.ref (ad 0), .int l1]) ++ List.replicate (2 - (lg_sl ([.ref (ad 0), .int l1])).length) Slot.unset).toArray = ls at hl ⊢
  have hl : lv_has ls 2 [(0, .ref (ad 0)), (1, .int l1)] := hl
  exact t_Mod_isFrame_e hx hb hml hown hT hK hN hA (Nat.le_refl 0) (Nat.le_refl 0) (Nat.le_refl 0) (Nat.le_refl 0) (fun r x H locs pc ls hd hz hp hW hS => W.zret (v := r) (ty := .boolean) hx hb hr hz (fun t ht hM => ⟨⟨r, x, rfl, hp, Wd.back hW ht.symm (fun _ z => z)⟩, hS.F ht⟩) hS.2.2 hd hlocks)  l1 x _ _ ls  hw hW hS hl
set_option maxRecDepth 100000 in
set_option maxHeartbeats 4000000 in
set_option maxRecDepth 100000 in
theorem t_Mod_faults_e {p : Program} {l : Launch} {e : Env} {R : Room} {s : State} {m : MethodId} {args : Array Value} {below : List Frame} {meth : Method} {c : Code} {cells slots : Nat} {Q : State → Prop} {dC : Nat → ClassId} {dI : Nat → Nat → Nat} {cI cB cJ cZ : ClassId} {A : Nat → Prop} {ad : Nat → Nat} {post : St → Prop} (hx : p.tables.exec = Jvm.exec) (hb : c.code = b_Mod_faults) (hml : c.maxLocals = 3) (hown : s.vm.findClass R_Mod = some m.cls) (hT : ∀ w ∈ TG, w.before args s = true) (hK : va_K (dC, dI) CL (TY cI cB cJ cZ) s) (hN : NW s) (hA : ∀ q : Nat, s.heap.size ≤ q → A q) (hRc : cells ≤ R.cells) (hRs : slots ≤ R.slots) (hRf : 0 ≤ R.frames) (hRl : 0 ≤ R.locals) (hret : ∀ (x : St) (H : Heap) (locs : List Loc) (pc : Nat) (ls : Array Slot), decode b_Mod_faults pc = .ok (.return_, 1) → post x → Wd dC dI cI cB cJ cZ ad stM kcM 115 A x H → va_S A s.heap H locs → W p l e R s m args below meth c H locs cells slots Q (F0 m pc ls [])) : ∀ (l1 : Int32) (l2 : Int32) (x : St) (H : Heap) (locs : List Loc) (ls : Array Slot), wp_Mod_faults post l1 l2 x → Wd dC dI cI cB cJ cZ ad stM kcM 115 A x H → va_S A s.heap H locs → lv_has ls 3 [(0, .ref (ad 0)), (1, .int l1), (2, .int l2)] → W p l e R s m args below meth c H locs cells slots Q (F0 m 0 ls []) := by
  intro l1 l2 x H locs ls  hw hW hS hl
  unfold wp_Mod_faults at hw
  refine lv_iload_n hx hb d_Mod_faults_0 rfl (lv_at hl 1 rfl) ?_
  refine lv_if_eq (tgt := 16) hx hb d_Mod_faults_1 (by decide) (fun c909 => ?_) (fun c909 => ?_)
  · have hw := hw.1 c909
    exact hret x H locs 16 ls d_Mod_faults_16 hw hW hS
  · have hw := hw.2 c909
    refine lv_aload_n hx hb d_Mod_faults_4 rfl (lv_at hl 0 rfl) ?_
    refine w_geti (k := 69) (t := 12) (C := R_Mod) (T := F_Mod) (N := 167) hx hb hT hown hK hW ko_0.1 ko_0.2 (by decide) in_Mod rfl rfl (by decide) rfl fr_Mod_69 w_9_5 d_Mod_faults_5 ?_
    refine lv_if_ne (tgt := 16) hx hb d_Mod_faults_8 (by decide) (fun c910 => ?_) (fun c910 => ?_)
    · have hw := hw.1 c910
      exact hret x H locs 16 ls d_Mod_faults_16 hw hW hS
    · have hw := hw.2 c910
      refine lv_aload_n hx hb d_Mod_faults_11 rfl (lv_at hl 0 rfl) ?_
      refine lv_iload_n hx hb d_Mod_faults_12 rfl (lv_at hl 2 rfl) ?_
      refine w_puti (ty := .int) (k := 69) (t := 12) (C := R_Mod) (T := F_Mod) (N := 167) hx hb hT hown hK hW hS ko_0.1 ko_0.2 (by decide) in_Mod t_Mod t_Mod_ok n_Mod rfl rfl (by decide) rfl fr_Mod_69 w_9_5 (by decide +kernel) rfl rfl d_Mod_faults_13 (fun H locs hW hS => ?_)
      obtain ⟨x911, ex911⟩ : ∃ y : St, y = setI x 0 69 l2 := ⟨_, rfl⟩
      rw [← ex911] at hW
      have hw := hw x911 ex911
      exact hret x911 H locs 16 ls d_Mod_faults_16 hw hW hS
set_option maxHeartbeats 4000000 in
set_option maxRecDepth 100000 in
theorem k_Mod_faults (l : Launch) (dC : Nat → ClassId) (dI : Nat → Nat → Nat) (cI cB cJ cZ : ClassId) (ad : Nat → Nat) (sz : Nat) (l1 : Int32) (l2 : Int32) (x : St) {post : St → Prop} (hw : wp_Mod_faults post l1 l2 x) : Met l y_Mod_faults (wsOf y_Mod_faults b_Mod_faults 3 (none)) ({ frames := 0, cells := 0, slots := 0, locals := 0 }) (va_Pc [.ref (ad 0), .int l1, .int l2] (PW dC dI cI cB cJ cZ ad stM kcM 115 sz x)) (va_Qv (fun (y : St) => post y) (fun y t => Wd dC dI cI cB cJ cZ ad stM kcM 115 (va_A (pic ad stM kcM 115 cI cB cJ cZ x) sz) y t.heap) (va_A (pic ad stM kcM 115 cI cB cJ cZ x) sz)) 0 0 (va_A (pic ad stM kcM 115 cI cB cJ cZ x) sz) := by
  refine Met.ofW (cc := b_Mod_faults) (maxL := 3) (ret := none) (by decide) rfl ?_
  intro p e s m args below meth c s₁ B hml hv
  obtain ⟨rfl, hsz, hW0, hK, hN⟩ := hv
  have hx := B.exec
  have hb := B.bytes
  have hr := B.returns
  have hts := atoms_spec B.pre
  have hT : ∀ w ∈ TG, w.before _ s = true := fun w h => hts w (List.mem_cons_of_mem _ h)
  have hown : s.vm.findClass R_Mod = some m.cls := findClass_of_methodNamed B.named
  have hlocks := B.notSynchronized
  subst hsz
  have hW : Wd dC dI cI cB cJ cZ ad stM kcM 115 (va_A (pic ad stM kcM 115 cI cB cJ cZ x) s.heap.size) x s.heap := ⟨hW0.1, hW0.2.1.self (sz := s.heap.size), hW0.2.2⟩
  generalize hAe : va_A (pic ad stM kcM 115 cI cB cJ cZ x) s.heap.size = A at hW ⊢
  have hA : ∀ q : Nat, s.heap.size ≤ q → A q := fun q h => by rw [← hAe]; exact Or.inr h
  have hS : va_S A s.heap s.heap [] := va_S.rf
  have hl := lv_entry ([.ref (ad 0), .int l1, .int l2]) (n := 3) (Nat.le_of_ble_eq_true rfl)
  rw [lg_entry_eq]
  generalize (lg_sl ([.ref (ad 0), .int l1, .int l2]) ++ List.replicate (3 - (lg_sl ([.ref (ad 0), .int l1, .int l2])).length) Slot.unset).toArray = ls at hl ⊢
  have hl : lv_has ls 3 [(0, .ref (ad 0)), (1, .int l1), (2, .int l2)] := hl
  exact t_Mod_faults_e hx hb hml hown hT hK hN hA (Nat.le_refl 0) (Nat.le_refl 0) (Nat.le_refl 0) (Nat.le_refl 0) (fun x H locs pc ls hd hp hW hS => W.vret hx hb hr (fun t ht hM => ⟨⟨x, rfl, hp, Wd.back hW ht.symm (fun _ z => z)⟩, hS.F ht⟩) hS.2.2 hd hlocks)  l1 l2 x _ _ ls  hw hW hS hl
set_option maxRecDepth 100000 in
set_option maxHeartbeats 4000000 in
set_option maxRecDepth 100000 in
theorem t_Mod_fixed_38 {p : Program} {l : Launch} {e : Env} {R : Room} {s : State} {m : MethodId} {args : Array Value} {below : List Frame} {meth : Method} {c : Code} {cells slots : Nat} {Q : State → Prop} {dC : Nat → ClassId} {dI : Nat → Nat → Nat} {cI cB cJ cZ : ClassId} {A : Nat → Prop} {ad : Nat → Nat} {post : Int64 → St → Prop} {rec38 : Int32 → Int32 → Int64 → Int32 → St → Prop} (hx : p.tables.exec = Jvm.exec) (hb : c.code = b_Mod_fixed) (hml : c.maxLocals = 6) (hown : s.vm.findClass R_Mod = some m.cls) (hT : ∀ w ∈ TG, w.before args s = true) (hK : va_K (dC, dI) CL (TY cI cB cJ cZ) s) (hN : NW s) (hA : ∀ q : Nat, s.heap.size ≤ q → A q) (hRc : cells ≤ R.cells) (hRs : slots ≤ R.slots) (hRf : 0 ≤ R.frames) (hRl : 0 ≤ R.locals) (hret : ∀ (r : Int64) (x : St) (H : Heap) (locs : List Loc) (pc : Nat) (ls : Array Slot), decode b_Mod_fixed pc = .ok (.lreturn, 1) → post r x → Wd dC dI cI cB cJ cZ ad stM kcM 115 A x H → va_S A s.heap H locs → W p l e R s m args below meth c H locs cells slots Q (F0 m pc ls [.long r])) (hrec38 : ∀ (l1 : Int32) (l2 : Int32) (l3 : Int64) (l5 : Int32) (x : St) (H : Heap) (locs : List Loc) (ls : Array Slot), rec38 l1 l2 l3 l5 x → Wd dC dI cI cB cJ cZ ad stM kcM 115 A x H → va_S A s.heap H locs → lv_has ls 6 [(0, .ref (ad 0)), (1, .int l1), (2, .int l2), (3, .long l3), (5, .int l5)] → W p l e R s m args below meth c H locs cells slots Q (F0 m 38 ls [])) : ∀ (l1 : Int32) (l2 : Int32) (l3 : Int64) (l5 : Int32) (x : St) (H : Heap) (locs : List Loc) (ls : Array Slot), j_Mod_fixed_38 post rec38 l1 l2 l3 l5 x → Wd dC dI cI cB cJ cZ ad stM kcM 115 A x H → va_S A s.heap H locs → lv_has ls 6 [(0, .ref (ad 0)), (1, .int l1), (2, .int l2), (3, .long l3), (5, .int l5)] → W p l e R s m args below meth c H locs cells slots Q (F0 m 38 ls []) := by
  intro l1 l2 l3 l5 x H locs ls  hw hW hS hl
  unfold j_Mod_fixed_38 at hw
  refine lv_iload hx hb d_Mod_fixed_38 (lv_at hl 4 rfl) ?_
  refine lv_if_lt (tgt := 68) hx hb d_Mod_fixed_40 (by decide) (fun c912 => ?_) (fun c912 => ?_)
  · have hw := hw.1 c912
    refine lv_aload_n hx hb d_Mod_fixed_68 rfl (lv_at hl 0 rfl) ?_
    refine lv_dup hx hb d_Mod_fixed_69 rfl ?_
    refine w_geti (k := 67) (t := 12) (C := R_Mod) (T := F_Mod) (N := 167) hx hb hT hown hK hW ko_0.1 ko_0.2 (by decide) in_Mod rfl rfl (by decide) rfl fr_Mod_67 w_9_3 d_Mod_fixed_70 ?_
    refine lv_iload_n hx hb d_Mod_fixed_73 rfl (lv_at hl 1 rfl) ?_
    refine lv_iadd hx hb d_Mod_fixed_74 ?_
    refine w_puti (ty := .int) (k := 67) (t := 12) (C := R_Mod) (T := F_Mod) (N := 167) hx hb hT hown hK hW hS ko_0.1 ko_0.2 (by decide) in_Mod t_Mod t_Mod_ok n_Mod rfl rfl (by decide) rfl fr_Mod_67 w_9_3 (by decide +kernel) rfl rfl d_Mod_fixed_75 (fun H locs hW hS => ?_)
    obtain ⟨x913, ex913⟩ : ∃ y : St, y = setI x 0 67 ((fI x 0 67) + l1) := ⟨_, rfl⟩
    rw [← ex913] at hW
    have hw := hw x913 ex913
    refine lv_lload_n hx hb d_Mod_fixed_78 rfl (lv_at hl 3 rfl) ?_
    exact hret l3 x913 H locs 79 ls d_Mod_fixed_79 hw hW hS
  · have hw := hw.2 c912
    refine lv_lload_n hx hb d_Mod_fixed_43 rfl (lv_at hl 3 rfl) ?_
    refine lv_bipush (v := 8) hx hb d_Mod_fixed_44 (by decide) ?_
    refine lv_lshl hx hb d_Mod_fixed_46 rfl ?_
    refine lv_aload_n hx hb d_Mod_fixed_47 rfl (lv_at hl 0 rfl) ?_
    refine w_getf (q := 41) (k := 62) (t := 12) (C := R_Mod) (T := F_Mod) (N := 167) hx hb hT hown hK hW ko_0.1 ko_0.2 (by decide) in_Mod rfl rfl (by decide) rfl fr_Mod_62 w_8_238 d_Mod_fixed_48 rfl ?_
    refine lv_aload_n hx hb d_Mod_fixed_51 rfl (lv_at hl 0 rfl) ?_
    refine w_geti (k := 67) (t := 12) (C := R_Mod) (T := F_Mod) (N := 167) hx hb hT hown hK hW ko_0.1 ko_0.2 (by decide) in_Mod rfl rfl (by decide) rfl fr_Mod_67 w_9_3 d_Mod_fixed_52 ?_
    refine lv_iload hx hb d_Mod_fixed_55 (lv_at hl 4 rfl) ?_
    refine lv_iadd hx hb d_Mod_fixed_57 ?_
    obtain ⟨hi, hw⟩ := hw
    refine w_iald (o := 41) hx hb hK hW ko_41.1 ko_41.2 hi d_Mod_fixed_58 ?_
    refine lv_i2l hx hb d_Mod_fixed_59 rfl ?_
    refine lv_lor hx hb d_Mod_fixed_60 ?_
    refine lv_topl (fun v914 ev914 => ?_)
    have hw := hw v914 ev914
    refine lv_lstore_n (lv' := [(3, .long v914), (0, .ref (ad 0)), (1, .int l1), (2, .int l2), (5, .int l5)]) hx hb d_Mod_fixed_61 rfl hl (by decide) rfl (fun ls hl => ?_)
    refine lv_iinc (v := (l5 + (-1))) (lv' := [(5, .int (l5 + (-1))), (3, .long v914), (0, .ref (ad 0)), (1, .int l1), (2, .int l2)]) hx hb d_Mod_fixed_62 hl (k := 4) rfl rfl (by decide) rfl (fun ls hl => ?_)
    refine lv_goto (tgt := 38) hx hb d_Mod_fixed_65 (by decide) ?_
    exact hrec38 l1 l2 v914 (l5 + (-1)) x H locs ls  hw hW hS (lv_sub hl [2, 3, 4, 1, 0] rfl)
set_option maxHeartbeats 4000000 in
set_option maxRecDepth 100000 in
theorem tl_Mod_fixed_38 {p : Program} {l : Launch} {e : Env} {R : Room} {s : State} {m : MethodId} {args : Array Value} {below : List Frame} {meth : Method} {c : Code} {cells slots : Nat} {Q : State → Prop} {dC : Nat → ClassId} {dI : Nat → Nat → Nat} {cI cB cJ cZ : ClassId} {A : Nat → Prop} {ad : Nat → Nat} {post : Int64 → St → Prop} (hx : p.tables.exec = Jvm.exec) (hb : c.code = b_Mod_fixed) (hml : c.maxLocals = 6) (hown : s.vm.findClass R_Mod = some m.cls) (hT : ∀ w ∈ TG, w.before args s = true) (hK : va_K (dC, dI) CL (TY cI cB cJ cZ) s) (hN : NW s) (hA : ∀ q : Nat, s.heap.size ≤ q → A q) (hRc : cells ≤ R.cells) (hRs : slots ≤ R.slots) (hRf : 0 ≤ R.frames) (hRl : 0 ≤ R.locals) (hret : ∀ (r : Int64) (x : St) (H : Heap) (locs : List Loc) (pc : Nat) (ls : Array Slot), decode b_Mod_fixed pc = .ok (.lreturn, 1) → post r x → Wd dC dI cI cB cJ cZ ad stM kcM 115 A x H → va_S A s.heap H locs → W p l e R s m args below meth c H locs cells slots Q (F0 m pc ls [.long r]))  : ∀ n : Nat, ∀ (l1 : Int32) (l2 : Int32) (l3 : Int64) (l5 : Int32) (x : St) (H : Heap) (locs : List Loc) (ls : Array Slot), wl_Mod_fixed_38 post n l1 l2 l3 l5 x → Wd dC dI cI cB cJ cZ ad stM kcM 115 A x H → va_S A s.heap H locs → lv_has ls 6 [(0, .ref (ad 0)), (1, .int l1), (2, .int l2), (3, .long l3), (5, .int l5)] → W p l e R s m args below meth c H locs cells slots Q (F0 m 38 ls []) := by
  intro n
  induction n with
  | zero => intro l1 l2 l3 l5 x H locs ls  hw; exact hw.elim
  | succ n ih => intro l1 l2 l3 l5 x H locs ls  hw hW hS hl; exact t_Mod_fixed_38 hx hb hml hown hT hK hN hA hRc hRs hRf hRl hret  ih l1 l2 l3 l5 x H locs ls  hw hW hS hl
set_option maxRecDepth 100000 in
set_option maxHeartbeats 4000000 in
set_option maxRecDepth 100000 in
theorem t_Mod_fixed_22 {p : Program} {l : Launch} {e : Env} {R : Room} {s : State} {m : MethodId} {args : Array Value} {below : List Frame} {meth : Method} {c : Code} {cells slots : Nat} {Q : State → Prop} {dC : Nat → ClassId} {dI : Nat → Nat → Nat} {cI cB cJ cZ : ClassId} {A : Nat → Prop} {ad : Nat → Nat} {post : Int64 → St → Prop} (hx : p.tables.exec = Jvm.exec) (hb : c.code = b_Mod_fixed) (hml : c.maxLocals = 6) (hown : s.vm.findClass R_Mod = some m.cls) (hT : ∀ w ∈ TG, w.before args s = true) (hK : va_K (dC, dI) CL (TY cI cB cJ cZ) s) (hN : NW s) (hA : ∀ q : Nat, s.heap.size ≤ q → A q) (hRc : cells ≤ R.cells) (hRs : slots ≤ R.slots) (hRf : 0 ≤ R.frames) (hRl : 0 ≤ R.locals) (hret : ∀ (r : Int64) (x : St) (H : Heap) (locs : List Loc) (pc : Nat) (ls : Array Slot), decode b_Mod_fixed pc = .ok (.lreturn, 1) → post r x → Wd dC dI cI cB cJ cZ ad stM kcM 115 A x H → va_S A s.heap H locs → W p l e R s m args below meth c H locs cells slots Q (F0 m pc ls [.long r]))  : ∀ (l1 : Int32) (l2 : Int32) (x : St) (H : Heap) (locs : List Loc) (ls : Array Slot), j_Mod_fixed_22 post l1 l2 x → Wd dC dI cI cB cJ cZ ad stM kcM 115 A x H → va_S A s.heap H locs → lv_has ls 6 [(0, .ref (ad 0)), (1, .int l1), (2, .int l2)] → W p l e R s m args below meth c H locs cells slots Q (F0 m 22 ls []) := by
  intro l1 l2 x H locs ls  hw hW hS hl
  unfold j_Mod_fixed_22 at hw
  refine lv_aload_n hx hb d_Mod_fixed_22 rfl (lv_at hl 0 rfl) ?_
  refine w_geti (k := 69) (t := 12) (C := R_Mod) (T := F_Mod) (N := 167) hx hb hT hown hK hW ko_0.1 ko_0.2 (by decide) in_Mod rfl rfl (by decide) rfl fr_Mod_69 w_9_5 d_Mod_fixed_23 ?_
  refine lv_if_eq (tgt := 31) hx hb d_Mod_fixed_26 (by decide) (fun c915 => ?_) (fun c915 => ?_)
  · have hw := hw.1 c915
    refine lv_lconst (v := 0) hx hb d_Mod_fixed_31 (by decide) ?_
    refine lv_lstore_n (lv' := [(3, .long 0), (0, .ref (ad 0)), (1, .int l1), (2, .int l2)]) hx hb d_Mod_fixed_32 rfl hl (by decide) rfl (fun ls hl => ?_)
    refine lv_iload_n hx hb d_Mod_fixed_33 rfl (lv_at hl 2 rfl) ?_
    refine lv_iconst (v := 1) hx hb d_Mod_fixed_34 (by decide) ?_
    refine lv_isub hx hb d_Mod_fixed_35 ?_
    refine lv_topi (fun v916 ev916 => ?_)
    have hw := hw v916 ev916
    refine lv_istore (lv' := [(5, .int v916), (3, .long 0), (0, .ref (ad 0)), (1, .int l1), (2, .int l2)]) hx hb d_Mod_fixed_36 hl (by decide) rfl (fun ls hl => ?_)
    obtain ⟨n, hw⟩ := hw
    exact tl_Mod_fixed_38 hx hb hml hown hT hK hN hA hRc hRs hRf hRl hret  n l1 l2 0 v916 x H locs ls  hw hW hS (lv_sub hl [2, 3, 4, 1, 0] rfl)
  · have hw := hw.2 c915
    refine lv_lconst (v := 0) hx hb d_Mod_fixed_29 (by decide) ?_
    exact hret 0 x H locs 30 ls d_Mod_fixed_30 hw hW hS
set_option maxRecDepth 100000 in
set_option maxHeartbeats 4000000 in
set_option maxRecDepth 100000 in
theorem t_Mod_fixed_e {p : Program} {l : Launch} {e : Env} {R : Room} {s : State} {m : MethodId} {args : Array Value} {below : List Frame} {meth : Method} {c : Code} {cells slots : Nat} {Q : State → Prop} {dC : Nat → ClassId} {dI : Nat → Nat → Nat} {cI cB cJ cZ : ClassId} {A : Nat → Prop} {ad : Nat → Nat} {post : Int64 → St → Prop} (hx : p.tables.exec = Jvm.exec) (hb : c.code = b_Mod_fixed) (hml : c.maxLocals = 6) (hown : s.vm.findClass R_Mod = some m.cls) (hT : ∀ w ∈ TG, w.before args s = true) (hK : va_K (dC, dI) CL (TY cI cB cJ cZ) s) (hN : NW s) (hA : ∀ q : Nat, s.heap.size ≤ q → A q) (hRc : cells ≤ R.cells) (hRs : slots ≤ R.slots) (hRf : 0 ≤ R.frames) (hRl : 0 ≤ R.locals) (hret : ∀ (r : Int64) (x : St) (H : Heap) (locs : List Loc) (pc : Nat) (ls : Array Slot), decode b_Mod_fixed pc = .ok (.lreturn, 1) → post r x → Wd dC dI cI cB cJ cZ ad stM kcM 115 A x H → va_S A s.heap H locs → W p l e R s m args below meth c H locs cells slots Q (F0 m pc ls [.long r])) : ∀ (l1 : Int32) (l2 : Int32) (x : St) (H : Heap) (locs : List Loc) (ls : Array Slot), wp_Mod_fixed post l1 l2 x → Wd dC dI cI cB cJ cZ ad stM kcM 115 A x H → va_S A s.heap H locs → lv_has ls 6 [(0, .ref (ad 0)), (1, .int l1), (2, .int l2)] → W p l e R s m args below meth c H locs cells slots Q (F0 m 0 ls []) := by
  intro l1 l2 x H locs ls  hw hW hS hl
  unfold wp_Mod_fixed at hw
  refine lv_aload_n hx hb d_Mod_fixed_0 rfl (lv_at hl 0 rfl) ?_
  refine w_geti (k := 69) (t := 12) (C := R_Mod) (T := F_Mod) (N := 167) hx hb hT hown hK hW ko_0.1 ko_0.2 (by decide) in_Mod rfl rfl (by decide) rfl fr_Mod_69 w_9_5 d_Mod_fixed_1 ?_
  refine lv_if_ne (tgt := 22) hx hb d_Mod_fixed_4 (by decide) (fun c917 => ?_) (fun c917 => ?_)
  · have hw := hw.1 c917
    exact t_Mod_fixed_22 hx hb hml hown hT hK hN hA hRc hRs hRf hRl hret  l1 l2 x H locs ls  hw hW hS (lv_sub hl [0, 1, 2] rfl)
  · have hw := hw.2 c917
    refine lv_iload_n hx hb d_Mod_fixed_7 rfl (lv_at hl 2 rfl) ?_
    refine lv_aload_n hx hb d_Mod_fixed_8 rfl (lv_at hl 0 rfl) ?_
    refine w_geti (k := 67) (t := 12) (C := R_Mod) (T := F_Mod) (N := 167) hx hb hT hown hK hW ko_0.1 ko_0.2 (by decide) in_Mod rfl rfl (by decide) rfl fr_Mod_67 w_9_3 d_Mod_fixed_9 ?_
    refine lv_isub hx hb d_Mod_fixed_12 ?_
    refine lv_iload_n hx hb d_Mod_fixed_13 rfl (lv_at hl 1 rfl) ?_
    refine lv_icmp_ge (tgt := 22) hx hb d_Mod_fixed_14 (by decide) (fun c918 => ?_) (fun c918 => ?_)
    · have hw := hw.1 c918
      exact t_Mod_fixed_22 hx hb hml hown hT hK hN hA hRc hRs hRf hRl hret  l1 l2 x H locs ls  hw hW hS (lv_sub hl [0, 1, 2] rfl)
    · have hw := hw.2 c918
      refine lv_aload_n hx hb d_Mod_fixed_17 rfl (lv_at hl 0 rfl) ?_
      refine lv_iconst (v := 1) hx hb d_Mod_fixed_18 (by decide) ?_
      refine w_puti (ty := .int) (k := 69) (t := 12) (C := R_Mod) (T := F_Mod) (N := 167) hx hb hT hown hK hW hS ko_0.1 ko_0.2 (by decide) in_Mod t_Mod t_Mod_ok n_Mod rfl rfl (by decide) rfl fr_Mod_69 w_9_5 (by decide +kernel) rfl rfl d_Mod_fixed_19 (fun H locs hW hS => ?_)
      obtain ⟨x919, ex919⟩ : ∃ y : St, y = setI x 0 69 1 := ⟨_, rfl⟩
      rw [← ex919] at hW
      have hw := hw x919 ex919
      exact t_Mod_fixed_22 hx hb hml hown hT hK hN hA hRc hRs hRf hRl hret  l1 l2 x919 H locs ls  hw hW hS (lv_sub hl [0, 1, 2] rfl)
set_option maxHeartbeats 4000000 in
set_option maxRecDepth 100000 in
theorem k_Mod_fixed (l : Launch) (dC : Nat → ClassId) (dI : Nat → Nat → Nat) (cI cB cJ cZ : ClassId) (ad : Nat → Nat) (sz : Nat) (l1 : Int32) (l2 : Int32) (x : St) {post : Int64 → St → Prop} (hw : wp_Mod_fixed post l1 l2 x) : Met l y_Mod_fixed (wsOf y_Mod_fixed b_Mod_fixed 6 (some (.long))) ({ frames := 0, cells := 0, slots := 0, locals := 0 }) (va_Pc [.ref (ad 0), .int l1, .int l2] (PW dC dI cI cB cJ cZ ad stM kcM 115 sz x)) (va_Ql (fun (r : Int64) (y : St) => post r y) (fun y t => Wd dC dI cI cB cJ cZ ad stM kcM 115 (va_A (pic ad stM kcM 115 cI cB cJ cZ x) sz) y t.heap) (va_A (pic ad stM kcM 115 cI cB cJ cZ x) sz)) 0 0 (va_A (pic ad stM kcM 115 cI cB cJ cZ x) sz) := by
  refine Met.ofW (cc := b_Mod_fixed) (maxL := 6) (ret := some (.long)) (by decide) rfl ?_
  intro p e s m args below meth c s₁ B hml hv
  obtain ⟨rfl, hsz, hW0, hK, hN⟩ := hv
  have hx := B.exec
  have hb := B.bytes
  have hr := B.returns
  have hts := atoms_spec B.pre
  have hT : ∀ w ∈ TG, w.before _ s = true := fun w h => hts w (List.mem_cons_of_mem _ h)
  have hown : s.vm.findClass R_Mod = some m.cls := findClass_of_methodNamed B.named
  have hlocks := B.notSynchronized
  subst hsz
  have hW : Wd dC dI cI cB cJ cZ ad stM kcM 115 (va_A (pic ad stM kcM 115 cI cB cJ cZ x) s.heap.size) x s.heap := ⟨hW0.1, hW0.2.1.self (sz := s.heap.size), hW0.2.2⟩
  generalize hAe : va_A (pic ad stM kcM 115 cI cB cJ cZ x) s.heap.size = A at hW ⊢
  have hA : ∀ q : Nat, s.heap.size ≤ q → A q := fun q h => by rw [← hAe]; exact Or.inr h
  have hS : va_S A s.heap s.heap [] := va_S.rf
  have hl := lv_entry ([.ref (ad 0), .int l1, .int l2]) (n := 6) (Nat.le_of_ble_eq_true rfl)
  rw [lg_entry_eq]
  generalize (lg_sl ([.ref (ad 0), .int l1, .int l2]) ++ List.replicate (6 - (lg_sl ([.ref (ad 0), .int l1, .int l2])).length) Slot.unset).toArray = ls at hl ⊢
  have hl : lv_has ls 6 [(0, .ref (ad 0)), (1, .int l1), (2, .int l2)] := hl
  exact t_Mod_fixed_e hx hb hml hown hT hK hN hA (Nat.le_refl 0) (Nat.le_refl 0) (Nat.le_refl 0) (Nat.le_refl 0) (fun r x H locs pc ls hd hp hW hS => W.lret (v := r) hx hb hr (fun t ht hM => ⟨⟨r, x, rfl, hp, Wd.back hW ht.symm (fun _ z => z)⟩, hS.F ht⟩) hS.2.2 hd hlocks)  l1 l2 x _ _ ls  hw hW hS hl
set_option maxRecDepth 100000 in
set_option maxHeartbeats 4000000 in
set_option maxRecDepth 100000 in
theorem t_Mod_varint_108 {p : Program} {l : Launch} {e : Env} {R : Room} {s : State} {m : MethodId} {args : Array Value} {below : List Frame} {meth : Method} {c : Code} {cells slots : Nat} {Q : State → Prop} {dC : Nat → ClassId} {dI : Nat → Nat → Nat} {cI cB cJ cZ : ClassId} {A : Nat → Prop} {ad : Nat → Nat} {post : Int64 → St → Prop} {rec5 : Int32 → Int64 → Int32 → St → Prop} (hx : p.tables.exec = Jvm.exec) (hb : c.code = b_Mod_varint) (hml : c.maxLocals = 6) (hown : s.vm.findClass R_Mod = some m.cls) (hT : ∀ w ∈ TG, w.before args s = true) (hK : va_K (dC, dI) CL (TY cI cB cJ cZ) s) (hN : NW s) (hA : ∀ q : Nat, s.heap.size ≤ q → A q) (hRc : cells ≤ R.cells) (hRs : slots ≤ R.slots) (hRf : 0 ≤ R.frames) (hRl : 0 ≤ R.locals) (hret : ∀ (r : Int64) (x : St) (H : Heap) (locs : List Loc) (pc : Nat) (ls : Array Slot), decode b_Mod_varint pc = .ok (.lreturn, 1) → post r x → Wd dC dI cI cB cJ cZ ad stM kcM 115 A x H → va_S A s.heap H locs → W p l e R s m args below meth c H locs cells slots Q (F0 m pc ls [.long r])) (hrec5 : ∀ (l1 : Int32) (l2 : Int64) (l4 : Int32) (x : St) (H : Heap) (locs : List Loc) (ls : Array Slot), rec5 l1 l2 l4 x → Wd dC dI cI cB cJ cZ ad stM kcM 115 A x H → va_S A s.heap H locs → lv_has ls 6 [(0, .ref (ad 0)), (1, .int l1), (2, .long l2), (4, .int l4)] → W p l e R s m args below meth c H locs cells slots Q (F0 m 5 ls [])) : ∀ (l1 : Int32) (l2 : Int64) (l4 : Int32) (l5 : Int32) (x : St) (H : Heap) (locs : List Loc) (ls : Array Slot), j_Mod_varint_108 post rec5 l1 l2 l4 l5 x → Wd dC dI cI cB cJ cZ ad stM kcM 115 A x H → va_S A s.heap H locs → lv_has ls 6 [(0, .ref (ad 0)), (1, .int l1), (2, .long l2), (4, .int l4), (5, .int l5)] → W p l e R s m args below meth c H locs cells slots Q (F0 m 108 ls []) := by
  intro l1 l2 l4 l5 x H locs ls  hw hW hS hl
  unfold j_Mod_varint_108 at hw
  refine lv_goto (tgt := 5) hx hb d_Mod_varint_108 (by decide) ?_
  exact hrec5 l1 l2 l4 x H locs ls  hw hW hS (lv_sub hl [0, 1, 2, 3] rfl)
set_option maxRecDepth 100000 in
set_option maxHeartbeats 4000000 in
set_option maxRecDepth 100000 in
theorem t_Mod_varint_80 {p : Program} {l : Launch} {e : Env} {R : Room} {s : State} {m : MethodId} {args : Array Value} {below : List Frame} {meth : Method} {c : Code} {cells slots : Nat} {Q : State → Prop} {dC : Nat → ClassId} {dI : Nat → Nat → Nat} {cI cB cJ cZ : ClassId} {A : Nat → Prop} {ad : Nat → Nat} {post : Int64 → St → Prop} {rec5 : Int32 → Int64 → Int32 → St → Prop} (hx : p.tables.exec = Jvm.exec) (hb : c.code = b_Mod_varint) (hml : c.maxLocals = 6) (hown : s.vm.findClass R_Mod = some m.cls) (hT : ∀ w ∈ TG, w.before args s = true) (hK : va_K (dC, dI) CL (TY cI cB cJ cZ) s) (hN : NW s) (hA : ∀ q : Nat, s.heap.size ≤ q → A q) (hRc : cells ≤ R.cells) (hRs : slots ≤ R.slots) (hRf : 0 ≤ R.frames) (hRl : 0 ≤ R.locals) (hret : ∀ (r : Int64) (x : St) (H : Heap) (locs : List Loc) (pc : Nat) (ls : Array Slot), decode b_Mod_varint pc = .ok (.lreturn, 1) → post r x → Wd dC dI cI cB cJ cZ ad stM kcM 115 A x H → va_S A s.heap H locs → W p l e R s m args below meth c H locs cells slots Q (F0 m pc ls [.long r])) (hrec5 : ∀ (l1 : Int32) (l2 : Int64) (l4 : Int32) (x : St) (H : Heap) (locs : List Loc) (ls : Array Slot), rec5 l1 l2 l4 x → Wd dC dI cI cB cJ cZ ad stM kcM 115 A x H → va_S A s.heap H locs → lv_has ls 6 [(0, .ref (ad 0)), (1, .int l1), (2, .long l2), (4, .int l4)] → W p l e R s m args below meth c H locs cells slots Q (F0 m 5 ls [])) : ∀ (l1 : Int32) (l2 : Int64) (l4 : Int32) (l5 : Int32) (x : St) (H : Heap) (locs : List Loc) (ls : Array Slot), j_Mod_varint_80 post rec5 l1 l2 l4 l5 x → Wd dC dI cI cB cJ cZ ad stM kcM 115 A x H → va_S A s.heap H locs → lv_has ls 6 [(0, .ref (ad 0)), (1, .int l1), (2, .long l2), (4, .int l4), (5, .int l5)] → W p l e R s m args below meth c H locs cells slots Q (F0 m 80 ls []) := by
  intro l1 l2 l4 l5 x H locs ls  hw hW hS hl
  unfold j_Mod_varint_80 at hw
  refine lv_lload_n hx hb d_Mod_varint_80 rfl (lv_at hl 2 rfl) ?_
  refine lv_iload hx hb d_Mod_varint_81 (lv_at hl 4 rfl) ?_
  refine lv_bipush (v := 127) hx hb d_Mod_varint_83 (by decide) ?_
  refine lv_iand hx hb d_Mod_varint_85 ?_
  refine lv_i2l hx hb d_Mod_varint_86 rfl ?_
  refine lv_bipush (v := 7) hx hb d_Mod_varint_87 (by decide) ?_
  refine lv_iload hx hb d_Mod_varint_89 (lv_at hl 3 rfl) ?_
  refine lv_imul hx hb d_Mod_varint_91 ?_
  refine lv_lshl hx hb d_Mod_varint_92 rfl ?_
  refine lv_lor hx hb d_Mod_varint_93 ?_
  refine lv_topl (fun v920 ev920 => ?_)
  have hw := hw v920 ev920
  refine lv_lstore_n (lv' := [(2, .long v920), (0, .ref (ad 0)), (1, .int l1), (4, .int l4), (5, .int l5)]) hx hb d_Mod_varint_94 rfl hl (by decide) rfl (fun ls hl => ?_)
  refine lv_iload hx hb d_Mod_varint_95 (lv_at hl 4 rfl) ?_
  refine lv_sipush (v := 128) hx hb d_Mod_varint_97 (by decide) ?_
  refine lv_icmp_ge (tgt := 105) hx hb d_Mod_varint_100 (by decide) (fun c921 => ?_) (fun c921 => ?_)
  · have hw := hw.1 c921
    refine lv_iinc (v := (l4 + 1)) (lv' := [(4, .int (l4 + 1)), (2, .long v920), (0, .ref (ad 0)), (1, .int l1), (5, .int l5)]) hx hb d_Mod_varint_105 hl (k := 3) rfl rfl (by decide) rfl (fun ls hl => ?_)
    exact t_Mod_varint_108 hx hb hml hown hT hK hN hA hRc hRs hRf hRl hret hrec5 l1 v920 (l4 + 1) l5 x H locs ls  hw hW hS (lv_sub hl [2, 3, 1, 0, 4] rfl)
  · have hw := hw.2 c921
    refine lv_lload_n hx hb d_Mod_varint_103 rfl (lv_at hl 0 rfl) ?_
    exact hret v920 x H locs 104 ls d_Mod_varint_104 hw hW hS
set_option maxRecDepth 100000 in
set_option maxHeartbeats 4000000 in
set_option maxRecDepth 100000 in
theorem t_Mod_varint_72 {p : Program} {l : Launch} {e : Env} {R : Room} {s : State} {m : MethodId} {args : Array Value} {below : List Frame} {meth : Method} {c : Code} {cells slots : Nat} {Q : State → Prop} {dC : Nat → ClassId} {dI : Nat → Nat → Nat} {cI cB cJ cZ : ClassId} {A : Nat → Prop} {ad : Nat → Nat} {post : Int64 → St → Prop} {rec5 : Int32 → Int64 → Int32 → St → Prop} (hx : p.tables.exec = Jvm.exec) (hb : c.code = b_Mod_varint) (hml : c.maxLocals = 6) (hown : s.vm.findClass R_Mod = some m.cls) (hT : ∀ w ∈ TG, w.before args s = true) (hK : va_K (dC, dI) CL (TY cI cB cJ cZ) s) (hN : NW s) (hA : ∀ q : Nat, s.heap.size ≤ q → A q) (hRc : cells ≤ R.cells) (hRs : slots ≤ R.slots) (hRf : 0 ≤ R.frames) (hRl : 0 ≤ R.locals) (hret : ∀ (r : Int64) (x : St) (H : Heap) (locs : List Loc) (pc : Nat) (ls : Array Slot), decode b_Mod_varint pc = .ok (.lreturn, 1) → post r x → Wd dC dI cI cB cJ cZ ad stM kcM 115 A x H → va_S A s.heap H locs → W p l e R s m args below meth c H locs cells slots Q (F0 m pc ls [.long r])) (hrec5 : ∀ (l1 : Int32) (l2 : Int64) (l4 : Int32) (x : St) (H : Heap) (locs : List Loc) (ls : Array Slot), rec5 l1 l2 l4 x → Wd dC dI cI cB cJ cZ ad stM kcM 115 A x H → va_S A s.heap H locs → lv_has ls 6 [(0, .ref (ad 0)), (1, .int l1), (2, .long l2), (4, .int l4)] → W p l e R s m args below meth c H locs cells slots Q (F0 m 5 ls [])) : ∀ (l1 : Int32) (l2 : Int64) (l4 : Int32) (l5 : Int32) (x : St) (H : Heap) (locs : List Loc) (ls : Array Slot), j_Mod_varint_72 post rec5 l1 l2 l4 l5 x → Wd dC dI cI cB cJ cZ ad stM kcM 115 A x H → va_S A s.heap H locs → lv_has ls 6 [(0, .ref (ad 0)), (1, .int l1), (2, .long l2), (4, .int l4), (5, .int l5)] → W p l e R s m args below meth c H locs cells slots Q (F0 m 72 ls []) := by
  intro l1 l2 l4 l5 x H locs ls  hw hW hS hl
  unfold j_Mod_varint_72 at hw
  refine lv_aload_n hx hb d_Mod_varint_72 rfl (lv_at hl 0 rfl) ?_
  refine lv_iconst (v := 2) hx hb d_Mod_varint_73 (by decide) ?_
  refine w_puti (ty := .int) (k := 69) (t := 12) (C := R_Mod) (T := F_Mod) (N := 167) hx hb hT hown hK hW hS ko_0.1 ko_0.2 (by decide) in_Mod t_Mod t_Mod_ok n_Mod rfl rfl (by decide) rfl fr_Mod_69 w_9_5 (by decide +kernel) rfl rfl d_Mod_varint_74 (fun H locs hW hS => ?_)
  obtain ⟨x922, ex922⟩ : ∃ y : St, y = setI x 0 69 2 := ⟨_, rfl⟩
  rw [← ex922] at hW
  have hw := hw x922 ex922
  refine lv_goto (tgt := 108) hx hb d_Mod_varint_77 (by decide) ?_
  exact t_Mod_varint_108 hx hb hml hown hT hK hN hA hRc hRs hRf hRl hret hrec5 l1 l2 l4 l5 x922 H locs ls  hw hW hS (lv_sub hl [0, 1, 2, 3, 4] rfl)
set_option maxRecDepth 100000 in
set_option maxHeartbeats 4000000 in
set_option maxRecDepth 100000 in
theorem t_Mod_varint_62 {p : Program} {l : Launch} {e : Env} {R : Room} {s : State} {m : MethodId} {args : Array Value} {below : List Frame} {meth : Method} {c : Code} {cells slots : Nat} {Q : State → Prop} {dC : Nat → ClassId} {dI : Nat → Nat → Nat} {cI cB cJ cZ : ClassId} {A : Nat → Prop} {ad : Nat → Nat} {post : Int64 → St → Prop} {rec5 : Int32 → Int64 → Int32 → St → Prop} (hx : p.tables.exec = Jvm.exec) (hb : c.code = b_Mod_varint) (hml : c.maxLocals = 6) (hown : s.vm.findClass R_Mod = some m.cls) (hT : ∀ w ∈ TG, w.before args s = true) (hK : va_K (dC, dI) CL (TY cI cB cJ cZ) s) (hN : NW s) (hA : ∀ q : Nat, s.heap.size ≤ q → A q) (hRc : cells ≤ R.cells) (hRs : slots ≤ R.slots) (hRf : 0 ≤ R.frames) (hRl : 0 ≤ R.locals) (hret : ∀ (r : Int64) (x : St) (H : Heap) (locs : List Loc) (pc : Nat) (ls : Array Slot), decode b_Mod_varint pc = .ok (.lreturn, 1) → post r x → Wd dC dI cI cB cJ cZ ad stM kcM 115 A x H → va_S A s.heap H locs → W p l e R s m args below meth c H locs cells slots Q (F0 m pc ls [.long r])) (hrec5 : ∀ (l1 : Int32) (l2 : Int64) (l4 : Int32) (x : St) (H : Heap) (locs : List Loc) (ls : Array Slot), rec5 l1 l2 l4 x → Wd dC dI cI cB cJ cZ ad stM kcM 115 A x H → va_S A s.heap H locs → lv_has ls 6 [(0, .ref (ad 0)), (1, .int l1), (2, .long l2), (4, .int l4)] → W p l e R s m args below meth c H locs cells slots Q (F0 m 5 ls [])) : ∀ (l1 : Int32) (l2 : Int64) (l4 : Int32) (l5 : Int32) (x : St) (H : Heap) (locs : List Loc) (ls : Array Slot), j_Mod_varint_62 post rec5 l1 l2 l4 l5 x → Wd dC dI cI cB cJ cZ ad stM kcM 115 A x H → va_S A s.heap H locs → lv_has ls 6 [(0, .ref (ad 0)), (1, .int l1), (2, .long l2), (4, .int l4), (5, .int l5)] → W p l e R s m args below meth c H locs cells slots Q (F0 m 62 ls []) := by
  intro l1 l2 l4 l5 x H locs ls  hw hW hS hl
  unfold j_Mod_varint_62 at hw
  refine lv_iload hx hb d_Mod_varint_62 (lv_at hl 3 rfl) ?_
  refine lv_if_le (tgt := 80) hx hb d_Mod_varint_64 (by decide) (fun c923 => ?_) (fun c923 => ?_)
  · have hw := hw.1 c923
    exact t_Mod_varint_80 hx hb hml hown hT hK hN hA hRc hRs hRf hRl hret hrec5 l1 l2 l4 l5 x H locs ls  hw hW hS (lv_sub hl [0, 1, 2, 3, 4] rfl)
  · have hw := hw.2 c923
    refine lv_iload hx hb d_Mod_varint_67 (lv_at hl 4 rfl) ?_
    refine lv_if_ne (tgt := 80) hx hb d_Mod_varint_69 (by decide) (fun c924 => ?_) (fun c924 => ?_)
    · have hw := hw.1 c924
      exact t_Mod_varint_80 hx hb hml hown hT hK hN hA hRc hRs hRf hRl hret hrec5 l1 l2 l4 l5 x H locs ls  hw hW hS (lv_sub hl [0, 1, 2, 3, 4] rfl)
    · have hw := hw.2 c924
      exact t_Mod_varint_72 hx hb hml hown hT hK hN hA hRc hRs hRf hRl hret hrec5 l1 l2 l4 l5 x H locs ls  hw hW hS (lv_sub hl [0, 1, 2, 3, 4] rfl)
set_option maxRecDepth 100000 in
set_option maxHeartbeats 4000000 in
set_option maxRecDepth 100000 in
theorem t_Mod_varint_5 {p : Program} {l : Launch} {e : Env} {R : Room} {s : State} {m : MethodId} {args : Array Value} {below : List Frame} {meth : Method} {c : Code} {cells slots : Nat} {Q : State → Prop} {dC : Nat → ClassId} {dI : Nat → Nat → Nat} {cI cB cJ cZ : ClassId} {A : Nat → Prop} {ad : Nat → Nat} {post : Int64 → St → Prop} {rec5 : Int32 → Int64 → Int32 → St → Prop} (hx : p.tables.exec = Jvm.exec) (hb : c.code = b_Mod_varint) (hml : c.maxLocals = 6) (hown : s.vm.findClass R_Mod = some m.cls) (hT : ∀ w ∈ TG, w.before args s = true) (hK : va_K (dC, dI) CL (TY cI cB cJ cZ) s) (hN : NW s) (hA : ∀ q : Nat, s.heap.size ≤ q → A q) (hRc : cells ≤ R.cells) (hRs : slots ≤ R.slots) (hRf : 0 ≤ R.frames) (hRl : 0 ≤ R.locals) (hret : ∀ (r : Int64) (x : St) (H : Heap) (locs : List Loc) (pc : Nat) (ls : Array Slot), decode b_Mod_varint pc = .ok (.lreturn, 1) → post r x → Wd dC dI cI cB cJ cZ ad stM kcM 115 A x H → va_S A s.heap H locs → W p l e R s m args below meth c H locs cells slots Q (F0 m pc ls [.long r])) (hrec5 : ∀ (l1 : Int32) (l2 : Int64) (l4 : Int32) (x : St) (H : Heap) (locs : List Loc) (ls : Array Slot), rec5 l1 l2 l4 x → Wd dC dI cI cB cJ cZ ad stM kcM 115 A x H → va_S A s.heap H locs → lv_has ls 6 [(0, .ref (ad 0)), (1, .int l1), (2, .long l2), (4, .int l4)] → W p l e R s m args below meth c H locs cells slots Q (F0 m 5 ls [])) : ∀ (l1 : Int32) (l2 : Int64) (l4 : Int32) (x : St) (H : Heap) (locs : List Loc) (ls : Array Slot), j_Mod_varint_5 post rec5 l1 l2 l4 x → Wd dC dI cI cB cJ cZ ad stM kcM 115 A x H → va_S A s.heap H locs → lv_has ls 6 [(0, .ref (ad 0)), (1, .int l1), (2, .long l2), (4, .int l4)] → W p l e R s m args below meth c H locs cells slots Q (F0 m 5 ls []) := by
  intro l1 l2 l4 x H locs ls  hw hW hS hl
  unfold j_Mod_varint_5 at hw
  refine lv_aload_n hx hb d_Mod_varint_5 rfl (lv_at hl 0 rfl) ?_
  refine w_geti (k := 69) (t := 12) (C := R_Mod) (T := F_Mod) (N := 167) hx hb hT hown hK hW ko_0.1 ko_0.2 (by decide) in_Mod rfl rfl (by decide) rfl fr_Mod_69 w_9_5 d_Mod_varint_6 ?_
  refine lv_if_ne (tgt := 111) hx hb d_Mod_varint_9 (by decide) (fun c925 => ?_) (fun c925 => ?_)
  · have hw := hw.1 c925
    refine lv_lconst (v := 0) hx hb d_Mod_varint_111 (by decide) ?_
    exact hret 0 x H locs 112 ls d_Mod_varint_112 hw hW hS
  · have hw := hw.2 c925
    refine lv_aload_n hx hb d_Mod_varint_12 rfl (lv_at hl 0 rfl) ?_
    refine w_geti (k := 67) (t := 12) (C := R_Mod) (T := F_Mod) (N := 167) hx hb hT hown hK hW ko_0.1 ko_0.2 (by decide) in_Mod rfl rfl (by decide) rfl fr_Mod_67 w_9_3 d_Mod_varint_13 ?_
    refine lv_iload_n hx hb d_Mod_varint_16 rfl (lv_at hl 1 rfl) ?_
    refine lv_icmp_lt (tgt := 28) hx hb d_Mod_varint_17 (by decide) (fun c926 => ?_) (fun c926 => ?_)
    · have hw := hw.1 c926
      refine lv_aload_n hx hb d_Mod_varint_28 rfl (lv_at hl 0 rfl) ?_
      refine w_getf (q := 41) (k := 62) (t := 12) (C := R_Mod) (T := F_Mod) (N := 167) hx hb hT hown hK hW ko_0.1 ko_0.2 (by decide) in_Mod rfl rfl (by decide) rfl fr_Mod_62 w_8_238 d_Mod_varint_29 rfl ?_
      refine lv_aload_n hx hb d_Mod_varint_32 rfl (lv_at hl 0 rfl) ?_
      refine w_geti (k := 67) (t := 12) (C := R_Mod) (T := F_Mod) (N := 167) hx hb hT hown hK hW ko_0.1 ko_0.2 (by decide) in_Mod rfl rfl (by decide) rfl fr_Mod_67 w_9_3 d_Mod_varint_33 ?_
      obtain ⟨hi, hw⟩ := hw
      refine w_iald (o := 41) hx hb hK hW ko_41.1 ko_41.2 hi d_Mod_varint_36 ?_
      refine lv_topi (fun v927 ev927 => ?_)
      have hw := hw v927 ev927
      refine lv_istore (lv' := [(5, .int v927), (0, .ref (ad 0)), (1, .int l1), (2, .long l2), (4, .int l4)]) hx hb d_Mod_varint_37 hl (by decide) rfl (fun ls hl => ?_)
      refine lv_aload_n hx hb d_Mod_varint_39 rfl (lv_at hl 1 rfl) ?_
      refine lv_dup hx hb d_Mod_varint_40 rfl ?_
      refine w_geti (k := 67) (t := 12) (C := R_Mod) (T := F_Mod) (N := 167) hx hb hT hown hK hW ko_0.1 ko_0.2 (by decide) in_Mod rfl rfl (by decide) rfl fr_Mod_67 w_9_3 d_Mod_varint_41 ?_
      refine lv_iconst (v := 1) hx hb d_Mod_varint_44 (by decide) ?_
      refine lv_iadd hx hb d_Mod_varint_45 ?_
      refine w_puti (ty := .int) (k := 67) (t := 12) (C := R_Mod) (T := F_Mod) (N := 167) hx hb hT hown hK hW hS ko_0.1 ko_0.2 (by decide) in_Mod t_Mod t_Mod_ok n_Mod rfl rfl (by decide) rfl fr_Mod_67 w_9_3 (by decide +kernel) rfl rfl d_Mod_varint_46 (fun H locs hW hS => ?_)
      obtain ⟨x928, ex928⟩ : ∃ y : St, y = setI x 0 67 ((fI x 0 67) + 1) := ⟨_, rfl⟩
      rw [← ex928] at hW
      have hw := hw x928 ex928
      refine lv_iload hx hb d_Mod_varint_49 (lv_at hl 4 rfl) ?_
      refine lv_bipush (v := 9) hx hb d_Mod_varint_51 (by decide) ?_
      refine lv_icmp_ne (tgt := 62) hx hb d_Mod_varint_53 (by decide) (fun c929 => ?_) (fun c929 => ?_)
      · have hw := hw.1 c929
        exact t_Mod_varint_62 hx hb hml hown hT hK hN hA hRc hRs hRf hRl hret hrec5 l1 l2 l4 v927 x928 H locs ls  hw hW hS (lv_sub hl [1, 2, 3, 4, 0] rfl)
      · have hw := hw.2 c929
        refine lv_iload hx hb d_Mod_varint_56 (lv_at hl 0 rfl) ?_
        refine lv_iconst (v := 1) hx hb d_Mod_varint_58 (by decide) ?_
        refine lv_icmp_gt (tgt := 72) hx hb d_Mod_varint_59 (by decide) (fun c930 => ?_) (fun c930 => ?_)
        · have hw := hw.1 c930
          exact t_Mod_varint_72 hx hb hml hown hT hK hN hA hRc hRs hRf hRl hret hrec5 l1 l2 l4 v927 x928 H locs ls  hw hW hS (lv_sub hl [1, 2, 3, 4, 0] rfl)
        · have hw := hw.2 c930
          exact t_Mod_varint_62 hx hb hml hown hT hK hN hA hRc hRs hRf hRl hret hrec5 l1 l2 l4 v927 x928 H locs ls  hw hW hS (lv_sub hl [1, 2, 3, 4, 0] rfl)
    · have hw := hw.2 c926
      refine lv_aload_n hx hb d_Mod_varint_20 rfl (lv_at hl 0 rfl) ?_
      refine lv_iconst (v := 1) hx hb d_Mod_varint_21 (by decide) ?_
      refine w_puti (ty := .int) (k := 69) (t := 12) (C := R_Mod) (T := F_Mod) (N := 167) hx hb hT hown hK hW hS ko_0.1 ko_0.2 (by decide) in_Mod t_Mod t_Mod_ok n_Mod rfl rfl (by decide) rfl fr_Mod_69 w_9_5 (by decide +kernel) rfl rfl d_Mod_varint_22 (fun H locs hW hS => ?_)
      obtain ⟨x931, ex931⟩ : ∃ y : St, y = setI x 0 69 1 := ⟨_, rfl⟩
      rw [← ex931] at hW
      have hw := hw x931 ex931
      refine lv_goto (tgt := 5) hx hb d_Mod_varint_25 (by decide) ?_
      exact hrec5 l1 l2 l4 x931 H locs ls  hw hW hS (lv_sub hl [0, 1, 2, 3] rfl)
set_option maxHeartbeats 4000000 in
set_option maxRecDepth 100000 in
theorem tl_Mod_varint_5 {p : Program} {l : Launch} {e : Env} {R : Room} {s : State} {m : MethodId} {args : Array Value} {below : List Frame} {meth : Method} {c : Code} {cells slots : Nat} {Q : State → Prop} {dC : Nat → ClassId} {dI : Nat → Nat → Nat} {cI cB cJ cZ : ClassId} {A : Nat → Prop} {ad : Nat → Nat} {post : Int64 → St → Prop} (hx : p.tables.exec = Jvm.exec) (hb : c.code = b_Mod_varint) (hml : c.maxLocals = 6) (hown : s.vm.findClass R_Mod = some m.cls) (hT : ∀ w ∈ TG, w.before args s = true) (hK : va_K (dC, dI) CL (TY cI cB cJ cZ) s) (hN : NW s) (hA : ∀ q : Nat, s.heap.size ≤ q → A q) (hRc : cells ≤ R.cells) (hRs : slots ≤ R.slots) (hRf : 0 ≤ R.frames) (hRl : 0 ≤ R.locals) (hret : ∀ (r : Int64) (x : St) (H : Heap) (locs : List Loc) (pc : Nat) (ls : Array Slot), decode b_Mod_varint pc = .ok (.lreturn, 1) → post r x → Wd dC dI cI cB cJ cZ ad stM kcM 115 A x H → va_S A s.heap H locs → W p l e R s m args below meth c H locs cells slots Q (F0 m pc ls [.long r]))  : ∀ n : Nat, ∀ (l1 : Int32) (l2 : Int64) (l4 : Int32) (x : St) (H : Heap) (locs : List Loc) (ls : Array Slot), wl_Mod_varint_5 post n l1 l2 l4 x → Wd dC dI cI cB cJ cZ ad stM kcM 115 A x H → va_S A s.heap H locs → lv_has ls 6 [(0, .ref (ad 0)), (1, .int l1), (2, .long l2), (4, .int l4)] → W p l e R s m args below meth c H locs cells slots Q (F0 m 5 ls []) := by
  intro n
  induction n with
  | zero => intro l1 l2 l4 x H locs ls  hw; exact hw.elim
  | succ n ih => intro l1 l2 l4 x H locs ls  hw hW hS hl; exact t_Mod_varint_5 hx hb hml hown hT hK hN hA hRc hRs hRf hRl hret  ih l1 l2 l4 x H locs ls  hw hW hS hl
set_option maxRecDepth 100000 in
set_option maxHeartbeats 4000000 in
set_option maxRecDepth 100000 in
theorem t_Mod_varint_e {p : Program} {l : Launch} {e : Env} {R : Room} {s : State} {m : MethodId} {args : Array Value} {below : List Frame} {meth : Method} {c : Code} {cells slots : Nat} {Q : State → Prop} {dC : Nat → ClassId} {dI : Nat → Nat → Nat} {cI cB cJ cZ : ClassId} {A : Nat → Prop} {ad : Nat → Nat} {post : Int64 → St → Prop} (hx : p.tables.exec = Jvm.exec) (hb : c.code = b_Mod_varint) (hml : c.maxLocals = 6) (hown : s.vm.findClass R_Mod = some m.cls) (hT : ∀ w ∈ TG, w.before args s = true) (hK : va_K (dC, dI) CL (TY cI cB cJ cZ) s) (hN : NW s) (hA : ∀ q : Nat, s.heap.size ≤ q → A q) (hRc : cells ≤ R.cells) (hRs : slots ≤ R.slots) (hRf : 0 ≤ R.frames) (hRl : 0 ≤ R.locals) (hret : ∀ (r : Int64) (x : St) (H : Heap) (locs : List Loc) (pc : Nat) (ls : Array Slot), decode b_Mod_varint pc = .ok (.lreturn, 1) → post r x → Wd dC dI cI cB cJ cZ ad stM kcM 115 A x H → va_S A s.heap H locs → W p l e R s m args below meth c H locs cells slots Q (F0 m pc ls [.long r])) : ∀ (l1 : Int32) (x : St) (H : Heap) (locs : List Loc) (ls : Array Slot), wp_Mod_varint post l1 x → Wd dC dI cI cB cJ cZ ad stM kcM 115 A x H → va_S A s.heap H locs → lv_has ls 6 [(0, .ref (ad 0)), (1, .int l1)] → W p l e R s m args below meth c H locs cells slots Q (F0 m 0 ls []) := by
  intro l1 x H locs ls  hw hW hS hl
  unfold wp_Mod_varint at hw
  refine lv_lconst (v := 0) hx hb d_Mod_varint_0 (by decide) ?_
  refine lv_lstore_n (lv' := [(2, .long 0), (0, .ref (ad 0)), (1, .int l1)]) hx hb d_Mod_varint_1 rfl hl (by decide) rfl (fun ls hl => ?_)
  refine lv_iconst (v := 0) hx hb d_Mod_varint_2 (by decide) ?_
  refine lv_istore (lv' := [(4, .int 0), (2, .long 0), (0, .ref (ad 0)), (1, .int l1)]) hx hb d_Mod_varint_3 hl (by decide) rfl (fun ls hl => ?_)
  obtain ⟨n, hw⟩ := hw
  exact tl_Mod_varint_5 hx hb hml hown hT hK hN hA hRc hRs hRf hRl hret  n l1 0 0 x H locs ls  hw hW hS (lv_sub hl [2, 3, 1, 0] rfl)
set_option maxHeartbeats 4000000 in
set_option maxRecDepth 100000 in
theorem k_Mod_varint (l : Launch) (dC : Nat → ClassId) (dI : Nat → Nat → Nat) (cI cB cJ cZ : ClassId) (ad : Nat → Nat) (sz : Nat) (l1 : Int32) (x : St) {post : Int64 → St → Prop} (hw : wp_Mod_varint post l1 x) : Met l y_Mod_varint (wsOf y_Mod_varint b_Mod_varint 6 (some (.long))) ({ frames := 0, cells := 0, slots := 0, locals := 0 }) (va_Pc [.ref (ad 0), .int l1] (PW dC dI cI cB cJ cZ ad stM kcM 115 sz x)) (va_Ql (fun (r : Int64) (y : St) => post r y) (fun y t => Wd dC dI cI cB cJ cZ ad stM kcM 115 (va_A (pic ad stM kcM 115 cI cB cJ cZ x) sz) y t.heap) (va_A (pic ad stM kcM 115 cI cB cJ cZ x) sz)) 0 0 (va_A (pic ad stM kcM 115 cI cB cJ cZ x) sz) := by
  refine Met.ofW (cc := b_Mod_varint) (maxL := 6) (ret := some (.long)) (by decide) rfl ?_
  intro p e s m args below meth c s₁ B hml hv
  obtain ⟨rfl, hsz, hW0, hK, hN⟩ := hv
  have hx := B.exec
  have hb := B.bytes
  have hr := B.returns
  have hts := atoms_spec B.pre
  have hT : ∀ w ∈ TG, w.before _ s = true := fun w h => hts w (List.mem_cons_of_mem _ h)
  have hown : s.vm.findClass R_Mod = some m.cls := findClass_of_methodNamed B.named
  have hlocks := B.notSynchronized
  subst hsz
  have hW : Wd dC dI cI cB cJ cZ ad stM kcM 115 (va_A (pic ad stM kcM 115 cI cB cJ cZ x) s.heap.size) x s.heap := ⟨hW0.1, hW0.2.1.self (sz := s.heap.size), hW0.2.2⟩
  generalize hAe : va_A (pic ad stM kcM 115 cI cB cJ cZ x) s.heap.size = A at hW ⊢
  have hA : ∀ q : Nat, s.heap.size ≤ q → A q := fun q h => by rw [← hAe]; exact Or.inr h
  have hS : va_S A s.heap s.heap [] := va_S.rf
  have hl := lv_entry ([.ref (ad 0), .int l1]) (n := 6) (Nat.le_of_ble_eq_true rfl)
  rw [lg_entry_eq]
  generalize (lg_sl ([.ref (ad 0), .int l1]) ++ List.replicate (6 - (lg_sl ([.ref (ad 0), .int l1])).length) Slot.unset).toArray = ls at hl ⊢
  have hl : lv_has ls 6 [(0, .ref (ad 0)), (1, .int l1)] := hl
  exact t_Mod_varint_e hx hb hml hown hT hK hN hA (Nat.le_refl 0) (Nat.le_refl 0) (Nat.le_refl 0) (Nat.le_refl 0) (fun r x H locs pc ls hd hp hW hS => W.lret (v := r) hx hb hr (fun t ht hM => ⟨⟨r, x, rfl, hp, Wd.back hW ht.symm (fun _ z => z)⟩, hS.F ht⟩) hS.2.2 hd hlocks)  l1 x _ _ ls  hw hW hS hl
set_option maxRecDepth 100000 in
set_option maxHeartbeats 4000000 in
set_option maxRecDepth 100000 in
theorem t_Mod_number4_28 {p : Program} {l : Launch} {e : Env} {R : Room} {s : State} {m : MethodId} {args : Array Value} {below : List Frame} {meth : Method} {c : Code} {cells slots : Nat} {Q : State → Prop} {dC : Nat → ClassId} {dI : Nat → Nat → Nat} {cI cB cJ cZ : ClassId} {A : Nat → Prop} {ad : Nat → Nat} {post : Int32 → St → Prop} (hx : p.tables.exec = Jvm.exec) (hb : c.code = b_Mod_number4) (hml : c.maxLocals = 6) (hown : s.vm.findClass R_Mod = some m.cls) (hT : ∀ w ∈ TG, w.before args s = true) (hK : va_K (dC, dI) CL (TY cI cB cJ cZ) s) (hN : NW s) (hA : ∀ q : Nat, s.heap.size ≤ q → A q) (hRc : cells ≤ R.cells) (hRs : slots ≤ R.slots) (hRf : 1 ≤ R.frames) (hRl : 25 ≤ R.locals) (hret : ∀ (r : Int32) (x : St) (H : Heap) (locs : List Loc) (pc : Nat) (ls : Array Slot), decode b_Mod_number4 pc = .ok (.ireturn, 1) → post r x → Wd dC dI cI cB cJ cZ ad stM kcM 115 A x H → va_S A s.heap H locs → W p l e R s m args below meth c H locs cells slots Q (F0 m pc ls [.int r]))  : ∀ (l1 : Int32) (l2 : Int32) (l3 : Int32) (l4 : Int64) (s0 : Int32) (x : St) (H : Heap) (locs : List Loc) (ls : Array Slot), j_Mod_number4_28 post l1 l2 l3 l4 s0 x → Wd dC dI cI cB cJ cZ ad stM kcM 115 A x H → va_S A s.heap H locs → lv_has ls 6 [(0, .ref (ad 0)), (1, .int l1), (2, .int l2), (3, .int l3), (4, .long l4)] → W p l e R s m args below meth c H locs cells slots Q (F0 m 28 ls [.int s0, .ref (ad 0)]) := by
  intro l1 l2 l3 l4 s0 x H locs ls  hw hW hS hl
  unfold j_Mod_number4_28 at hw
  refine lv_iload_n hx hb d_Mod_number4_28 rfl (lv_at hl 3 rfl) ?_
  have hF := hW.free hS hA
  refine va_callv (va_runV (C := R_Mod) (As := [.int s0, .int l3]) (rest := []) ⟨hx, hb, hml, hown, hT⟩ (k_Mod_faults l dC dI cI cB cJ cZ ad H.size s0 l3 x  hw) ⟨callB_of 2 hT (gwt_in w_12_107) rfl rfl rfl (hT _ w_1_15) (hT _ w_12_104) (by decide +kernel) ⟨Nat.le_trans (Nat.le_of_ble_eq_true rfl) hRf, Nat.le_trans (Nat.le_of_ble_eq_true rfl) hRl⟩, hT _ w_12_106, hT _ ws_183⟩ ⟨PW.blind, va_recv hK hW.1 (ci := 12) (q0 := 0) rfl (pic_obj ko_0.1 ko_0.2 (by decide)), PW.at _ hW hK hN⟩ rfl rfl hl.1 rfl (lv_room (Nat.le_of_ble_eq_true rfl)) d_Mod_number4_29 ⟨hRc, hRs⟩) hS (fun q _ h => hF q h) hF (fun  x932 t H locs ht hvm hw hB hz1 hk1 hS => ?_)
  have hW := Wd.back hB ht hF
  clear hB ht hF hz1 hk1 hvm
  refine lv_aload_n hx hb d_Mod_number4_32 rfl (lv_at hl 0 rfl) ?_
  refine w_geti (k := 69) (t := 12) (C := R_Mod) (T := F_Mod) (N := 167) hx hb hT hown hK hW ko_0.1 ko_0.2 (by decide) in_Mod rfl rfl (by decide) rfl fr_Mod_69 w_9_5 d_Mod_number4_33 ?_
  refine lv_if_ne (tgt := 45) hx hb d_Mod_number4_36 (by decide) (fun c933 => ?_) (fun c933 => ?_)
  · have hw := hw.1 c933
    refine lv_iconst (v := 0) hx hb d_Mod_number4_45 (by decide) ?_
    exact hret 0 x932 H locs 46 ls d_Mod_number4_46 hw hW hS
  · have hw := hw.2 c933
    refine lv_lload hx hb d_Mod_number4_39 (lv_at hl 4 rfl) ?_
    refine lv_l2i hx hb d_Mod_number4_41 rfl ?_
    refine lv_goto (tgt := 46) hx hb d_Mod_number4_42 (by decide) ?_
    exact hret (l4 : Int64).toInt32 x932 H locs 46 ls d_Mod_number4_46 hw hW hS
set_option maxRecDepth 100000 in
set_option maxHeartbeats 4000000 in
set_option maxRecDepth 100000 in
theorem t_Mod_number4_23 {p : Program} {l : Launch} {e : Env} {R : Room} {s : State} {m : MethodId} {args : Array Value} {below : List Frame} {meth : Method} {c : Code} {cells slots : Nat} {Q : State → Prop} {dC : Nat → ClassId} {dI : Nat → Nat → Nat} {cI cB cJ cZ : ClassId} {A : Nat → Prop} {ad : Nat → Nat} {post : Int32 → St → Prop} (hx : p.tables.exec = Jvm.exec) (hb : c.code = b_Mod_number4) (hml : c.maxLocals = 6) (hown : s.vm.findClass R_Mod = some m.cls) (hT : ∀ w ∈ TG, w.before args s = true) (hK : va_K (dC, dI) CL (TY cI cB cJ cZ) s) (hN : NW s) (hA : ∀ q : Nat, s.heap.size ≤ q → A q) (hRc : cells ≤ R.cells) (hRs : slots ≤ R.slots) (hRf : 1 ≤ R.frames) (hRl : 25 ≤ R.locals) (hret : ∀ (r : Int32) (x : St) (H : Heap) (locs : List Loc) (pc : Nat) (ls : Array Slot), decode b_Mod_number4 pc = .ok (.ireturn, 1) → post r x → Wd dC dI cI cB cJ cZ ad stM kcM 115 A x H → va_S A s.heap H locs → W p l e R s m args below meth c H locs cells slots Q (F0 m pc ls [.int r]))  : ∀ (l1 : Int32) (l2 : Int32) (l3 : Int32) (l4 : Int64) (x : St) (H : Heap) (locs : List Loc) (ls : Array Slot), j_Mod_number4_23 post l1 l2 l3 l4 x → Wd dC dI cI cB cJ cZ ad stM kcM 115 A x H → va_S A s.heap H locs → lv_has ls 6 [(0, .ref (ad 0)), (1, .int l1), (2, .int l2), (3, .int l3), (4, .long l4)] → W p l e R s m args below meth c H locs cells slots Q (F0 m 23 ls [.ref (ad 0)]) := by
  intro l1 l2 l3 l4 x H locs ls  hw hW hS hl
  unfold j_Mod_number4_23 at hw
  refine lv_iconst (v := 1) hx hb d_Mod_number4_23 (by decide) ?_
  refine lv_goto (tgt := 28) hx hb d_Mod_number4_24 (by decide) ?_
  exact t_Mod_number4_28 hx hb hml hown hT hK hN hA hRc hRs hRf hRl hret  l1 l2 l3 l4 1 x H locs ls  hw hW hS (lv_sub hl [0, 1, 2, 3, 4] rfl)
set_option maxRecDepth 100000 in
set_option maxHeartbeats 4000000 in
set_option maxRecDepth 100000 in
theorem t_Mod_number4_e {p : Program} {l : Launch} {e : Env} {R : Room} {s : State} {m : MethodId} {args : Array Value} {below : List Frame} {meth : Method} {c : Code} {cells slots : Nat} {Q : State → Prop} {dC : Nat → ClassId} {dI : Nat → Nat → Nat} {cI cB cJ cZ : ClassId} {A : Nat → Prop} {ad : Nat → Nat} {post : Int32 → St → Prop} (hx : p.tables.exec = Jvm.exec) (hb : c.code = b_Mod_number4) (hml : c.maxLocals = 6) (hown : s.vm.findClass R_Mod = some m.cls) (hT : ∀ w ∈ TG, w.before args s = true) (hK : va_K (dC, dI) CL (TY cI cB cJ cZ) s) (hN : NW s) (hA : ∀ q : Nat, s.heap.size ≤ q → A q) (hRc : cells ≤ R.cells) (hRs : slots ≤ R.slots) (hRf : 1 ≤ R.frames) (hRl : 25 ≤ R.locals) (hret : ∀ (r : Int32) (x : St) (H : Heap) (locs : List Loc) (pc : Nat) (ls : Array Slot), decode b_Mod_number4 pc = .ok (.ireturn, 1) → post r x → Wd dC dI cI cB cJ cZ ad stM kcM 115 A x H → va_S A s.heap H locs → W p l e R s m args below meth c H locs cells slots Q (F0 m pc ls [.int r])) : ∀ (l1 : Int32) (l2 : Int32) (l3 : Int32) (x : St) (H : Heap) (locs : List Loc) (ls : Array Slot), wp_Mod_number4 post l1 l2 l3 x → Wd dC dI cI cB cJ cZ ad stM kcM 115 A x H → va_S A s.heap H locs → lv_has ls 6 [(0, .ref (ad 0)), (1, .int l1), (2, .int l2), (3, .int l3)] → W p l e R s m args below meth c H locs cells slots Q (F0 m 0 ls []) := by
  intro l1 l2 l3 x H locs ls  hw hW hS hl
  unfold wp_Mod_number4 at hw
  refine lv_aload_n hx hb d_Mod_number4_0 rfl (lv_at hl 0 rfl) ?_
  refine lv_iload_n hx hb d_Mod_number4_1 rfl (lv_at hl 1 rfl) ?_
  have hF := hW.free hS hA
  refine va_calll (va_runV (C := R_Mod) (As := [.int l1]) (rest := []) ⟨hx, hb, hml, hown, hT⟩ (k_Mod_varint l dC dI cI cB cJ cZ ad H.size l1 x  hw) ⟨callB_of 1 hT (gwt_in w_12_124) rfl rfl rfl (hT _ w_1_15) (hT _ w_12_121) (by decide +kernel) ⟨Nat.le_trans (Nat.le_of_ble_eq_true rfl) hRf, Nat.le_trans (Nat.le_of_ble_eq_true rfl) hRl⟩, hT _ w_12_123, hT _ ws_187⟩ ⟨PW.blind, va_recv hK hW.1 (ci := 12) (q0 := 0) rfl (pic_obj ko_0.1 ko_0.2 (by decide)), PW.at _ hW hK hN⟩ rfl rfl hl.1 rfl (lv_room (Nat.le_of_ble_eq_true rfl)) d_Mod_number4_2 ⟨hRc, hRs⟩) hS (fun q _ h => hF q h) hF (fun r935 x934 t H locs ht hvm hw hB hz1 hk1 hS => ?_)
  have hW := Wd.back hB ht hF
  clear hB ht hF hz1 hk1 hvm
  refine lv_lstore (lv' := [(4, .long r935), (0, .ref (ad 0)), (1, .int l1), (2, .int l2), (3, .int l3)]) hx hb d_Mod_number4_5 hl (by decide) rfl (fun ls hl => ?_)
  refine lv_aload_n hx hb d_Mod_number4_7 rfl (lv_at hl 1 rfl) ?_
  refine lv_lload hx hb d_Mod_number4_8 (lv_at hl 0 rfl) ?_
  refine lv_lconst (v := 0) hx hb d_Mod_number4_10 (by decide) ?_
  refine W.lcmp hx hb d_Mod_number4_11 ?_
  refine lv_if_lt (tgt := 23) hx hb d_Mod_number4_12 (by decide) (fun c936 => ?_) (fun c936 => ?_)
  · have hw := hw.1 c936
    exact t_Mod_number4_23 hx hb hml hown hT hK hN hA hRc hRs hRf hRl hret  l1 l2 l3 r935 x934 H locs ls  hw hW hS (lv_sub hl [1, 2, 3, 4, 0] rfl)
  · have hw := hw.2 c936
    refine lv_lload hx hb d_Mod_number4_15 (lv_at hl 0 rfl) ?_
    refine lv_iload_n hx hb d_Mod_number4_17 rfl (lv_at hl 3 rfl) ?_
    refine lv_i2l hx hb d_Mod_number4_18 rfl ?_
    refine W.lcmp hx hb d_Mod_number4_19 ?_
    refine lv_if_le (tgt := 27) hx hb d_Mod_number4_20 (by decide) (fun c937 => ?_) (fun c937 => ?_)
    · have hw := hw.1 c937
      refine lv_iconst (v := 0) hx hb d_Mod_number4_27 (by decide) ?_
      exact t_Mod_number4_28 hx hb hml hown hT hK hN hA hRc hRs hRf hRl hret  l1 l2 l3 r935 0 x934 H locs ls  hw hW hS (lv_sub hl [1, 2, 3, 4, 0] rfl)
    · have hw := hw.2 c937
      exact t_Mod_number4_23 hx hb hml hown hT hK hN hA hRc hRs hRf hRl hret  l1 l2 l3 r935 x934 H locs ls  hw hW hS (lv_sub hl [1, 2, 3, 4, 0] rfl)
set_option maxHeartbeats 4000000 in
set_option maxRecDepth 100000 in
theorem k_Mod_number4 (l : Launch) (dC : Nat → ClassId) (dI : Nat → Nat → Nat) (cI cB cJ cZ : ClassId) (ad : Nat → Nat) (sz : Nat) (l1 : Int32) (l2 : Int32) (l3 : Int32) (x : St) {post : Int32 → St → Prop} (hw : wp_Mod_number4 post l1 l2 l3 x) : Met l y_Mod_number4 (wsOf y_Mod_number4 b_Mod_number4 6 (some (.int))) ({ frames := 1, cells := 0, slots := 0, locals := 25 }) (va_Pc [.ref (ad 0), .int l1, .int l2, .int l3] (PW dC dI cI cB cJ cZ ad stM kcM 115 sz x)) (va_Qi (fun (r : Int32) (y : St) => post r y) (fun y t => Wd dC dI cI cB cJ cZ ad stM kcM 115 (va_A (pic ad stM kcM 115 cI cB cJ cZ x) sz) y t.heap) (va_A (pic ad stM kcM 115 cI cB cJ cZ x) sz)) 0 0 (va_A (pic ad stM kcM 115 cI cB cJ cZ x) sz) := by
  refine Met.ofW (cc := b_Mod_number4) (maxL := 6) (ret := some (.int)) (by decide) rfl ?_
  intro p e s m args below meth c s₁ B hml hv
  obtain ⟨rfl, hsz, hW0, hK, hN⟩ := hv
  have hx := B.exec
  have hb := B.bytes
  have hr := B.returns
  have hts := atoms_spec B.pre
  have hT : ∀ w ∈ TG, w.before _ s = true := fun w h => hts w (List.mem_cons_of_mem _ h)
  have hown : s.vm.findClass R_Mod = some m.cls := findClass_of_methodNamed B.named
  have hlocks := B.notSynchronized
  subst hsz
  have hW : Wd dC dI cI cB cJ cZ ad stM kcM 115 (va_A (pic ad stM kcM 115 cI cB cJ cZ x) s.heap.size) x s.heap := ⟨hW0.1, hW0.2.1.self (sz := s.heap.size), hW0.2.2⟩
  generalize hAe : va_A (pic ad stM kcM 115 cI cB cJ cZ x) s.heap.size = A at hW ⊢
  have hA : ∀ q : Nat, s.heap.size ≤ q → A q := fun q h => by rw [← hAe]; exact Or.inr h
  have hS : va_S A s.heap s.heap [] := va_S.rf
  have hl := lv_entry ([.ref (ad 0), .int l1, .int l2, .int l3]) (n := 6) (Nat.le_of_ble_eq_true rfl)
  rw [lg_entry_eq]
  generalize (lg_sl ([.ref (ad 0), .int l1, .int l2, .int l3]) ++ List.replicate (6 - (lg_sl ([.ref (ad 0), .int l1, .int l2, .int l3])).length) Slot.unset).toArray = ls at hl ⊢
  have hl : lv_has ls 6 [(0, .ref (ad 0)), (1, .int l1), (2, .int l2), (3, .int l3)] := hl
  exact t_Mod_number4_e hx hb hml hown hT hK hN hA (Nat.le_refl 0) (Nat.le_refl 0) (Nat.le_refl 1) (Nat.le_refl 25) (fun r x H locs pc ls hd hp hW hS => W.iret (v := r) hx hb hr (fun t ht hM => ⟨⟨r, x, rfl, hp, Wd.back hW ht.symm (fun _ z => z)⟩, hS.F ht⟩) hS.2.2 hd hlocks)  l1 l2 l3 x _ _ ls  hw hW hS hl
set_option maxRecDepth 100000 in
set_option maxHeartbeats 4000000 in
set_option maxRecDepth 100000 in
theorem t_Mod_openField_349 {p : Program} {l : Launch} {e : Env} {R : Room} {s : State} {m : MethodId} {args : Array Value} {below : List Frame} {meth : Method} {c : Code} {cells slots : Nat} {Q : State → Prop} {dC : Nat → ClassId} {dI : Nat → Nat → Nat} {cI cB cJ cZ : ClassId} {A : Nat → Prop} {ad : Nat → Nat} {post : St → Prop} (hx : p.tables.exec = Jvm.exec) (hb : c.code = b_Mod_openField) (hml : c.maxLocals = 11) (hown : s.vm.findClass R_Mod = some m.cls) (hT : ∀ w ∈ TG, w.before args s = true) (hK : va_K (dC, dI) CL (TY cI cB cJ cZ) s) (hN : NW s) (hA : ∀ q : Nat, s.heap.size ≤ q → A q) (hRc : cells ≤ R.cells) (hRs : slots ≤ R.slots) (hRf : 3 ≤ R.frames) (hRl : 67 ≤ R.locals) (hret : ∀ (x : St) (H : Heap) (locs : List Loc) (pc : Nat) (ls : Array Slot), decode b_Mod_openField pc = .ok (.return_, 1) → post x → Wd dC dI cI cB cJ cZ ad stM kcM 115 A x H → va_S A s.heap H locs → W p l e R s m args below meth c H locs cells slots Q (F0 m pc ls []))  : ∀ (l1 : Int32) (l2 : Int32) (l3 : Int64) (l5 : Int64) (l7 : Int32) (l8 : Int32) (l9 : Int32) (l10 : Int32) (x : St) (H : Heap) (locs : List Loc) (ls : Array Slot), j_Mod_openField_349 post l1 l2 l3 l5 l7 l8 l9 l10 x → Wd dC dI cI cB cJ cZ ad stM kcM 115 A x H → va_S A s.heap H locs → lv_has ls 11 [(0, .ref (ad 0)), (1, .int l1), (2, .int l2), (3, .long l3), (5, .long l5), (7, .int l7), (8, .int l8), (9, .int l9), (10, .int l10)] → W p l e R s m args below meth c H locs cells slots Q (F0 m 349 ls []) := by
  intro l1 l2 l3 l5 l7 l8 l9 l10 x H locs ls  hw hW hS hl
  unfold j_Mod_openField_349 at hw
  refine lv_aload_n hx hb d_Mod_openField_349 rfl (lv_at hl 0 rfl) ?_
  refine w_geti (k := 69) (t := 12) (C := R_Mod) (T := F_Mod) (N := 167) hx hb hT hown hK hW ko_0.1 ko_0.2 (by decide) in_Mod rfl rfl (by decide) rfl fr_Mod_69 w_9_5 d_Mod_openField_350 ?_
  refine lv_if_ne (tgt := 377) hx hb d_Mod_openField_353 (by decide) (fun c938 => ?_) (fun c938 => ?_)
  · have hw := hw.1 c938
    exact hret x H locs 377 ls d_Mod_openField_377 hw hW hS
  · have hw := hw.2 c938
    refine lv_aload_n hx hb d_Mod_openField_356 rfl (lv_at hl 0 rfl) ?_
    refine lv_iload_n hx hb d_Mod_openField_357 rfl (lv_at hl 2 rfl) ?_
    refine lv_iconst (v := 3) hx hb d_Mod_openField_358 (by decide) ?_
    refine lv_irem hx hb d_Mod_openField_359 (by decide) ?_
    refine lv_iload_n hx hb d_Mod_openField_360 rfl (lv_at hl 2 rfl) ?_
    refine lv_iconst (v := 3) hx hb d_Mod_openField_361 (by decide) ?_
    refine lv_idiv hx hb d_Mod_openField_362 (by decide) ?_
    refine lv_iload hx hb d_Mod_openField_363 (lv_at hl 7 rfl) ?_
    refine lv_aload_n hx hb d_Mod_openField_365 rfl (lv_at hl 0 rfl) ?_
    refine w_getf (q := 41) (k := 62) (t := 12) (C := R_Mod) (T := F_Mod) (N := 167) hx hb hT hown hK hW ko_0.1 ko_0.2 (by decide) in_Mod rfl rfl (by decide) rfl fr_Mod_62 w_8_238 d_Mod_openField_366 rfl ?_
    refine lv_iload hx hb d_Mod_openField_369 (lv_at hl 5 rfl) ?_
    refine lv_lload hx hb d_Mod_openField_371 (lv_at hl 4 rfl) ?_
    refine lv_l2i hx hb d_Mod_openField_373 rfl ?_
    have hF := hW.free hS hA
    refine va_callv (va_runV (C := R_Mod) (As := [.int (l2 - l2 / 3 * 3), .int (l2 / 3), .int l9, .ref (ad 41), .int l7, .int (l5 : Int64).toInt32]) (rest := []) ⟨hx, hb, hml, hown, hT⟩ (k_Mod_addField l dC dI cI cB cJ cZ ad H.size (l2 - l2 / 3 * 3) (l2 / 3) l9 41 l7 (l5 : Int64).toInt32 x ko_41 hw) ⟨callB_of 6 hT (gwt_in w_11_38) rfl rfl rfl (hT _ w_1_15) (hT _ w_11_35) (by decide +kernel) ⟨Nat.le_trans (Nat.le_of_ble_eq_true rfl) hRf, Nat.le_trans (Nat.le_of_ble_eq_true rfl) hRl⟩, hT _ w_11_37, hT _ ws_119⟩ ⟨PW.blind, va_recv hK hW.1 (ci := 12) (q0 := 0) rfl (pic_obj ko_0.1 ko_0.2 (by decide)), PW.at _ hW hK hN⟩ rfl rfl hl.1 rfl (lv_room (Nat.le_of_ble_eq_true rfl)) d_Mod_openField_374 ⟨hRc, hRs⟩) hS (fun q _ h => hF q h) hF (fun  x939 t H locs ht hvm hw hB hz1 hk1 hS => ?_)
    have hW := Wd.back hB ht hF
    clear hB ht hF hz1 hk1 hvm
    exact hret x939 H locs 377 ls d_Mod_openField_377 hw hW hS
set_option maxRecDepth 100000 in
set_option maxHeartbeats 4000000 in
set_option maxRecDepth 100000 in
theorem t_Mod_openField_344 {p : Program} {l : Launch} {e : Env} {R : Room} {s : State} {m : MethodId} {args : Array Value} {below : List Frame} {meth : Method} {c : Code} {cells slots : Nat} {Q : State → Prop} {dC : Nat → ClassId} {dI : Nat → Nat → Nat} {cI cB cJ cZ : ClassId} {A : Nat → Prop} {ad : Nat → Nat} {post : St → Prop} (hx : p.tables.exec = Jvm.exec) (hb : c.code = b_Mod_openField) (hml : c.maxLocals = 11) (hown : s.vm.findClass R_Mod = some m.cls) (hT : ∀ w ∈ TG, w.before args s = true) (hK : va_K (dC, dI) CL (TY cI cB cJ cZ) s) (hN : NW s) (hA : ∀ q : Nat, s.heap.size ≤ q → A q) (hRc : cells ≤ R.cells) (hRs : slots ≤ R.slots) (hRf : 3 ≤ R.frames) (hRl : 67 ≤ R.locals) (hret : ∀ (x : St) (H : Heap) (locs : List Loc) (pc : Nat) (ls : Array Slot), decode b_Mod_openField pc = .ok (.return_, 1) → post x → Wd dC dI cI cB cJ cZ ad stM kcM 115 A x H → va_S A s.heap H locs → W p l e R s m args below meth c H locs cells slots Q (F0 m pc ls []))  : ∀ (l1 : Int32) (l2 : Int32) (l3 : Int64) (l5 : Int64) (l7 : Int32) (l8 : Int32) (l9 : Int32) (l10 : Int32) (s0 : Int32) (x : St) (H : Heap) (locs : List Loc) (ls : Array Slot), j_Mod_openField_344 post l1 l2 l3 l5 l7 l8 l9 l10 s0 x → Wd dC dI cI cB cJ cZ ad stM kcM 115 A x H → va_S A s.heap H locs → lv_has ls 11 [(0, .ref (ad 0)), (1, .int l1), (2, .int l2), (3, .long l3), (5, .long l5), (7, .int l7), (8, .int l8), (9, .int l9), (10, .int l10)] → W p l e R s m args below meth c H locs cells slots Q (F0 m 344 ls [.int s0, .ref (ad 0)]) := by
  intro l1 l2 l3 l5 l7 l8 l9 l10 s0 x H locs ls  hw hW hS hl
  unfold j_Mod_openField_344 at hw
  refine lv_bipush (v := 15) hx hb d_Mod_openField_344 (by decide) ?_
  have hF := hW.free hS hA
  refine va_callv (va_runV (C := R_Mod) (As := [.int s0, .int 15]) (rest := []) ⟨hx, hb, hml, hown, hT⟩ (k_Mod_faults l dC dI cI cB cJ cZ ad H.size s0 15 x  hw) ⟨callB_of 2 hT (gwt_in w_12_107) rfl rfl rfl (hT _ w_1_15) (hT _ w_12_104) (by decide +kernel) ⟨Nat.le_trans (Nat.le_of_ble_eq_true rfl) hRf, Nat.le_trans (Nat.le_of_ble_eq_true rfl) hRl⟩, hT _ w_12_106, hT _ ws_183⟩ ⟨PW.blind, va_recv hK hW.1 (ci := 12) (q0 := 0) rfl (pic_obj ko_0.1 ko_0.2 (by decide)), PW.at _ hW hK hN⟩ rfl rfl hl.1 rfl (lv_room (Nat.le_of_ble_eq_true rfl)) d_Mod_openField_346 ⟨hRc, hRs⟩) hS (fun q _ h => hF q h) hF (fun  x940 t H locs ht hvm hw hB hz1 hk1 hS => ?_)
  have hW := Wd.back hB ht hF
  clear hB ht hF hz1 hk1 hvm
  exact t_Mod_openField_349 hx hb hml hown hT hK hN hA hRc hRs hRf hRl hret  l1 l2 l3 l5 l7 l8 l9 l10 x940 H locs ls  hw hW hS (lv_sub hl [0, 1, 2, 3, 4, 5, 6, 7, 8] rfl)
set_option maxRecDepth 100000 in
set_option maxHeartbeats 4000000 in
set_option maxRecDepth 100000 in
theorem t_Mod_openField_339 {p : Program} {l : Launch} {e : Env} {R : Room} {s : State} {m : MethodId} {args : Array Value} {below : List Frame} {meth : Method} {c : Code} {cells slots : Nat} {Q : State → Prop} {dC : Nat → ClassId} {dI : Nat → Nat → Nat} {cI cB cJ cZ : ClassId} {A : Nat → Prop} {ad : Nat → Nat} {post : St → Prop} (hx : p.tables.exec = Jvm.exec) (hb : c.code = b_Mod_openField) (hml : c.maxLocals = 11) (hown : s.vm.findClass R_Mod = some m.cls) (hT : ∀ w ∈ TG, w.before args s = true) (hK : va_K (dC, dI) CL (TY cI cB cJ cZ) s) (hN : NW s) (hA : ∀ q : Nat, s.heap.size ≤ q → A q) (hRc : cells ≤ R.cells) (hRs : slots ≤ R.slots) (hRf : 3 ≤ R.frames) (hRl : 67 ≤ R.locals) (hret : ∀ (x : St) (H : Heap) (locs : List Loc) (pc : Nat) (ls : Array Slot), decode b_Mod_openField pc = .ok (.return_, 1) → post x → Wd dC dI cI cB cJ cZ ad stM kcM 115 A x H → va_S A s.heap H locs → W p l e R s m args below meth c H locs cells slots Q (F0 m pc ls []))  : ∀ (l1 : Int32) (l2 : Int32) (l3 : Int64) (l5 : Int64) (l7 : Int32) (l8 : Int32) (l9 : Int32) (l10 : Int32) (x : St) (H : Heap) (locs : List Loc) (ls : Array Slot), j_Mod_openField_339 post l1 l2 l3 l5 l7 l8 l9 l10 x → Wd dC dI cI cB cJ cZ ad stM kcM 115 A x H → va_S A s.heap H locs → lv_has ls 11 [(0, .ref (ad 0)), (1, .int l1), (2, .int l2), (3, .long l3), (5, .long l5), (7, .int l7), (8, .int l8), (9, .int l9), (10, .int l10)] → W p l e R s m args below meth c H locs cells slots Q (F0 m 339 ls [.ref (ad 0)]) := by
  intro l1 l2 l3 l5 l7 l8 l9 l10 x H locs ls  hw hW hS hl
  unfold j_Mod_openField_339 at hw
  refine lv_iconst (v := 1) hx hb d_Mod_openField_339 (by decide) ?_
  refine lv_goto (tgt := 344) hx hb d_Mod_openField_340 (by decide) ?_
  exact t_Mod_openField_344 hx hb hml hown hT hK hN hA hRc hRs hRf hRl hret  l1 l2 l3 l5 l7 l8 l9 l10 1 x H locs ls  hw hW hS (lv_sub hl [0, 1, 2, 3, 4, 5, 6, 7, 8] rfl)
set_option maxRecDepth 100000 in
set_option maxHeartbeats 4000000 in
set_option maxRecDepth 100000 in
theorem t_Mod_openField_294 {p : Program} {l : Launch} {e : Env} {R : Room} {s : State} {m : MethodId} {args : Array Value} {below : List Frame} {meth : Method} {c : Code} {cells slots : Nat} {Q : State → Prop} {dC : Nat → ClassId} {dI : Nat → Nat → Nat} {cI cB cJ cZ : ClassId} {A : Nat → Prop} {ad : Nat → Nat} {post : St → Prop} (hx : p.tables.exec = Jvm.exec) (hb : c.code = b_Mod_openField) (hml : c.maxLocals = 11) (hown : s.vm.findClass R_Mod = some m.cls) (hT : ∀ w ∈ TG, w.before args s = true) (hK : va_K (dC, dI) CL (TY cI cB cJ cZ) s) (hN : NW s) (hA : ∀ q : Nat, s.heap.size ≤ q → A q) (hRc : cells ≤ R.cells) (hRs : slots ≤ R.slots) (hRf : 3 ≤ R.frames) (hRl : 67 ≤ R.locals) (hret : ∀ (x : St) (H : Heap) (locs : List Loc) (pc : Nat) (ls : Array Slot), decode b_Mod_openField pc = .ok (.return_, 1) → post x → Wd dC dI cI cB cJ cZ ad stM kcM 115 A x H → va_S A s.heap H locs → W p l e R s m args below meth c H locs cells slots Q (F0 m pc ls []))  : ∀ (l1 : Int32) (l2 : Int32) (l3 : Int64) (l5 : Int64) (l7 : Int32) (l8 : Int32) (l9 : Int32) (l10 : Int32) (s0 : Int32) (x : St) (H : Heap) (locs : List Loc) (ls : Array Slot), j_Mod_openField_294 post l1 l2 l3 l5 l7 l8 l9 l10 s0 x → Wd dC dI cI cB cJ cZ ad stM kcM 115 A x H → va_S A s.heap H locs → lv_has ls 11 [(0, .ref (ad 0)), (1, .int l1), (2, .int l2), (3, .long l3), (5, .long l5), (7, .int l7), (8, .int l8), (9, .int l9), (10, .int l10)] → W p l e R s m args below meth c H locs cells slots Q (F0 m 294 ls [.int s0, .ref (ad 0)]) := by
  intro l1 l2 l3 l5 l7 l8 l9 l10 s0 x H locs ls  hw hW hS hl
  unfold j_Mod_openField_294 at hw
  refine lv_bipush (v := 15) hx hb d_Mod_openField_294 (by decide) ?_
  have hF := hW.free hS hA
  refine va_callv (va_runV (C := R_Mod) (As := [.int s0, .int 15]) (rest := []) ⟨hx, hb, hml, hown, hT⟩ (k_Mod_faults l dC dI cI cB cJ cZ ad H.size s0 15 x  hw) ⟨callB_of 2 hT (gwt_in w_12_107) rfl rfl rfl (hT _ w_1_15) (hT _ w_12_104) (by decide +kernel) ⟨Nat.le_trans (Nat.le_of_ble_eq_true rfl) hRf, Nat.le_trans (Nat.le_of_ble_eq_true rfl) hRl⟩, hT _ w_12_106, hT _ ws_183⟩ ⟨PW.blind, va_recv hK hW.1 (ci := 12) (q0 := 0) rfl (pic_obj ko_0.1 ko_0.2 (by decide)), PW.at _ hW hK hN⟩ rfl rfl hl.1 rfl (lv_room (Nat.le_of_ble_eq_true rfl)) d_Mod_openField_296 ⟨hRc, hRs⟩) hS (fun q _ h => hF q h) hF (fun  x941 t H locs ht hvm hw hB hz1 hk1 hS => ?_)
  have hW := Wd.back hB ht hF
  clear hB ht hF hz1 hk1 hvm
  refine lv_aload_n hx hb d_Mod_openField_299 rfl (lv_at hl 0 rfl) ?_
  refine w_geti (k := 69) (t := 12) (C := R_Mod) (T := F_Mod) (N := 167) hx hb hT hown hK hW ko_0.1 ko_0.2 (by decide) in_Mod rfl rfl (by decide) rfl fr_Mod_69 w_9_5 d_Mod_openField_300 ?_
  refine lv_if_ne (tgt := 349) hx hb d_Mod_openField_303 (by decide) (fun c942 => ?_) (fun c942 => ?_)
  · have hw := hw.1 c942
    exact t_Mod_openField_349 hx hb hml hown hT hK hN hA hRc hRs hRf hRl hret  l1 l2 l3 l5 l7 l8 l9 l10 x941 H locs ls  hw hW hS (lv_sub hl [0, 1, 2, 3, 4, 5, 6, 7, 8] rfl)
  · have hw := hw.2 c942
    refine lv_aload_n hx hb d_Mod_openField_306 rfl (lv_at hl 0 rfl) ?_
    refine lv_aload_n hx hb d_Mod_openField_307 rfl (lv_at hl 0 rfl) ?_
    refine lv_iconst (v := 2) hx hb d_Mod_openField_308 (by decide) ?_
    refine lv_iload hx hb d_Mod_openField_309 (lv_at hl 7 rfl) ?_
    refine lv_aload_n hx hb d_Mod_openField_311 rfl (lv_at hl 0 rfl) ?_
    refine w_getf (q := 41) (k := 62) (t := 12) (C := R_Mod) (T := F_Mod) (N := 167) hx hb hT hown hK hW ko_0.1 ko_0.2 (by decide) in_Mod rfl rfl (by decide) rfl fr_Mod_62 w_8_238 d_Mod_openField_312 rfl ?_
    refine lv_iload hx hb d_Mod_openField_315 (lv_at hl 5 rfl) ?_
    refine lv_lload hx hb d_Mod_openField_317 (lv_at hl 4 rfl) ?_
    refine lv_l2i hx hb d_Mod_openField_319 rfl ?_
    have hF := hW.free hS hA
    refine va_calli (va_runV (C := R_Mod) (As := [.int 2, .int l9, .ref (ad 41), .int l7, .int (l5 : Int64).toInt32]) (rest := [.ref (ad 0)]) ⟨hx, hb, hml, hown, hT⟩ (k_Mod_find l dC dI cI cB cJ cZ ad H.size 2 l9 41 l7 (l5 : Int64).toInt32 x941 ko_41 hw) ⟨callB_of 5 hT (gwt_in w_11_34) rfl rfl rfl (hT _ w_1_15) (hT _ w_11_31) (by decide +kernel) ⟨Nat.le_trans (Nat.le_of_ble_eq_true rfl) hRf, Nat.le_trans (Nat.le_of_ble_eq_true rfl) hRl⟩, hT _ w_11_33, hT _ ws_118⟩ ⟨PW.blind, va_recv hK hW.1 (ci := 12) (q0 := 0) rfl (pic_obj ko_0.1 ko_0.2 (by decide)), PW.at _ hW hK hN⟩ rfl rfl hl.1 rfl (lv_room (Nat.le_of_ble_eq_true rfl)) d_Mod_openField_320 ⟨hRc, hRs⟩) hS (fun q _ h => hF q h) hF (fun r944 x943 t H locs ht hvm hw hB hz1 hk1 hS => ?_)
    have hW := Wd.back hB ht hF
    clear hB ht hF hz1 hk1 hvm
    refine lv_iconst (v := (-1)) hx hb d_Mod_openField_323 (by decide) ?_
    refine lv_icmp_ne (tgt := 339) hx hb d_Mod_openField_324 (by decide) (fun c945 => ?_) (fun c945 => ?_)
    · have hw := hw.1 c945
      exact t_Mod_openField_339 hx hb hml hown hT hK hN hA hRc hRs hRf hRl hret  l1 l2 l3 l5 l7 l8 l9 l10 x943 H locs ls  hw hW hS (lv_sub hl [0, 1, 2, 3, 4, 5, 6, 7, 8] rfl)
    · have hw := hw.2 c945
      refine lv_aload_n hx hb d_Mod_openField_327 rfl (lv_at hl 0 rfl) ?_
      refine lv_iload_n hx hb d_Mod_openField_328 rfl (lv_at hl 2 rfl) ?_
      refine lv_iconst (v := 3) hx hb d_Mod_openField_329 (by decide) ?_
      refine lv_idiv hx hb d_Mod_openField_330 (by decide) ?_
      refine lv_iload hx hb d_Mod_openField_331 (lv_at hl 7 rfl) ?_
      have hF := hW.free hS hA
      refine va_calli (va_runV (C := R_Mod) (As := [.int (l2 / 3), .int l9]) (rest := [.ref (ad 0)]) ⟨hx, hb, hml, hown, hT⟩ (k_Mod_mayCome l dC dI cI cB cJ cZ ad H.size (l2 / 3) l9 x943  hw) ⟨callB_of 2 hT (gwt_in w_11_23) rfl rfl rfl (hT _ w_1_15) (hT _ w_11_20) (by decide +kernel) ⟨Nat.le_trans (Nat.le_of_ble_eq_true rfl) hRf, Nat.le_trans (Nat.le_of_ble_eq_true rfl) hRl⟩, hT _ w_11_22, hT _ ws_116⟩ ⟨PW.blind, va_recv hK hW.1 (ci := 12) (q0 := 0) rfl (pic_obj ko_0.1 ko_0.2 (by decide)), PW.at _ hW hK hN⟩ rfl rfl hl.1 rfl (lv_room (Nat.le_of_ble_eq_true rfl)) d_Mod_openField_333 ⟨hRc, hRs⟩) hS (fun q _ h => hF q h) hF (fun r947 x946 t H locs ht hvm hw hB hz1 hk1 hS => ?_)
      have hW := Wd.back hB ht hF
      clear hB ht hF hz1 hk1 hvm
      refine lv_if_ne (tgt := 343) hx hb d_Mod_openField_336 (by decide) (fun c948 => ?_) (fun c948 => ?_)
      · have hw := hw.1 c948
        refine lv_iconst (v := 0) hx hb d_Mod_openField_343 (by decide) ?_
        exact t_Mod_openField_344 hx hb hml hown hT hK hN hA hRc hRs hRf hRl hret  l1 l2 l3 l5 l7 l8 l9 l10 0 x946 H locs ls  hw hW hS (lv_sub hl [0, 1, 2, 3, 4, 5, 6, 7, 8] rfl)
      · have hw := hw.2 c948
        exact t_Mod_openField_339 hx hb hml hown hT hK hN hA hRc hRs hRf hRl hret  l1 l2 l3 l5 l7 l8 l9 l10 x946 H locs ls  hw hW hS (lv_sub hl [0, 1, 2, 3, 4, 5, 6, 7, 8] rfl)
set_option maxRecDepth 100000 in
set_option maxHeartbeats 4000000 in
set_option maxRecDepth 100000 in
theorem t_Mod_openField_289 {p : Program} {l : Launch} {e : Env} {R : Room} {s : State} {m : MethodId} {args : Array Value} {below : List Frame} {meth : Method} {c : Code} {cells slots : Nat} {Q : State → Prop} {dC : Nat → ClassId} {dI : Nat → Nat → Nat} {cI cB cJ cZ : ClassId} {A : Nat → Prop} {ad : Nat → Nat} {post : St → Prop} (hx : p.tables.exec = Jvm.exec) (hb : c.code = b_Mod_openField) (hml : c.maxLocals = 11) (hown : s.vm.findClass R_Mod = some m.cls) (hT : ∀ w ∈ TG, w.before args s = true) (hK : va_K (dC, dI) CL (TY cI cB cJ cZ) s) (hN : NW s) (hA : ∀ q : Nat, s.heap.size ≤ q → A q) (hRc : cells ≤ R.cells) (hRs : slots ≤ R.slots) (hRf : 3 ≤ R.frames) (hRl : 67 ≤ R.locals) (hret : ∀ (x : St) (H : Heap) (locs : List Loc) (pc : Nat) (ls : Array Slot), decode b_Mod_openField pc = .ok (.return_, 1) → post x → Wd dC dI cI cB cJ cZ ad stM kcM 115 A x H → va_S A s.heap H locs → W p l e R s m args below meth c H locs cells slots Q (F0 m pc ls []))  : ∀ (l1 : Int32) (l2 : Int32) (l3 : Int64) (l5 : Int64) (l7 : Int32) (l8 : Int32) (l9 : Int32) (l10 : Int32) (x : St) (H : Heap) (locs : List Loc) (ls : Array Slot), j_Mod_openField_289 post l1 l2 l3 l5 l7 l8 l9 l10 x → Wd dC dI cI cB cJ cZ ad stM kcM 115 A x H → va_S A s.heap H locs → lv_has ls 11 [(0, .ref (ad 0)), (1, .int l1), (2, .int l2), (3, .long l3), (5, .long l5), (7, .int l7), (8, .int l8), (9, .int l9), (10, .int l10)] → W p l e R s m args below meth c H locs cells slots Q (F0 m 289 ls [.ref (ad 0)]) := by
  intro l1 l2 l3 l5 l7 l8 l9 l10 x H locs ls  hw hW hS hl
  unfold j_Mod_openField_289 at hw
  refine lv_iconst (v := 1) hx hb d_Mod_openField_289 (by decide) ?_
  refine lv_goto (tgt := 294) hx hb d_Mod_openField_290 (by decide) ?_
  exact t_Mod_openField_294 hx hb hml hown hT hK hN hA hRc hRs hRf hRl hret  l1 l2 l3 l5 l7 l8 l9 l10 1 x H locs ls  hw hW hS (lv_sub hl [0, 1, 2, 3, 4, 5, 6, 7, 8] rfl)
set_option maxRecDepth 100000 in
set_option maxHeartbeats 4000000 in
set_option maxRecDepth 100000 in
theorem t_Mod_openField_270 {p : Program} {l : Launch} {e : Env} {R : Room} {s : State} {m : MethodId} {args : Array Value} {below : List Frame} {meth : Method} {c : Code} {cells slots : Nat} {Q : State → Prop} {dC : Nat → ClassId} {dI : Nat → Nat → Nat} {cI cB cJ cZ : ClassId} {A : Nat → Prop} {ad : Nat → Nat} {post : St → Prop} (hx : p.tables.exec = Jvm.exec) (hb : c.code = b_Mod_openField) (hml : c.maxLocals = 11) (hown : s.vm.findClass R_Mod = some m.cls) (hT : ∀ w ∈ TG, w.before args s = true) (hK : va_K (dC, dI) CL (TY cI cB cJ cZ) s) (hN : NW s) (hA : ∀ q : Nat, s.heap.size ≤ q → A q) (hRc : cells ≤ R.cells) (hRs : slots ≤ R.slots) (hRf : 3 ≤ R.frames) (hRl : 67 ≤ R.locals) (hret : ∀ (x : St) (H : Heap) (locs : List Loc) (pc : Nat) (ls : Array Slot), decode b_Mod_openField pc = .ok (.return_, 1) → post x → Wd dC dI cI cB cJ cZ ad stM kcM 115 A x H → va_S A s.heap H locs → W p l e R s m args below meth c H locs cells slots Q (F0 m pc ls []))  : ∀ (l1 : Int32) (l2 : Int32) (l3 : Int64) (l5 : Int64) (l7 : Int32) (l8 : Int32) (l9 : Int32) (l10 : Int32) (s0 : Int32) (x : St) (H : Heap) (locs : List Loc) (ls : Array Slot), j_Mod_openField_270 post l1 l2 l3 l5 l7 l8 l9 l10 s0 x → Wd dC dI cI cB cJ cZ ad stM kcM 115 A x H → va_S A s.heap H locs → lv_has ls 11 [(0, .ref (ad 0)), (1, .int l1), (2, .int l2), (3, .long l3), (5, .long l5), (7, .int l7), (8, .int l8), (9, .int l9), (10, .int l10)] → W p l e R s m args below meth c H locs cells slots Q (F0 m 270 ls [.int s0]) := by
  intro l1 l2 l3 l5 l7 l8 l9 l10 s0 x H locs ls  hw hW hS hl
  unfold j_Mod_openField_270 at hw
  refine lv_istore (lv' := [(9, .int s0), (0, .ref (ad 0)), (1, .int l1), (2, .int l2), (3, .long l3), (5, .long l5), (7, .int l7), (8, .int l8), (10, .int l10)]) hx hb d_Mod_openField_270 hl (by decide) rfl (fun ls hl => ?_)
  refine lv_aload_n hx hb d_Mod_openField_272 rfl (lv_at hl 1 rfl) ?_
  refine lv_iload_n hx hb d_Mod_openField_273 rfl (lv_at hl 3 rfl) ?_
  refine lv_bipush (v := 14) hx hb d_Mod_openField_274 (by decide) ?_
  refine lv_icmp_gt (tgt := 289) hx hb d_Mod_openField_276 (by decide) (fun c949 => ?_) (fun c949 => ?_)
  · have hw := hw.1 c949
    exact t_Mod_openField_289 hx hb hml hown hT hK hN hA hRc hRs hRf hRl hret  l1 l2 l3 l5 l7 l8 s0 l10 x H locs ls  hw hW hS (lv_sub hl [1, 2, 3, 4, 5, 6, 7, 0, 8] rfl)
  · have hw := hw.2 c949
    refine lv_iload hx hb d_Mod_openField_279 (lv_at hl 8 rfl) ?_
    refine lv_if_eq (tgt := 289) hx hb d_Mod_openField_281 (by decide) (fun c950 => ?_) (fun c950 => ?_)
    · have hw := hw.1 c950
      exact t_Mod_openField_289 hx hb hml hown hT hK hN hA hRc hRs hRf hRl hret  l1 l2 l3 l5 l7 l8 s0 l10 x H locs ls  hw hW hS (lv_sub hl [1, 2, 3, 4, 5, 6, 7, 0, 8] rfl)
    · have hw := hw.2 c950
      refine lv_iload hx hb d_Mod_openField_284 (lv_at hl 7 rfl) ?_
      refine lv_if_ne (tgt := 293) hx hb d_Mod_openField_286 (by decide) (fun c951 => ?_) (fun c951 => ?_)
      · have hw := hw.1 c951
        refine lv_iconst (v := 0) hx hb d_Mod_openField_293 (by decide) ?_
        exact t_Mod_openField_294 hx hb hml hown hT hK hN hA hRc hRs hRf hRl hret  l1 l2 l3 l5 l7 l8 s0 l10 0 x H locs ls  hw hW hS (lv_sub hl [1, 2, 3, 4, 5, 6, 7, 0, 8] rfl)
      · have hw := hw.2 c951
        exact t_Mod_openField_289 hx hb hml hown hT hK hN hA hRc hRs hRf hRl hret  l1 l2 l3 l5 l7 l8 s0 l10 x H locs ls  hw hW hS (lv_sub hl [1, 2, 3, 4, 5, 6, 7, 0, 8] rfl)
set_option maxRecDepth 100000 in
set_option maxHeartbeats 4000000 in
set_option maxRecDepth 100000 in
theorem t_Mod_openField_256 {p : Program} {l : Launch} {e : Env} {R : Room} {s : State} {m : MethodId} {args : Array Value} {below : List Frame} {meth : Method} {c : Code} {cells slots : Nat} {Q : State → Prop} {dC : Nat → ClassId} {dI : Nat → Nat → Nat} {cI cB cJ cZ : ClassId} {A : Nat → Prop} {ad : Nat → Nat} {post : St → Prop} (hx : p.tables.exec = Jvm.exec) (hb : c.code = b_Mod_openField) (hml : c.maxLocals = 11) (hown : s.vm.findClass R_Mod = some m.cls) (hT : ∀ w ∈ TG, w.before args s = true) (hK : va_K (dC, dI) CL (TY cI cB cJ cZ) s) (hN : NW s) (hA : ∀ q : Nat, s.heap.size ≤ q → A q) (hRc : cells ≤ R.cells) (hRs : slots ≤ R.slots) (hRf : 3 ≤ R.frames) (hRl : 67 ≤ R.locals) (hret : ∀ (x : St) (H : Heap) (locs : List Loc) (pc : Nat) (ls : Array Slot), decode b_Mod_openField pc = .ok (.return_, 1) → post x → Wd dC dI cI cB cJ cZ ad stM kcM 115 A x H → va_S A s.heap H locs → W p l e R s m args below meth c H locs cells slots Q (F0 m pc ls []))  : ∀ (l1 : Int32) (l2 : Int32) (l3 : Int64) (l5 : Int64) (l7 : Int32) (l8 : Int32) (l9 : Int32) (s0 : Int32) (x : St) (H : Heap) (locs : List Loc) (ls : Array Slot), j_Mod_openField_256 post l1 l2 l3 l5 l7 l8 l9 s0 x → Wd dC dI cI cB cJ cZ ad stM kcM 115 A x H → va_S A s.heap H locs → lv_has ls 11 [(0, .ref (ad 0)), (1, .int l1), (2, .int l2), (3, .long l3), (5, .long l5), (7, .int l7), (8, .int l8), (9, .int l9)] → W p l e R s m args below meth c H locs cells slots Q (F0 m 256 ls [.int s0]) := by
  intro l1 l2 l3 l5 l7 l8 l9 s0 x H locs ls  hw hW hS hl
  unfold j_Mod_openField_256 at hw
  refine lv_istore (lv' := [(10, .int s0), (0, .ref (ad 0)), (1, .int l1), (2, .int l2), (3, .long l3), (5, .long l5), (7, .int l7), (8, .int l8), (9, .int l9)]) hx hb d_Mod_openField_256 hl (by decide) rfl (fun ls hl => ?_)
  refine lv_lload_n hx hb d_Mod_openField_258 rfl (lv_at hl 4 rfl) ?_
  refine lv_lconst (v := 0) hx hb d_Mod_openField_259 (by decide) ?_
  refine W.lcmp hx hb d_Mod_openField_260 ?_
  refine lv_if_ne (tgt := 268) hx hb d_Mod_openField_261 (by decide) (fun c952 => ?_) (fun c952 => ?_)
  · have hw := hw.1 c952
    refine lv_iload hx hb d_Mod_openField_268 (lv_at hl 8 rfl) ?_
    exact t_Mod_openField_270 hx hb hml hown hT hK hN hA hRc hRs hRf hRl hret  l1 l2 l3 l5 l7 l8 l9 s0 l9 x H locs ls  hw hW hS (lv_sub hl [1, 2, 3, 4, 5, 6, 7, 8, 0] rfl)
  · have hw := hw.2 c952
    refine lv_iconst (v := (-1)) hx hb d_Mod_openField_264 (by decide) ?_
    refine lv_goto (tgt := 270) hx hb d_Mod_openField_265 (by decide) ?_
    exact t_Mod_openField_270 hx hb hml hown hT hK hN hA hRc hRs hRf hRl hret  l1 l2 l3 l5 l7 l8 l9 s0 (-1) x H locs ls  hw hW hS (lv_sub hl [1, 2, 3, 4, 5, 6, 7, 8, 0] rfl)
set_option maxRecDepth 100000 in
set_option maxHeartbeats 4000000 in
set_option maxRecDepth 100000 in
theorem t_Mod_openField_255 {p : Program} {l : Launch} {e : Env} {R : Room} {s : State} {m : MethodId} {args : Array Value} {below : List Frame} {meth : Method} {c : Code} {cells slots : Nat} {Q : State → Prop} {dC : Nat → ClassId} {dI : Nat → Nat → Nat} {cI cB cJ cZ : ClassId} {A : Nat → Prop} {ad : Nat → Nat} {post : St → Prop} (hx : p.tables.exec = Jvm.exec) (hb : c.code = b_Mod_openField) (hml : c.maxLocals = 11) (hown : s.vm.findClass R_Mod = some m.cls) (hT : ∀ w ∈ TG, w.before args s = true) (hK : va_K (dC, dI) CL (TY cI cB cJ cZ) s) (hN : NW s) (hA : ∀ q : Nat, s.heap.size ≤ q → A q) (hRc : cells ≤ R.cells) (hRs : slots ≤ R.slots) (hRf : 3 ≤ R.frames) (hRl : 67 ≤ R.locals) (hret : ∀ (x : St) (H : Heap) (locs : List Loc) (pc : Nat) (ls : Array Slot), decode b_Mod_openField pc = .ok (.return_, 1) → post x → Wd dC dI cI cB cJ cZ ad stM kcM 115 A x H → va_S A s.heap H locs → W p l e R s m args below meth c H locs cells slots Q (F0 m pc ls []))  : ∀ (l1 : Int32) (l2 : Int32) (l3 : Int64) (l5 : Int64) (l7 : Int32) (l8 : Int32) (l9 : Int32) (x : St) (H : Heap) (locs : List Loc) (ls : Array Slot), j_Mod_openField_255 post l1 l2 l3 l5 l7 l8 l9 x → Wd dC dI cI cB cJ cZ ad stM kcM 115 A x H → va_S A s.heap H locs → lv_has ls 11 [(0, .ref (ad 0)), (1, .int l1), (2, .int l2), (3, .long l3), (5, .long l5), (7, .int l7), (8, .int l8), (9, .int l9)] → W p l e R s m args below meth c H locs cells slots Q (F0 m 255 ls []) := by
  intro l1 l2 l3 l5 l7 l8 l9 x H locs ls  hw hW hS hl
  unfold j_Mod_openField_255 at hw
  refine lv_iconst (v := 0) hx hb d_Mod_openField_255 (by decide) ?_
  exact t_Mod_openField_256 hx hb hml hown hT hK hN hA hRc hRs hRf hRl hret  l1 l2 l3 l5 l7 l8 l9 0 x H locs ls  hw hW hS (lv_sub hl [0, 1, 2, 3, 4, 5, 6, 7] rfl)
set_option maxRecDepth 100000 in
set_option maxHeartbeats 4000000 in
set_option maxRecDepth 100000 in
theorem t_Mod_openField_251 {p : Program} {l : Launch} {e : Env} {R : Room} {s : State} {m : MethodId} {args : Array Value} {below : List Frame} {meth : Method} {c : Code} {cells slots : Nat} {Q : State → Prop} {dC : Nat → ClassId} {dI : Nat → Nat → Nat} {cI cB cJ cZ : ClassId} {A : Nat → Prop} {ad : Nat → Nat} {post : St → Prop} (hx : p.tables.exec = Jvm.exec) (hb : c.code = b_Mod_openField) (hml : c.maxLocals = 11) (hown : s.vm.findClass R_Mod = some m.cls) (hT : ∀ w ∈ TG, w.before args s = true) (hK : va_K (dC, dI) CL (TY cI cB cJ cZ) s) (hN : NW s) (hA : ∀ q : Nat, s.heap.size ≤ q → A q) (hRc : cells ≤ R.cells) (hRs : slots ≤ R.slots) (hRf : 3 ≤ R.frames) (hRl : 67 ≤ R.locals) (hret : ∀ (x : St) (H : Heap) (locs : List Loc) (pc : Nat) (ls : Array Slot), decode b_Mod_openField pc = .ok (.return_, 1) → post x → Wd dC dI cI cB cJ cZ ad stM kcM 115 A x H → va_S A s.heap H locs → W p l e R s m args below meth c H locs cells slots Q (F0 m pc ls []))  : ∀ (l1 : Int32) (l2 : Int32) (l3 : Int64) (l5 : Int64) (l7 : Int32) (l8 : Int32) (l9 : Int32) (x : St) (H : Heap) (locs : List Loc) (ls : Array Slot), j_Mod_openField_251 post l1 l2 l3 l5 l7 l8 l9 x → Wd dC dI cI cB cJ cZ ad stM kcM 115 A x H → va_S A s.heap H locs → lv_has ls 11 [(0, .ref (ad 0)), (1, .int l1), (2, .int l2), (3, .long l3), (5, .long l5), (7, .int l7), (8, .int l8), (9, .int l9)] → W p l e R s m args below meth c H locs cells slots Q (F0 m 251 ls []) := by
  intro l1 l2 l3 l5 l7 l8 l9 x H locs ls  hw hW hS hl
  unfold j_Mod_openField_251 at hw
  refine lv_iconst (v := 1) hx hb d_Mod_openField_251 (by decide) ?_
  refine lv_goto (tgt := 256) hx hb d_Mod_openField_252 (by decide) ?_
  exact t_Mod_openField_256 hx hb hml hown hT hK hN hA hRc hRs hRf hRl hret  l1 l2 l3 l5 l7 l8 l9 1 x H locs ls  hw hW hS (lv_sub hl [0, 1, 2, 3, 4, 5, 6, 7] rfl)
set_option maxRecDepth 100000 in
set_option maxHeartbeats 4000000 in
set_option maxRecDepth 100000 in
theorem t_Mod_openField_224 {p : Program} {l : Launch} {e : Env} {R : Room} {s : State} {m : MethodId} {args : Array Value} {below : List Frame} {meth : Method} {c : Code} {cells slots : Nat} {Q : State → Prop} {dC : Nat → ClassId} {dI : Nat → Nat → Nat} {cI cB cJ cZ : ClassId} {A : Nat → Prop} {ad : Nat → Nat} {post : St → Prop} (hx : p.tables.exec = Jvm.exec) (hb : c.code = b_Mod_openField) (hml : c.maxLocals = 11) (hown : s.vm.findClass R_Mod = some m.cls) (hT : ∀ w ∈ TG, w.before args s = true) (hK : va_K (dC, dI) CL (TY cI cB cJ cZ) s) (hN : NW s) (hA : ∀ q : Nat, s.heap.size ≤ q → A q) (hRc : cells ≤ R.cells) (hRs : slots ≤ R.slots) (hRf : 3 ≤ R.frames) (hRl : 67 ≤ R.locals) (hret : ∀ (x : St) (H : Heap) (locs : List Loc) (pc : Nat) (ls : Array Slot), decode b_Mod_openField pc = .ok (.return_, 1) → post x → Wd dC dI cI cB cJ cZ ad stM kcM 115 A x H → va_S A s.heap H locs → W p l e R s m args below meth c H locs cells slots Q (F0 m pc ls []))  : ∀ (l1 : Int32) (l2 : Int32) (l3 : Int64) (l5 : Int64) (l7 : Int32) (l8 : Int32) (l9 : Int32) (x : St) (H : Heap) (locs : List Loc) (ls : Array Slot), j_Mod_openField_224 post l1 l2 l3 l5 l7 l8 l9 x → Wd dC dI cI cB cJ cZ ad stM kcM 115 A x H → va_S A s.heap H locs → lv_has ls 11 [(0, .ref (ad 0)), (1, .int l1), (2, .int l2), (3, .long l3), (5, .long l5), (7, .int l7), (8, .int l8), (9, .int l9)] → W p l e R s m args below meth c H locs cells slots Q (F0 m 224 ls []) := by
  intro l1 l2 l3 l5 l7 l8 l9 x H locs ls  hw hW hS hl
  unfold j_Mod_openField_224 at hw
  refine lv_lload_n hx hb d_Mod_openField_224 rfl (lv_at hl 3 rfl) ?_
  refine lv_lconst (v := 0) hx hb d_Mod_openField_225 (by decide) ?_
  refine W.lcmp hx hb d_Mod_openField_226 ?_
  refine lv_if_eq (tgt := 251) hx hb d_Mod_openField_227 (by decide) (fun c953 => ?_) (fun c953 => ?_)
  · have hw := hw.1 c953
    exact t_Mod_openField_251 hx hb hml hown hT hK hN hA hRc hRs hRf hRl hret  l1 l2 l3 l5 l7 l8 l9 x H locs ls  hw hW hS (lv_sub hl [0, 1, 2, 3, 4, 5, 6, 7] rfl)
  · have hw := hw.2 c953
    refine lv_iload hx hb d_Mod_openField_230 (lv_at hl 7 rfl) ?_
    refine lv_iconst (v := (-1)) hx hb d_Mod_openField_232 (by decide) ?_
    refine lv_icmp_eq (tgt := 255) hx hb d_Mod_openField_233 (by decide) (fun c954 => ?_) (fun c954 => ?_)
    · have hw := hw.1 c954
      exact t_Mod_openField_255 hx hb hml hown hT hK hN hA hRc hRs hRf hRl hret  l1 l2 l3 l5 l7 l8 l9 x H locs ls  hw hW hS (lv_sub hl [0, 1, 2, 3, 4, 5, 6, 7] rfl)
    · have hw := hw.2 c954
      refine lv_aload_n hx hb d_Mod_openField_236 rfl (lv_at hl 0 rfl) ?_
      refine w_getf (q := 4) (k := 6) (t := 12) (C := R_Mod) (T := F_Mod) (N := 167) hx hb hT hown hK hW ko_0.1 ko_0.2 (by decide) in_Mod rfl rfl (by decide) rfl fr_Mod_6 w_8_182 d_Mod_openField_237 rfl ?_
      refine lv_iconst (v := 2) hx hb d_Mod_openField_240 (by decide) ?_
      refine lv_iload hx hb d_Mod_openField_241 (lv_at hl 7 rfl) ?_
      have hF := hW.free hS hA
      refine va_calli (va_runS (As := [.int 2, .int l9]) (rest := [.ref (ad 4)]) ⟨hx, hb, hml, hown, hT⟩ (k_Mod_place l dC dI cI cB cJ cZ ad H.size 2 l9 x  hw) ⟨callB_of 2 hT (gwt_in w_11_30) rfl rfl rfl (hT _ w_1_15) (hT _ w_11_28) (by decide +kernel) ⟨Nat.le_trans (Nat.le_of_ble_eq_true rfl) hRf, Nat.le_trans (Nat.le_of_ble_eq_true rfl) hRl⟩, hT _ w_11_29⟩ ⟨PW.blind, PW.at _ hW hK hN⟩ rfl rfl hl.1 rfl (lv_room (Nat.le_of_ble_eq_true rfl)) d_Mod_openField_243 ⟨hRc, hRs⟩) hS (fun q _ h => hF q h) hF (fun r956 x955 t H locs ht hvm hw hB hz1 hk1 hS => ?_)
      have hW := Wd.back hB ht hF
      clear hB ht hF hz1 hk1 hvm
      obtain ⟨hi, hw⟩ := hw
      refine w_iald (o := 4) hx hb hK hW ko_4.1 ko_4.2 hi d_Mod_openField_246 ?_
      refine lv_iconst (v := 4) hx hb d_Mod_openField_247 (by decide) ?_
      refine lv_icmp_ne (tgt := 255) hx hb d_Mod_openField_248 (by decide) (fun c957 => ?_) (fun c957 => ?_)
      · have hw := hw.1 c957
        exact t_Mod_openField_255 hx hb hml hown hT hK hN hA hRc hRs hRf hRl hret  l1 l2 l3 l5 l7 l8 l9 x955 H locs ls  hw hW hS (lv_sub hl [0, 1, 2, 3, 4, 5, 6, 7] rfl)
      · have hw := hw.2 c957
        exact t_Mod_openField_251 hx hb hml hown hT hK hN hA hRc hRs hRf hRl hret  l1 l2 l3 l5 l7 l8 l9 x955 H locs ls  hw hW hS (lv_sub hl [0, 1, 2, 3, 4, 5, 6, 7] rfl)
set_option maxRecDepth 100000 in
set_option maxHeartbeats 4000000 in
set_option maxRecDepth 100000 in
theorem t_Mod_openField_192 {p : Program} {l : Launch} {e : Env} {R : Room} {s : State} {m : MethodId} {args : Array Value} {below : List Frame} {meth : Method} {c : Code} {cells slots : Nat} {Q : State → Prop} {dC : Nat → ClassId} {dI : Nat → Nat → Nat} {cI cB cJ cZ : ClassId} {A : Nat → Prop} {ad : Nat → Nat} {post : St → Prop} {rec192 : Int32 → Int32 → Int64 → Int64 → Int32 → Int32 → Int32 → St → Prop} (hx : p.tables.exec = Jvm.exec) (hb : c.code = b_Mod_openField) (hml : c.maxLocals = 11) (hown : s.vm.findClass R_Mod = some m.cls) (hT : ∀ w ∈ TG, w.before args s = true) (hK : va_K (dC, dI) CL (TY cI cB cJ cZ) s) (hN : NW s) (hA : ∀ q : Nat, s.heap.size ≤ q → A q) (hRc : cells ≤ R.cells) (hRs : slots ≤ R.slots) (hRf : 3 ≤ R.frames) (hRl : 67 ≤ R.locals) (hret : ∀ (x : St) (H : Heap) (locs : List Loc) (pc : Nat) (ls : Array Slot), decode b_Mod_openField pc = .ok (.return_, 1) → post x → Wd dC dI cI cB cJ cZ ad stM kcM 115 A x H → va_S A s.heap H locs → W p l e R s m args below meth c H locs cells slots Q (F0 m pc ls [])) (hrec192 : ∀ (l1 : Int32) (l2 : Int32) (l3 : Int64) (l5 : Int64) (l7 : Int32) (l8 : Int32) (l9 : Int32) (x : St) (H : Heap) (locs : List Loc) (ls : Array Slot), rec192 l1 l2 l3 l5 l7 l8 l9 x → Wd dC dI cI cB cJ cZ ad stM kcM 115 A x H → va_S A s.heap H locs → lv_has ls 11 [(0, .ref (ad 0)), (1, .int l1), (2, .int l2), (3, .long l3), (5, .long l5), (7, .int l7), (8, .int l8), (9, .int l9)] → W p l e R s m args below meth c H locs cells slots Q (F0 m 192 ls [])) : ∀ (l1 : Int32) (l2 : Int32) (l3 : Int64) (l5 : Int64) (l7 : Int32) (l8 : Int32) (l9 : Int32) (x : St) (H : Heap) (locs : List Loc) (ls : Array Slot), j_Mod_openField_192 post rec192 l1 l2 l3 l5 l7 l8 l9 x → Wd dC dI cI cB cJ cZ ad stM kcM 115 A x H → va_S A s.heap H locs → lv_has ls 11 [(0, .ref (ad 0)), (1, .int l1), (2, .int l2), (3, .long l3), (5, .long l5), (7, .int l7), (8, .int l8), (9, .int l9)] → W p l e R s m args below meth c H locs cells slots Q (F0 m 192 ls []) := by
  intro l1 l2 l3 l5 l7 l8 l9 x H locs ls  hw hW hS hl
  unfold j_Mod_openField_192 at hw
  refine lv_iload hx hb d_Mod_openField_192 (lv_at hl 7 rfl) ?_
  refine lv_iconst (v := (-1)) hx hb d_Mod_openField_194 (by decide) ?_
  refine lv_icmp_eq (tgt := 224) hx hb d_Mod_openField_195 (by decide) (fun c958 => ?_) (fun c958 => ?_)
  · have hw := hw.1 c958
    exact t_Mod_openField_224 hx hb hml hown hT hK hN hA hRc hRs hRf hRl hret  l1 l2 l3 l5 l7 l8 l9 x H locs ls  hw hW hS (lv_sub hl [0, 1, 2, 3, 4, 5, 6, 7] rfl)
  · have hw := hw.2 c958
    refine lv_iload hx hb d_Mod_openField_198 (lv_at hl 7 rfl) ?_
    refine lv_i2l hx hb d_Mod_openField_200 rfl ?_
    refine lv_lconst (v := 1) hx hb d_Mod_openField_201 (by decide) ?_
    refine lv_ladd hx hb d_Mod_openField_202 ?_
    refine lv_lload_n hx hb d_Mod_openField_203 rfl (lv_at hl 3 rfl) ?_
    refine W.lcmp hx hb d_Mod_openField_204 ?_
    refine lv_if_eq (tgt := 224) hx hb d_Mod_openField_205 (by decide) (fun c959 => ?_) (fun c959 => ?_)
    · have hw := hw.1 c959
      exact t_Mod_openField_224 hx hb hml hown hT hK hN hA hRc hRs hRf hRl hret  l1 l2 l3 l5 l7 l8 l9 x H locs ls  hw hW hS (lv_sub hl [0, 1, 2, 3, 4, 5, 6, 7] rfl)
    · have hw := hw.2 c959
      refine lv_aload_n hx hb d_Mod_openField_208 rfl (lv_at hl 0 rfl) ?_
      refine w_getf (q := 5) (k := 7) (t := 12) (C := R_Mod) (T := F_Mod) (N := 167) hx hb hT hown hK hW ko_0.1 ko_0.2 (by decide) in_Mod rfl rfl (by decide) rfl fr_Mod_7 w_8_183 d_Mod_openField_209 rfl ?_
      refine lv_iconst (v := 2) hx hb d_Mod_openField_212 (by decide) ?_
      refine lv_iload hx hb d_Mod_openField_213 (lv_at hl 7 rfl) ?_
      have hF := hW.free hS hA
      refine va_calli (va_runS (As := [.int 2, .int l9]) (rest := [.ref (ad 5)]) ⟨hx, hb, hml, hown, hT⟩ (k_Mod_place l dC dI cI cB cJ cZ ad H.size 2 l9 x  hw) ⟨callB_of 2 hT (gwt_in w_11_30) rfl rfl rfl (hT _ w_1_15) (hT _ w_11_28) (by decide +kernel) ⟨Nat.le_trans (Nat.le_of_ble_eq_true rfl) hRf, Nat.le_trans (Nat.le_of_ble_eq_true rfl) hRl⟩, hT _ w_11_29⟩ ⟨PW.blind, PW.at _ hW hK hN⟩ rfl rfl hl.1 rfl (lv_room (Nat.le_of_ble_eq_true rfl)) d_Mod_openField_215 ⟨hRc, hRs⟩) hS (fun q _ h => hF q h) hF (fun r961 x960 t H locs ht hvm hw hB hz1 hk1 hS => ?_)
      have hW := Wd.back hB ht hF
      clear hB ht hF hz1 hk1 hvm
      obtain ⟨hi, hw⟩ := hw
      refine w_iald (o := 5) hx hb hK hW ko_5.1 ko_5.2 hi d_Mod_openField_218 ?_
      refine lv_topi (fun v962 ev962 => ?_)
      have hw := hw v962 ev962
      refine lv_istore (lv' := [(9, .int v962), (0, .ref (ad 0)), (1, .int l1), (2, .int l2), (3, .long l3), (5, .long l5), (7, .int l7), (8, .int l8)]) hx hb d_Mod_openField_219 hl (by decide) rfl (fun ls hl => ?_)
      refine lv_goto (tgt := 192) hx hb d_Mod_openField_221 (by decide) ?_
      exact hrec192 l1 l2 l3 l5 l7 l8 v962 x960 H locs ls  hw hW hS (lv_sub hl [1, 2, 3, 4, 5, 6, 7, 0] rfl)
set_option maxHeartbeats 4000000 in
set_option maxRecDepth 100000 in
theorem tl_Mod_openField_192 {p : Program} {l : Launch} {e : Env} {R : Room} {s : State} {m : MethodId} {args : Array Value} {below : List Frame} {meth : Method} {c : Code} {cells slots : Nat} {Q : State → Prop} {dC : Nat → ClassId} {dI : Nat → Nat → Nat} {cI cB cJ cZ : ClassId} {A : Nat → Prop} {ad : Nat → Nat} {post : St → Prop} (hx : p.tables.exec = Jvm.exec) (hb : c.code = b_Mod_openField) (hml : c.maxLocals = 11) (hown : s.vm.findClass R_Mod = some m.cls) (hT : ∀ w ∈ TG, w.before args s = true) (hK : va_K (dC, dI) CL (TY cI cB cJ cZ) s) (hN : NW s) (hA : ∀ q : Nat, s.heap.size ≤ q → A q) (hRc : cells ≤ R.cells) (hRs : slots ≤ R.slots) (hRf : 3 ≤ R.frames) (hRl : 67 ≤ R.locals) (hret : ∀ (x : St) (H : Heap) (locs : List Loc) (pc : Nat) (ls : Array Slot), decode b_Mod_openField pc = .ok (.return_, 1) → post x → Wd dC dI cI cB cJ cZ ad stM kcM 115 A x H → va_S A s.heap H locs → W p l e R s m args below meth c H locs cells slots Q (F0 m pc ls []))  : ∀ n : Nat, ∀ (l1 : Int32) (l2 : Int32) (l3 : Int64) (l5 : Int64) (l7 : Int32) (l8 : Int32) (l9 : Int32) (x : St) (H : Heap) (locs : List Loc) (ls : Array Slot), wl_Mod_openField_192 post n l1 l2 l3 l5 l7 l8 l9 x → Wd dC dI cI cB cJ cZ ad stM kcM 115 A x H → va_S A s.heap H locs → lv_has ls 11 [(0, .ref (ad 0)), (1, .int l1), (2, .int l2), (3, .long l3), (5, .long l5), (7, .int l7), (8, .int l8), (9, .int l9)] → W p l e R s m args below meth c H locs cells slots Q (F0 m 192 ls []) := by
  intro n
  induction n with
  | zero => intro l1 l2 l3 l5 l7 l8 l9 x H locs ls  hw; exact hw.elim
  | succ n ih => intro l1 l2 l3 l5 l7 l8 l9 x H locs ls  hw hW hS hl; exact t_Mod_openField_192 hx hb hml hown hT hK hN hA hRc hRs hRf hRl hret  ih l1 l2 l3 l5 l7 l8 l9 x H locs ls  hw hW hS hl
set_option maxRecDepth 100000 in
set_option maxHeartbeats 4000000 in
set_option maxRecDepth 100000 in
theorem t_Mod_openField_170 {p : Program} {l : Launch} {e : Env} {R : Room} {s : State} {m : MethodId} {args : Array Value} {below : List Frame} {meth : Method} {c : Code} {cells slots : Nat} {Q : State → Prop} {dC : Nat → ClassId} {dI : Nat → Nat → Nat} {cI cB cJ cZ : ClassId} {A : Nat → Prop} {ad : Nat → Nat} {post : St → Prop} (hx : p.tables.exec = Jvm.exec) (hb : c.code = b_Mod_openField) (hml : c.maxLocals = 11) (hown : s.vm.findClass R_Mod = some m.cls) (hT : ∀ w ∈ TG, w.before args s = true) (hK : va_K (dC, dI) CL (TY cI cB cJ cZ) s) (hN : NW s) (hA : ∀ q : Nat, s.heap.size ≤ q → A q) (hRc : cells ≤ R.cells) (hRs : slots ≤ R.slots) (hRf : 3 ≤ R.frames) (hRl : 67 ≤ R.locals) (hret : ∀ (x : St) (H : Heap) (locs : List Loc) (pc : Nat) (ls : Array Slot), decode b_Mod_openField pc = .ok (.return_, 1) → post x → Wd dC dI cI cB cJ cZ ad stM kcM 115 A x H → va_S A s.heap H locs → W p l e R s m args below meth c H locs cells slots Q (F0 m pc ls []))  : ∀ (l1 : Int32) (l2 : Int32) (l3 : Int64) (l5 : Int64) (l7 : Int32) (l8 : Int32) (l9 : Int32) (x : St) (H : Heap) (locs : List Loc) (ls : Array Slot), j_Mod_openField_170 post l1 l2 l3 l5 l7 l8 l9 x → Wd dC dI cI cB cJ cZ ad stM kcM 115 A x H → va_S A s.heap H locs → lv_has ls 11 [(0, .ref (ad 0)), (1, .int l1), (2, .int l2), (3, .long l3), (5, .long l5), (7, .int l7), (8, .int l8), (9, .int l9)] → W p l e R s m args below meth c H locs cells slots Q (F0 m 170 ls []) := by
  intro l1 l2 l3 l5 l7 l8 l9 x H locs ls  hw hW hS hl
  unfold j_Mod_openField_170 at hw
  refine lv_aload_n hx hb d_Mod_openField_170 rfl (lv_at hl 0 rfl) ?_
  refine lv_dup hx hb d_Mod_openField_171 rfl ?_
  refine w_geti (k := 67) (t := 12) (C := R_Mod) (T := F_Mod) (N := 167) hx hb hT hown hK hW ko_0.1 ko_0.2 (by decide) in_Mod rfl rfl (by decide) rfl fr_Mod_67 w_9_3 d_Mod_openField_172 ?_
  refine lv_lload hx hb d_Mod_openField_175 (lv_at hl 4 rfl) ?_
  refine lv_l2i hx hb d_Mod_openField_177 rfl ?_
  refine lv_iadd hx hb d_Mod_openField_178 ?_
  refine w_puti (ty := .int) (k := 67) (t := 12) (C := R_Mod) (T := F_Mod) (N := 167) hx hb hT hown hK hW hS ko_0.1 ko_0.2 (by decide) in_Mod t_Mod t_Mod_ok n_Mod rfl rfl (by decide) rfl fr_Mod_67 w_9_3 (by decide +kernel) rfl rfl d_Mod_openField_179 (fun H locs hW hS => ?_)
  obtain ⟨x963, ex963⟩ : ∃ y : St, y = setI x 0 67 ((fI x 0 67) + (l5 : Int64).toInt32) := ⟨_, rfl⟩
  rw [← ex963] at hW
  have hw := hw x963 ex963
  refine lv_aload_n hx hb d_Mod_openField_182 rfl (lv_at hl 0 rfl) ?_
  refine w_getf (q := 9) (k := 11) (t := 12) (C := R_Mod) (T := F_Mod) (N := 167) hx hb hT hown hK hW ko_0.1 ko_0.2 (by decide) in_Mod rfl rfl (by decide) rfl fr_Mod_11 w_8_187 d_Mod_openField_183 rfl ?_
  refine lv_iconst (v := 2) hx hb d_Mod_openField_186 (by decide) ?_
  obtain ⟨hi, hw⟩ := hw
  refine w_iald (o := 9) hx hb hK hW ko_9.1 ko_9.2 hi d_Mod_openField_187 ?_
  refine lv_iconst (v := 1) hx hb d_Mod_openField_188 (by decide) ?_
  refine lv_isub hx hb d_Mod_openField_189 ?_
  refine lv_topi (fun v964 ev964 => ?_)
  have hw := hw v964 ev964
  refine lv_istore (lv' := [(9, .int v964), (0, .ref (ad 0)), (1, .int l1), (2, .int l2), (3, .long l3), (5, .long l5), (7, .int l7), (8, .int l8)]) hx hb d_Mod_openField_190 hl (by decide) rfl (fun ls hl => ?_)
  obtain ⟨n, hw⟩ := hw
  exact tl_Mod_openField_192 hx hb hml hown hT hK hN hA hRc hRs hRf hRl hret  n l1 l2 l3 l5 l7 l8 v964 x963 H locs ls  hw hW hS (lv_sub hl [1, 2, 3, 4, 5, 6, 7, 0] rfl)
set_option maxRecDepth 100000 in
set_option maxHeartbeats 4000000 in
set_option maxRecDepth 100000 in
theorem t_Mod_openField_162 {p : Program} {l : Launch} {e : Env} {R : Room} {s : State} {m : MethodId} {args : Array Value} {below : List Frame} {meth : Method} {c : Code} {cells slots : Nat} {Q : State → Prop} {dC : Nat → ClassId} {dI : Nat → Nat → Nat} {cI cB cJ cZ : ClassId} {A : Nat → Prop} {ad : Nat → Nat} {post : St → Prop} {rec91 : Int32 → Int32 → Int64 → Int64 → Int32 → Int32 → Int32 → St → Prop} (hx : p.tables.exec = Jvm.exec) (hb : c.code = b_Mod_openField) (hml : c.maxLocals = 11) (hown : s.vm.findClass R_Mod = some m.cls) (hT : ∀ w ∈ TG, w.before args s = true) (hK : va_K (dC, dI) CL (TY cI cB cJ cZ) s) (hN : NW s) (hA : ∀ q : Nat, s.heap.size ≤ q → A q) (hRc : cells ≤ R.cells) (hRs : slots ≤ R.slots) (hRf : 3 ≤ R.frames) (hRl : 67 ≤ R.locals) (hret : ∀ (x : St) (H : Heap) (locs : List Loc) (pc : Nat) (ls : Array Slot), decode b_Mod_openField pc = .ok (.return_, 1) → post x → Wd dC dI cI cB cJ cZ ad stM kcM 115 A x H → va_S A s.heap H locs → W p l e R s m args below meth c H locs cells slots Q (F0 m pc ls [])) (hrec91 : ∀ (l1 : Int32) (l2 : Int32) (l3 : Int64) (l5 : Int64) (l7 : Int32) (l8 : Int32) (l9 : Int32) (x : St) (H : Heap) (locs : List Loc) (ls : Array Slot), rec91 l1 l2 l3 l5 l7 l8 l9 x → Wd dC dI cI cB cJ cZ ad stM kcM 115 A x H → va_S A s.heap H locs → lv_has ls 11 [(0, .ref (ad 0)), (1, .int l1), (2, .int l2), (3, .long l3), (5, .long l5), (7, .int l7), (8, .int l8), (9, .int l9)] → W p l e R s m args below meth c H locs cells slots Q (F0 m 91 ls [])) : ∀ (l1 : Int32) (l2 : Int32) (l3 : Int64) (l5 : Int64) (l7 : Int32) (l8 : Int32) (l9 : Int32) (s0 : Int32) (x : St) (H : Heap) (locs : List Loc) (ls : Array Slot), j_Mod_openField_162 post rec91 l1 l2 l3 l5 l7 l8 l9 s0 x → Wd dC dI cI cB cJ cZ ad stM kcM 115 A x H → va_S A s.heap H locs → lv_has ls 11 [(0, .ref (ad 0)), (1, .int l1), (2, .int l2), (3, .long l3), (5, .long l5), (7, .int l7), (8, .int l8), (9, .int l9)] → W p l e R s m args below meth c H locs cells slots Q (F0 m 162 ls [.int s0]) := by
  intro l1 l2 l3 l5 l7 l8 l9 s0 x H locs ls  hw hW hS hl
  unfold j_Mod_openField_162 at hw
  refine lv_istore (lv' := [(8, .int s0), (0, .ref (ad 0)), (1, .int l1), (2, .int l2), (3, .long l3), (5, .long l5), (7, .int l7), (9, .int l9)]) hx hb d_Mod_openField_162 hl (by decide) rfl (fun ls hl => ?_)
  refine lv_iinc (v := (l9 + 1)) (lv' := [(9, .int (l9 + 1)), (8, .int s0), (0, .ref (ad 0)), (1, .int l1), (2, .int l2), (3, .long l3), (5, .long l5), (7, .int l7)]) hx hb d_Mod_openField_164 hl (k := 7) rfl rfl (by decide) rfl (fun ls hl => ?_)
  refine lv_goto (tgt := 91) hx hb d_Mod_openField_167 (by decide) ?_
  exact hrec91 l1 l2 l3 l5 l7 s0 (l9 + 1) x H locs ls  hw hW hS (lv_sub hl [2, 3, 4, 5, 6, 7, 1, 0] rfl)
set_option maxRecDepth 100000 in
set_option maxHeartbeats 4000000 in
set_option maxRecDepth 100000 in
theorem t_Mod_openField_161 {p : Program} {l : Launch} {e : Env} {R : Room} {s : State} {m : MethodId} {args : Array Value} {below : List Frame} {meth : Method} {c : Code} {cells slots : Nat} {Q : State → Prop} {dC : Nat → ClassId} {dI : Nat → Nat → Nat} {cI cB cJ cZ : ClassId} {A : Nat → Prop} {ad : Nat → Nat} {post : St → Prop} {rec91 : Int32 → Int32 → Int64 → Int64 → Int32 → Int32 → Int32 → St → Prop} (hx : p.tables.exec = Jvm.exec) (hb : c.code = b_Mod_openField) (hml : c.maxLocals = 11) (hown : s.vm.findClass R_Mod = some m.cls) (hT : ∀ w ∈ TG, w.before args s = true) (hK : va_K (dC, dI) CL (TY cI cB cJ cZ) s) (hN : NW s) (hA : ∀ q : Nat, s.heap.size ≤ q → A q) (hRc : cells ≤ R.cells) (hRs : slots ≤ R.slots) (hRf : 3 ≤ R.frames) (hRl : 67 ≤ R.locals) (hret : ∀ (x : St) (H : Heap) (locs : List Loc) (pc : Nat) (ls : Array Slot), decode b_Mod_openField pc = .ok (.return_, 1) → post x → Wd dC dI cI cB cJ cZ ad stM kcM 115 A x H → va_S A s.heap H locs → W p l e R s m args below meth c H locs cells slots Q (F0 m pc ls [])) (hrec91 : ∀ (l1 : Int32) (l2 : Int32) (l3 : Int64) (l5 : Int64) (l7 : Int32) (l8 : Int32) (l9 : Int32) (x : St) (H : Heap) (locs : List Loc) (ls : Array Slot), rec91 l1 l2 l3 l5 l7 l8 l9 x → Wd dC dI cI cB cJ cZ ad stM kcM 115 A x H → va_S A s.heap H locs → lv_has ls 11 [(0, .ref (ad 0)), (1, .int l1), (2, .int l2), (3, .long l3), (5, .long l5), (7, .int l7), (8, .int l8), (9, .int l9)] → W p l e R s m args below meth c H locs cells slots Q (F0 m 91 ls [])) : ∀ (l1 : Int32) (l2 : Int32) (l3 : Int64) (l5 : Int64) (l7 : Int32) (l8 : Int32) (l9 : Int32) (x : St) (H : Heap) (locs : List Loc) (ls : Array Slot), j_Mod_openField_161 post rec91 l1 l2 l3 l5 l7 l8 l9 x → Wd dC dI cI cB cJ cZ ad stM kcM 115 A x H → va_S A s.heap H locs → lv_has ls 11 [(0, .ref (ad 0)), (1, .int l1), (2, .int l2), (3, .long l3), (5, .long l5), (7, .int l7), (8, .int l8), (9, .int l9)] → W p l e R s m args below meth c H locs cells slots Q (F0 m 161 ls []) := by
  intro l1 l2 l3 l5 l7 l8 l9 x H locs ls  hw hW hS hl
  unfold j_Mod_openField_161 at hw
  refine lv_iconst (v := 0) hx hb d_Mod_openField_161 (by decide) ?_
  exact t_Mod_openField_162 hx hb hml hown hT hK hN hA hRc hRs hRf hRl hret hrec91 l1 l2 l3 l5 l7 l8 l9 0 x H locs ls  hw hW hS (lv_sub hl [0, 1, 2, 3, 4, 5, 6, 7] rfl)
set_option maxRecDepth 100000 in
set_option maxHeartbeats 4000000 in
set_option maxRecDepth 100000 in
theorem t_Mod_openField_157 {p : Program} {l : Launch} {e : Env} {R : Room} {s : State} {m : MethodId} {args : Array Value} {below : List Frame} {meth : Method} {c : Code} {cells slots : Nat} {Q : State → Prop} {dC : Nat → ClassId} {dI : Nat → Nat → Nat} {cI cB cJ cZ : ClassId} {A : Nat → Prop} {ad : Nat → Nat} {post : St → Prop} {rec91 : Int32 → Int32 → Int64 → Int64 → Int32 → Int32 → Int32 → St → Prop} (hx : p.tables.exec = Jvm.exec) (hb : c.code = b_Mod_openField) (hml : c.maxLocals = 11) (hown : s.vm.findClass R_Mod = some m.cls) (hT : ∀ w ∈ TG, w.before args s = true) (hK : va_K (dC, dI) CL (TY cI cB cJ cZ) s) (hN : NW s) (hA : ∀ q : Nat, s.heap.size ≤ q → A q) (hRc : cells ≤ R.cells) (hRs : slots ≤ R.slots) (hRf : 3 ≤ R.frames) (hRl : 67 ≤ R.locals) (hret : ∀ (x : St) (H : Heap) (locs : List Loc) (pc : Nat) (ls : Array Slot), decode b_Mod_openField pc = .ok (.return_, 1) → post x → Wd dC dI cI cB cJ cZ ad stM kcM 115 A x H → va_S A s.heap H locs → W p l e R s m args below meth c H locs cells slots Q (F0 m pc ls [])) (hrec91 : ∀ (l1 : Int32) (l2 : Int32) (l3 : Int64) (l5 : Int64) (l7 : Int32) (l8 : Int32) (l9 : Int32) (x : St) (H : Heap) (locs : List Loc) (ls : Array Slot), rec91 l1 l2 l3 l5 l7 l8 l9 x → Wd dC dI cI cB cJ cZ ad stM kcM 115 A x H → va_S A s.heap H locs → lv_has ls 11 [(0, .ref (ad 0)), (1, .int l1), (2, .int l2), (3, .long l3), (5, .long l5), (7, .int l7), (8, .int l8), (9, .int l9)] → W p l e R s m args below meth c H locs cells slots Q (F0 m 91 ls [])) : ∀ (l1 : Int32) (l2 : Int32) (l3 : Int64) (l5 : Int64) (l7 : Int32) (l8 : Int32) (l9 : Int32) (x : St) (H : Heap) (locs : List Loc) (ls : Array Slot), j_Mod_openField_157 post rec91 l1 l2 l3 l5 l7 l8 l9 x → Wd dC dI cI cB cJ cZ ad stM kcM 115 A x H → va_S A s.heap H locs → lv_has ls 11 [(0, .ref (ad 0)), (1, .int l1), (2, .int l2), (3, .long l3), (5, .long l5), (7, .int l7), (8, .int l8), (9, .int l9)] → W p l e R s m args below meth c H locs cells slots Q (F0 m 157 ls []) := by
  intro l1 l2 l3 l5 l7 l8 l9 x H locs ls  hw hW hS hl
  unfold j_Mod_openField_157 at hw
  refine lv_iconst (v := 1) hx hb d_Mod_openField_157 (by decide) ?_
  refine lv_goto (tgt := 162) hx hb d_Mod_openField_158 (by decide) ?_
  exact t_Mod_openField_162 hx hb hml hown hT hK hN hA hRc hRs hRf hRl hret hrec91 l1 l2 l3 l5 l7 l8 l9 1 x H locs ls  hw hW hS (lv_sub hl [0, 1, 2, 3, 4, 5, 6, 7] rfl)
set_option maxRecDepth 100000 in
set_option maxHeartbeats 4000000 in
set_option maxRecDepth 100000 in
theorem t_Mod_openField_91 {p : Program} {l : Launch} {e : Env} {R : Room} {s : State} {m : MethodId} {args : Array Value} {below : List Frame} {meth : Method} {c : Code} {cells slots : Nat} {Q : State → Prop} {dC : Nat → ClassId} {dI : Nat → Nat → Nat} {cI cB cJ cZ : ClassId} {A : Nat → Prop} {ad : Nat → Nat} {post : St → Prop} {rec91 : Int32 → Int32 → Int64 → Int64 → Int32 → Int32 → Int32 → St → Prop} (hx : p.tables.exec = Jvm.exec) (hb : c.code = b_Mod_openField) (hml : c.maxLocals = 11) (hown : s.vm.findClass R_Mod = some m.cls) (hT : ∀ w ∈ TG, w.before args s = true) (hK : va_K (dC, dI) CL (TY cI cB cJ cZ) s) (hN : NW s) (hA : ∀ q : Nat, s.heap.size ≤ q → A q) (hRc : cells ≤ R.cells) (hRs : slots ≤ R.slots) (hRf : 3 ≤ R.frames) (hRl : 67 ≤ R.locals) (hret : ∀ (x : St) (H : Heap) (locs : List Loc) (pc : Nat) (ls : Array Slot), decode b_Mod_openField pc = .ok (.return_, 1) → post x → Wd dC dI cI cB cJ cZ ad stM kcM 115 A x H → va_S A s.heap H locs → W p l e R s m args below meth c H locs cells slots Q (F0 m pc ls [])) (hrec91 : ∀ (l1 : Int32) (l2 : Int32) (l3 : Int64) (l5 : Int64) (l7 : Int32) (l8 : Int32) (l9 : Int32) (x : St) (H : Heap) (locs : List Loc) (ls : Array Slot), rec91 l1 l2 l3 l5 l7 l8 l9 x → Wd dC dI cI cB cJ cZ ad stM kcM 115 A x H → va_S A s.heap H locs → lv_has ls 11 [(0, .ref (ad 0)), (1, .int l1), (2, .int l2), (3, .long l3), (5, .long l5), (7, .int l7), (8, .int l8), (9, .int l9)] → W p l e R s m args below meth c H locs cells slots Q (F0 m 91 ls [])) : ∀ (l1 : Int32) (l2 : Int32) (l3 : Int64) (l5 : Int64) (l7 : Int32) (l8 : Int32) (l9 : Int32) (x : St) (H : Heap) (locs : List Loc) (ls : Array Slot), j_Mod_openField_91 post rec91 l1 l2 l3 l5 l7 l8 l9 x → Wd dC dI cI cB cJ cZ ad stM kcM 115 A x H → va_S A s.heap H locs → lv_has ls 11 [(0, .ref (ad 0)), (1, .int l1), (2, .int l2), (3, .long l3), (5, .long l5), (7, .int l7), (8, .int l8), (9, .int l9)] → W p l e R s m args below meth c H locs cells slots Q (F0 m 91 ls []) := by
  intro l1 l2 l3 l5 l7 l8 l9 x H locs ls  hw hW hS hl
  unfold j_Mod_openField_91 at hw
  refine lv_iload hx hb d_Mod_openField_91 (lv_at hl 7 rfl) ?_
  refine lv_i2l hx hb d_Mod_openField_93 rfl ?_
  refine lv_lload hx hb d_Mod_openField_94 (lv_at hl 4 rfl) ?_
  refine W.lcmp hx hb d_Mod_openField_96 ?_
  refine lv_if_ge (tgt := 170) hx hb d_Mod_openField_97 (by decide) (fun c965 => ?_) (fun c965 => ?_)
  · have hw := hw.1 c965
    exact t_Mod_openField_170 hx hb hml hown hT hK hN hA hRc hRs hRf hRl hret  l1 l2 l3 l5 l7 l8 l9 x H locs ls  hw hW hS (lv_sub hl [0, 1, 2, 3, 4, 5, 6, 7] rfl)
  · have hw := hw.2 c965
    refine lv_iload hx hb d_Mod_openField_100 (lv_at hl 6 rfl) ?_
    refine lv_if_eq (tgt := 170) hx hb d_Mod_openField_102 (by decide) (fun c966 => ?_) (fun c966 => ?_)
    · have hw := hw.1 c966
      exact t_Mod_openField_170 hx hb hml hown hT hK hN hA hRc hRs hRf hRl hret  l1 l2 l3 l5 l7 l8 l9 x H locs ls  hw hW hS (lv_sub hl [0, 1, 2, 3, 4, 5, 6, 7] rfl)
    · have hw := hw.2 c966
      refine lv_aload_n hx hb d_Mod_openField_105 rfl (lv_at hl 0 rfl) ?_
      refine w_getf (q := 41) (k := 62) (t := 12) (C := R_Mod) (T := F_Mod) (N := 167) hx hb hT hown hK hW ko_0.1 ko_0.2 (by decide) in_Mod rfl rfl (by decide) rfl fr_Mod_62 w_8_238 d_Mod_openField_106 rfl ?_
      refine lv_iload hx hb d_Mod_openField_109 (lv_at hl 5 rfl) ?_
      refine lv_iload hx hb d_Mod_openField_111 (lv_at hl 7 rfl) ?_
      refine lv_iadd hx hb d_Mod_openField_113 ?_
      obtain ⟨hi, hw⟩ := hw
      refine w_iald (o := 41) hx hb hK hW ko_41.1 ko_41.2 hi d_Mod_openField_114 ?_
      have hF := hW.free hS hA
      refine va_calli (va_runS (As := [.int (rA x 41 (l7 + l9))]) (rest := []) ⟨hx, hb, hml, hown, hT⟩ (k_Mod_isLetter l dC dI cI cB cJ cZ ad H.size (rA x 41 (l7 + l9)) x  hw) ⟨callB_of 1 hT (gwt_in w_11_5) rfl rfl rfl (hT _ w_1_15) (hT _ w_11_3) (by decide +kernel) ⟨Nat.le_trans (Nat.le_of_ble_eq_true rfl) hRf, Nat.le_trans (Nat.le_of_ble_eq_true rfl) hRl⟩, hT _ w_11_4⟩ ⟨PW.blind, PW.at _ hW hK hN⟩ rfl rfl hl.1 rfl (lv_room (Nat.le_of_ble_eq_true rfl)) d_Mod_openField_115 ⟨hRc, hRs⟩) hS (fun q _ h => hF q h) hF (fun r968 x967 t H locs ht hvm hw hB hz1 hk1 hS => ?_)
      have hW := Wd.back hB ht hF
      clear hB ht hF hz1 hk1 hvm
      refine lv_if_ne (tgt := 157) hx hb d_Mod_openField_118 (by decide) (fun c969 => ?_) (fun c969 => ?_)
      · have hw := hw.1 c969
        exact t_Mod_openField_157 hx hb hml hown hT hK hN hA hRc hRs hRf hRl hret hrec91 l1 l2 l3 l5 l7 l8 l9 x967 H locs ls  hw hW hS (lv_sub hl [0, 1, 2, 3, 4, 5, 6, 7] rfl)
      · have hw := hw.2 c969
        refine lv_iload hx hb d_Mod_openField_121 (lv_at hl 7 rfl) ?_
        refine lv_if_le (tgt := 161) hx hb d_Mod_openField_123 (by decide) (fun c970 => ?_) (fun c970 => ?_)
        · have hw := hw.1 c970
          exact t_Mod_openField_161 hx hb hml hown hT hK hN hA hRc hRs hRf hRl hret hrec91 l1 l2 l3 l5 l7 l8 l9 x967 H locs ls  hw hW hS (lv_sub hl [0, 1, 2, 3, 4, 5, 6, 7] rfl)
        · have hw := hw.2 c970
          refine lv_aload_n hx hb d_Mod_openField_126 rfl (lv_at hl 0 rfl) ?_
          refine w_getf (q := 41) (k := 62) (t := 12) (C := R_Mod) (T := F_Mod) (N := 167) hx hb hT hown hK hW ko_0.1 ko_0.2 (by decide) in_Mod rfl rfl (by decide) rfl fr_Mod_62 w_8_238 d_Mod_openField_127 rfl ?_
          refine lv_iload hx hb d_Mod_openField_130 (lv_at hl 5 rfl) ?_
          refine lv_iload hx hb d_Mod_openField_132 (lv_at hl 7 rfl) ?_
          refine lv_iadd hx hb d_Mod_openField_134 ?_
          obtain ⟨hi, hw⟩ := hw
          refine w_iald (o := 41) hx hb hK hW ko_41.1 ko_41.2 hi d_Mod_openField_135 ?_
          have hF := hW.free hS hA
          refine va_calli (va_runS (As := [.int (rA x967 41 (l7 + l9))]) (rest := []) ⟨hx, hb, hml, hown, hT⟩ (k_Mod_isDigit l dC dI cI cB cJ cZ ad H.size (rA x967 41 (l7 + l9)) x967  hw) ⟨callB_of 1 hT (gwt_in w_11_8) rfl rfl rfl (hT _ w_1_15) (hT _ w_11_6) (by decide +kernel) ⟨Nat.le_trans (Nat.le_of_ble_eq_true rfl) hRf, Nat.le_trans (Nat.le_of_ble_eq_true rfl) hRl⟩, hT _ w_11_7⟩ ⟨PW.blind, PW.at _ hW hK hN⟩ rfl rfl hl.1 rfl (lv_room (Nat.le_of_ble_eq_true rfl)) d_Mod_openField_136 ⟨hRc, hRs⟩) hS (fun q _ h => hF q h) hF (fun r972 x971 t H locs ht hvm hw hB hz1 hk1 hS => ?_)
          have hW := Wd.back hB ht hF
          clear hB ht hF hz1 hk1 hvm
          refine lv_if_ne (tgt := 157) hx hb d_Mod_openField_139 (by decide) (fun c973 => ?_) (fun c973 => ?_)
          · have hw := hw.1 c973
            exact t_Mod_openField_157 hx hb hml hown hT hK hN hA hRc hRs hRf hRl hret hrec91 l1 l2 l3 l5 l7 l8 l9 x971 H locs ls  hw hW hS (lv_sub hl [0, 1, 2, 3, 4, 5, 6, 7] rfl)
          · have hw := hw.2 c973
            refine lv_aload_n hx hb d_Mod_openField_142 rfl (lv_at hl 0 rfl) ?_
            refine w_getf (q := 41) (k := 62) (t := 12) (C := R_Mod) (T := F_Mod) (N := 167) hx hb hT hown hK hW ko_0.1 ko_0.2 (by decide) in_Mod rfl rfl (by decide) rfl fr_Mod_62 w_8_238 d_Mod_openField_143 rfl ?_
            refine lv_iload hx hb d_Mod_openField_146 (lv_at hl 5 rfl) ?_
            refine lv_iload hx hb d_Mod_openField_148 (lv_at hl 7 rfl) ?_
            refine lv_iadd hx hb d_Mod_openField_150 ?_
            obtain ⟨hi, hw⟩ := hw
            refine w_iald (o := 41) hx hb hK hW ko_41.1 ko_41.2 hi d_Mod_openField_151 ?_
            refine lv_bipush (v := 95) hx hb d_Mod_openField_152 (by decide) ?_
            refine lv_icmp_ne (tgt := 161) hx hb d_Mod_openField_154 (by decide) (fun c974 => ?_) (fun c974 => ?_)
            · have hw := hw.1 c974
              exact t_Mod_openField_161 hx hb hml hown hT hK hN hA hRc hRs hRf hRl hret hrec91 l1 l2 l3 l5 l7 l8 l9 x971 H locs ls  hw hW hS (lv_sub hl [0, 1, 2, 3, 4, 5, 6, 7] rfl)
            · have hw := hw.2 c974
              exact t_Mod_openField_157 hx hb hml hown hT hK hN hA hRc hRs hRf hRl hret hrec91 l1 l2 l3 l5 l7 l8 l9 x971 H locs ls  hw hW hS (lv_sub hl [0, 1, 2, 3, 4, 5, 6, 7] rfl)
set_option maxHeartbeats 4000000 in
set_option maxRecDepth 100000 in
theorem tl_Mod_openField_91 {p : Program} {l : Launch} {e : Env} {R : Room} {s : State} {m : MethodId} {args : Array Value} {below : List Frame} {meth : Method} {c : Code} {cells slots : Nat} {Q : State → Prop} {dC : Nat → ClassId} {dI : Nat → Nat → Nat} {cI cB cJ cZ : ClassId} {A : Nat → Prop} {ad : Nat → Nat} {post : St → Prop} (hx : p.tables.exec = Jvm.exec) (hb : c.code = b_Mod_openField) (hml : c.maxLocals = 11) (hown : s.vm.findClass R_Mod = some m.cls) (hT : ∀ w ∈ TG, w.before args s = true) (hK : va_K (dC, dI) CL (TY cI cB cJ cZ) s) (hN : NW s) (hA : ∀ q : Nat, s.heap.size ≤ q → A q) (hRc : cells ≤ R.cells) (hRs : slots ≤ R.slots) (hRf : 3 ≤ R.frames) (hRl : 67 ≤ R.locals) (hret : ∀ (x : St) (H : Heap) (locs : List Loc) (pc : Nat) (ls : Array Slot), decode b_Mod_openField pc = .ok (.return_, 1) → post x → Wd dC dI cI cB cJ cZ ad stM kcM 115 A x H → va_S A s.heap H locs → W p l e R s m args below meth c H locs cells slots Q (F0 m pc ls []))  : ∀ n : Nat, ∀ (l1 : Int32) (l2 : Int32) (l3 : Int64) (l5 : Int64) (l7 : Int32) (l8 : Int32) (l9 : Int32) (x : St) (H : Heap) (locs : List Loc) (ls : Array Slot), wl_Mod_openField_91 post n l1 l2 l3 l5 l7 l8 l9 x → Wd dC dI cI cB cJ cZ ad stM kcM 115 A x H → va_S A s.heap H locs → lv_has ls 11 [(0, .ref (ad 0)), (1, .int l1), (2, .int l2), (3, .long l3), (5, .long l5), (7, .int l7), (8, .int l8), (9, .int l9)] → W p l e R s m args below meth c H locs cells slots Q (F0 m 91 ls []) := by
  intro n
  induction n with
  | zero => intro l1 l2 l3 l5 l7 l8 l9 x H locs ls  hw; exact hw.elim
  | succ n ih => intro l1 l2 l3 l5 l7 l8 l9 x H locs ls  hw hW hS hl; exact t_Mod_openField_91 hx hb hml hown hT hK hN hA hRc hRs hRf hRl hret  ih l1 l2 l3 l5 l7 l8 l9 x H locs ls  hw hW hS hl
set_option maxRecDepth 100000 in
set_option maxHeartbeats 4000000 in
set_option maxRecDepth 100000 in
theorem t_Mod_openField_86 {p : Program} {l : Launch} {e : Env} {R : Room} {s : State} {m : MethodId} {args : Array Value} {below : List Frame} {meth : Method} {c : Code} {cells slots : Nat} {Q : State → Prop} {dC : Nat → ClassId} {dI : Nat → Nat → Nat} {cI cB cJ cZ : ClassId} {A : Nat → Prop} {ad : Nat → Nat} {post : St → Prop} (hx : p.tables.exec = Jvm.exec) (hb : c.code = b_Mod_openField) (hml : c.maxLocals = 11) (hown : s.vm.findClass R_Mod = some m.cls) (hT : ∀ w ∈ TG, w.before args s = true) (hK : va_K (dC, dI) CL (TY cI cB cJ cZ) s) (hN : NW s) (hA : ∀ q : Nat, s.heap.size ≤ q → A q) (hRc : cells ≤ R.cells) (hRs : slots ≤ R.slots) (hRf : 3 ≤ R.frames) (hRl : 67 ≤ R.locals) (hret : ∀ (x : St) (H : Heap) (locs : List Loc) (pc : Nat) (ls : Array Slot), decode b_Mod_openField pc = .ok (.return_, 1) → post x → Wd dC dI cI cB cJ cZ ad stM kcM 115 A x H → va_S A s.heap H locs → W p l e R s m args below meth c H locs cells slots Q (F0 m pc ls []))  : ∀ (l1 : Int32) (l2 : Int32) (l3 : Int64) (l5 : Int64) (l7 : Int32) (s0 : Int32) (x : St) (H : Heap) (locs : List Loc) (ls : Array Slot), j_Mod_openField_86 post l1 l2 l3 l5 l7 s0 x → Wd dC dI cI cB cJ cZ ad stM kcM 115 A x H → va_S A s.heap H locs → lv_has ls 11 [(0, .ref (ad 0)), (1, .int l1), (2, .int l2), (3, .long l3), (5, .long l5), (7, .int l7)] → W p l e R s m args below meth c H locs cells slots Q (F0 m 86 ls [.int s0]) := by
  intro l1 l2 l3 l5 l7 s0 x H locs ls  hw hW hS hl
  unfold j_Mod_openField_86 at hw
  refine lv_istore (lv' := [(8, .int s0), (0, .ref (ad 0)), (1, .int l1), (2, .int l2), (3, .long l3), (5, .long l5), (7, .int l7)]) hx hb d_Mod_openField_86 hl (by decide) rfl (fun ls hl => ?_)
  refine lv_iconst (v := 0) hx hb d_Mod_openField_88 (by decide) ?_
  refine lv_istore (lv' := [(9, .int 0), (8, .int s0), (0, .ref (ad 0)), (1, .int l1), (2, .int l2), (3, .long l3), (5, .long l5), (7, .int l7)]) hx hb d_Mod_openField_89 hl (by decide) rfl (fun ls hl => ?_)
  obtain ⟨n, hw⟩ := hw
  exact tl_Mod_openField_91 hx hb hml hown hT hK hN hA hRc hRs hRf hRl hret  n l1 l2 l3 l5 l7 s0 0 x H locs ls  hw hW hS (lv_sub hl [2, 3, 4, 5, 6, 7, 1, 0] rfl)
set_option maxRecDepth 100000 in
set_option maxHeartbeats 4000000 in
set_option maxRecDepth 100000 in
theorem t_Mod_openField_85 {p : Program} {l : Launch} {e : Env} {R : Room} {s : State} {m : MethodId} {args : Array Value} {below : List Frame} {meth : Method} {c : Code} {cells slots : Nat} {Q : State → Prop} {dC : Nat → ClassId} {dI : Nat → Nat → Nat} {cI cB cJ cZ : ClassId} {A : Nat → Prop} {ad : Nat → Nat} {post : St → Prop} (hx : p.tables.exec = Jvm.exec) (hb : c.code = b_Mod_openField) (hml : c.maxLocals = 11) (hown : s.vm.findClass R_Mod = some m.cls) (hT : ∀ w ∈ TG, w.before args s = true) (hK : va_K (dC, dI) CL (TY cI cB cJ cZ) s) (hN : NW s) (hA : ∀ q : Nat, s.heap.size ≤ q → A q) (hRc : cells ≤ R.cells) (hRs : slots ≤ R.slots) (hRf : 3 ≤ R.frames) (hRl : 67 ≤ R.locals) (hret : ∀ (x : St) (H : Heap) (locs : List Loc) (pc : Nat) (ls : Array Slot), decode b_Mod_openField pc = .ok (.return_, 1) → post x → Wd dC dI cI cB cJ cZ ad stM kcM 115 A x H → va_S A s.heap H locs → W p l e R s m args below meth c H locs cells slots Q (F0 m pc ls []))  : ∀ (l1 : Int32) (l2 : Int32) (l3 : Int64) (l5 : Int64) (l7 : Int32) (x : St) (H : Heap) (locs : List Loc) (ls : Array Slot), j_Mod_openField_85 post l1 l2 l3 l5 l7 x → Wd dC dI cI cB cJ cZ ad stM kcM 115 A x H → va_S A s.heap H locs → lv_has ls 11 [(0, .ref (ad 0)), (1, .int l1), (2, .int l2), (3, .long l3), (5, .long l5), (7, .int l7)] → W p l e R s m args below meth c H locs cells slots Q (F0 m 85 ls []) := by
  intro l1 l2 l3 l5 l7 x H locs ls  hw hW hS hl
  unfold j_Mod_openField_85 at hw
  refine lv_iconst (v := 0) hx hb d_Mod_openField_85 (by decide) ?_
  exact t_Mod_openField_86 hx hb hml hown hT hK hN hA hRc hRs hRf hRl hret  l1 l2 l3 l5 l7 0 x H locs ls  hw hW hS (lv_sub hl [0, 1, 2, 3, 4, 5] rfl)
set_option maxRecDepth 100000 in
set_option maxHeartbeats 4000000 in
set_option maxRecDepth 100000 in
theorem t_Mod_openField_47 {p : Program} {l : Launch} {e : Env} {R : Room} {s : State} {m : MethodId} {args : Array Value} {below : List Frame} {meth : Method} {c : Code} {cells slots : Nat} {Q : State → Prop} {dC : Nat → ClassId} {dI : Nat → Nat → Nat} {cI cB cJ cZ : ClassId} {A : Nat → Prop} {ad : Nat → Nat} {post : St → Prop} (hx : p.tables.exec = Jvm.exec) (hb : c.code = b_Mod_openField) (hml : c.maxLocals = 11) (hown : s.vm.findClass R_Mod = some m.cls) (hT : ∀ w ∈ TG, w.before args s = true) (hK : va_K (dC, dI) CL (TY cI cB cJ cZ) s) (hN : NW s) (hA : ∀ q : Nat, s.heap.size ≤ q → A q) (hRc : cells ≤ R.cells) (hRs : slots ≤ R.slots) (hRf : 3 ≤ R.frames) (hRl : 67 ≤ R.locals) (hret : ∀ (x : St) (H : Heap) (locs : List Loc) (pc : Nat) (ls : Array Slot), decode b_Mod_openField pc = .ok (.return_, 1) → post x → Wd dC dI cI cB cJ cZ ad stM kcM 115 A x H → va_S A s.heap H locs → W p l e R s m args below meth c H locs cells slots Q (F0 m pc ls []))  : ∀ (l1 : Int32) (l2 : Int32) (l3 : Int64) (l5 : Int64) (s0 : Int32) (x : St) (H : Heap) (locs : List Loc) (ls : Array Slot), j_Mod_openField_47 post l1 l2 l3 l5 s0 x → Wd dC dI cI cB cJ cZ ad stM kcM 115 A x H → va_S A s.heap H locs → lv_has ls 11 [(0, .ref (ad 0)), (1, .int l1), (2, .int l2), (3, .long l3), (5, .long l5)] → W p l e R s m args below meth c H locs cells slots Q (F0 m 47 ls [.int s0, .ref (ad 0)]) := by
  intro l1 l2 l3 l5 s0 x H locs ls  hw hW hS hl
  unfold j_Mod_openField_47 at hw
  refine lv_iconst (v := 1) hx hb d_Mod_openField_47 (by decide) ?_
  have hF := hW.free hS hA
  refine va_callv (va_runV (C := R_Mod) (As := [.int s0, .int 1]) (rest := []) ⟨hx, hb, hml, hown, hT⟩ (k_Mod_faults l dC dI cI cB cJ cZ ad H.size s0 1 x  hw) ⟨callB_of 2 hT (gwt_in w_12_107) rfl rfl rfl (hT _ w_1_15) (hT _ w_12_104) (by decide +kernel) ⟨Nat.le_trans (Nat.le_of_ble_eq_true rfl) hRf, Nat.le_trans (Nat.le_of_ble_eq_true rfl) hRl⟩, hT _ w_12_106, hT _ ws_183⟩ ⟨PW.blind, va_recv hK hW.1 (ci := 12) (q0 := 0) rfl (pic_obj ko_0.1 ko_0.2 (by decide)), PW.at _ hW hK hN⟩ rfl rfl hl.1 rfl (lv_room (Nat.le_of_ble_eq_true rfl)) d_Mod_openField_48 ⟨hRc, hRs⟩) hS (fun q _ h => hF q h) hF (fun  x975 t H locs ht hvm hw hB hz1 hk1 hS => ?_)
  have hW := Wd.back hB ht hF
  clear hB ht hF hz1 hk1 hvm
  refine lv_aload_n hx hb d_Mod_openField_51 rfl (lv_at hl 0 rfl) ?_
  refine w_geti (k := 69) (t := 12) (C := R_Mod) (T := F_Mod) (N := 167) hx hb hT hown hK hW ko_0.1 ko_0.2 (by decide) in_Mod rfl rfl (by decide) rfl fr_Mod_69 w_9_5 d_Mod_openField_52 ?_
  refine lv_if_eq (tgt := 59) hx hb d_Mod_openField_55 (by decide) (fun c976 => ?_) (fun c976 => ?_)
  · have hw := hw.1 c976
    refine lv_aload_n hx hb d_Mod_openField_59 rfl (lv_at hl 0 rfl) ?_
    refine w_geti (k := 67) (t := 12) (C := R_Mod) (T := F_Mod) (N := 167) hx hb hT hown hK hW ko_0.1 ko_0.2 (by decide) in_Mod rfl rfl (by decide) rfl fr_Mod_67 w_9_3 d_Mod_openField_60 ?_
    refine lv_topi (fun v977 ev977 => ?_)
    have hw := hw v977 ev977
    refine lv_istore (lv' := [(7, .int v977), (0, .ref (ad 0)), (1, .int l1), (2, .int l2), (3, .long l3), (5, .long l5)]) hx hb d_Mod_openField_63 hl (by decide) rfl (fun ls hl => ?_)
    refine lv_lload hx hb d_Mod_openField_65 (lv_at hl 5 rfl) ?_
    refine lv_lconst (v := 0) hx hb d_Mod_openField_67 (by decide) ?_
    refine W.lcmp hx hb d_Mod_openField_68 ?_
    refine lv_if_le (tgt := 85) hx hb d_Mod_openField_69 (by decide) (fun c978 => ?_) (fun c978 => ?_)
    · have hw := hw.1 c978
      exact t_Mod_openField_85 hx hb hml hown hT hK hN hA hRc hRs hRf hRl hret  l1 l2 l3 l5 v977 x975 H locs ls  hw hW hS (lv_sub hl [1, 2, 3, 4, 5, 0] rfl)
    · have hw := hw.2 c978
      refine lv_lload hx hb d_Mod_openField_72 (lv_at hl 5 rfl) ?_
      refine lv_ldc2 hx hb hown (hT _ w_12_129) d_Mod_openField_74 ?_
      refine W.lcmp hx hb d_Mod_openField_77 ?_
      refine lv_if_gt (tgt := 85) hx hb d_Mod_openField_78 (by decide) (fun c979 => ?_) (fun c979 => ?_)
      · have hw := hw.1 c979
        exact t_Mod_openField_85 hx hb hml hown hT hK hN hA hRc hRs hRf hRl hret  l1 l2 l3 l5 v977 x975 H locs ls  hw hW hS (lv_sub hl [1, 2, 3, 4, 5, 0] rfl)
      · have hw := hw.2 c979
        refine lv_iconst (v := 1) hx hb d_Mod_openField_81 (by decide) ?_
        refine lv_goto (tgt := 86) hx hb d_Mod_openField_82 (by decide) ?_
        exact t_Mod_openField_86 hx hb hml hown hT hK hN hA hRc hRs hRf hRl hret  l1 l2 l3 l5 v977 1 x975 H locs ls  hw hW hS (lv_sub hl [1, 2, 3, 4, 5, 0] rfl)
  · have hw := hw.2 c976
    exact hret x975 H locs 58 ls d_Mod_openField_58 hw hW hS
set_option maxRecDepth 100000 in
set_option maxHeartbeats 4000000 in
set_option maxRecDepth 100000 in
theorem t_Mod_openField_42 {p : Program} {l : Launch} {e : Env} {R : Room} {s : State} {m : MethodId} {args : Array Value} {below : List Frame} {meth : Method} {c : Code} {cells slots : Nat} {Q : State → Prop} {dC : Nat → ClassId} {dI : Nat → Nat → Nat} {cI cB cJ cZ : ClassId} {A : Nat → Prop} {ad : Nat → Nat} {post : St → Prop} (hx : p.tables.exec = Jvm.exec) (hb : c.code = b_Mod_openField) (hml : c.maxLocals = 11) (hown : s.vm.findClass R_Mod = some m.cls) (hT : ∀ w ∈ TG, w.before args s = true) (hK : va_K (dC, dI) CL (TY cI cB cJ cZ) s) (hN : NW s) (hA : ∀ q : Nat, s.heap.size ≤ q → A q) (hRc : cells ≤ R.cells) (hRs : slots ≤ R.slots) (hRf : 3 ≤ R.frames) (hRl : 67 ≤ R.locals) (hret : ∀ (x : St) (H : Heap) (locs : List Loc) (pc : Nat) (ls : Array Slot), decode b_Mod_openField pc = .ok (.return_, 1) → post x → Wd dC dI cI cB cJ cZ ad stM kcM 115 A x H → va_S A s.heap H locs → W p l e R s m args below meth c H locs cells slots Q (F0 m pc ls []))  : ∀ (l1 : Int32) (l2 : Int32) (l3 : Int64) (l5 : Int64) (x : St) (H : Heap) (locs : List Loc) (ls : Array Slot), j_Mod_openField_42 post l1 l2 l3 l5 x → Wd dC dI cI cB cJ cZ ad stM kcM 115 A x H → va_S A s.heap H locs → lv_has ls 11 [(0, .ref (ad 0)), (1, .int l1), (2, .int l2), (3, .long l3), (5, .long l5)] → W p l e R s m args below meth c H locs cells slots Q (F0 m 42 ls [.ref (ad 0)]) := by
  intro l1 l2 l3 l5 x H locs ls  hw hW hS hl
  unfold j_Mod_openField_42 at hw
  refine lv_iconst (v := 1) hx hb d_Mod_openField_42 (by decide) ?_
  refine lv_goto (tgt := 47) hx hb d_Mod_openField_43 (by decide) ?_
  exact t_Mod_openField_47 hx hb hml hown hT hK hN hA hRc hRs hRf hRl hret  l1 l2 l3 l5 1 x H locs ls  hw hW hS (lv_sub hl [0, 1, 2, 3, 4] rfl)
set_option maxRecDepth 100000 in
set_option maxHeartbeats 4000000 in
set_option maxRecDepth 100000 in
theorem t_Mod_openField_e {p : Program} {l : Launch} {e : Env} {R : Room} {s : State} {m : MethodId} {args : Array Value} {below : List Frame} {meth : Method} {c : Code} {cells slots : Nat} {Q : State → Prop} {dC : Nat → ClassId} {dI : Nat → Nat → Nat} {cI cB cJ cZ : ClassId} {A : Nat → Prop} {ad : Nat → Nat} {post : St → Prop} (hx : p.tables.exec = Jvm.exec) (hb : c.code = b_Mod_openField) (hml : c.maxLocals = 11) (hown : s.vm.findClass R_Mod = some m.cls) (hT : ∀ w ∈ TG, w.before args s = true) (hK : va_K (dC, dI) CL (TY cI cB cJ cZ) s) (hN : NW s) (hA : ∀ q : Nat, s.heap.size ≤ q → A q) (hRc : cells ≤ R.cells) (hRs : slots ≤ R.slots) (hRf : 3 ≤ R.frames) (hRl : 67 ≤ R.locals) (hret : ∀ (x : St) (H : Heap) (locs : List Loc) (pc : Nat) (ls : Array Slot), decode b_Mod_openField pc = .ok (.return_, 1) → post x → Wd dC dI cI cB cJ cZ ad stM kcM 115 A x H → va_S A s.heap H locs → W p l e R s m args below meth c H locs cells slots Q (F0 m pc ls [])) : ∀ (l1 : Int32) (x : St) (H : Heap) (locs : List Loc) (ls : Array Slot), wp_Mod_openField post l1 x → Wd dC dI cI cB cJ cZ ad stM kcM 115 A x H → va_S A s.heap H locs → lv_has ls 11 [(0, .ref (ad 0)), (1, .int l1)] → W p l e R s m args below meth c H locs cells slots Q (F0 m 0 ls []) := by
  intro l1 x H locs ls  hw hW hS hl
  unfold wp_Mod_openField at hw
  refine lv_aload_n hx hb d_Mod_openField_0 rfl (lv_at hl 0 rfl) ?_
  refine lv_iconst (v := 1) hx hb d_Mod_openField_1 (by decide) ?_
  refine lv_iload_n hx hb d_Mod_openField_2 rfl (lv_at hl 1 rfl) ?_
  have hF := hW.free hS hA
  refine va_calll (va_runV (C := R_Mod) (As := [.int 1, .int l1]) (rest := []) ⟨hx, hb, hml, hown, hT⟩ (k_Mod_fixed l dC dI cI cB cJ cZ ad H.size 1 l1 x  hw) ⟨callB_of 2 hT (gwt_in w_12_111) rfl rfl rfl (hT _ w_1_15) (hT _ w_12_108) (by decide +kernel) ⟨Nat.le_trans (Nat.le_of_ble_eq_true rfl) hRf, Nat.le_trans (Nat.le_of_ble_eq_true rfl) hRl⟩, hT _ w_12_110, hT _ ws_184⟩ ⟨PW.blind, va_recv hK hW.1 (ci := 12) (q0 := 0) rfl (pic_obj ko_0.1 ko_0.2 (by decide)), PW.at _ hW hK hN⟩ rfl rfl hl.1 rfl (lv_room (Nat.le_of_ble_eq_true rfl)) d_Mod_openField_3 ⟨hRc, hRs⟩) hS (fun q _ h => hF q h) hF (fun r981 x980 t H locs ht hvm hw hB hz1 hk1 hS => ?_)
  have hW := Wd.back hB ht hF
  clear hB ht hF hz1 hk1 hvm
  refine lv_l2i hx hb d_Mod_openField_6 rfl ?_
  refine lv_topi (fun v982 ev982 => ?_)
  have hw := hw v982 ev982
  refine lv_istore_n (lv' := [(2, .int v982), (0, .ref (ad 0)), (1, .int l1)]) hx hb d_Mod_openField_7 rfl hl (by decide) rfl (fun ls hl => ?_)
  refine lv_aload_n hx hb d_Mod_openField_8 rfl (lv_at hl 1 rfl) ?_
  refine lv_iload_n hx hb d_Mod_openField_9 rfl (lv_at hl 2 rfl) ?_
  have hF := hW.free hS hA
  refine va_calll (va_runV (C := R_Mod) (As := [.int l1]) (rest := []) ⟨hx, hb, hml, hown, hT⟩ (k_Mod_varint l dC dI cI cB cJ cZ ad H.size l1 x980  hw) ⟨callB_of 1 hT (gwt_in w_12_124) rfl rfl rfl (hT _ w_1_15) (hT _ w_12_121) (by decide +kernel) ⟨Nat.le_trans (Nat.le_of_ble_eq_true rfl) hRf, Nat.le_trans (Nat.le_of_ble_eq_true rfl) hRl⟩, hT _ w_12_123, hT _ ws_187⟩ ⟨PW.blind, va_recv hK hW.1 (ci := 12) (q0 := 0) rfl (pic_obj ko_0.1 ko_0.2 (by decide)), PW.at _ hW hK hN⟩ rfl rfl hl.1 rfl (lv_room (Nat.le_of_ble_eq_true rfl)) d_Mod_openField_10 ⟨hRc, hRs⟩) hS (fun q _ h => hF q h) hF (fun r984 x983 t H locs ht hvm hw hB hz1 hk1 hS => ?_)
  have hW := Wd.back hB ht hF
  clear hB ht hF hz1 hk1 hvm
  refine lv_lstore_n (lv' := [(3, .long r984), (2, .int v982), (0, .ref (ad 0)), (1, .int l1)]) hx hb d_Mod_openField_13 rfl hl (by decide) rfl (fun ls hl => ?_)
  refine lv_aload_n hx hb d_Mod_openField_14 rfl (lv_at hl 2 rfl) ?_
  refine lv_iload_n hx hb d_Mod_openField_15 rfl (lv_at hl 3 rfl) ?_
  have hF := hW.free hS hA
  refine va_calll (va_runV (C := R_Mod) (As := [.int l1]) (rest := []) ⟨hx, hb, hml, hown, hT⟩ (k_Mod_varint l dC dI cI cB cJ cZ ad H.size l1 x983  hw) ⟨callB_of 1 hT (gwt_in w_12_124) rfl rfl rfl (hT _ w_1_15) (hT _ w_12_121) (by decide +kernel) ⟨Nat.le_trans (Nat.le_of_ble_eq_true rfl) hRf, Nat.le_trans (Nat.le_of_ble_eq_true rfl) hRl⟩, hT _ w_12_123, hT _ ws_187⟩ ⟨PW.blind, va_recv hK hW.1 (ci := 12) (q0 := 0) rfl (pic_obj ko_0.1 ko_0.2 (by decide)), PW.at _ hW hK hN⟩ rfl rfl hl.1 rfl (lv_room (Nat.le_of_ble_eq_true rfl)) d_Mod_openField_16 ⟨hRc, hRs⟩) hS (fun q _ h => hF q h) hF (fun r986 x985 t H locs ht hvm hw hB hz1 hk1 hS => ?_)
  have hW := Wd.back hB ht hF
  clear hB ht hF hz1 hk1 hvm
  refine lv_lstore (lv' := [(5, .long r986), (3, .long r984), (2, .int v982), (0, .ref (ad 0)), (1, .int l1)]) hx hb d_Mod_openField_19 hl (by decide) rfl (fun ls hl => ?_)
  refine lv_aload_n hx hb d_Mod_openField_21 rfl (lv_at hl 3 rfl) ?_
  refine lv_lload hx hb d_Mod_openField_22 (lv_at hl 0 rfl) ?_
  refine lv_lconst (v := 0) hx hb d_Mod_openField_24 (by decide) ?_
  refine W.lcmp hx hb d_Mod_openField_25 ?_
  refine lv_if_lt (tgt := 42) hx hb d_Mod_openField_26 (by decide) (fun c987 => ?_) (fun c987 => ?_)
  · have hw := hw.1 c987
    exact t_Mod_openField_42 hx hb hml hown hT hK hN hA hRc hRs hRf hRl hret  l1 v982 r984 r986 x985 H locs ls  hw hW hS (lv_sub hl [3, 4, 2, 1, 0] rfl)
  · have hw := hw.2 c987
    refine lv_lload hx hb d_Mod_openField_29 (lv_at hl 0 rfl) ?_
    refine lv_iload_n hx hb d_Mod_openField_31 rfl (lv_at hl 4 rfl) ?_
    refine lv_aload_n hx hb d_Mod_openField_32 rfl (lv_at hl 3 rfl) ?_
    refine w_geti (k := 67) (t := 12) (C := R_Mod) (T := F_Mod) (N := 167) hx hb hT hown hK hW ko_0.1 ko_0.2 (by decide) in_Mod rfl rfl (by decide) rfl fr_Mod_67 w_9_3 d_Mod_openField_33 ?_
    refine lv_isub hx hb d_Mod_openField_36 ?_
    refine lv_i2l hx hb d_Mod_openField_37 rfl ?_
    refine W.lcmp hx hb d_Mod_openField_38 ?_
    refine lv_if_le (tgt := 46) hx hb d_Mod_openField_39 (by decide) (fun c988 => ?_) (fun c988 => ?_)
    · have hw := hw.1 c988
      refine lv_iconst (v := 0) hx hb d_Mod_openField_46 (by decide) ?_
      exact t_Mod_openField_47 hx hb hml hown hT hK hN hA hRc hRs hRf hRl hret  l1 v982 r984 r986 0 x985 H locs ls  hw hW hS (lv_sub hl [3, 4, 2, 1, 0] rfl)
    · have hw := hw.2 c988
      exact t_Mod_openField_42 hx hb hml hown hT hK hN hA hRc hRs hRf hRl hret  l1 v982 r984 r986 x985 H locs ls  hw hW hS (lv_sub hl [3, 4, 2, 1, 0] rfl)
set_option maxHeartbeats 4000000 in
set_option maxRecDepth 100000 in
theorem k_Mod_openField (l : Launch) (dC : Nat → ClassId) (dI : Nat → Nat → Nat) (cI cB cJ cZ : ClassId) (ad : Nat → Nat) (sz : Nat) (l1 : Int32) (x : St) {post : St → Prop} (hw : wp_Mod_openField post l1 x) : Met l y_Mod_openField (wsOf y_Mod_openField b_Mod_openField 11 (none)) ({ frames := 3, cells := 0, slots := 0, locals := 67 }) (va_Pc [.ref (ad 0), .int l1] (PW dC dI cI cB cJ cZ ad stM kcM 115 sz x)) (va_Qv (fun (y : St) => post y) (fun y t => Wd dC dI cI cB cJ cZ ad stM kcM 115 (va_A (pic ad stM kcM 115 cI cB cJ cZ x) sz) y t.heap) (va_A (pic ad stM kcM 115 cI cB cJ cZ x) sz)) 0 0 (va_A (pic ad stM kcM 115 cI cB cJ cZ x) sz) := by
  refine Met.ofW (cc := b_Mod_openField) (maxL := 11) (ret := none) (by decide) rfl ?_
  intro p e s m args below meth c s₁ B hml hv
  obtain ⟨rfl, hsz, hW0, hK, hN⟩ := hv
  have hx := B.exec
  have hb := B.bytes
  have hr := B.returns
  have hts := atoms_spec B.pre
  have hT : ∀ w ∈ TG, w.before _ s = true := fun w h => hts w (List.mem_cons_of_mem _ h)
  have hown : s.vm.findClass R_Mod = some m.cls := findClass_of_methodNamed B.named
  have hlocks := B.notSynchronized
  subst hsz
  have hW : Wd dC dI cI cB cJ cZ ad stM kcM 115 (va_A (pic ad stM kcM 115 cI cB cJ cZ x) s.heap.size) x s.heap := ⟨hW0.1, hW0.2.1.self (sz := s.heap.size), hW0.2.2⟩
  generalize hAe : va_A (pic ad stM kcM 115 cI cB cJ cZ x) s.heap.size = A at hW ⊢
  have hA : ∀ q : Nat, s.heap.size ≤ q → A q := fun q h => by rw [← hAe]; exact Or.inr h
  have hS : va_S A s.heap s.heap [] := va_S.rf
  have hl := lv_entry ([.ref (ad 0), .int l1]) (n := 11) (Nat.le_of_ble_eq_true rfl)
  rw [lg_entry_eq]
  generalize (lg_sl ([.ref (ad 0), .int l1]) ++ List.replicate (11 - (lg_sl ([.ref (ad 0), .int l1])).length) Slot.unset).toArray = ls at hl ⊢
  have hl : lv_has ls 11 [(0, .ref (ad 0)), (1, .int l1)] := hl
  exact t_Mod_openField_e hx hb hml hown hT hK hN hA (Nat.le_refl 0) (Nat.le_refl 0) (Nat.le_refl 3) (Nat.le_refl 67) (fun x H locs pc ls hd hp hW hS => W.vret hx hb hr (fun t ht hM => ⟨⟨x, rfl, hp, Wd.back hW ht.symm (fun _ z => z)⟩, hS.F ht⟩) hS.2.2 hd hlocks)  l1 x _ _ ls  hw hW hS hl
end
