theorem w_4_45 : (Jvm.Cond.methodLink "StripedVault" (103 : Nat) ({ cls := "StripedVault", name := "layFour", desc := "(I)V" } : Jvm.MethodName)) ∈ TG := tw_4 45 (by decide +kernel) (by decide +kernel)
theorem w_4_47 : (Jvm.Cond.instanceMethod ({ cls := "StripedVault", name := "layFour", desc := "(I)V" } : Jvm.MethodName)) ∈ TG := tw_4 47 (by decide +kernel) (by decide +kernel)
theorem w_4_48 : (Jvm.Cond.code ({ cls := "StripedVault", name := "layFour", desc := "(I)V" } : Jvm.MethodName) prog_1_method_3_code (3 : Nat) (Option.none : Option Jvm.ClassFile.FieldType)) ∈ TG := tw_4 48 (by decide +kernel) (by decide +kernel)
theorem w_4_49 : (Jvm.Cond.methodLink "StripedVault" (106 : Nat) ({ cls := "StripedVault$Sink", name := "put", desc := "(I)V" } : Jvm.MethodName)) ∈ TG := tw_4 49 (by decide +kernel) (by decide +kernel)
theorem w_4_50 : (Jvm.Cond.instanceMethod ({ cls := "StripedVault$Sink", name := "put", desc := "(I)V" } : Jvm.MethodName)) ∈ TG := tw_4 50 (by decide +kernel) (by decide +kernel)
theorem w_4_51 : (Jvm.Cond.selects "StripedVault$Sink" ({ cls := "StripedVault$Sink", name := "put", desc := "(I)V" } : Jvm.MethodName) ({ cls := "StripedVault$Sink", name := "put", desc := "(I)V" } : Jvm.MethodName)) ∈ TG := tw_4 51 (by decide +kernel) (by decide +kernel)
theorem w_4_52 : (Jvm.Cond.code ({ cls := "StripedVault$Sink", name := "put", desc := "(I)V" } : Jvm.MethodName) prog_9_method_4_code (2 : Nat) (Option.none : Option Jvm.ClassFile.FieldType)) ∈ TG := tw_4 52 (by decide +kernel) (by decide +kernel)
theorem w_4_53 : (Jvm.Cond.methodLink "StripedVault$Sink" (45 : Nat) ({ cls := "StripedVault$Sink", name := "hasRoom", desc := "(I)Z" } : Jvm.MethodName)) ∈ TG := tw_4 53 (by decide +kernel) (by decide +kernel)
theorem w_4_55 : (Jvm.Cond.instanceMethod ({ cls := "StripedVault$Sink", name := "hasRoom", desc := "(I)Z" } : Jvm.MethodName)) ∈ TG := tw_4 55 (by decide +kernel) (by decide +kernel)
theorem w_4_56 : (Jvm.Cond.code ({ cls := "StripedVault$Sink", name := "hasRoom", desc := "(I)Z" } : Jvm.MethodName) prog_9_method_3_code (2 : Nat) (Option.some Jvm.ClassFile.FieldType.boolean)) ∈ TG := tw_4 56 (by decide +kernel) (by decide +kernel)
theorem w_4_57 : (Jvm.Cond.methodLink "StripedVault$Sink" (36 : Nat) ({ cls := "java/lang/Math", name := "max", desc := "(II)I" } : Jvm.MethodName)) ∈ TG := tw_4 57 (by decide +kernel) (by decide +kernel)
theorem w_4_58 : (Jvm.Cond.static ({ cls := "java/lang/Math", name := "max", desc := "(II)I" } : Jvm.MethodName)) ∈ TG := tw_4 58 (by decide +kernel) (by decide +kernel)
theorem w_4_59 : (Jvm.Cond.code ({ cls := "java/lang/Math", name := "max", desc := "(II)I" } : Jvm.MethodName) prog_17_method_65_code (2 : Nat) (Option.some Jvm.ClassFile.FieldType.int)) ∈ TG := tw_4 59 (by decide +kernel) (by decide +kernel)
theorem w_4_60 : (Jvm.Cond.methodLink "StripedVault$Sink" (39 : Nat) ({ cls := "java/util/Arrays", name := "copyOf", desc := "([BI)[B" } : Jvm.MethodName)) ∈ TG := tw_4 60 (by decide +kernel) (by decide +kernel)
theorem w_4_61 : (Jvm.Cond.static ({ cls := "java/util/Arrays", name := "copyOf", desc := "([BI)[B" } : Jvm.MethodName)) ∈ TG := tw_4 61 (by decide +kernel) (by decide +kernel)
theorem w_4_62 : (Jvm.Cond.code ({ cls := "java/util/Arrays", name := "copyOf", desc := "([BI)[B" } : Jvm.MethodName) prog_22_method_121_code (3 : Nat) (Option.some (Jvm.ClassFile.FieldType.array Jvm.ClassFile.FieldType.byte))) ∈ TG := tw_4 62 (by decide +kernel) (by decide +kernel)
theorem w_5_139 : (Jvm.Cond.methodLink "StripedVault$Sink" (49 : Nat) ({ cls := "java/lang/System", name := "arraycopy", desc := "(Ljava/lang/Object;ILjava/lang/Object;II)V" } : Jvm.MethodName)) ∈ TG := tw_5 139 (by decide +kernel) (by decide +kernel)
theorem w_5_144 : (Jvm.Cond.constantLong "StripedVault$Sink" (55 : Nat) (127 : Int64)) ∈ TG := tw_5 144 (by decide +kernel) (by decide +kernel)
theorem ws_0 : Cond.selects R_V y_V_layFour y_V_layFour ∈ TG := tw_s 0 (by decide +kernel) (by decide +kernel)
theorem ws_1 : Cond.selects R_Snk y_Snk_hasRoom y_Snk_hasRoom ∈ TG := tw_s 1 (by decide +kernel) (by decide +kernel)
theorem d_Snk_hasRoom_75 : decode b_Snk_hasRoom 75 = .ok (.iconst 1, 1) := by decide +kernel
theorem d_Snk_hasRoom_76 : decode b_Snk_hasRoom 76 = .ok (.ireturn, 1) := by decide +kernel
theorem d_Snk_hasRoom_20 : decode b_Snk_hasRoom 20 = .ok (.aload_n 0, 1) := by decide +kernel
theorem d_Snk_hasRoom_21 : decode b_Snk_hasRoom 21 = .ok (.iconst 1, 1) := by decide +kernel
theorem d_Snk_hasRoom_22 : decode b_Snk_hasRoom 22 = .ok (.putfield 32, 3) := by decide +kernel
theorem d_Snk_hasRoom_25 : decode b_Snk_hasRoom 25 = .ok (.iconst 0, 1) := by decide +kernel
theorem d_Snk_hasRoom_26 : decode b_Snk_hasRoom 26 = .ok (.ireturn, 1) := by decide +kernel
theorem d_Snk_hasRoom_0 : decode b_Snk_hasRoom 0 = .ok (.aload_n 0, 1) := by decide +kernel
theorem d_Snk_hasRoom_1 : decode b_Snk_hasRoom 1 = .ok (.getfield 32, 3) := by decide +kernel
theorem d_Snk_hasRoom_4 : decode b_Snk_hasRoom 4 = .ok (.ifCond .ne 16, 3) := by decide +kernel
theorem d_Snk_hasRoom_7 : decode b_Snk_hasRoom 7 = .ok (.iload_n 1, 1) := by decide +kernel
theorem d_Snk_hasRoom_8 : decode b_Snk_hasRoom 8 = .ok (.aload_n 0, 1) := by decide +kernel
theorem d_Snk_hasRoom_9 : decode b_Snk_hasRoom 9 = .ok (.getfield 15, 3) := by decide +kernel
theorem d_Snk_hasRoom_12 : decode b_Snk_hasRoom 12 = .ok (.aload_n 0, 1) := by decide +kernel
theorem d_Snk_hasRoom_13 : decode b_Snk_hasRoom 13 = .ok (.getfield 29, 3) := by decide +kernel
theorem d_Snk_hasRoom_16 : decode b_Snk_hasRoom 16 = .ok (.isub, 1) := by decide +kernel
theorem d_Snk_hasRoom_17 : decode b_Snk_hasRoom 17 = .ok (.if_icmp .le 10, 3) := by decide +kernel
theorem d_Snk_hasRoom_27 : decode b_Snk_hasRoom 27 = .ok (.iload_n 1, 1) := by decide +kernel
theorem d_Snk_hasRoom_28 : decode b_Snk_hasRoom 28 = .ok (.aload_n 0, 1) := by decide +kernel
theorem d_Snk_hasRoom_29 : decode b_Snk_hasRoom 29 = .ok (.getfield 25, 3) := by decide +kernel
theorem d_Snk_hasRoom_32 : decode b_Snk_hasRoom 32 = .ok (.arraylength, 1) := by decide +kernel
theorem d_Snk_hasRoom_33 : decode b_Snk_hasRoom 33 = .ok (.aload_n 0, 1) := by decide +kernel
theorem d_Snk_hasRoom_34 : decode b_Snk_hasRoom 34 = .ok (.getfield 29, 3) := by decide +kernel
theorem d_Snk_hasRoom_37 : decode b_Snk_hasRoom 37 = .ok (.isub, 1) := by decide +kernel
theorem d_Snk_hasRoom_38 : decode b_Snk_hasRoom 38 = .ok (.if_icmp .le 37, 3) := by decide +kernel
theorem d_Snk_hasRoom_41 : decode b_Snk_hasRoom 41 = .ok (.aload_n 0, 1) := by decide +kernel
theorem d_Snk_hasRoom_42 : decode b_Snk_hasRoom 42 = .ok (.aload_n 0, 1) := by decide +kernel
theorem d_Snk_hasRoom_43 : decode b_Snk_hasRoom 43 = .ok (.getfield 25, 3) := by decide +kernel
theorem d_Snk_hasRoom_46 : decode b_Snk_hasRoom 46 = .ok (.aload_n 0, 1) := by decide +kernel
theorem d_Snk_hasRoom_47 : decode b_Snk_hasRoom 47 = .ok (.getfield 15, 3) := by decide +kernel
theorem d_Snk_hasRoom_50 : decode b_Snk_hasRoom 50 = .ok (.iconst 2, 1) := by decide +kernel
theorem d_Snk_hasRoom_51 : decode b_Snk_hasRoom 51 = .ok (.aload_n 0, 1) := by decide +kernel
theorem d_Snk_hasRoom_52 : decode b_Snk_hasRoom 52 = .ok (.getfield 25, 3) := by decide +kernel
theorem d_Snk_hasRoom_55 : decode b_Snk_hasRoom 55 = .ok (.arraylength, 1) := by decide +kernel
theorem d_Snk_hasRoom_56 : decode b_Snk_hasRoom 56 = .ok (.imul, 1) := by decide +kernel
theorem d_Snk_hasRoom_57 : decode b_Snk_hasRoom 57 = .ok (.aload_n 0, 1) := by decide +kernel
theorem d_Snk_hasRoom_58 : decode b_Snk_hasRoom 58 = .ok (.getfield 29, 3) := by decide +kernel
theorem d_Snk_hasRoom_61 : decode b_Snk_hasRoom 61 = .ok (.iload_n 1, 1) := by decide +kernel
theorem d_Snk_hasRoom_62 : decode b_Snk_hasRoom 62 = .ok (.iadd, 1) := by decide +kernel
theorem d_Snk_hasRoom_63 : decode b_Snk_hasRoom 63 = .ok (.invokestatic 36, 3) := by decide +kernel
theorem d_Snk_hasRoom_66 : decode b_Snk_hasRoom 66 = .ok (.invokestatic 19, 3) := by decide +kernel
theorem d_Snk_hasRoom_69 : decode b_Snk_hasRoom 69 = .ok (.invokestatic 39, 3) := by decide +kernel
theorem d_Snk_hasRoom_72 : decode b_Snk_hasRoom 72 = .ok (.putfield 25, 3) := by decide +kernel
theorem d_Snk_put_0 : decode b_Snk_put 0 = .ok (.aload_n 0, 1) := by decide +kernel
theorem d_Snk_put_1 : decode b_Snk_put 1 = .ok (.iconst 1, 1) := by decide +kernel
theorem d_Snk_put_2 : decode b_Snk_put 2 = .ok (.invokevirtual 45, 3) := by decide +kernel
theorem d_Snk_put_5 : decode b_Snk_put 5 = .ok (.ifCond .eq 24, 3) := by decide +kernel
theorem d_Snk_put_29 : decode b_Snk_put 29 = .ok (.return_, 1) := by decide +kernel
theorem d_Snk_put_8 : decode b_Snk_put 8 = .ok (.aload_n 0, 1) := by decide +kernel
theorem d_Snk_put_9 : decode b_Snk_put 9 = .ok (.getfield 25, 3) := by decide +kernel
theorem d_Snk_put_12 : decode b_Snk_put 12 = .ok (.aload_n 0, 1) := by decide +kernel
theorem d_Snk_put_13 : decode b_Snk_put 13 = .ok (.getfield 29, 3) := by decide +kernel
theorem d_Snk_put_16 : decode b_Snk_put 16 = .ok (.iload_n 1, 1) := by decide +kernel
theorem d_Snk_put_17 : decode b_Snk_put 17 = .ok (.i2b, 1) := by decide +kernel
theorem d_Snk_put_18 : decode b_Snk_put 18 = .ok (.bastore, 1) := by decide +kernel
theorem d_Snk_put_19 : decode b_Snk_put 19 = .ok (.aload_n 0, 1) := by decide +kernel
theorem d_Snk_put_20 : decode b_Snk_put 20 = .ok (.dup, 1) := by decide +kernel
theorem d_Snk_put_21 : decode b_Snk_put 21 = .ok (.getfield 29, 3) := by decide +kernel
theorem d_Snk_put_24 : decode b_Snk_put 24 = .ok (.iconst 1, 1) := by decide +kernel
theorem d_Snk_put_25 : decode b_Snk_put 25 = .ok (.iadd, 1) := by decide +kernel
theorem d_Snk_put_26 : decode b_Snk_put 26 = .ok (.putfield 29, 3) := by decide +kernel
theorem d_V_layFour_3 : decode b_V_layFour 3 = .ok (.iload_n 2, 1) := by decide +kernel
theorem d_V_layFour_4 : decode b_V_layFour 4 = .ok (.ifCond .lt 19, 3) := by decide +kernel
theorem d_V_layFour_23 : decode b_V_layFour 23 = .ok (.return_, 1) := by decide +kernel
theorem d_V_layFour_7 : decode b_V_layFour 7 = .ok (.aload_n 0, 1) := by decide +kernel
theorem d_V_layFour_8 : decode b_V_layFour 8 = .ok (.getfield 15, 3) := by decide +kernel
theorem d_V_layFour_11 : decode b_V_layFour 11 = .ok (.iload_n 1, 1) := by decide +kernel
theorem d_V_layFour_12 : decode b_V_layFour 12 = .ok (.iload_n 2, 1) := by decide +kernel
theorem d_V_layFour_13 : decode b_V_layFour 13 = .ok (.iushr, 1) := by decide +kernel
theorem d_V_layFour_14 : decode b_V_layFour 14 = .ok (.invokevirtual 106, 3) := by decide +kernel
theorem d_V_layFour_17 : decode b_V_layFour 17 = .ok (.iinc 2 (-8), 3) := by decide +kernel
theorem d_V_layFour_20 : decode b_V_layFour 20 = .ok (.goto (-17), 3) := by decide +kernel
theorem d_V_layFour_0 : decode b_V_layFour 0 = .ok (.bipush 24, 2) := by decide +kernel
theorem d_V_layFour_2 : decode b_V_layFour 2 = .ok (.istore_n 2, 1) := by decide +kernel
theorem d_V_feed_0 : decode b_V_feed 0 = .ok (.aload_n 0, 1) := by decide +kernel
theorem d_V_feed_1 : decode b_V_feed 1 = .ok (.getfield 15, 3) := by decide +kernel
theorem d_V_feed_4 : decode b_V_feed 4 = .ok (.getfield 99, 3) := by decide +kernel
theorem d_V_feed_7 : decode b_V_feed 7 = .ok (.bipush 20, 2) := by decide +kernel
theorem d_V_feed_9 : decode b_V_feed 9 = .ok (.iadd, 1) := by decide +kernel
theorem d_V_feed_10 : decode b_V_feed 10 = .ok (.ldc 11, 2) := by decide +kernel
theorem d_V_feed_12 : decode b_V_feed 12 = .ok (.if_icmp .le 5, 3) := by decide +kernel
theorem d_V_feed_17 : decode b_V_feed 17 = .ok (.aload_n 0, 1) := by decide +kernel
theorem d_V_feed_18 : decode b_V_feed 18 = .ok (.iload_n 1, 1) := by decide +kernel
theorem d_V_feed_19 : decode b_V_feed 19 = .ok (.invokevirtual 103, 3) := by decide +kernel
theorem d_V_feed_22 : decode b_V_feed 22 = .ok (.aload_n 0, 1) := by decide +kernel
theorem d_V_feed_23 : decode b_V_feed 23 = .ok (.iload_n 2, 1) := by decide +kernel
theorem d_V_feed_24 : decode b_V_feed 24 = .ok (.invokevirtual 103, 3) := by decide +kernel
theorem d_V_feed_27 : decode b_V_feed 27 = .ok (.aload_n 0, 1) := by decide +kernel
theorem d_V_feed_28 : decode b_V_feed 28 = .ok (.iload_n 3, 1) := by decide +kernel
theorem d_V_feed_29 : decode b_V_feed 29 = .ok (.invokevirtual 103, 3) := by decide +kernel
theorem d_V_feed_32 : decode b_V_feed 32 = .ok (.aload_n 0, 1) := by decide +kernel
theorem d_V_feed_33 : decode b_V_feed 33 = .ok (.iload 4, 2) := by decide +kernel
theorem d_V_feed_35 : decode b_V_feed 35 = .ok (.invokevirtual 103, 3) := by decide +kernel
theorem d_V_feed_38 : decode b_V_feed 38 = .ok (.aload_n 0, 1) := by decide +kernel
theorem d_V_feed_39 : decode b_V_feed 39 = .ok (.iload 5, 2) := by decide +kernel
theorem d_V_feed_41 : decode b_V_feed 41 = .ok (.invokevirtual 103, 3) := by decide +kernel
theorem d_V_feed_44 : decode b_V_feed 44 = .ok (.iconst 1, 1) := by decide +kernel
theorem d_V_feed_45 : decode b_V_feed 45 = .ok (.ireturn, 1) := by decide +kernel
theorem d_V_feed_15 : decode b_V_feed 15 = .ok (.iconst 0, 1) := by decide +kernel
theorem d_V_feed_16 : decode b_V_feed 16 = .ok (.ireturn, 1) := by decide +kernel
theorem d_Snk_putAll_0 : decode b_Snk_putAll 0 = .ok (.aload_n 0, 1) := by decide +kernel
theorem d_Snk_putAll_1 : decode b_Snk_putAll 1 = .ok (.iload_n 3, 1) := by decide +kernel
theorem d_Snk_putAll_2 : decode b_Snk_putAll 2 = .ok (.invokevirtual 45, 3) := by decide +kernel
theorem d_Snk_putAll_5 : decode b_Snk_putAll 5 = .ok (.ifCond .eq 27, 3) := by decide +kernel
theorem d_Snk_putAll_32 : decode b_Snk_putAll 32 = .ok (.return_, 1) := by decide +kernel
theorem d_Snk_putAll_8 : decode b_Snk_putAll 8 = .ok (.aload_n 1, 1) := by decide +kernel
theorem d_Snk_putAll_9 : decode b_Snk_putAll 9 = .ok (.iload_n 2, 1) := by decide +kernel
theorem d_Snk_putAll_10 : decode b_Snk_putAll 10 = .ok (.aload_n 0, 1) := by decide +kernel
theorem d_Snk_putAll_11 : decode b_Snk_putAll 11 = .ok (.getfield 25, 3) := by decide +kernel
theorem d_Snk_putAll_14 : decode b_Snk_putAll 14 = .ok (.aload_n 0, 1) := by decide +kernel
theorem d_Snk_putAll_15 : decode b_Snk_putAll 15 = .ok (.getfield 29, 3) := by decide +kernel
theorem d_Snk_putAll_18 : decode b_Snk_putAll 18 = .ok (.iload_n 3, 1) := by decide +kernel
theorem d_Snk_putAll_19 : decode b_Snk_putAll 19 = .ok (.invokestatic 49, 3) := by decide +kernel
theorem d_Snk_putAll_22 : decode b_Snk_putAll 22 = .ok (.aload_n 0, 1) := by decide +kernel
theorem d_Snk_putAll_23 : decode b_Snk_putAll 23 = .ok (.dup, 1) := by decide +kernel
theorem d_Snk_putAll_24 : decode b_Snk_putAll 24 = .ok (.getfield 29, 3) := by decide +kernel
theorem d_Snk_putAll_27 : decode b_Snk_putAll 27 = .ok (.iload_n 3, 1) := by decide +kernel
theorem d_Snk_putAll_28 : decode b_Snk_putAll 28 = .ok (.iadd, 1) := by decide +kernel
theorem d_Snk_putAll_29 : decode b_Snk_putAll 29 = .ok (.putfield 29, 3) := by decide +kernel
theorem d_Snk_putVarint_61 : decode b_Snk_putVarint 61 = .ok (.i2l, 1) := by decide +kernel
theorem d_Snk_putVarint_62 : decode b_Snk_putVarint 62 = .ok (.lor, 1) := by decide +kernel
theorem d_Snk_putVarint_63 : decode b_Snk_putVarint 63 = .ok (.l2i, 1) := by decide +kernel
theorem d_Snk_putVarint_64 : decode b_Snk_putVarint 64 = .ok (.i2b, 1) := by decide +kernel
theorem d_Snk_putVarint_65 : decode b_Snk_putVarint 65 = .ok (.bastore, 1) := by decide +kernel
theorem d_Snk_putVarint_66 : decode b_Snk_putVarint 66 = .ok (.aload_n 0, 1) := by decide +kernel
theorem d_Snk_putVarint_67 : decode b_Snk_putVarint 67 = .ok (.dup, 1) := by decide +kernel
theorem d_Snk_putVarint_68 : decode b_Snk_putVarint 68 = .ok (.getfield 29, 3) := by decide +kernel
theorem d_Snk_putVarint_71 : decode b_Snk_putVarint 71 = .ok (.iconst 1, 1) := by decide +kernel
theorem d_Snk_putVarint_72 : decode b_Snk_putVarint 72 = .ok (.iadd, 1) := by decide +kernel
theorem d_Snk_putVarint_73 : decode b_Snk_putVarint 73 = .ok (.putfield 29, 3) := by decide +kernel
theorem d_Snk_putVarint_76 : decode b_Snk_putVarint 76 = .ok (.iload 6, 2) := by decide +kernel
theorem d_Snk_putVarint_78 : decode b_Snk_putVarint 78 = .ok (.ifCond .eq 4, 3) := by decide +kernel
theorem d_Snk_putVarint_82 : decode b_Snk_putVarint 82 = .ok (.lload_n 3, 1) := by decide +kernel
theorem d_Snk_putVarint_83 : decode b_Snk_putVarint 83 = .ok (.bipush 7, 2) := by decide +kernel
theorem d_Snk_putVarint_85 : decode b_Snk_putVarint 85 = .ok (.lushr, 1) := by decide +kernel
theorem d_Snk_putVarint_86 : decode b_Snk_putVarint 86 = .ok (.lstore_n 3, 1) := by decide +kernel
theorem d_Snk_putVarint_87 : decode b_Snk_putVarint 87 = .ok (.iinc 5 1, 3) := by decide +kernel
theorem d_Snk_putVarint_90 : decode b_Snk_putVarint 90 = .ok (.goto (-85), 3) := by decide +kernel
theorem d_Snk_putVarint_81 : decode b_Snk_putVarint 81 = .ok (.return_, 1) := by decide +kernel
theorem d_Snk_putVarint_34 : decode b_Snk_putVarint 34 = .ok (.istore 6, 2) := by decide +kernel
theorem d_Snk_putVarint_36 : decode b_Snk_putVarint 36 = .ok (.aload_n 0, 1) := by decide +kernel
theorem d_Snk_putVarint_37 : decode b_Snk_putVarint 37 = .ok (.getfield 25, 3) := by decide +kernel
theorem d_Snk_putVarint_40 : decode b_Snk_putVarint 40 = .ok (.aload_n 0, 1) := by decide +kernel
theorem d_Snk_putVarint_41 : decode b_Snk_putVarint 41 = .ok (.getfield 29, 3) := by decide +kernel
theorem d_Snk_putVarint_44 : decode b_Snk_putVarint 44 = .ok (.lload_n 3, 1) := by decide +kernel
theorem d_Snk_putVarint_45 : decode b_Snk_putVarint 45 = .ok (.ldc2_w 55, 3) := by decide +kernel
theorem d_Snk_putVarint_48 : decode b_Snk_putVarint 48 = .ok (.land, 1) := by decide +kernel
theorem d_Snk_putVarint_49 : decode b_Snk_putVarint 49 = .ok (.iload 6, 2) := by decide +kernel
theorem d_Snk_putVarint_51 : decode b_Snk_putVarint 51 = .ok (.ifCond .eq 7, 3) := by decide +kernel
theorem d_Snk_putVarint_58 : decode b_Snk_putVarint 58 = .ok (.sipush 128, 3) := by decide +kernel
theorem d_Snk_putVarint_54 : decode b_Snk_putVarint 54 = .ok (.iconst 0, 1) := by decide +kernel
theorem d_Snk_putVarint_55 : decode b_Snk_putVarint 55 = .ok (.goto 6, 3) := by decide +kernel
theorem d_Snk_putVarint_5 : decode b_Snk_putVarint 5 = .ok (.iload 5, 2) := by decide +kernel
theorem d_Snk_putVarint_7 : decode b_Snk_putVarint 7 = .ok (.bipush 10, 2) := by decide +kernel
theorem d_Snk_putVarint_9 : decode b_Snk_putVarint 9 = .ok (.if_icmp .ge 84, 3) := by decide +kernel
theorem d_Snk_putVarint_93 : decode b_Snk_putVarint 93 = .ok (.return_, 1) := by decide +kernel
theorem d_Snk_putVarint_12 : decode b_Snk_putVarint 12 = .ok (.aload_n 0, 1) := by decide +kernel
theorem d_Snk_putVarint_13 : decode b_Snk_putVarint 13 = .ok (.iconst 1, 1) := by decide +kernel
theorem d_Snk_putVarint_14 : decode b_Snk_putVarint 14 = .ok (.invokevirtual 45, 3) := by decide +kernel
theorem d_Snk_putVarint_17 : decode b_Snk_putVarint 17 = .ok (.ifCond .eq 76, 3) := by decide +kernel
theorem d_Snk_putVarint_20 : decode b_Snk_putVarint 20 = .ok (.lload_n 3, 1) := by decide +kernel
theorem d_Snk_putVarint_21 : decode b_Snk_putVarint 21 = .ok (.bipush 7, 2) := by decide +kernel
theorem d_Snk_putVarint_23 : decode b_Snk_putVarint 23 = .ok (.lushr, 1) := by decide +kernel
theorem d_Snk_putVarint_24 : decode b_Snk_putVarint 24 = .ok (.lconst 0, 1) := by decide +kernel
theorem d_Snk_putVarint_25 : decode b_Snk_putVarint 25 = .ok (.lcmp, 1) := by decide +kernel
theorem d_Snk_putVarint_26 : decode b_Snk_putVarint 26 = .ok (.ifCond .ne 7, 3) := by decide +kernel
theorem d_Snk_putVarint_33 : decode b_Snk_putVarint 33 = .ok (.iconst 0, 1) := by decide +kernel
theorem d_Snk_putVarint_29 : decode b_Snk_putVarint 29 = .ok (.iconst 1, 1) := by decide +kernel
theorem d_Snk_putVarint_30 : decode b_Snk_putVarint 30 = .ok (.goto 4, 3) := by decide +kernel
theorem d_Snk_putVarint_0 : decode b_Snk_putVarint 0 = .ok (.lload_n 1, 1) := by decide +kernel
theorem d_Snk_putVarint_1 : decode b_Snk_putVarint 1 = .ok (.lstore_n 3, 1) := by decide +kernel
theorem d_Snk_putVarint_2 : decode b_Snk_putVarint 2 = .ok (.iconst 0, 1) := by decide +kernel
theorem d_Snk_putVarint_3 : decode b_Snk_putVarint 3 = .ok (.istore 5, 2) := by decide +kernel
section
variable (l : Launch) (dC : Nat → ClassId) (dI : Nat → Nat → Nat) (cI cB cJ cZ : ClassId)
set_option maxRecDepth 100000 in
set_option maxHeartbeats 4000000 in
set_option maxRecDepth 100000 in
theorem t_Snk_hasRoom_75 {p : Program} {l : Launch} {e : Env} {R : Room} {s : State} {m : MethodId} {args : Array Value} {below : List Frame} {meth : Method} {c : Code} {Q : State → Prop} {dC : Nat → ClassId} {dI : Nat → Nat → Nat} {cI cB cJ cZ : ClassId} {A : Nat → Prop} {E : Heap} {tM tC : Nat} {kK kV : Nat → Nat} {ad0 : Nat → Nat} {NN0 : Nat} {post : Int32 → St → Prop} (hx : p.tables.exec = Jvm.exec) (hb : c.code = b_Snk_hasRoom) (hml : c.maxLocals = 2) (hown : s.vm.findClass R_Snk = some m.cls) (hT : ∀ w ∈ TG, w.before args s = true) (hK : va_K (dC, dI) CL (TY cI cB cJ cZ) s) (hN : NW s) (hA : ∀ q : Nat, s.heap.size ≤ q → A q) (hRf : 2 ≤ R.frames) (hRl : 200 ≤ R.locals) (hE : CE E tM tC kK kV A s) (hret : ∀ (r : Int32) (ad : Nat → Nat) (NN cells slots : Nat) (x : St) (H : Heap) (locs : List Loc) (pc : Nat) (ls : Array Slot), decode b_Snk_hasRoom pc = .ok (.ireturn, 1) → narrow .boolean (.int r) = .int r → (NN0 ≤ NN ∧ ∀ o : Nat, o < NN0 → ad o = ad0 o) → cells ≤ R.cells → slots ≤ R.slots → post r x → Wd dC dI cI cB cJ cZ ad stC kcC NN A x H → va_S A s.heap H locs → W p l e R s m args below meth c H locs cells slots Q (F0 m pc ls [.int r]))  : ∀ (ad : Nat → Nat) (NN cells slots : Nat) (o : Nat) (l1 : Int32) (kb : Nat) (nb : Nat) (x : St) (H : Heap) (locs : List Loc) (ls : Array Slot), (152 ≤ NN) → (NN0 ≤ NN ∧ ∀ o : Nat, o < NN0 → ad o = ad0 o) → (cells + kb ≤ R.cells) → (slots + nb ≤ R.slots) → (o < NN ∧ kcC o = 1) → j_Snk_hasRoom_75 post o l1 kb nb x → Wd dC dI cI cB cJ cZ ad stC kcC NN A x H → va_S A s.heap H locs → lv_has ls 2 [(0, .ref (ad o)), (1, .int l1)] → W p l e R s m args below meth c H locs cells slots Q (F0 m 75 ls []) := by
  intro ad NN cells slots o l1 kb nb x H locs ls hNN hag hRc hRs fo hw hW hS hl
  unfold j_Snk_hasRoom_75 at hw
  refine lv_iconst (v := 1) hx hb d_Snk_hasRoom_75 (by decide) ?_
  exact hret 1 ad NN cells slots x H locs 76 ls d_Snk_hasRoom_76 rfl hag (Nat.le_trans (Nat.le_add_right _ _) hRc) (Nat.le_trans (Nat.le_add_right _ _) hRs) hw hW hS
set_option maxRecDepth 100000 in
set_option maxHeartbeats 4000000 in
set_option maxRecDepth 100000 in
theorem t_Snk_hasRoom_20 {p : Program} {l : Launch} {e : Env} {R : Room} {s : State} {m : MethodId} {args : Array Value} {below : List Frame} {meth : Method} {c : Code} {Q : State → Prop} {dC : Nat → ClassId} {dI : Nat → Nat → Nat} {cI cB cJ cZ : ClassId} {A : Nat → Prop} {E : Heap} {tM tC : Nat} {kK kV : Nat → Nat} {ad0 : Nat → Nat} {NN0 : Nat} {post : Int32 → St → Prop} (hx : p.tables.exec = Jvm.exec) (hb : c.code = b_Snk_hasRoom) (hml : c.maxLocals = 2) (hown : s.vm.findClass R_Snk = some m.cls) (hT : ∀ w ∈ TG, w.before args s = true) (hK : va_K (dC, dI) CL (TY cI cB cJ cZ) s) (hN : NW s) (hA : ∀ q : Nat, s.heap.size ≤ q → A q) (hRf : 2 ≤ R.frames) (hRl : 200 ≤ R.locals) (hE : CE E tM tC kK kV A s) (hret : ∀ (r : Int32) (ad : Nat → Nat) (NN cells slots : Nat) (x : St) (H : Heap) (locs : List Loc) (pc : Nat) (ls : Array Slot), decode b_Snk_hasRoom pc = .ok (.ireturn, 1) → narrow .boolean (.int r) = .int r → (NN0 ≤ NN ∧ ∀ o : Nat, o < NN0 → ad o = ad0 o) → cells ≤ R.cells → slots ≤ R.slots → post r x → Wd dC dI cI cB cJ cZ ad stC kcC NN A x H → va_S A s.heap H locs → W p l e R s m args below meth c H locs cells slots Q (F0 m pc ls [.int r]))  : ∀ (ad : Nat → Nat) (NN cells slots : Nat) (o : Nat) (l1 : Int32) (kb : Nat) (nb : Nat) (x : St) (H : Heap) (locs : List Loc) (ls : Array Slot), (152 ≤ NN) → (NN0 ≤ NN ∧ ∀ o : Nat, o < NN0 → ad o = ad0 o) → (cells + kb ≤ R.cells) → (slots + nb ≤ R.slots) → (o < NN ∧ kcC o = 1) → j_Snk_hasRoom_20 post o l1 kb nb x → Wd dC dI cI cB cJ cZ ad stC kcC NN A x H → va_S A s.heap H locs → lv_has ls 2 [(0, .ref (ad o)), (1, .int l1)] → W p l e R s m args below meth c H locs cells slots Q (F0 m 20 ls []) := by
  intro ad NN cells slots o l1 kb nb x H locs ls hNN hag hRc hRs fo hw hW hS hl
  unfold j_Snk_hasRoom_20 at hw
  refine lv_aload_n hx hb d_Snk_hasRoom_20 rfl (lv_at hl 0 rfl) ?_
  refine lv_iconst (v := 1) hx hb d_Snk_hasRoom_21 (by decide) ?_
  refine w_puti (ty := .boolean) (k := 2) (t := 1) (C := R_Snk) (T := F_Snk) (N := 7) hx hb hT hown hK hW hS fo.1 fo.2 (by decide) in_Snk t_Snk t_Snk_ok n_Snk rfl rfl (by decide) rfl fr_Snk_2 w_1_47 (by decide +kernel) rfl rfl d_Snk_hasRoom_22 (fun H locs hW hS => ?_)
  obtain ⟨x1, ex1⟩ : ∃ y : St, y = setI x o 2 1 := ⟨_, rfl⟩
  rw [← ex1] at hW
  have hw := hw x1 ex1
  refine lv_iconst (v := 0) hx hb d_Snk_hasRoom_25 (by decide) ?_
  exact hret 0 ad NN cells slots x1 H locs 26 ls d_Snk_hasRoom_26 rfl hag (Nat.le_trans (Nat.le_add_right _ _) hRc) (Nat.le_trans (Nat.le_add_right _ _) hRs) hw hW hS
set_option maxRecDepth 100000 in
set_option maxHeartbeats 4000000 in
set_option maxRecDepth 100000 in
theorem t_Snk_hasRoom_e {p : Program} {l : Launch} {e : Env} {R : Room} {s : State} {m : MethodId} {args : Array Value} {below : List Frame} {meth : Method} {c : Code} {Q : State → Prop} {dC : Nat → ClassId} {dI : Nat → Nat → Nat} {cI cB cJ cZ : ClassId} {A : Nat → Prop} {E : Heap} {tM tC : Nat} {kK kV : Nat → Nat} {ad0 : Nat → Nat} {NN0 : Nat} {post : Int32 → St → Prop} (hx : p.tables.exec = Jvm.exec) (hb : c.code = b_Snk_hasRoom) (hml : c.maxLocals = 2) (hown : s.vm.findClass R_Snk = some m.cls) (hT : ∀ w ∈ TG, w.before args s = true) (hK : va_K (dC, dI) CL (TY cI cB cJ cZ) s) (hN : NW s) (hA : ∀ q : Nat, s.heap.size ≤ q → A q) (hRf : 2 ≤ R.frames) (hRl : 200 ≤ R.locals) (hE : CE E tM tC kK kV A s) (hret : ∀ (r : Int32) (ad : Nat → Nat) (NN cells slots : Nat) (x : St) (H : Heap) (locs : List Loc) (pc : Nat) (ls : Array Slot), decode b_Snk_hasRoom pc = .ok (.ireturn, 1) → narrow .boolean (.int r) = .int r → (NN0 ≤ NN ∧ ∀ o : Nat, o < NN0 → ad o = ad0 o) → cells ≤ R.cells → slots ≤ R.slots → post r x → Wd dC dI cI cB cJ cZ ad stC kcC NN A x H → va_S A s.heap H locs → W p l e R s m args below meth c H locs cells slots Q (F0 m pc ls [.int r])) : ∀ (ad : Nat → Nat) (NN cells slots : Nat) (o : Nat) (l1 : Int32) (kb : Nat) (nb : Nat) (x : St) (H : Heap) (locs : List Loc) (ls : Array Slot), (152 ≤ NN) → (NN0 ≤ NN ∧ ∀ o : Nat, o < NN0 → ad o = ad0 o) → (cells + kb ≤ R.cells) → (slots + nb ≤ R.slots) → (o < NN ∧ kcC o = 1) → wp_Snk_hasRoom post o l1 kb nb x → Wd dC dI cI cB cJ cZ ad stC kcC NN A x H → va_S A s.heap H locs → lv_has ls 2 [(0, .ref (ad o)), (1, .int l1)] → W p l e R s m args below meth c H locs cells slots Q (F0 m 0 ls []) := by
  intro ad NN cells slots o l1 kb nb x H locs ls hNN hag hRc hRs fo hw hW hS hl
  unfold wp_Snk_hasRoom at hw
  refine lv_aload_n hx hb d_Snk_hasRoom_0 rfl (lv_at hl 0 rfl) ?_
  refine w_geti (k := 2) (t := 1) (C := R_Snk) (T := F_Snk) (N := 7) hx hb hT hown hK hW fo.1 fo.2 (by decide) in_Snk rfl rfl (by decide) rfl fr_Snk_2 w_1_47 d_Snk_hasRoom_1 ?_
  refine lv_if_ne (tgt := 20) hx hb d_Snk_hasRoom_4 (by decide) (fun c2 => ?_) (fun c2 => ?_)
  · have hw := hw.1 c2
    exact t_Snk_hasRoom_20 hx hb hml hown hT hK hN hA hRf hRl hE hret  ad NN cells slots o l1 kb nb x H locs ls hNN hag hRc hRs fo hw hW hS (lv_sub hl [0, 1] rfl)
  · have hw := hw.2 c2
    refine lv_iload_n hx hb d_Snk_hasRoom_7 rfl (lv_at hl 1 rfl) ?_
    refine lv_aload_n hx hb d_Snk_hasRoom_8 rfl (lv_at hl 0 rfl) ?_
    refine w_geti (k := 3) (t := 1) (C := R_Snk) (T := F_Snk) (N := 7) hx hb hT hown hK hW fo.1 fo.2 (by decide) in_Snk rfl rfl (by decide) rfl fr_Snk_3 w_1_50 d_Snk_hasRoom_9 ?_
    refine lv_aload_n hx hb d_Snk_hasRoom_12 rfl (lv_at hl 0 rfl) ?_
    refine w_geti (k := 1) (t := 1) (C := R_Snk) (T := F_Snk) (N := 7) hx hb hT hown hK hW fo.1 fo.2 (by decide) in_Snk rfl rfl (by decide) rfl fr_Snk_1 w_1_43 d_Snk_hasRoom_13 ?_
    refine lv_isub hx hb d_Snk_hasRoom_16 ?_
    refine lv_icmp_le (tgt := 27) hx hb d_Snk_hasRoom_17 (by decide) (fun c3 => ?_) (fun c3 => ?_)
    · have hw := hw.1 c3
      refine lv_iload_n hx hb d_Snk_hasRoom_27 rfl (lv_at hl 1 rfl) ?_
      refine lv_aload_n hx hb d_Snk_hasRoom_28 rfl (lv_at hl 0 rfl) ?_
      obtain ⟨q4, hq4, hw⟩ := hw
      refine w_getr (q := q4) (k := 0) (t := 1) (C := R_Snk) (T := F_Snk) (N := 7) hx hb hT hown hK hW fo.1 fo.2 (by decide) in_Snk rfl rfl (by decide) rfl fr_Snk_0 w_1_40 d_Snk_hasRoom_29 hq4 (fun aq4 bq4 => ?_)
      have fq4 : q4 < NN ∧ kcC q4 = 21 := ⟨aq4, bq4⟩
      refine w_alen (o := q4) (t0 := 1) hx hb hK hW (pic_byte fq4.1 fq4.2) rfl rfl d_Snk_hasRoom_32 ?_
      refine lv_aload_n hx hb d_Snk_hasRoom_33 rfl (lv_at hl 0 rfl) ?_
      refine w_geti (k := 1) (t := 1) (C := R_Snk) (T := F_Snk) (N := 7) hx hb hT hown hK hW fo.1 fo.2 (by decide) in_Snk rfl rfl (by decide) rfl fr_Snk_1 w_1_43 d_Snk_hasRoom_34 ?_
      refine lv_isub hx hb d_Snk_hasRoom_37 ?_
      refine lv_icmp_le (tgt := 75) hx hb d_Snk_hasRoom_38 (by decide) (fun c5 => ?_) (fun c5 => ?_)
      · have hw := hw.1 c5
        exact t_Snk_hasRoom_75 hx hb hml hown hT hK hN hA hRf hRl hE hret  ad NN cells slots o l1 kb nb x H locs ls hNN hag hRc hRs fo hw hW hS (lv_sub hl [0, 1] rfl)
      · have hw := hw.2 c5
        refine lv_aload_n hx hb d_Snk_hasRoom_41 rfl (lv_at hl 0 rfl) ?_
        refine lv_aload_n hx hb d_Snk_hasRoom_42 rfl (lv_at hl 0 rfl) ?_
        obtain ⟨q6, hq6, hw⟩ := hw
        refine w_getr (q := q6) (k := 0) (t := 1) (C := R_Snk) (T := F_Snk) (N := 7) hx hb hT hown hK hW fo.1 fo.2 (by decide) in_Snk rfl rfl (by decide) rfl fr_Snk_0 w_1_40 d_Snk_hasRoom_43 hq6 (fun aq6 bq6 => ?_)
        have fq6 : q6 < NN ∧ kcC q6 = 21 := ⟨aq6, bq6⟩
        refine lv_aload_n hx hb d_Snk_hasRoom_46 rfl (lv_at hl 0 rfl) ?_
        refine w_geti (k := 3) (t := 1) (C := R_Snk) (T := F_Snk) (N := 7) hx hb hT hown hK hW fo.1 fo.2 (by decide) in_Snk rfl rfl (by decide) rfl fr_Snk_3 w_1_50 d_Snk_hasRoom_47 ?_
        refine lv_iconst (v := 2) hx hb d_Snk_hasRoom_50 (by decide) ?_
        refine lv_aload_n hx hb d_Snk_hasRoom_51 rfl (lv_at hl 0 rfl) ?_
        obtain ⟨q7, hq7, hw⟩ := hw
        refine w_getr (q := q7) (k := 0) (t := 1) (C := R_Snk) (T := F_Snk) (N := 7) hx hb hT hown hK hW fo.1 fo.2 (by decide) in_Snk rfl rfl (by decide) rfl fr_Snk_0 w_1_40 d_Snk_hasRoom_52 hq7 (fun aq7 bq7 => ?_)
        have fq7 : q7 < NN ∧ kcC q7 = 21 := ⟨aq7, bq7⟩
        refine w_alen (o := q7) (t0 := 1) hx hb hK hW (pic_byte fq7.1 fq7.2) rfl rfl d_Snk_hasRoom_55 ?_
        refine lv_imul hx hb d_Snk_hasRoom_56 ?_
        refine lv_aload_n hx hb d_Snk_hasRoom_57 rfl (lv_at hl 0 rfl) ?_
        refine w_geti (k := 1) (t := 1) (C := R_Snk) (T := F_Snk) (N := 7) hx hb hT hown hK hW fo.1 fo.2 (by decide) in_Snk rfl rfl (by decide) rfl fr_Snk_1 w_1_43 d_Snk_hasRoom_58 ?_
        refine lv_iload_n hx hb d_Snk_hasRoom_61 rfl (lv_at hl 1 rfl) ?_
        refine lv_iadd hx hb d_Snk_hasRoom_62 ?_
        refine va_mmax hx hb (hml.trans hl.1.symm) hown (hT _ w_4_57) (hT _ w_4_58) (hT _ w_1_3) (hT _ w_4_59) (Nat.le_trans (by decide) hRf) (Nat.le_trans (Nat.le_of_ble_eq_true rfl) hRl) (Nat.le_trans (Nat.le_add_right _ _) hRc) (Nat.le_trans (Nat.le_add_right _ _) hRs) d_Snk_hasRoom_63 ?_
        refine va_mmin hx hb (hml.trans hl.1.symm) hown (hT _ w_1_37) (hT _ w_1_38) (hT _ w_1_3) (hT _ w_1_39) (Nat.le_trans (by decide) hRf) (Nat.le_trans (Nat.le_of_ble_eq_true rfl) hRl) (Nat.le_trans (Nat.le_add_right _ _) hRc) (Nat.le_trans (Nat.le_add_right _ _) hRs) d_Snk_hasRoom_66 ?_
        obtain ⟨N8, eN9, hz9, hN9, hg9, k11, n12, ek9, en9, hw⟩ := hw
        rw [eN9]
        have hO := Wd.one hW fq6.1 fq6.2
        have hFc := Wd.freeOne hW hS hA fq6.1 fq6.2
        refine va_callr (va_runS (As := [.ref (ad q6), .int (nI N8)]) (rest := [.ref (ad o)]) ⟨hx, hb, hml, hown, hT⟩ (c_JArr_copyOf l dC dI cI cB cJ cZ H.size (ad q6) (fN x q6) N8 (fA x q6) hz9 hN9 hg9) ⟨callB_of 2 hT (gwt_in w_4_62) rfl rfl rfl (hT _ w_1_7) (hT _ w_4_60) (by decide +kernel) ⟨Nat.le_trans (Nat.le_of_ble_eq_true rfl) hRf, Nat.le_trans (Nat.le_of_ble_eq_true rfl) hRl⟩, hT _ w_4_61⟩ ⟨PC.blind, PC.at _ hO.1 hO.2 hK hN⟩ rfl rfl hl.1 rfl (lv_room (Nat.le_of_ble_eq_true rfl)) d_Snk_hasRoom_69 ⟨show cells + 1 ≤ R.cells by omega, show slots + N8 ≤ R.slots by omega⟩) hS (fun q _ h => hFc q h) hFc (fun u q9 t H1 locs ht hvm hw9 hB hz1 hk1 hS => ?_)
        obtain ⟨hP1, hD1⟩ := hB
        rw [ht] at hP1
        have hW2 := Wd.grow hW fq6.1 fq6.2 (kc_new hNN) (st_lt hNN) fk4 hP1 hD1 hk1 hFc
        obtain ⟨b9, eb9⟩ : ∃ z : Nat, z = NN := ⟨_, rfl⟩
        have hfr : ∀ a k : Nat, a < 152 → fk (kcC a) k = 2 → ¬ fR x a k = some b9 := fun a k ha hf e9 => by rw [eb9] at e9; exact absurd (hW.2.2 a k _ (Nat.lt_of_lt_of_le ha hNN) hf e9).1 (Nat.lt_irrefl _)
        have hkb9 : kcC b9 = 21 := by rw [eb9]; exact kc_new hNN
        obtain ⟨ad2, ead⟩ : ∃ z : Nat → Nat, z = fun k => if k = NN then q9 else ad k := ⟨_, rfl⟩
        have hg : ∀ o : Nat, o < NN → ad2 o = ad o := fun o h => by rw [ead]; exact if_neg (Nat.ne_of_lt h)
        have eq9 : q9 = ad2 b9 := by rw [eb9, ead]; exact (if_pos rfl).symm
        obtain ⟨N2, eNN⟩ : ∃ z : Nat, z = NN + 1 := ⟨_, rfl⟩
        have hle : NN ≤ N2 := by omega
        rw [← ead, ← eNN, ← eb9] at hW2
        obtain ⟨x10, ex10⟩ : ∃ z : St, z = addRow x b9 N8 (va_cpy (fA x q6) (fun _ => 0) 0 0 (fN x q6)) := ⟨_, rfl⟩
        rw [← ex10] at hW2
        have hw := hw b9 x10 (by omega) hfr ex10
        have fb9 : b9 < N2 ∧ kcC b9 = 21 := ⟨by omega, hkb9⟩
        rw [eq9]
        clear ead eNN eb9 eq9 hkb9 hfr
        obtain ⟨ad, ha2⟩ : ∃ z : Nat → Nat, z = ad2 := ⟨_, rfl⟩
        subst ha2
        obtain ⟨NN, hn2⟩ : ∃ z : Nat, z = N2 := ⟨_, rfl⟩
        subst hn2
        have hW := hW2
        rw [← hg o fo.1] at hl
        rw [← hg o fo.1]
        have fo : o < NN ∧ kcC o = 1 := ⟨Nat.lt_of_lt_of_le fo.1 hle, fo.2⟩
        have fq4 : q4 < NN ∧ kcC q4 = 21 := ⟨Nat.lt_of_lt_of_le fq4.1 hle, fq4.2⟩
        have fq6 : q6 < NN ∧ kcC q6 = 21 := ⟨Nat.lt_of_lt_of_le fq6.1 hle, fq6.2⟩
        have fq7 : q7 < NN ∧ kcC q7 = 21 := ⟨Nat.lt_of_lt_of_le fq7.1 hle, fq7.2⟩
        have hag : NN0 ≤ NN ∧ ∀ o : Nat, o < NN0 → ad o = ad0 o := ⟨Nat.le_trans hag.1 hle, fun o h => (hg o (Nat.lt_of_lt_of_le h hag.1)).trans (hag.2 o h)⟩
        have hNN : 152 ≤ NN := Nat.le_trans hNN hle
        clear hg hle
        obtain ⟨cells, ec⟩ : ∃ z, z = cells + 1 := ⟨_, rfl⟩
        obtain ⟨slots, es⟩ : ∃ z, z = slots + N8 := ⟨_, rfl⟩
        first | rw [← ec, ← es] | rw [Nat.add_zero, Nat.add_zero, ← ec, ← es]
        have hRc : cells + k11 ≤ R.cells := by omega
        have hRs : slots + n12 ≤ R.slots := by omega
        clear hW2 hP1 hD1 hO hFc hk1 hz1 hvm ht ec es ek9 en9
        generalize H1 = H at hW hS ⊢
        refine w_putr (q := b9) (ty := .array .byte) (k := 0) (t := 1) (C := R_Snk) (T := F_Snk) (N := 7) hx hb hT hown hK hW hS fo.1 fo.2 (by decide) in_Snk t_Snk t_Snk_ok n_Snk rfl rfl (by decide) rfl fr_Snk_0 w_1_40 (by decide +kernel) rfl rfl fb9.1 fb9.2 d_Snk_hasRoom_72 (fun H locs hW hS => ?_)
        obtain ⟨x13, ex13⟩ : ∃ y : St, y = setR x10 o 0 (some b9) := ⟨_, rfl⟩
        rw [← ex13] at hW
        have hw := hw x13 ex13
        exact t_Snk_hasRoom_75 hx hb hml hown hT hK hN hA hRf hRl hE hret  ad NN cells slots o l1 k11 n12 x13 H locs ls hNN hag hRc hRs fo hw hW hS (lv_sub hl [0, 1] rfl)
    · have hw := hw.2 c3
      exact t_Snk_hasRoom_20 hx hb hml hown hT hK hN hA hRf hRl hE hret  ad NN cells slots o l1 kb nb x H locs ls hNN hag hRc hRs fo hw hW hS (lv_sub hl [0, 1] rfl)
set_option maxHeartbeats 4000000 in
set_option maxRecDepth 100000 in
theorem k_Snk_hasRoom (l : Launch) (dC : Nat → ClassId) (dI : Nat → Nat → Nat) (cI cB cJ cZ : ClassId) (ad : Nat → Nat) (NN : Nat) (E : Heap) (tM tC : Nat) (kK kV : Nat → Nat) (hNN : 152 ≤ NN) (sz : Nat) (o : Nat) (l1 : Int32) (kb : Nat) (nb : Nat) (x : St) (fo : o < NN ∧ kcC o = 1) {post : Int32 → St → Prop} (hw : wp_Snk_hasRoom post o l1 kb nb x) : Met l y_Snk_hasRoom (wsOf y_Snk_hasRoom b_Snk_hasRoom 2 (some (.boolean))) ({ frames := 2, cells := kb, slots := nb, locals := 200 }) (va_Pc [.ref (ad o), .int l1] (PVc dC dI cI cB cJ cZ ad stC kcC NN E tM tC kK kV sz x)) (va_Qi (fun (r : Int32) (u : St × (Nat → Nat) × Nat) => post r u.1) (fun u t => Wd dC dI cI cB cJ cZ u.2.1 stC kcC u.2.2 (va_A (pic ad stC kcC NN cI cB cJ cZ x) sz) u.1 t.heap ∧ NN ≤ u.2.2 ∧ ∀ o : Nat, o < NN → u.2.1 o = ad o) (va_A (pic ad stC kcC NN cI cB cJ cZ x) sz)) kb nb (va_A (pic ad stC kcC NN cI cB cJ cZ x) sz) := by
  refine Met.ofW (cc := b_Snk_hasRoom) (maxL := 2) (ret := some (.boolean)) (by decide) rfl ?_
  intro p e s m args below meth c s₁ B hml hv
  obtain ⟨rfl, ⟨hsz, hW0, hK, hN⟩, hE⟩ := hv
  have hx := B.exec
  have hb := B.bytes
  have hr := B.returns
  have hts := atoms_spec B.pre
  have hT : ∀ w ∈ TG, w.before _ s = true := fun w h => hts w (List.mem_cons_of_mem _ h)
  have hown : s.vm.findClass R_Snk = some m.cls := findClass_of_methodNamed B.named
  have hlocks := B.notSynchronized
  subst hsz
  have hW : Wd dC dI cI cB cJ cZ ad stC kcC NN (va_A (pic ad stC kcC NN cI cB cJ cZ x) s.heap.size) x s.heap := ⟨hW0.1, hW0.2.1.self (sz := s.heap.size), hW0.2.2⟩
  generalize hAe : va_A (pic ad stC kcC NN cI cB cJ cZ x) s.heap.size = A at hW hE ⊢
  have hA : ∀ q : Nat, s.heap.size ≤ q → A q := fun q h => by rw [← hAe]; exact Or.inr h
  have hS : va_S A s.heap s.heap [] := va_S.rf
  have hl := lv_entry ([.ref (ad o), .int l1]) (n := 2) (Nat.le_of_ble_eq_true rfl)
  rw [lg_entry_eq]
  generalize (lg_sl ([.ref (ad o), .int l1]) ++ List.replicate (2 - (lg_sl ([.ref (ad o), .int l1])).length) Slot.unset).toArray = ls at hl ⊢
  have hl : lv_has ls 2 [(0, .ref (ad o)), (1, .int l1)] := hl
  exact t_Snk_hasRoom_e hx hb hml hown hT hK hN hA (Nat.le_refl 2) (Nat.le_refl 200) hE (fun r ad1 NN1 cells slots x1 H locs pc ls hd hz hag hc hs hp hW hS => W.widen (k := kb) (n := nb) hc hs (W.zret (v := r) (ty := .boolean) hx hb hr hz (fun t ht hM => ⟨⟨r, (x1, ad1, NN1), rfl, hp, Wd.back hW ht.symm (fun _ z => z), hag.1, hag.2⟩, hS.F ht⟩) hS.2.2 hd hlocks))  ad NN 0 0 o l1 kb nb x _ _ ls hNN ⟨Nat.le_refl _, fun _ _ => rfl⟩ (Nat.le_of_eq (Nat.zero_add kb)) (Nat.le_of_eq (Nat.zero_add nb)) fo hw hW hS hl
set_option maxRecDepth 100000 in
set_option maxHeartbeats 4000000 in
set_option maxRecDepth 100000 in
theorem t_Snk_put_e {p : Program} {l : Launch} {e : Env} {R : Room} {s : State} {m : MethodId} {args : Array Value} {below : List Frame} {meth : Method} {c : Code} {Q : State → Prop} {dC : Nat → ClassId} {dI : Nat → Nat → Nat} {cI cB cJ cZ : ClassId} {A : Nat → Prop} {E : Heap} {tM tC : Nat} {kK kV : Nat → Nat} {ad0 : Nat → Nat} {NN0 : Nat} {post : St → Prop} (hx : p.tables.exec = Jvm.exec) (hb : c.code = b_Snk_put) (hml : c.maxLocals = 2) (hown : s.vm.findClass R_Snk = some m.cls) (hT : ∀ w ∈ TG, w.before args s = true) (hK : va_K (dC, dI) CL (TY cI cB cJ cZ) s) (hN : NW s) (hA : ∀ q : Nat, s.heap.size ≤ q → A q) (hRf : 3 ≤ R.frames) (hRl : 221 ≤ R.locals) (hE : CE E tM tC kK kV A s) (hret : ∀ (ad : Nat → Nat) (NN cells slots : Nat) (x : St) (H : Heap) (locs : List Loc) (pc : Nat) (ls : Array Slot), decode b_Snk_put pc = .ok (.return_, 1) → (NN0 ≤ NN ∧ ∀ o : Nat, o < NN0 → ad o = ad0 o) → cells ≤ R.cells → slots ≤ R.slots → post x → Wd dC dI cI cB cJ cZ ad stC kcC NN A x H → va_S A s.heap H locs → W p l e R s m args below meth c H locs cells slots Q (F0 m pc ls [])) : ∀ (ad : Nat → Nat) (NN cells slots : Nat) (o : Nat) (l1 : Int32) (kb : Nat) (nb : Nat) (x : St) (H : Heap) (locs : List Loc) (ls : Array Slot), (152 ≤ NN) → (NN0 ≤ NN ∧ ∀ o : Nat, o < NN0 → ad o = ad0 o) → (cells + kb ≤ R.cells) → (slots + nb ≤ R.slots) → (o < NN ∧ kcC o = 1) → wp_Snk_put post o l1 kb nb x → Wd dC dI cI cB cJ cZ ad stC kcC NN A x H → va_S A s.heap H locs → lv_has ls 2 [(0, .ref (ad o)), (1, .int l1)] → W p l e R s m args below meth c H locs cells slots Q (F0 m 0 ls []) := by
  intro ad NN cells slots o l1 kb nb x H locs ls hNN hag hRc hRs fo hw hW hS hl
  unfold wp_Snk_put at hw
  refine lv_aload_n hx hb d_Snk_put_0 rfl (lv_at hl 0 rfl) ?_
  refine lv_iconst (v := 1) hx hb d_Snk_put_1 (by decide) ?_
  obtain ⟨k1, n2, k3, n4, ek1, en2, hw⟩ := hw
  have hF := hW.free hS hA
  refine va_calli (va_runV (C := R_Snk) (As := [.int 1]) (rest := []) ⟨hx, hb, hml, hown, hT⟩ (k_Snk_hasRoom l dC dI cI cB cJ cZ ad NN E tM tC kK kV hNN H.size o 1 k1 n2 x fo hw) ⟨callB_of 1 hT (gwt_in w_4_56) rfl rfl rfl (hT _ w_1_2) (hT _ w_4_53) (by decide +kernel) ⟨Nat.le_trans (Nat.le_of_ble_eq_true rfl) hRf, Nat.le_trans (Nat.le_of_ble_eq_true rfl) hRl⟩, hT _ w_4_55, hT _ ws_1⟩ ⟨PVc.blind, va_recv hK hW.1 (ci := 1) (q0 := o) rfl (pic_obj fo.1 fo.2 (by decide)), PVc.at _ hW hK hN hE hS hF⟩ rfl rfl hl.1 rfl (lv_room (Nat.le_of_ble_eq_true rfl)) d_Snk_put_2 ⟨show cells + k1 ≤ R.cells by omega, show slots + n2 ≤ R.slots by omega⟩) hS (fun q _ h => hF q h) hF (fun r6 x5 t H locs ht hvm hw hB hz1 hk1 hS => ?_)
  obtain ⟨x5, ad, NN⟩ := x5
  obtain ⟨hB, hle, hg⟩ := hB
  try dsimp only at hw hB hle hg
  have hW := Wd.back hB ht hF
  rw [← hg o fo.1] at hl
  have fo : o < NN ∧ kcC o = 1 := ⟨Nat.lt_of_lt_of_le fo.1 hle, fo.2⟩
  have hag : NN0 ≤ NN ∧ ∀ o : Nat, o < NN0 → ad o = ad0 o := ⟨Nat.le_trans hag.1 hle, fun o h => (hg o (Nat.lt_of_lt_of_le h hag.1)).trans (hag.2 o h)⟩
  have hNN : 152 ≤ NN := Nat.le_trans hNN hle
  clear hg hle
  obtain ⟨cells, ec⟩ : ∃ z, z = cells + k1 := ⟨_, rfl⟩
  obtain ⟨slots, es⟩ : ∃ z, z = slots + n2 := ⟨_, rfl⟩
  first | rw [← ec, ← es] | rw [Nat.add_zero, Nat.add_zero, ← ec, ← es]
  have hRc : cells + k3 ≤ R.cells := by omega
  have hRs : slots + n4 ≤ R.slots := by omega
  clear ec es hB ht hF hz1 hk1 hvm ek1 en2
  refine lv_if_eq (tgt := 29) hx hb d_Snk_put_5 (by decide) (fun c7 => ?_) (fun c7 => ?_)
  · have hw := hw.1 c7
    exact hret ad NN cells slots x5 H locs 29 ls d_Snk_put_29 hag (Nat.le_trans (Nat.le_add_right _ _) hRc) (Nat.le_trans (Nat.le_add_right _ _) hRs) hw hW hS
  · have hw := hw.2 c7
    refine lv_aload_n hx hb d_Snk_put_8 rfl (lv_at hl 0 rfl) ?_
    obtain ⟨q8, hq8, hw⟩ := hw
    refine w_getr (q := q8) (k := 0) (t := 1) (C := R_Snk) (T := F_Snk) (N := 7) hx hb hT hown hK hW fo.1 fo.2 (by decide) in_Snk rfl rfl (by decide) rfl fr_Snk_0 w_1_40 d_Snk_put_9 hq8 (fun aq8 bq8 => ?_)
    have fq8 : q8 < NN ∧ kcC q8 = 21 := ⟨aq8, bq8⟩
    refine lv_aload_n hx hb d_Snk_put_12 rfl (lv_at hl 0 rfl) ?_
    refine w_geti (k := 1) (t := 1) (C := R_Snk) (T := F_Snk) (N := 7) hx hb hT hown hK hW fo.1 fo.2 (by decide) in_Snk rfl rfl (by decide) rfl fr_Snk_1 w_1_43 d_Snk_put_13 ?_
    refine lv_iload_n hx hb d_Snk_put_16 rfl (lv_at hl 1 rfl) ?_
    refine lv_i2b hx hb d_Snk_put_17 rfl ?_
    obtain ⟨hi, hw⟩ := hw
    refine w_bast (o := q8) hx hb hK hW hS fq8.1 fq8.2 hi d_Snk_put_18 (fun H locs hW hS => ?_)
    obtain ⟨x9, ex9⟩ : ∃ y : St, y = setA x5 q8 (fI x5 o 1) (vp_nar .byte (l1 : Int32).toInt8.toInt32) := ⟨_, rfl⟩
    rw [← ex9] at hW
    have hw := hw x9 ex9
    refine lv_aload_n hx hb d_Snk_put_19 rfl (lv_at hl 0 rfl) ?_
    refine lv_dup hx hb d_Snk_put_20 rfl ?_
    refine w_geti (k := 1) (t := 1) (C := R_Snk) (T := F_Snk) (N := 7) hx hb hT hown hK hW fo.1 fo.2 (by decide) in_Snk rfl rfl (by decide) rfl fr_Snk_1 w_1_43 d_Snk_put_21 ?_
    refine lv_iconst (v := 1) hx hb d_Snk_put_24 (by decide) ?_
    refine lv_iadd hx hb d_Snk_put_25 ?_
    refine w_puti (ty := .int) (k := 1) (t := 1) (C := R_Snk) (T := F_Snk) (N := 7) hx hb hT hown hK hW hS fo.1 fo.2 (by decide) in_Snk t_Snk t_Snk_ok n_Snk rfl rfl (by decide) rfl fr_Snk_1 w_1_43 (by decide +kernel) rfl rfl d_Snk_put_26 (fun H locs hW hS => ?_)
    obtain ⟨x10, ex10⟩ : ∃ y : St, y = setI x9 o 1 ((fI x9 o 1) + 1) := ⟨_, rfl⟩
    rw [← ex10] at hW
    have hw := hw x10 ex10
    exact hret ad NN cells slots x10 H locs 29 ls d_Snk_put_29 hag (Nat.le_trans (Nat.le_add_right _ _) hRc) (Nat.le_trans (Nat.le_add_right _ _) hRs) hw hW hS
set_option maxHeartbeats 4000000 in
set_option maxRecDepth 100000 in
theorem k_Snk_put (l : Launch) (dC : Nat → ClassId) (dI : Nat → Nat → Nat) (cI cB cJ cZ : ClassId) (ad : Nat → Nat) (NN : Nat) (E : Heap) (tM tC : Nat) (kK kV : Nat → Nat) (hNN : 152 ≤ NN) (sz : Nat) (o : Nat) (l1 : Int32) (kb : Nat) (nb : Nat) (x : St) (fo : o < NN ∧ kcC o = 1) {post : St → Prop} (hw : wp_Snk_put post o l1 kb nb x) : Met l y_Snk_put (wsOf y_Snk_put b_Snk_put 2 (none)) ({ frames := 3, cells := kb, slots := nb, locals := 221 }) (va_Pc [.ref (ad o), .int l1] (PVc dC dI cI cB cJ cZ ad stC kcC NN E tM tC kK kV sz x)) (va_Qv (fun (u : St × (Nat → Nat) × Nat) => post u.1) (fun u t => Wd dC dI cI cB cJ cZ u.2.1 stC kcC u.2.2 (va_A (pic ad stC kcC NN cI cB cJ cZ x) sz) u.1 t.heap ∧ NN ≤ u.2.2 ∧ ∀ o : Nat, o < NN → u.2.1 o = ad o) (va_A (pic ad stC kcC NN cI cB cJ cZ x) sz)) kb nb (va_A (pic ad stC kcC NN cI cB cJ cZ x) sz) := by
  refine Met.ofW (cc := b_Snk_put) (maxL := 2) (ret := none) (by decide) rfl ?_
  intro p e s m args below meth c s₁ B hml hv
  obtain ⟨rfl, ⟨hsz, hW0, hK, hN⟩, hE⟩ := hv
  have hx := B.exec
  have hb := B.bytes
  have hr := B.returns
  have hts := atoms_spec B.pre
  have hT : ∀ w ∈ TG, w.before _ s = true := fun w h => hts w (List.mem_cons_of_mem _ h)
  have hown : s.vm.findClass R_Snk = some m.cls := findClass_of_methodNamed B.named
  have hlocks := B.notSynchronized
  subst hsz
  have hW : Wd dC dI cI cB cJ cZ ad stC kcC NN (va_A (pic ad stC kcC NN cI cB cJ cZ x) s.heap.size) x s.heap := ⟨hW0.1, hW0.2.1.self (sz := s.heap.size), hW0.2.2⟩
  generalize hAe : va_A (pic ad stC kcC NN cI cB cJ cZ x) s.heap.size = A at hW hE ⊢
  have hA : ∀ q : Nat, s.heap.size ≤ q → A q := fun q h => by rw [← hAe]; exact Or.inr h
  have hS : va_S A s.heap s.heap [] := va_S.rf
  have hl := lv_entry ([.ref (ad o), .int l1]) (n := 2) (Nat.le_of_ble_eq_true rfl)
  rw [lg_entry_eq]
  generalize (lg_sl ([.ref (ad o), .int l1]) ++ List.replicate (2 - (lg_sl ([.ref (ad o), .int l1])).length) Slot.unset).toArray = ls at hl ⊢
  have hl : lv_has ls 2 [(0, .ref (ad o)), (1, .int l1)] := hl
  exact t_Snk_put_e hx hb hml hown hT hK hN hA (Nat.le_refl 3) (Nat.le_refl 221) hE (fun ad1 NN1 cells slots x1 H locs pc ls hd hag hc hs hp hW hS => W.widen (k := kb) (n := nb) hc hs (W.vret hx hb hr (fun t ht hM => ⟨⟨(x1, ad1, NN1), rfl, hp, Wd.back hW ht.symm (fun _ z => z), hag.1, hag.2⟩, hS.F ht⟩) hS.2.2 hd hlocks))  ad NN 0 0 o l1 kb nb x _ _ ls hNN ⟨Nat.le_refl _, fun _ _ => rfl⟩ (Nat.le_of_eq (Nat.zero_add kb)) (Nat.le_of_eq (Nat.zero_add nb)) fo hw hW hS hl
set_option maxRecDepth 100000 in
set_option maxHeartbeats 4000000 in
set_option maxRecDepth 100000 in
theorem t_V_layFour_3 {p : Program} {l : Launch} {e : Env} {R : Room} {s : State} {m : MethodId} {args : Array Value} {below : List Frame} {meth : Method} {c : Code} {Q : State → Prop} {dC : Nat → ClassId} {dI : Nat → Nat → Nat} {cI cB cJ cZ : ClassId} {A : Nat → Prop} {E : Heap} {tM tC : Nat} {kK kV : Nat → Nat} {ad0 : Nat → Nat} {NN0 : Nat} {post : St → Prop} {rec3 : Nat → Int32 → Int32 → Nat → Nat → St → Prop} (hx : p.tables.exec = Jvm.exec) (hb : c.code = b_V_layFour) (hml : c.maxLocals = 3) (hown : s.vm.findClass R_V = some m.cls) (hT : ∀ w ∈ TG, w.before args s = true) (hK : va_K (dC, dI) CL (TY cI cB cJ cZ) s) (hN : NW s) (hA : ∀ q : Nat, s.heap.size ≤ q → A q) (hRf : 4 ≤ R.frames) (hRl : 242 ≤ R.locals) (hE : CE E tM tC kK kV A s) (hret : ∀ (ad : Nat → Nat) (NN cells slots : Nat) (x : St) (H : Heap) (locs : List Loc) (pc : Nat) (ls : Array Slot), decode b_V_layFour pc = .ok (.return_, 1) → (NN0 ≤ NN ∧ ∀ o : Nat, o < NN0 → ad o = ad0 o) → cells ≤ R.cells → slots ≤ R.slots → post x → Wd dC dI cI cB cJ cZ ad stC kcC NN A x H → va_S A s.heap H locs → W p l e R s m args below meth c H locs cells slots Q (F0 m pc ls [])) (hrec3 : ∀ (ad : Nat → Nat) (NN cells slots : Nat) (o : Nat) (l1 : Int32) (l2 : Int32) (kb : Nat) (nb : Nat) (x : St) (H : Heap) (locs : List Loc) (ls : Array Slot), (152 ≤ NN) → (NN0 ≤ NN ∧ ∀ o : Nat, o < NN0 → ad o = ad0 o) → (cells + kb ≤ R.cells) → (slots + nb ≤ R.slots) → (o < NN ∧ kcC o = 0) → rec3 o l1 l2 kb nb x → Wd dC dI cI cB cJ cZ ad stC kcC NN A x H → va_S A s.heap H locs → lv_has ls 3 [(0, .ref (ad o)), (1, .int l1), (2, .int l2)] → W p l e R s m args below meth c H locs cells slots Q (F0 m 3 ls [])) : ∀ (ad : Nat → Nat) (NN cells slots : Nat) (o : Nat) (l1 : Int32) (l2 : Int32) (kb : Nat) (nb : Nat) (x : St) (H : Heap) (locs : List Loc) (ls : Array Slot), (152 ≤ NN) → (NN0 ≤ NN ∧ ∀ o : Nat, o < NN0 → ad o = ad0 o) → (cells + kb ≤ R.cells) → (slots + nb ≤ R.slots) → (o < NN ∧ kcC o = 0) → j_V_layFour_3 post rec3 o l1 l2 kb nb x → Wd dC dI cI cB cJ cZ ad stC kcC NN A x H → va_S A s.heap H locs → lv_has ls 3 [(0, .ref (ad o)), (1, .int l1), (2, .int l2)] → W p l e R s m args below meth c H locs cells slots Q (F0 m 3 ls []) := by
  intro ad NN cells slots o l1 l2 kb nb x H locs ls hNN hag hRc hRs fo hw hW hS hl
  unfold j_V_layFour_3 at hw
  refine lv_iload_n hx hb d_V_layFour_3 rfl (lv_at hl 2 rfl) ?_
  refine lv_if_lt (tgt := 23) hx hb d_V_layFour_4 (by decide) (fun c1 => ?_) (fun c1 => ?_)
  · have hw := hw.1 c1
    exact hret ad NN cells slots x H locs 23 ls d_V_layFour_23 hag (Nat.le_trans (Nat.le_add_right _ _) hRc) (Nat.le_trans (Nat.le_add_right _ _) hRs) hw hW hS
  · have hw := hw.2 c1
    refine lv_aload_n hx hb d_V_layFour_7 rfl (lv_at hl 0 rfl) ?_
    obtain ⟨q2, hq2, hw⟩ := hw
    refine w_getr (q := q2) (k := 0) (t := 0) (C := R_V) (T := F_V) (N := 15) hx hb hT hown hK hW fo.1 fo.2 (by decide) in_V rfl rfl (by decide) rfl fr_V_0 w_3_235 d_V_layFour_8 hq2 (fun aq2 bq2 => ?_)
    have fq2 : q2 < NN ∧ kcC q2 = 1 := ⟨aq2, bq2⟩
    refine lv_iload_n hx hb d_V_layFour_11 rfl (lv_at hl 1 rfl) ?_
    refine lv_iload_n hx hb d_V_layFour_12 rfl (lv_at hl 2 rfl) ?_
    refine lv_iushr hx hb d_V_layFour_13 rfl ?_
    obtain ⟨k3, n4, k5, n6, ek3, en4, hw⟩ := hw
    have hF := hW.free hS hA
    refine va_callv (va_runV (C := R_Snk) (As := [.int ((l1 : Int32).toUInt32 >>> ((l2 : Int32).toUInt32 &&& Int32.toUInt32 31)).toInt32]) (rest := []) ⟨hx, hb, hml, hown, hT⟩ (k_Snk_put l dC dI cI cB cJ cZ ad NN E tM tC kK kV hNN H.size q2 ((l1 : Int32).toUInt32 >>> ((l2 : Int32).toUInt32 &&& Int32.toUInt32 31)).toInt32 k3 n4 x fq2 hw) ⟨callB_of 1 hT (gwt_in w_4_52) rfl rfl rfl (hT _ w_1_2) (hT _ w_4_49) (by decide +kernel) ⟨Nat.le_trans (Nat.le_of_ble_eq_true rfl) hRf, Nat.le_trans (Nat.le_of_ble_eq_true rfl) hRl⟩, hT _ w_4_50, hT _ w_4_51⟩ ⟨PVc.blind, va_recv hK hW.1 (ci := 1) (q0 := q2) rfl (pic_obj fq2.1 fq2.2 (by decide)), PVc.at _ hW hK hN hE hS hF⟩ rfl rfl hl.1 rfl (lv_room (Nat.le_of_ble_eq_true rfl)) d_V_layFour_14 ⟨show cells + k3 ≤ R.cells by omega, show slots + n4 ≤ R.slots by omega⟩) hS (fun q _ h => hF q h) hF (fun  x7 t H locs ht hvm hw hB hz1 hk1 hS => ?_)
    obtain ⟨x7, ad, NN⟩ := x7
    obtain ⟨hB, hle, hg⟩ := hB
    try dsimp only at hw hB hle hg
    have hW := Wd.back hB ht hF
    rw [← hg o fo.1] at hl
    have fo : o < NN ∧ kcC o = 0 := ⟨Nat.lt_of_lt_of_le fo.1 hle, fo.2⟩
    have fq2 : q2 < NN ∧ kcC q2 = 1 := ⟨Nat.lt_of_lt_of_le fq2.1 hle, fq2.2⟩
    have hag : NN0 ≤ NN ∧ ∀ o : Nat, o < NN0 → ad o = ad0 o := ⟨Nat.le_trans hag.1 hle, fun o h => (hg o (Nat.lt_of_lt_of_le h hag.1)).trans (hag.2 o h)⟩
    have hNN : 152 ≤ NN := Nat.le_trans hNN hle
    clear hg hle
    obtain ⟨cells, ec⟩ : ∃ z, z = cells + k3 := ⟨_, rfl⟩
    obtain ⟨slots, es⟩ : ∃ z, z = slots + n4 := ⟨_, rfl⟩
    first | rw [← ec, ← es] | rw [Nat.add_zero, Nat.add_zero, ← ec, ← es]
    have hRc : cells + k5 ≤ R.cells := by omega
    have hRs : slots + n6 ≤ R.slots := by omega
    clear ec es hB ht hF hz1 hk1 hvm ek3 en4
    refine lv_iinc (v := (l2 + (-8))) (lv' := [(2, .int (l2 + (-8))), (0, .ref (ad o)), (1, .int l1)]) hx hb d_V_layFour_17 hl (k := 2) rfl rfl (by decide) rfl (fun ls hl => ?_)
    refine lv_goto (tgt := 3) hx hb d_V_layFour_20 (by decide) ?_
    exact hrec3 ad NN cells slots o l1 (l2 + (-8)) k5 n6 x7 H locs ls hNN hag hRc hRs fo hw hW hS (lv_sub hl [1, 2, 0] rfl)
set_option maxHeartbeats 4000000 in
set_option maxRecDepth 100000 in
theorem tl_V_layFour_3 {p : Program} {l : Launch} {e : Env} {R : Room} {s : State} {m : MethodId} {args : Array Value} {below : List Frame} {meth : Method} {c : Code} {Q : State → Prop} {dC : Nat → ClassId} {dI : Nat → Nat → Nat} {cI cB cJ cZ : ClassId} {A : Nat → Prop} {E : Heap} {tM tC : Nat} {kK kV : Nat → Nat} {ad0 : Nat → Nat} {NN0 : Nat} {post : St → Prop} (hx : p.tables.exec = Jvm.exec) (hb : c.code = b_V_layFour) (hml : c.maxLocals = 3) (hown : s.vm.findClass R_V = some m.cls) (hT : ∀ w ∈ TG, w.before args s = true) (hK : va_K (dC, dI) CL (TY cI cB cJ cZ) s) (hN : NW s) (hA : ∀ q : Nat, s.heap.size ≤ q → A q) (hRf : 4 ≤ R.frames) (hRl : 242 ≤ R.locals) (hE : CE E tM tC kK kV A s) (hret : ∀ (ad : Nat → Nat) (NN cells slots : Nat) (x : St) (H : Heap) (locs : List Loc) (pc : Nat) (ls : Array Slot), decode b_V_layFour pc = .ok (.return_, 1) → (NN0 ≤ NN ∧ ∀ o : Nat, o < NN0 → ad o = ad0 o) → cells ≤ R.cells → slots ≤ R.slots → post x → Wd dC dI cI cB cJ cZ ad stC kcC NN A x H → va_S A s.heap H locs → W p l e R s m args below meth c H locs cells slots Q (F0 m pc ls []))  : ∀ n : Nat, ∀ (ad : Nat → Nat) (NN cells slots : Nat) (o : Nat) (l1 : Int32) (l2 : Int32) (kb : Nat) (nb : Nat) (x : St) (H : Heap) (locs : List Loc) (ls : Array Slot), (152 ≤ NN) → (NN0 ≤ NN ∧ ∀ o : Nat, o < NN0 → ad o = ad0 o) → (cells + kb ≤ R.cells) → (slots + nb ≤ R.slots) → (o < NN ∧ kcC o = 0) → wl_V_layFour_3 post n o l1 l2 kb nb x → Wd dC dI cI cB cJ cZ ad stC kcC NN A x H → va_S A s.heap H locs → lv_has ls 3 [(0, .ref (ad o)), (1, .int l1), (2, .int l2)] → W p l e R s m args below meth c H locs cells slots Q (F0 m 3 ls []) := by
  intro n
  induction n with
  | zero => intro ad NN cells slots o l1 l2 kb nb x H locs ls hNN hag hRc hRs fo hw; exact hw.elim
  | succ n ih => intro ad NN cells slots o l1 l2 kb nb x H locs ls hNN hag hRc hRs fo hw hW hS hl; exact t_V_layFour_3 hx hb hml hown hT hK hN hA hRf hRl hE hret  ih ad NN cells slots o l1 l2 kb nb x H locs ls hNN hag hRc hRs fo hw hW hS hl
set_option maxRecDepth 100000 in
set_option maxHeartbeats 4000000 in
set_option maxRecDepth 100000 in
theorem t_V_layFour_e {p : Program} {l : Launch} {e : Env} {R : Room} {s : State} {m : MethodId} {args : Array Value} {below : List Frame} {meth : Method} {c : Code} {Q : State → Prop} {dC : Nat → ClassId} {dI : Nat → Nat → Nat} {cI cB cJ cZ : ClassId} {A : Nat → Prop} {E : Heap} {tM tC : Nat} {kK kV : Nat → Nat} {ad0 : Nat → Nat} {NN0 : Nat} {post : St → Prop} (hx : p.tables.exec = Jvm.exec) (hb : c.code = b_V_layFour) (hml : c.maxLocals = 3) (hown : s.vm.findClass R_V = some m.cls) (hT : ∀ w ∈ TG, w.before args s = true) (hK : va_K (dC, dI) CL (TY cI cB cJ cZ) s) (hN : NW s) (hA : ∀ q : Nat, s.heap.size ≤ q → A q) (hRf : 4 ≤ R.frames) (hRl : 242 ≤ R.locals) (hE : CE E tM tC kK kV A s) (hret : ∀ (ad : Nat → Nat) (NN cells slots : Nat) (x : St) (H : Heap) (locs : List Loc) (pc : Nat) (ls : Array Slot), decode b_V_layFour pc = .ok (.return_, 1) → (NN0 ≤ NN ∧ ∀ o : Nat, o < NN0 → ad o = ad0 o) → cells ≤ R.cells → slots ≤ R.slots → post x → Wd dC dI cI cB cJ cZ ad stC kcC NN A x H → va_S A s.heap H locs → W p l e R s m args below meth c H locs cells slots Q (F0 m pc ls [])) : ∀ (ad : Nat → Nat) (NN cells slots : Nat) (o : Nat) (l1 : Int32) (kb : Nat) (nb : Nat) (x : St) (H : Heap) (locs : List Loc) (ls : Array Slot), (152 ≤ NN) → (NN0 ≤ NN ∧ ∀ o : Nat, o < NN0 → ad o = ad0 o) → (cells + kb ≤ R.cells) → (slots + nb ≤ R.slots) → (o < NN ∧ kcC o = 0) → wp_V_layFour post o l1 kb nb x → Wd dC dI cI cB cJ cZ ad stC kcC NN A x H → va_S A s.heap H locs → lv_has ls 3 [(0, .ref (ad o)), (1, .int l1)] → W p l e R s m args below meth c H locs cells slots Q (F0 m 0 ls []) := by
  intro ad NN cells slots o l1 kb nb x H locs ls hNN hag hRc hRs fo hw hW hS hl
  unfold wp_V_layFour at hw
  refine lv_bipush (v := 24) hx hb d_V_layFour_0 (by decide) ?_
  refine lv_istore_n (lv' := [(2, .int 24), (0, .ref (ad o)), (1, .int l1)]) hx hb d_V_layFour_2 rfl hl (by decide) rfl (fun ls hl => ?_)
  obtain ⟨n, hw⟩ := hw
  exact tl_V_layFour_3 hx hb hml hown hT hK hN hA hRf hRl hE hret  n ad NN cells slots o l1 24 kb nb x H locs ls hNN hag hRc hRs fo hw hW hS (lv_sub hl [1, 2, 0] rfl)
set_option maxHeartbeats 4000000 in
set_option maxRecDepth 100000 in
theorem k_V_layFour (l : Launch) (dC : Nat → ClassId) (dI : Nat → Nat → Nat) (cI cB cJ cZ : ClassId) (ad : Nat → Nat) (NN : Nat) (E : Heap) (tM tC : Nat) (kK kV : Nat → Nat) (hNN : 152 ≤ NN) (sz : Nat) (o : Nat) (l1 : Int32) (kb : Nat) (nb : Nat) (x : St) (fo : o < NN ∧ kcC o = 0) {post : St → Prop} (hw : wp_V_layFour post o l1 kb nb x) : Met l y_V_layFour (wsOf y_V_layFour b_V_layFour 3 (none)) ({ frames := 4, cells := kb, slots := nb, locals := 242 }) (va_Pc [.ref (ad o), .int l1] (PVc dC dI cI cB cJ cZ ad stC kcC NN E tM tC kK kV sz x)) (va_Qv (fun (u : St × (Nat → Nat) × Nat) => post u.1) (fun u t => Wd dC dI cI cB cJ cZ u.2.1 stC kcC u.2.2 (va_A (pic ad stC kcC NN cI cB cJ cZ x) sz) u.1 t.heap ∧ NN ≤ u.2.2 ∧ ∀ o : Nat, o < NN → u.2.1 o = ad o) (va_A (pic ad stC kcC NN cI cB cJ cZ x) sz)) kb nb (va_A (pic ad stC kcC NN cI cB cJ cZ x) sz) := by
  refine Met.ofW (cc := b_V_layFour) (maxL := 3) (ret := none) (by decide) rfl ?_
  intro p e s m args below meth c s₁ B hml hv
  obtain ⟨rfl, ⟨hsz, hW0, hK, hN⟩, hE⟩ := hv
  have hx := B.exec
  have hb := B.bytes
  have hr := B.returns
  have hts := atoms_spec B.pre
  have hT : ∀ w ∈ TG, w.before _ s = true := fun w h => hts w (List.mem_cons_of_mem _ h)
  have hown : s.vm.findClass R_V = some m.cls := findClass_of_methodNamed B.named
  have hlocks := B.notSynchronized
  subst hsz
  have hW : Wd dC dI cI cB cJ cZ ad stC kcC NN (va_A (pic ad stC kcC NN cI cB cJ cZ x) s.heap.size) x s.heap := ⟨hW0.1, hW0.2.1.self (sz := s.heap.size), hW0.2.2⟩
  generalize hAe : va_A (pic ad stC kcC NN cI cB cJ cZ x) s.heap.size = A at hW hE ⊢
  have hA : ∀ q : Nat, s.heap.size ≤ q → A q := fun q h => by rw [← hAe]; exact Or.inr h
  have hS : va_S A s.heap s.heap [] := va_S.rf
  have hl := lv_entry ([.ref (ad o), .int l1]) (n := 3) (Nat.le_of_ble_eq_true rfl)
  rw [lg_entry_eq]
  generalize (lg_sl ([.ref (ad o), .int l1]) ++ List.replicate (3 - (lg_sl ([.ref (ad o), .int l1])).length) Slot.unset).toArray = ls at hl ⊢
  have hl : lv_has ls 3 [(0, .ref (ad o)), (1, .int l1)] := hl
  exact t_V_layFour_e hx hb hml hown hT hK hN hA (Nat.le_refl 4) (Nat.le_refl 242) hE (fun ad1 NN1 cells slots x1 H locs pc ls hd hag hc hs hp hW hS => W.widen (k := kb) (n := nb) hc hs (W.vret hx hb hr (fun t ht hM => ⟨⟨(x1, ad1, NN1), rfl, hp, Wd.back hW ht.symm (fun _ z => z), hag.1, hag.2⟩, hS.F ht⟩) hS.2.2 hd hlocks))  ad NN 0 0 o l1 kb nb x _ _ ls hNN ⟨Nat.le_refl _, fun _ _ => rfl⟩ (Nat.le_of_eq (Nat.zero_add kb)) (Nat.le_of_eq (Nat.zero_add nb)) fo hw hW hS hl
set_option maxRecDepth 100000 in
set_option maxHeartbeats 4000000 in
set_option maxRecDepth 100000 in
theorem t_V_feed_e {p : Program} {l : Launch} {e : Env} {R : Room} {s : State} {m : MethodId} {args : Array Value} {below : List Frame} {meth : Method} {c : Code} {Q : State → Prop} {dC : Nat → ClassId} {dI : Nat → Nat → Nat} {cI cB cJ cZ : ClassId} {A : Nat → Prop} {E : Heap} {tM tC : Nat} {kK kV : Nat → Nat} {ad0 : Nat → Nat} {NN0 : Nat} {post : Int32 → St → Prop} (hx : p.tables.exec = Jvm.exec) (hb : c.code = b_V_feed) (hml : c.maxLocals = 6) (hown : s.vm.findClass R_V = some m.cls) (hT : ∀ w ∈ TG, w.before args s = true) (hK : va_K (dC, dI) CL (TY cI cB cJ cZ) s) (hN : NW s) (hA : ∀ q : Nat, s.heap.size ≤ q → A q) (hRf : 5 ≤ R.frames) (hRl : 264 ≤ R.locals) (hE : CE E tM tC kK kV A s) (hret : ∀ (r : Int32) (ad : Nat → Nat) (NN cells slots : Nat) (x : St) (H : Heap) (locs : List Loc) (pc : Nat) (ls : Array Slot), decode b_V_feed pc = .ok (.ireturn, 1) → narrow .boolean (.int r) = .int r → (NN0 ≤ NN ∧ ∀ o : Nat, o < NN0 → ad o = ad0 o) → cells ≤ R.cells → slots ≤ R.slots → post r x → Wd dC dI cI cB cJ cZ ad stC kcC NN A x H → va_S A s.heap H locs → W p l e R s m args below meth c H locs cells slots Q (F0 m pc ls [.int r])) : ∀ (ad : Nat → Nat) (NN cells slots : Nat) (o : Nat) (l1 : Int32) (l2 : Int32) (l3 : Int32) (l4 : Int32) (l5 : Int32) (kb : Nat) (nb : Nat) (x : St) (H : Heap) (locs : List Loc) (ls : Array Slot), (152 ≤ NN) → (NN0 ≤ NN ∧ ∀ o : Nat, o < NN0 → ad o = ad0 o) → (cells + kb ≤ R.cells) → (slots + nb ≤ R.slots) → (o < NN ∧ kcC o = 0) → wp_V_feed post o l1 l2 l3 l4 l5 kb nb x → Wd dC dI cI cB cJ cZ ad stC kcC NN A x H → va_S A s.heap H locs → lv_has ls 6 [(0, .ref (ad o)), (1, .int l1), (2, .int l2), (3, .int l3), (4, .int l4), (5, .int l5)] → W p l e R s m args below meth c H locs cells slots Q (F0 m 0 ls []) := by
  intro ad NN cells slots o l1 l2 l3 l4 l5 kb nb x H locs ls hNN hag hRc hRs fo hw hW hS hl
  unfold wp_V_feed at hw
  refine lv_aload_n hx hb d_V_feed_0 rfl (lv_at hl 0 rfl) ?_
  obtain ⟨q1, hq1, hw⟩ := hw
  refine w_getr (q := q1) (k := 0) (t := 0) (C := R_V) (T := F_V) (N := 15) hx hb hT hown hK hW fo.1 fo.2 (by decide) in_V rfl rfl (by decide) rfl fr_V_0 w_3_235 d_V_feed_1 hq1 (fun aq1 bq1 => ?_)
  have fq1 : q1 < NN ∧ kcC q1 = 1 := ⟨aq1, bq1⟩
  refine w_geti (k := 1) (t := 1) (C := R_Snk) (T := F_Snk) (N := 7) hx hb hT hown hK hW fq1.1 fq1.2 (by decide) in_Snk rfl rfl (by decide) rfl fr_Snk_1 w_1_44 d_V_feed_4 ?_
  refine lv_bipush (v := 20) hx hb d_V_feed_7 (by decide) ?_
  refine lv_iadd hx hb d_V_feed_9 ?_
  refine lv_ldc hx hb hown (hT _ w_1_32) d_V_feed_10 ?_
  refine lv_icmp_le (tgt := 17) hx hb d_V_feed_12 (by decide) (fun c2 => ?_) (fun c2 => ?_)
  · have hw := hw.1 c2
    refine lv_aload_n hx hb d_V_feed_17 rfl (lv_at hl 0 rfl) ?_
    refine lv_iload_n hx hb d_V_feed_18 rfl (lv_at hl 1 rfl) ?_
    obtain ⟨k3, n4, k5, n6, ek3, en4, hw⟩ := hw
    have hF := hW.free hS hA
    refine va_callv (va_runV (C := R_V) (As := [.int l1]) (rest := []) ⟨hx, hb, hml, hown, hT⟩ (k_V_layFour l dC dI cI cB cJ cZ ad NN E tM tC kK kV hNN H.size o l1 k3 n4 x fo hw) ⟨callB_of 1 hT (gwt_in w_4_48) rfl rfl rfl (hT _ w_1_1) (hT _ w_4_45) (by decide +kernel) ⟨Nat.le_trans (Nat.le_of_ble_eq_true rfl) hRf, Nat.le_trans (Nat.le_of_ble_eq_true rfl) hRl⟩, hT _ w_4_47, hT _ ws_0⟩ ⟨PVc.blind, va_recv hK hW.1 (ci := 0) (q0 := o) rfl (pic_obj fo.1 fo.2 (by decide)), PVc.at _ hW hK hN hE hS hF⟩ rfl rfl hl.1 rfl (lv_room (Nat.le_of_ble_eq_true rfl)) d_V_feed_19 ⟨show cells + k3 ≤ R.cells by omega, show slots + n4 ≤ R.slots by omega⟩) hS (fun q _ h => hF q h) hF (fun  x7 t H locs ht hvm hw hB hz1 hk1 hS => ?_)
    obtain ⟨x7, ad, NN⟩ := x7
    obtain ⟨hB, hle, hg⟩ := hB
    try dsimp only at hw hB hle hg
    have hW := Wd.back hB ht hF
    rw [← hg o fo.1] at hl
    have fo : o < NN ∧ kcC o = 0 := ⟨Nat.lt_of_lt_of_le fo.1 hle, fo.2⟩
    have fq1 : q1 < NN ∧ kcC q1 = 1 := ⟨Nat.lt_of_lt_of_le fq1.1 hle, fq1.2⟩
    have hag : NN0 ≤ NN ∧ ∀ o : Nat, o < NN0 → ad o = ad0 o := ⟨Nat.le_trans hag.1 hle, fun o h => (hg o (Nat.lt_of_lt_of_le h hag.1)).trans (hag.2 o h)⟩
    have hNN : 152 ≤ NN := Nat.le_trans hNN hle
    clear hg hle
    obtain ⟨cells, ec⟩ : ∃ z, z = cells + k3 := ⟨_, rfl⟩
    obtain ⟨slots, es⟩ : ∃ z, z = slots + n4 := ⟨_, rfl⟩
    first | rw [← ec, ← es] | rw [Nat.add_zero, Nat.add_zero, ← ec, ← es]
    have hRc : cells + k5 ≤ R.cells := by omega
    have hRs : slots + n6 ≤ R.slots := by omega
    clear ec es hB ht hF hz1 hk1 hvm ek3 en4
    refine lv_aload_n hx hb d_V_feed_22 rfl (lv_at hl 0 rfl) ?_
    refine lv_iload_n hx hb d_V_feed_23 rfl (lv_at hl 2 rfl) ?_
    obtain ⟨k8, n9, k10, n11, ek8, en9, hw⟩ := hw
    have hF := hW.free hS hA
    refine va_callv (va_runV (C := R_V) (As := [.int l2]) (rest := []) ⟨hx, hb, hml, hown, hT⟩ (k_V_layFour l dC dI cI cB cJ cZ ad NN E tM tC kK kV hNN H.size o l2 k8 n9 x7 fo hw) ⟨callB_of 1 hT (gwt_in w_4_48) rfl rfl rfl (hT _ w_1_1) (hT _ w_4_45) (by decide +kernel) ⟨Nat.le_trans (Nat.le_of_ble_eq_true rfl) hRf, Nat.le_trans (Nat.le_of_ble_eq_true rfl) hRl⟩, hT _ w_4_47, hT _ ws_0⟩ ⟨PVc.blind, va_recv hK hW.1 (ci := 0) (q0 := o) rfl (pic_obj fo.1 fo.2 (by decide)), PVc.at _ hW hK hN hE hS hF⟩ rfl rfl hl.1 rfl (lv_room (Nat.le_of_ble_eq_true rfl)) d_V_feed_24 ⟨show cells + k8 ≤ R.cells by omega, show slots + n9 ≤ R.slots by omega⟩) hS (fun q _ h => hF q h) hF (fun  x12 t H locs ht hvm hw hB hz1 hk1 hS => ?_)
    obtain ⟨x12, ad, NN⟩ := x12
    obtain ⟨hB, hle, hg⟩ := hB
    try dsimp only at hw hB hle hg
    have hW := Wd.back hB ht hF
    rw [← hg o fo.1] at hl
    have fo : o < NN ∧ kcC o = 0 := ⟨Nat.lt_of_lt_of_le fo.1 hle, fo.2⟩
    have fq1 : q1 < NN ∧ kcC q1 = 1 := ⟨Nat.lt_of_lt_of_le fq1.1 hle, fq1.2⟩
    have hag : NN0 ≤ NN ∧ ∀ o : Nat, o < NN0 → ad o = ad0 o := ⟨Nat.le_trans hag.1 hle, fun o h => (hg o (Nat.lt_of_lt_of_le h hag.1)).trans (hag.2 o h)⟩
    have hNN : 152 ≤ NN := Nat.le_trans hNN hle
    clear hg hle
    obtain ⟨cells, ec⟩ : ∃ z, z = cells + k8 := ⟨_, rfl⟩
    obtain ⟨slots, es⟩ : ∃ z, z = slots + n9 := ⟨_, rfl⟩
    first | rw [← ec, ← es] | rw [Nat.add_zero, Nat.add_zero, ← ec, ← es]
    have hRc : cells + k10 ≤ R.cells := by omega
    have hRs : slots + n11 ≤ R.slots := by omega
    clear ec es hB ht hF hz1 hk1 hvm ek8 en9
    refine lv_aload_n hx hb d_V_feed_27 rfl (lv_at hl 0 rfl) ?_
    refine lv_iload_n hx hb d_V_feed_28 rfl (lv_at hl 3 rfl) ?_
    obtain ⟨k13, n14, k15, n16, ek13, en14, hw⟩ := hw
    have hF := hW.free hS hA
    refine va_callv (va_runV (C := R_V) (As := [.int l3]) (rest := []) ⟨hx, hb, hml, hown, hT⟩ (k_V_layFour l dC dI cI cB cJ cZ ad NN E tM tC kK kV hNN H.size o l3 k13 n14 x12 fo hw) ⟨callB_of 1 hT (gwt_in w_4_48) rfl rfl rfl (hT _ w_1_1) (hT _ w_4_45) (by decide +kernel) ⟨Nat.le_trans (Nat.le_of_ble_eq_true rfl) hRf, Nat.le_trans (Nat.le_of_ble_eq_true rfl) hRl⟩, hT _ w_4_47, hT _ ws_0⟩ ⟨PVc.blind, va_recv hK hW.1 (ci := 0) (q0 := o) rfl (pic_obj fo.1 fo.2 (by decide)), PVc.at _ hW hK hN hE hS hF⟩ rfl rfl hl.1 rfl (lv_room (Nat.le_of_ble_eq_true rfl)) d_V_feed_29 ⟨show cells + k13 ≤ R.cells by omega, show slots + n14 ≤ R.slots by omega⟩) hS (fun q _ h => hF q h) hF (fun  x17 t H locs ht hvm hw hB hz1 hk1 hS => ?_)
    obtain ⟨x17, ad, NN⟩ := x17
    obtain ⟨hB, hle, hg⟩ := hB
    try dsimp only at hw hB hle hg
    have hW := Wd.back hB ht hF
    rw [← hg o fo.1] at hl
    have fo : o < NN ∧ kcC o = 0 := ⟨Nat.lt_of_lt_of_le fo.1 hle, fo.2⟩
    have fq1 : q1 < NN ∧ kcC q1 = 1 := ⟨Nat.lt_of_lt_of_le fq1.1 hle, fq1.2⟩
    have hag : NN0 ≤ NN ∧ ∀ o : Nat, o < NN0 → ad o = ad0 o := ⟨Nat.le_trans hag.1 hle, fun o h => (hg o (Nat.lt_of_lt_of_le h hag.1)).trans (hag.2 o h)⟩
    have hNN : 152 ≤ NN := Nat.le_trans hNN hle
    clear hg hle
    obtain ⟨cells, ec⟩ : ∃ z, z = cells + k13 := ⟨_, rfl⟩
    obtain ⟨slots, es⟩ : ∃ z, z = slots + n14 := ⟨_, rfl⟩
    first | rw [← ec, ← es] | rw [Nat.add_zero, Nat.add_zero, ← ec, ← es]
    have hRc : cells + k15 ≤ R.cells := by omega
    have hRs : slots + n16 ≤ R.slots := by omega
    clear ec es hB ht hF hz1 hk1 hvm ek13 en14
    refine lv_aload_n hx hb d_V_feed_32 rfl (lv_at hl 0 rfl) ?_
    refine lv_iload hx hb d_V_feed_33 (lv_at hl 4 rfl) ?_
    obtain ⟨k18, n19, k20, n21, ek18, en19, hw⟩ := hw
    have hF := hW.free hS hA
    refine va_callv (va_runV (C := R_V) (As := [.int l4]) (rest := []) ⟨hx, hb, hml, hown, hT⟩ (k_V_layFour l dC dI cI cB cJ cZ ad NN E tM tC kK kV hNN H.size o l4 k18 n19 x17 fo hw) ⟨callB_of 1 hT (gwt_in w_4_48) rfl rfl rfl (hT _ w_1_1) (hT _ w_4_45) (by decide +kernel) ⟨Nat.le_trans (Nat.le_of_ble_eq_true rfl) hRf, Nat.le_trans (Nat.le_of_ble_eq_true rfl) hRl⟩, hT _ w_4_47, hT _ ws_0⟩ ⟨PVc.blind, va_recv hK hW.1 (ci := 0) (q0 := o) rfl (pic_obj fo.1 fo.2 (by decide)), PVc.at _ hW hK hN hE hS hF⟩ rfl rfl hl.1 rfl (lv_room (Nat.le_of_ble_eq_true rfl)) d_V_feed_35 ⟨show cells + k18 ≤ R.cells by omega, show slots + n19 ≤ R.slots by omega⟩) hS (fun q _ h => hF q h) hF (fun  x22 t H locs ht hvm hw hB hz1 hk1 hS => ?_)
    obtain ⟨x22, ad, NN⟩ := x22
    obtain ⟨hB, hle, hg⟩ := hB
    try dsimp only at hw hB hle hg
    have hW := Wd.back hB ht hF
    rw [← hg o fo.1] at hl
    have fo : o < NN ∧ kcC o = 0 := ⟨Nat.lt_of_lt_of_le fo.1 hle, fo.2⟩
    have fq1 : q1 < NN ∧ kcC q1 = 1 := ⟨Nat.lt_of_lt_of_le fq1.1 hle, fq1.2⟩
    have hag : NN0 ≤ NN ∧ ∀ o : Nat, o < NN0 → ad o = ad0 o := ⟨Nat.le_trans hag.1 hle, fun o h => (hg o (Nat.lt_of_lt_of_le h hag.1)).trans (hag.2 o h)⟩
    have hNN : 152 ≤ NN := Nat.le_trans hNN hle
    clear hg hle
    obtain ⟨cells, ec⟩ : ∃ z, z = cells + k18 := ⟨_, rfl⟩
    obtain ⟨slots, es⟩ : ∃ z, z = slots + n19 := ⟨_, rfl⟩
    first | rw [← ec, ← es] | rw [Nat.add_zero, Nat.add_zero, ← ec, ← es]
    have hRc : cells + k20 ≤ R.cells := by omega
    have hRs : slots + n21 ≤ R.slots := by omega
    clear ec es hB ht hF hz1 hk1 hvm ek18 en19
    refine lv_aload_n hx hb d_V_feed_38 rfl (lv_at hl 0 rfl) ?_
    refine lv_iload hx hb d_V_feed_39 (lv_at hl 5 rfl) ?_
    obtain ⟨k23, n24, k25, n26, ek23, en24, hw⟩ := hw
    have hF := hW.free hS hA
    refine va_callv (va_runV (C := R_V) (As := [.int l5]) (rest := []) ⟨hx, hb, hml, hown, hT⟩ (k_V_layFour l dC dI cI cB cJ cZ ad NN E tM tC kK kV hNN H.size o l5 k23 n24 x22 fo hw) ⟨callB_of 1 hT (gwt_in w_4_48) rfl rfl rfl (hT _ w_1_1) (hT _ w_4_45) (by decide +kernel) ⟨Nat.le_trans (Nat.le_of_ble_eq_true rfl) hRf, Nat.le_trans (Nat.le_of_ble_eq_true rfl) hRl⟩, hT _ w_4_47, hT _ ws_0⟩ ⟨PVc.blind, va_recv hK hW.1 (ci := 0) (q0 := o) rfl (pic_obj fo.1 fo.2 (by decide)), PVc.at _ hW hK hN hE hS hF⟩ rfl rfl hl.1 rfl (lv_room (Nat.le_of_ble_eq_true rfl)) d_V_feed_41 ⟨show cells + k23 ≤ R.cells by omega, show slots + n24 ≤ R.slots by omega⟩) hS (fun q _ h => hF q h) hF (fun  x27 t H locs ht hvm hw hB hz1 hk1 hS => ?_)
    obtain ⟨x27, ad, NN⟩ := x27
    obtain ⟨hB, hle, hg⟩ := hB
    try dsimp only at hw hB hle hg
    have hW := Wd.back hB ht hF
    rw [← hg o fo.1] at hl
    have fo : o < NN ∧ kcC o = 0 := ⟨Nat.lt_of_lt_of_le fo.1 hle, fo.2⟩
    have fq1 : q1 < NN ∧ kcC q1 = 1 := ⟨Nat.lt_of_lt_of_le fq1.1 hle, fq1.2⟩
    have hag : NN0 ≤ NN ∧ ∀ o : Nat, o < NN0 → ad o = ad0 o := ⟨Nat.le_trans hag.1 hle, fun o h => (hg o (Nat.lt_of_lt_of_le h hag.1)).trans (hag.2 o h)⟩
    have hNN : 152 ≤ NN := Nat.le_trans hNN hle
    clear hg hle
    obtain ⟨cells, ec⟩ : ∃ z, z = cells + k23 := ⟨_, rfl⟩
    obtain ⟨slots, es⟩ : ∃ z, z = slots + n24 := ⟨_, rfl⟩
    first | rw [← ec, ← es] | rw [Nat.add_zero, Nat.add_zero, ← ec, ← es]
    have hRc : cells + k25 ≤ R.cells := by omega
    have hRs : slots + n26 ≤ R.slots := by omega
    clear ec es hB ht hF hz1 hk1 hvm ek23 en24
    refine lv_iconst (v := 1) hx hb d_V_feed_44 (by decide) ?_
    exact hret 1 ad NN cells slots x27 H locs 45 ls d_V_feed_45 rfl hag (Nat.le_trans (Nat.le_add_right _ _) hRc) (Nat.le_trans (Nat.le_add_right _ _) hRs) hw hW hS
  · have hw := hw.2 c2
    refine lv_iconst (v := 0) hx hb d_V_feed_15 (by decide) ?_
    exact hret 0 ad NN cells slots x H locs 16 ls d_V_feed_16 rfl hag (Nat.le_trans (Nat.le_add_right _ _) hRc) (Nat.le_trans (Nat.le_add_right _ _) hRs) hw hW hS
set_option maxHeartbeats 4000000 in
set_option maxRecDepth 100000 in
theorem k_V_feed (l : Launch) (dC : Nat → ClassId) (dI : Nat → Nat → Nat) (cI cB cJ cZ : ClassId) (ad : Nat → Nat) (NN : Nat) (E : Heap) (tM tC : Nat) (kK kV : Nat → Nat) (hNN : 152 ≤ NN) (sz : Nat) (o : Nat) (l1 : Int32) (l2 : Int32) (l3 : Int32) (l4 : Int32) (l5 : Int32) (kb : Nat) (nb : Nat) (x : St) (fo : o < NN ∧ kcC o = 0) {post : Int32 → St → Prop} (hw : wp_V_feed post o l1 l2 l3 l4 l5 kb nb x) : Met l y_V_feed (wsOf y_V_feed b_V_feed 6 (some (.boolean))) ({ frames := 5, cells := kb, slots := nb, locals := 264 }) (va_Pc [.ref (ad o), .int l1, .int l2, .int l3, .int l4, .int l5] (PVc dC dI cI cB cJ cZ ad stC kcC NN E tM tC kK kV sz x)) (va_Qi (fun (r : Int32) (u : St × (Nat → Nat) × Nat) => post r u.1) (fun u t => Wd dC dI cI cB cJ cZ u.2.1 stC kcC u.2.2 (va_A (pic ad stC kcC NN cI cB cJ cZ x) sz) u.1 t.heap ∧ NN ≤ u.2.2 ∧ ∀ o : Nat, o < NN → u.2.1 o = ad o) (va_A (pic ad stC kcC NN cI cB cJ cZ x) sz)) kb nb (va_A (pic ad stC kcC NN cI cB cJ cZ x) sz) := by
  refine Met.ofW (cc := b_V_feed) (maxL := 6) (ret := some (.boolean)) (by decide) rfl ?_
  intro p e s m args below meth c s₁ B hml hv
  obtain ⟨rfl, ⟨hsz, hW0, hK, hN⟩, hE⟩ := hv
  have hx := B.exec
  have hb := B.bytes
  have hr := B.returns
  have hts := atoms_spec B.pre
  have hT : ∀ w ∈ TG, w.before _ s = true := fun w h => hts w (List.mem_cons_of_mem _ h)
  have hown : s.vm.findClass R_V = some m.cls := findClass_of_methodNamed B.named
  have hlocks := B.notSynchronized
  subst hsz
  have hW : Wd dC dI cI cB cJ cZ ad stC kcC NN (va_A (pic ad stC kcC NN cI cB cJ cZ x) s.heap.size) x s.heap := ⟨hW0.1, hW0.2.1.self (sz := s.heap.size), hW0.2.2⟩
  generalize hAe : va_A (pic ad stC kcC NN cI cB cJ cZ x) s.heap.size = A at hW hE ⊢
  have hA : ∀ q : Nat, s.heap.size ≤ q → A q := fun q h => by rw [← hAe]; exact Or.inr h
  have hS : va_S A s.heap s.heap [] := va_S.rf
  have hl := lv_entry ([.ref (ad o), .int l1, .int l2, .int l3, .int l4, .int l5]) (n := 6) (Nat.le_of_ble_eq_true rfl)
  rw [lg_entry_eq]
  generalize (lg_sl ([.ref (ad o), .int l1, .int l2, .int l3, .int l4, .int l5]) ++ List.replicate (6 - (lg_sl ([.ref (ad o), .int l1, .int l2, .int l3, .int l4, .int l5])).length) Slot.unset).toArray = ls at hl ⊢
  have hl : lv_has ls 6 [(0, .ref (ad o)), (1, .int l1), (2, .int l2), (3, .int l3), (4, .int l4), (5, .int l5)] := hl
  exact t_V_feed_e hx hb hml hown hT hK hN hA (Nat.le_refl 5) (Nat.le_refl 264) hE (fun r ad1 NN1 cells slots x1 H locs pc ls hd hz hag hc hs hp hW hS => W.widen (k := kb) (n := nb) hc hs (W.zret (v := r) (ty := .boolean) hx hb hr hz (fun t ht hM => ⟨⟨r, (x1, ad1, NN1), rfl, hp, Wd.back hW ht.symm (fun _ z => z), hag.1, hag.2⟩, hS.F ht⟩) hS.2.2 hd hlocks))  ad NN 0 0 o l1 l2 l3 l4 l5 kb nb x _ _ ls hNN ⟨Nat.le_refl _, fun _ _ => rfl⟩ (Nat.le_of_eq (Nat.zero_add kb)) (Nat.le_of_eq (Nat.zero_add nb)) fo hw hW hS hl
set_option maxRecDepth 100000 in
set_option maxHeartbeats 4000000 in
set_option maxRecDepth 100000 in
theorem t_Snk_putAll_e {p : Program} {l : Launch} {e : Env} {R : Room} {s : State} {m : MethodId} {args : Array Value} {below : List Frame} {meth : Method} {c : Code} {Q : State → Prop} {dC : Nat → ClassId} {dI : Nat → Nat → Nat} {cI cB cJ cZ : ClassId} {A : Nat → Prop} {E : Heap} {tM tC : Nat} {kK kV : Nat → Nat} {ad0 : Nat → Nat} {NN0 : Nat} {post : St → Prop} (hx : p.tables.exec = Jvm.exec) (hb : c.code = b_Snk_putAll) (hml : c.maxLocals = 4) (hown : s.vm.findClass R_Snk = some m.cls) (hT : ∀ w ∈ TG, w.before args s = true) (hK : va_K (dC, dI) CL (TY cI cB cJ cZ) s) (hN : NW s) (hA : ∀ q : Nat, s.heap.size ≤ q → A q) (hRf : 3 ≤ R.frames) (hRl : 221 ≤ R.locals) (hE : CE E tM tC kK kV A s) (hret : ∀ (ad : Nat → Nat) (NN cells slots : Nat) (x : St) (H : Heap) (locs : List Loc) (pc : Nat) (ls : Array Slot), decode b_Snk_putAll pc = .ok (.return_, 1) → (NN0 ≤ NN ∧ ∀ o : Nat, o < NN0 → ad o = ad0 o) → cells ≤ R.cells → slots ≤ R.slots → post x → Wd dC dI cI cB cJ cZ ad stC kcC NN A x H → va_S A s.heap H locs → W p l e R s m args below meth c H locs cells slots Q (F0 m pc ls [])) : ∀ (ad : Nat → Nat) (NN cells slots : Nat) (o : Nat) (l1 : Nat) (l2 : Int32) (l3 : Int32) (kb : Nat) (nb : Nat) (x : St) (H : Heap) (locs : List Loc) (ls : Array Slot), (152 ≤ NN) → (NN0 ≤ NN ∧ ∀ o : Nat, o < NN0 → ad o = ad0 o) → (cells + kb ≤ R.cells) → (slots + nb ≤ R.slots) → (o < NN ∧ kcC o = 1) → (l1 < NN ∧ kcC l1 = 21) → wp_Snk_putAll post o l1 l2 l3 kb nb x → Wd dC dI cI cB cJ cZ ad stC kcC NN A x H → va_S A s.heap H locs → lv_has ls 4 [(0, .ref (ad o)), (1, .ref (ad l1)), (2, .int l2), (3, .int l3)] → W p l e R s m args below meth c H locs cells slots Q (F0 m 0 ls []) := by
  intro ad NN cells slots o l1 l2 l3 kb nb x H locs ls hNN hag hRc hRs fo fl1 hw hW hS hl
  unfold wp_Snk_putAll at hw
  refine lv_aload_n hx hb d_Snk_putAll_0 rfl (lv_at hl 0 rfl) ?_
  refine lv_iload_n hx hb d_Snk_putAll_1 rfl (lv_at hl 3 rfl) ?_
  obtain ⟨k1, n2, k3, n4, ek1, en2, hw⟩ := hw
  have hF := hW.free hS hA
  refine va_calli (va_runV (C := R_Snk) (As := [.int l3]) (rest := []) ⟨hx, hb, hml, hown, hT⟩ (k_Snk_hasRoom l dC dI cI cB cJ cZ ad NN E tM tC kK kV hNN H.size o l3 k1 n2 x fo hw) ⟨callB_of 1 hT (gwt_in w_4_56) rfl rfl rfl (hT _ w_1_2) (hT _ w_4_53) (by decide +kernel) ⟨Nat.le_trans (Nat.le_of_ble_eq_true rfl) hRf, Nat.le_trans (Nat.le_of_ble_eq_true rfl) hRl⟩, hT _ w_4_55, hT _ ws_1⟩ ⟨PVc.blind, va_recv hK hW.1 (ci := 1) (q0 := o) rfl (pic_obj fo.1 fo.2 (by decide)), PVc.at _ hW hK hN hE hS hF⟩ rfl rfl hl.1 rfl (lv_room (Nat.le_of_ble_eq_true rfl)) d_Snk_putAll_2 ⟨show cells + k1 ≤ R.cells by omega, show slots + n2 ≤ R.slots by omega⟩) hS (fun q _ h => hF q h) hF (fun r6 x5 t H locs ht hvm hw hB hz1 hk1 hS => ?_)
  obtain ⟨x5, ad, NN⟩ := x5
  obtain ⟨hB, hle, hg⟩ := hB
  try dsimp only at hw hB hle hg
  have hW := Wd.back hB ht hF
  rw [← hg o fo.1] at hl
  rw [← hg l1 fl1.1] at hl
  have fl1 : l1 < NN ∧ kcC l1 = 21 := ⟨Nat.lt_of_lt_of_le fl1.1 hle, fl1.2⟩
  have fo : o < NN ∧ kcC o = 1 := ⟨Nat.lt_of_lt_of_le fo.1 hle, fo.2⟩
  have hag : NN0 ≤ NN ∧ ∀ o : Nat, o < NN0 → ad o = ad0 o := ⟨Nat.le_trans hag.1 hle, fun o h => (hg o (Nat.lt_of_lt_of_le h hag.1)).trans (hag.2 o h)⟩
  have hNN : 152 ≤ NN := Nat.le_trans hNN hle
  clear hg hle
  obtain ⟨cells, ec⟩ : ∃ z, z = cells + k1 := ⟨_, rfl⟩
  obtain ⟨slots, es⟩ : ∃ z, z = slots + n2 := ⟨_, rfl⟩
  first | rw [← ec, ← es] | rw [Nat.add_zero, Nat.add_zero, ← ec, ← es]
  have hRc : cells + k3 ≤ R.cells := by omega
  have hRs : slots + n4 ≤ R.slots := by omega
  clear ec es hB ht hF hz1 hk1 hvm ek1 en2
  refine lv_if_eq (tgt := 32) hx hb d_Snk_putAll_5 (by decide) (fun c7 => ?_) (fun c7 => ?_)
  · have hw := hw.1 c7
    exact hret ad NN cells slots x5 H locs 32 ls d_Snk_putAll_32 hag (Nat.le_trans (Nat.le_add_right _ _) hRc) (Nat.le_trans (Nat.le_add_right _ _) hRs) hw hW hS
  · have hw := hw.2 c7
    refine lv_aload_n hx hb d_Snk_putAll_8 rfl (lv_at hl 1 rfl) ?_
    refine lv_iload_n hx hb d_Snk_putAll_9 rfl (lv_at hl 2 rfl) ?_
    refine lv_aload_n hx hb d_Snk_putAll_10 rfl (lv_at hl 0 rfl) ?_
    obtain ⟨q8, hq8, hw⟩ := hw
    refine w_getr (q := q8) (k := 0) (t := 1) (C := R_Snk) (T := F_Snk) (N := 7) hx hb hT hown hK hW fo.1 fo.2 (by decide) in_Snk rfl rfl (by decide) rfl fr_Snk_0 w_1_40 d_Snk_putAll_11 hq8 (fun aq8 bq8 => ?_)
    have fq8 : q8 < NN ∧ kcC q8 = 21 := ⟨aq8, bq8⟩
    refine lv_aload_n hx hb d_Snk_putAll_14 rfl (lv_at hl 0 rfl) ?_
    refine w_geti (k := 1) (t := 1) (C := R_Snk) (T := F_Snk) (N := 7) hx hb hT hown hK hW fo.1 fo.2 (by decide) in_Snk rfl rfl (by decide) rfl fr_Snk_1 w_1_43 d_Snk_putAll_15 ?_
    refine lv_iload_n hx hb d_Snk_putAll_18 rfl (lv_at hl 3 rfl) ?_
    obtain ⟨⟨h1, h2, h3, h4, h5, h6⟩, hw⟩ := hw
    refine va_copyi (a := ad q8) (a0 := ad l1) hx hb (hml.trans hl.1.symm) hown (hT _ w_5_139) (hT _ w_4_73) (hT _ w_4_72) (hT _ w_1_16) hK hW.1 hW.2.1 hS l1 q8 1 1 (pic_byte fl1.1 fl1.2) (pic_byte fq8.1 fq8.2) rfl rfl rfl h1 h2 h3 h4 h5 h6 (Nat.le_trans (by decide) hRf) (Nat.le_trans (Nat.le_of_ble_eq_true rfl) hRl) d_Snk_putAll_19 (fun H locs hP hD hS => ?_)
    have hW := Wd.rowb fq8.1 fq8.2 hP hD hW.2.2
    obtain ⟨x9, ex9⟩ : ∃ y : St, y = setW x5 q8 (va_cpy (fA x5 l1) (fA x5 q8) (l2 : Int32).toNatClampNeg ((fI x5 o 1) : Int32).toNatClampNeg (l3 : Int32).toNatClampNeg) := ⟨_, rfl⟩
    rw [← ex9] at hW
    have hw := hw x9 ex9
    refine lv_aload_n hx hb d_Snk_putAll_22 rfl (lv_at hl 0 rfl) ?_
    refine lv_dup hx hb d_Snk_putAll_23 rfl ?_
    refine w_geti (k := 1) (t := 1) (C := R_Snk) (T := F_Snk) (N := 7) hx hb hT hown hK hW fo.1 fo.2 (by decide) in_Snk rfl rfl (by decide) rfl fr_Snk_1 w_1_43 d_Snk_putAll_24 ?_
    refine lv_iload_n hx hb d_Snk_putAll_27 rfl (lv_at hl 3 rfl) ?_
    refine lv_iadd hx hb d_Snk_putAll_28 ?_
    refine w_puti (ty := .int) (k := 1) (t := 1) (C := R_Snk) (T := F_Snk) (N := 7) hx hb hT hown hK hW hS fo.1 fo.2 (by decide) in_Snk t_Snk t_Snk_ok n_Snk rfl rfl (by decide) rfl fr_Snk_1 w_1_43 (by decide +kernel) rfl rfl d_Snk_putAll_29 (fun H locs hW hS => ?_)
    obtain ⟨x10, ex10⟩ : ∃ y : St, y = setI x9 o 1 ((fI x9 o 1) + l3) := ⟨_, rfl⟩
    rw [← ex10] at hW
    have hw := hw x10 ex10
    exact hret ad NN cells slots x10 H locs 32 ls d_Snk_putAll_32 hag (Nat.le_trans (Nat.le_add_right _ _) hRc) (Nat.le_trans (Nat.le_add_right _ _) hRs) hw hW hS
set_option maxHeartbeats 4000000 in
set_option maxRecDepth 100000 in
theorem k_Snk_putAll (l : Launch) (dC : Nat → ClassId) (dI : Nat → Nat → Nat) (cI cB cJ cZ : ClassId) (ad : Nat → Nat) (NN : Nat) (E : Heap) (tM tC : Nat) (kK kV : Nat → Nat) (hNN : 152 ≤ NN) (sz : Nat) (o : Nat) (l1 : Nat) (l2 : Int32) (l3 : Int32) (kb : Nat) (nb : Nat) (x : St) (fo : o < NN ∧ kcC o = 1) (fl1 : l1 < NN ∧ kcC l1 = 21) {post : St → Prop} (hw : wp_Snk_putAll post o l1 l2 l3 kb nb x) : Met l y_Snk_putAll (wsOf y_Snk_putAll b_Snk_putAll 4 (none)) ({ frames := 3, cells := kb, slots := nb, locals := 221 }) (va_Pc [.ref (ad o), .ref (ad l1), .int l2, .int l3] (PVc dC dI cI cB cJ cZ ad stC kcC NN E tM tC kK kV sz x)) (va_Qv (fun (u : St × (Nat → Nat) × Nat) => post u.1) (fun u t => Wd dC dI cI cB cJ cZ u.2.1 stC kcC u.2.2 (va_A (pic ad stC kcC NN cI cB cJ cZ x) sz) u.1 t.heap ∧ NN ≤ u.2.2 ∧ ∀ o : Nat, o < NN → u.2.1 o = ad o) (va_A (pic ad stC kcC NN cI cB cJ cZ x) sz)) kb nb (va_A (pic ad stC kcC NN cI cB cJ cZ x) sz) := by
  refine Met.ofW (cc := b_Snk_putAll) (maxL := 4) (ret := none) (by decide) rfl ?_
  intro p e s m args below meth c s₁ B hml hv
  obtain ⟨rfl, ⟨hsz, hW0, hK, hN⟩, hE⟩ := hv
  have hx := B.exec
  have hb := B.bytes
  have hr := B.returns
  have hts := atoms_spec B.pre
  have hT : ∀ w ∈ TG, w.before _ s = true := fun w h => hts w (List.mem_cons_of_mem _ h)
  have hown : s.vm.findClass R_Snk = some m.cls := findClass_of_methodNamed B.named
  have hlocks := B.notSynchronized
  subst hsz
  have hW : Wd dC dI cI cB cJ cZ ad stC kcC NN (va_A (pic ad stC kcC NN cI cB cJ cZ x) s.heap.size) x s.heap := ⟨hW0.1, hW0.2.1.self (sz := s.heap.size), hW0.2.2⟩
  generalize hAe : va_A (pic ad stC kcC NN cI cB cJ cZ x) s.heap.size = A at hW hE ⊢
  have hA : ∀ q : Nat, s.heap.size ≤ q → A q := fun q h => by rw [← hAe]; exact Or.inr h
  have hS : va_S A s.heap s.heap [] := va_S.rf
  have hl := lv_entry ([.ref (ad o), .ref (ad l1), .int l2, .int l3]) (n := 4) (Nat.le_of_ble_eq_true rfl)
  rw [lg_entry_eq]
  generalize (lg_sl ([.ref (ad o), .ref (ad l1), .int l2, .int l3]) ++ List.replicate (4 - (lg_sl ([.ref (ad o), .ref (ad l1), .int l2, .int l3])).length) Slot.unset).toArray = ls at hl ⊢
  have hl : lv_has ls 4 [(0, .ref (ad o)), (1, .ref (ad l1)), (2, .int l2), (3, .int l3)] := hl
  exact t_Snk_putAll_e hx hb hml hown hT hK hN hA (Nat.le_refl 3) (Nat.le_refl 221) hE (fun ad1 NN1 cells slots x1 H locs pc ls hd hag hc hs hp hW hS => W.widen (k := kb) (n := nb) hc hs (W.vret hx hb hr (fun t ht hM => ⟨⟨(x1, ad1, NN1), rfl, hp, Wd.back hW ht.symm (fun _ z => z), hag.1, hag.2⟩, hS.F ht⟩) hS.2.2 hd hlocks))  ad NN 0 0 o l1 l2 l3 kb nb x _ _ ls hNN ⟨Nat.le_refl _, fun _ _ => rfl⟩ (Nat.le_of_eq (Nat.zero_add kb)) (Nat.le_of_eq (Nat.zero_add nb)) fo fl1 hw hW hS hl
abbrev b_Snk_putAllT : ByteArray := b_Snk_putAll
abbrev y_Snk_putAllT : MethodName := y_Snk_putAll
set_option maxRecDepth 100000 in
set_option maxHeartbeats 4000000 in
set_option maxRecDepth 100000 in
theorem t_Snk_putAllT_e {p : Program} {l : Launch} {e : Env} {R : Room} {s : State} {m : MethodId} {args : Array Value} {below : List Frame} {meth : Method} {c : Code} {Q : State → Prop} {dC : Nat → ClassId} {dI : Nat → Nat → Nat} {cI cB cJ cZ : ClassId} {A : Nat → Prop} {E : Heap} {tM tC : Nat} {kK kV : Nat → Nat} {ad0 : Nat → Nat} {NN0 : Nat} {post : St → Prop} (hx : p.tables.exec = Jvm.exec) (hb : c.code = b_Snk_putAllT) (hml : c.maxLocals = 4) (hown : s.vm.findClass R_Snk = some m.cls) (hT : ∀ w ∈ TG, w.before args s = true) (hK : va_K (dC, dI) CL (TY cI cB cJ cZ) s) (hN : NW s) (hA : ∀ q : Nat, s.heap.size ≤ q → A q) (hRf : 3 ≤ R.frames) (hRl : 221 ≤ R.locals) (hE : CE E tM tC kK kV A s) (hret : ∀ (ad : Nat → Nat) (NN cells slots : Nat) (x : St) (H : Heap) (locs : List Loc) (pc : Nat) (ls : Array Slot), decode b_Snk_putAllT pc = .ok (.return_, 1) → (NN0 ≤ NN ∧ ∀ o : Nat, o < NN0 → ad o = ad0 o) → cells ≤ R.cells → slots ≤ R.slots → post x → Wd dC dI cI cB cJ cZ ad stC kcC NN A x H → va_S A s.heap H locs → W p l e R s m args below meth c H locs cells slots Q (F0 m pc ls [])) : ∀ (ad : Nat → Nat) (NN cells slots : Nat) (o : Nat) (l2 : Int32) (l3 : Int32) (kb : Nat) (nb : Nat) (x : St) (H : Heap) (locs : List Loc) (ls : Array Slot), (152 ≤ NN) → (NN0 ≤ NN ∧ ∀ o : Nat, o < NN0 → ad o = ad0 o) → (cells + kb ≤ R.cells) → (slots + nb ≤ R.slots) → (o < NN ∧ kcC o = 1) → wp_Snk_putAllT post o l2 l3 kb nb x → Wd dC dI cI cB cJ cZ ad stC kcC NN A x H → va_S A s.heap H locs → lv_has ls 4 [(0, .ref (ad o)), (1, .ref tM), (2, .int l2), (3, .int l3)] → W p l e R s m args below meth c H locs cells slots Q (F0 m 0 ls []) := by
  intro ad NN cells slots o l2 l3 kb nb x H locs ls hNN hag hRc hRs fo hw hW hS hl
  unfold wp_Snk_putAllT at hw
  refine lv_aload_n hx hb d_Snk_putAll_0 rfl (lv_at hl 0 rfl) ?_
  refine lv_iload_n hx hb d_Snk_putAll_1 rfl (lv_at hl 3 rfl) ?_
  obtain ⟨k1, n2, k3, n4, ek1, en2, hw⟩ := hw
  have hF := hW.free hS hA
  refine va_calli (va_runV (C := R_Snk) (As := [.int l3]) (rest := []) ⟨hx, hb, hml, hown, hT⟩ (k_Snk_hasRoom l dC dI cI cB cJ cZ ad NN E tM tC kK kV hNN H.size o l3 k1 n2 x fo hw) ⟨callB_of 1 hT (gwt_in w_4_56) rfl rfl rfl (hT _ w_1_2) (hT _ w_4_53) (by decide +kernel) ⟨Nat.le_trans (Nat.le_of_ble_eq_true rfl) hRf, Nat.le_trans (Nat.le_of_ble_eq_true rfl) hRl⟩, hT _ w_4_55, hT _ ws_1⟩ ⟨PVc.blind, va_recv hK hW.1 (ci := 1) (q0 := o) rfl (pic_obj fo.1 fo.2 (by decide)), PVc.at _ hW hK hN hE hS hF⟩ rfl rfl hl.1 rfl (lv_room (Nat.le_of_ble_eq_true rfl)) d_Snk_putAll_2 ⟨show cells + k1 ≤ R.cells by omega, show slots + n2 ≤ R.slots by omega⟩) hS (fun q _ h => hF q h) hF (fun r6 x5 t H locs ht hvm hw hB hz1 hk1 hS => ?_)
  obtain ⟨x5, ad, NN⟩ := x5
  obtain ⟨hB, hle, hg⟩ := hB
  try dsimp only at hw hB hle hg
  have hW := Wd.back hB ht hF
  rw [← hg o fo.1] at hl
  have fo : o < NN ∧ kcC o = 1 := ⟨Nat.lt_of_lt_of_le fo.1 hle, fo.2⟩
  have hag : NN0 ≤ NN ∧ ∀ o : Nat, o < NN0 → ad o = ad0 o := ⟨Nat.le_trans hag.1 hle, fun o h => (hg o (Nat.lt_of_lt_of_le h hag.1)).trans (hag.2 o h)⟩
  have hNN : 152 ≤ NN := Nat.le_trans hNN hle
  clear hg hle
  obtain ⟨cells, ec⟩ : ∃ z, z = cells + k1 := ⟨_, rfl⟩
  obtain ⟨slots, es⟩ : ∃ z, z = slots + n2 := ⟨_, rfl⟩
  first | rw [← ec, ← es] | rw [Nat.add_zero, Nat.add_zero, ← ec, ← es]
  have hRc : cells + k3 ≤ R.cells := by omega
  have hRs : slots + n4 ≤ R.slots := by omega
  clear ec es hB ht hF hz1 hk1 hvm ek1 en2
  refine lv_if_eq (tgt := 32) hx hb d_Snk_putAll_5 (by decide) (fun c7 => ?_) (fun c7 => ?_)
  · have hw := hw.1 c7
    exact hret ad NN cells slots x5 H locs 32 ls d_Snk_putAll_32 hag (Nat.le_trans (Nat.le_add_right _ _) hRc) (Nat.le_trans (Nat.le_add_right _ _) hRs) hw hW hS
  · have hw := hw.2 c7
    refine lv_aload_n hx hb d_Snk_putAll_8 rfl (lv_at hl 1 rfl) ?_
    refine lv_iload_n hx hb d_Snk_putAll_9 rfl (lv_at hl 2 rfl) ?_
    refine lv_aload_n hx hb d_Snk_putAll_10 rfl (lv_at hl 0 rfl) ?_
    obtain ⟨q8, hq8, hw⟩ := hw
    refine w_getr (q := q8) (k := 0) (t := 1) (C := R_Snk) (T := F_Snk) (N := 7) hx hb hT hown hK hW fo.1 fo.2 (by decide) in_Snk rfl rfl (by decide) rfl fr_Snk_0 w_1_40 d_Snk_putAll_11 hq8 (fun aq8 bq8 => ?_)
    have fq8 : q8 < NN ∧ kcC q8 = 21 := ⟨aq8, bq8⟩
    refine lv_aload_n hx hb d_Snk_putAll_14 rfl (lv_at hl 0 rfl) ?_
    refine w_geti (k := 1) (t := 1) (C := R_Snk) (T := F_Snk) (N := 7) hx hb hT hown hK hW fo.1 fo.2 (by decide) in_Snk rfl rfl (by decide) rfl fr_Snk_1 w_1_43 d_Snk_putAll_15 ?_
    refine lv_iload_n hx hb d_Snk_putAll_18 rfl (lv_at hl 3 rfl) ?_
    obtain ⟨⟨h1, h2, h3, h4, h5, h6⟩, hw⟩ := hw
    refine vk_copyt (a := ad q8) hx hb (hml.trans hl.1.symm) hown (hT _ w_5_139) (hT _ w_4_73) (hT _ w_4_72) (hT _ w_1_16) hK hW.1 hW.2.1 hS hE.rM q8 1 (pic_byte fq8.1 fq8.2) rfl h1 h2 h3 h4 h5 h6 (Nat.le_trans (by decide) hRf) (Nat.le_trans (Nat.le_of_ble_eq_true rfl) hRl) d_Snk_putAll_19 (fun H locs hP hD hS => ?_)
    have hW := Wd.rowb fq8.1 fq8.2 hP hD hW.2.2
    obtain ⟨x9, ex9⟩ : ∃ y : St, y = setW x5 q8 (va_cpy magicI (fA x5 q8) (l2 : Int32).toNatClampNeg ((fI x5 o 1) : Int32).toNatClampNeg (l3 : Int32).toNatClampNeg) := ⟨_, rfl⟩
    rw [← ex9] at hW
    have hw := hw x9 ex9
    refine lv_aload_n hx hb d_Snk_putAll_22 rfl (lv_at hl 0 rfl) ?_
    refine lv_dup hx hb d_Snk_putAll_23 rfl ?_
    refine w_geti (k := 1) (t := 1) (C := R_Snk) (T := F_Snk) (N := 7) hx hb hT hown hK hW fo.1 fo.2 (by decide) in_Snk rfl rfl (by decide) rfl fr_Snk_1 w_1_43 d_Snk_putAll_24 ?_
    refine lv_iload_n hx hb d_Snk_putAll_27 rfl (lv_at hl 3 rfl) ?_
    refine lv_iadd hx hb d_Snk_putAll_28 ?_
    refine w_puti (ty := .int) (k := 1) (t := 1) (C := R_Snk) (T := F_Snk) (N := 7) hx hb hT hown hK hW hS fo.1 fo.2 (by decide) in_Snk t_Snk t_Snk_ok n_Snk rfl rfl (by decide) rfl fr_Snk_1 w_1_43 (by decide +kernel) rfl rfl d_Snk_putAll_29 (fun H locs hW hS => ?_)
    obtain ⟨x10, ex10⟩ : ∃ y : St, y = setI x9 o 1 ((fI x9 o 1) + l3) := ⟨_, rfl⟩
    rw [← ex10] at hW
    have hw := hw x10 ex10
    exact hret ad NN cells slots x10 H locs 32 ls d_Snk_putAll_32 hag (Nat.le_trans (Nat.le_add_right _ _) hRc) (Nat.le_trans (Nat.le_add_right _ _) hRs) hw hW hS
set_option maxHeartbeats 4000000 in
set_option maxRecDepth 100000 in
theorem k_Snk_putAllT (l : Launch) (dC : Nat → ClassId) (dI : Nat → Nat → Nat) (cI cB cJ cZ : ClassId) (ad : Nat → Nat) (NN : Nat) (E : Heap) (tM tC : Nat) (kK kV : Nat → Nat) (hNN : 152 ≤ NN) (sz : Nat) (o : Nat) (l2 : Int32) (l3 : Int32) (kb : Nat) (nb : Nat) (x : St) (fo : o < NN ∧ kcC o = 1) {post : St → Prop} (hw : wp_Snk_putAllT post o l2 l3 kb nb x) : Met l y_Snk_putAllT (wsOf y_Snk_putAllT b_Snk_putAllT 4 (none)) ({ frames := 3, cells := kb, slots := nb, locals := 221 }) (va_Pc [.ref (ad o), .ref tM, .int l2, .int l3] (PVc dC dI cI cB cJ cZ ad stC kcC NN E tM tC kK kV sz x)) (va_Qv (fun (u : St × (Nat → Nat) × Nat) => post u.1) (fun u t => Wd dC dI cI cB cJ cZ u.2.1 stC kcC u.2.2 (va_A (pic ad stC kcC NN cI cB cJ cZ x) sz) u.1 t.heap ∧ NN ≤ u.2.2 ∧ ∀ o : Nat, o < NN → u.2.1 o = ad o) (va_A (pic ad stC kcC NN cI cB cJ cZ x) sz)) kb nb (va_A (pic ad stC kcC NN cI cB cJ cZ x) sz) := by
  refine Met.ofW (cc := b_Snk_putAllT) (maxL := 4) (ret := none) (by decide) rfl ?_
  intro p e s m args below meth c s₁ B hml hv
  obtain ⟨rfl, ⟨hsz, hW0, hK, hN⟩, hE⟩ := hv
  have hx := B.exec
  have hb := B.bytes
  have hr := B.returns
  have hts := atoms_spec B.pre
  have hT : ∀ w ∈ TG, w.before _ s = true := fun w h => hts w (List.mem_cons_of_mem _ h)
  have hown : s.vm.findClass R_Snk = some m.cls := findClass_of_methodNamed B.named
  have hlocks := B.notSynchronized
  subst hsz
  have hW : Wd dC dI cI cB cJ cZ ad stC kcC NN (va_A (pic ad stC kcC NN cI cB cJ cZ x) s.heap.size) x s.heap := ⟨hW0.1, hW0.2.1.self (sz := s.heap.size), hW0.2.2⟩
  generalize hAe : va_A (pic ad stC kcC NN cI cB cJ cZ x) s.heap.size = A at hW hE ⊢
  have hA : ∀ q : Nat, s.heap.size ≤ q → A q := fun q h => by rw [← hAe]; exact Or.inr h
  have hS : va_S A s.heap s.heap [] := va_S.rf
  have hl := lv_entry ([.ref (ad o), .ref tM, .int l2, .int l3]) (n := 4) (Nat.le_of_ble_eq_true rfl)
  rw [lg_entry_eq]
  generalize (lg_sl ([.ref (ad o), .ref tM, .int l2, .int l3]) ++ List.replicate (4 - (lg_sl ([.ref (ad o), .ref tM, .int l2, .int l3])).length) Slot.unset).toArray = ls at hl ⊢
  have hl : lv_has ls 4 [(0, .ref (ad o)), (1, .ref tM), (2, .int l2), (3, .int l3)] := hl
  exact t_Snk_putAllT_e hx hb hml hown hT hK hN hA (Nat.le_refl 3) (Nat.le_refl 221) hE (fun ad1 NN1 cells slots x1 H locs pc ls hd hag hc hs hp hW hS => W.widen (k := kb) (n := nb) hc hs (W.vret hx hb hr (fun t ht hM => ⟨⟨(x1, ad1, NN1), rfl, hp, Wd.back hW ht.symm (fun _ z => z), hag.1, hag.2⟩, hS.F ht⟩) hS.2.2 hd hlocks))  ad NN 0 0 o l2 l3 kb nb x _ _ ls hNN ⟨Nat.le_refl _, fun _ _ => rfl⟩ (Nat.le_of_eq (Nat.zero_add kb)) (Nat.le_of_eq (Nat.zero_add nb)) fo hw hW hS hl
set_option maxRecDepth 100000 in
set_option maxHeartbeats 4000000 in
set_option maxRecDepth 100000 in
theorem t_Snk_putVarint_61 {p : Program} {l : Launch} {e : Env} {R : Room} {s : State} {m : MethodId} {args : Array Value} {below : List Frame} {meth : Method} {c : Code} {Q : State → Prop} {dC : Nat → ClassId} {dI : Nat → Nat → Nat} {cI cB cJ cZ : ClassId} {A : Nat → Prop} {E : Heap} {tM tC : Nat} {kK kV : Nat → Nat} {ad0 : Nat → Nat} {NN0 : Nat} {post : St → Prop} {rec5 : Nat → Int64 → Int64 → Int32 → Nat → Nat → St → Prop} (hx : p.tables.exec = Jvm.exec) (hb : c.code = b_Snk_putVarint) (hml : c.maxLocals = 7) (hown : s.vm.findClass R_Snk = some m.cls) (hT : ∀ w ∈ TG, w.before args s = true) (hK : va_K (dC, dI) CL (TY cI cB cJ cZ) s) (hN : NW s) (hA : ∀ q : Nat, s.heap.size ≤ q → A q) (hRf : 3 ≤ R.frames) (hRl : 221 ≤ R.locals) (hE : CE E tM tC kK kV A s) (hret : ∀ (ad : Nat → Nat) (NN cells slots : Nat) (x : St) (H : Heap) (locs : List Loc) (pc : Nat) (ls : Array Slot), decode b_Snk_putVarint pc = .ok (.return_, 1) → (NN0 ≤ NN ∧ ∀ o : Nat, o < NN0 → ad o = ad0 o) → cells ≤ R.cells → slots ≤ R.slots → post x → Wd dC dI cI cB cJ cZ ad stC kcC NN A x H → va_S A s.heap H locs → W p l e R s m args below meth c H locs cells slots Q (F0 m pc ls [])) (hrec5 : ∀ (ad : Nat → Nat) (NN cells slots : Nat) (o : Nat) (l1 : Int64) (l3 : Int64) (l5 : Int32) (kb : Nat) (nb : Nat) (x : St) (H : Heap) (locs : List Loc) (ls : Array Slot), (152 ≤ NN) → (NN0 ≤ NN ∧ ∀ o : Nat, o < NN0 → ad o = ad0 o) → (cells + kb ≤ R.cells) → (slots + nb ≤ R.slots) → (o < NN ∧ kcC o = 1) → rec5 o l1 l3 l5 kb nb x → Wd dC dI cI cB cJ cZ ad stC kcC NN A x H → va_S A s.heap H locs → lv_has ls 7 [(0, .ref (ad o)), (1, .long l1), (3, .long l3), (5, .int l5)] → W p l e R s m args below meth c H locs cells slots Q (F0 m 5 ls [])) : ∀ (ad : Nat → Nat) (NN cells slots : Nat) (o : Nat) (l1 : Int64) (l3 : Int64) (l5 : Int32) (l6 : Int32) (s0 : Int32) (s1 : Int64) (s2 : Int32) (s3 : Nat) (kb : Nat) (nb : Nat) (x : St) (H : Heap) (locs : List Loc) (ls : Array Slot), (152 ≤ NN) → (NN0 ≤ NN ∧ ∀ o : Nat, o < NN0 → ad o = ad0 o) → (cells + kb ≤ R.cells) → (slots + nb ≤ R.slots) → (o < NN ∧ kcC o = 1) → (s3 < NN ∧ kcC s3 = 21) → j_Snk_putVarint_61 post rec5 o l1 l3 l5 l6 s0 s1 s2 s3 kb nb x → Wd dC dI cI cB cJ cZ ad stC kcC NN A x H → va_S A s.heap H locs → lv_has ls 7 [(0, .ref (ad o)), (1, .long l1), (3, .long l3), (5, .int l5), (6, .int l6)] → W p l e R s m args below meth c H locs cells slots Q (F0 m 61 ls [.int s0, .long s1, .int s2, .ref (ad s3)]) := by
  intro ad NN cells slots o l1 l3 l5 l6 s0 s1 s2 s3 kb nb x H locs ls hNN hag hRc hRs fo fs3 hw hW hS hl
  unfold j_Snk_putVarint_61 at hw
  refine lv_i2l hx hb d_Snk_putVarint_61 rfl ?_
  refine lv_lor hx hb d_Snk_putVarint_62 ?_
  refine lv_l2i hx hb d_Snk_putVarint_63 rfl ?_
  refine lv_i2b hx hb d_Snk_putVarint_64 rfl ?_
  obtain ⟨hi, hw⟩ := hw
  refine w_bast (o := s3) hx hb hK hW hS fs3.1 fs3.2 hi d_Snk_putVarint_65 (fun H locs hW hS => ?_)
  obtain ⟨x1, ex1⟩ : ∃ y : St, y = setA x s3 s2 (vp_nar .byte (((s1 ||| (s0 : Int32).toInt64) : Int64).toInt32 : Int32).toInt8.toInt32) := ⟨_, rfl⟩
  rw [← ex1] at hW
  have hw := hw x1 ex1
  refine lv_aload_n hx hb d_Snk_putVarint_66 rfl (lv_at hl 0 rfl) ?_
  refine lv_dup hx hb d_Snk_putVarint_67 rfl ?_
  refine w_geti (k := 1) (t := 1) (C := R_Snk) (T := F_Snk) (N := 7) hx hb hT hown hK hW fo.1 fo.2 (by decide) in_Snk rfl rfl (by decide) rfl fr_Snk_1 w_1_43 d_Snk_putVarint_68 ?_
  refine lv_iconst (v := 1) hx hb d_Snk_putVarint_71 (by decide) ?_
  refine lv_iadd hx hb d_Snk_putVarint_72 ?_
  refine w_puti (ty := .int) (k := 1) (t := 1) (C := R_Snk) (T := F_Snk) (N := 7) hx hb hT hown hK hW hS fo.1 fo.2 (by decide) in_Snk t_Snk t_Snk_ok n_Snk rfl rfl (by decide) rfl fr_Snk_1 w_1_43 (by decide +kernel) rfl rfl d_Snk_putVarint_73 (fun H locs hW hS => ?_)
  obtain ⟨x2, ex2⟩ : ∃ y : St, y = setI x1 o 1 ((fI x1 o 1) + 1) := ⟨_, rfl⟩
  rw [← ex2] at hW
  have hw := hw x2 ex2
  refine lv_iload hx hb d_Snk_putVarint_76 (lv_at hl 4 rfl) ?_
  refine lv_if_eq (tgt := 82) hx hb d_Snk_putVarint_78 (by decide) (fun c3 => ?_) (fun c3 => ?_)
  · have hw := hw.1 c3
    refine lv_lload_n hx hb d_Snk_putVarint_82 rfl (lv_at hl 2 rfl) ?_
    refine lv_bipush (v := 7) hx hb d_Snk_putVarint_83 (by decide) ?_
    refine lv_lushr hx hb d_Snk_putVarint_85 rfl ?_
    refine lv_topl (fun v4 ev4 => ?_)
    have hw := hw v4 ev4
    refine lv_lstore_n (lv' := [(3, .long v4), (0, .ref (ad o)), (1, .long l1), (5, .int l5), (6, .int l6)]) hx hb d_Snk_putVarint_86 rfl hl (by decide) rfl (fun ls hl => ?_)
    refine lv_iinc (v := (l5 + 1)) (lv' := [(5, .int (l5 + 1)), (3, .long v4), (0, .ref (ad o)), (1, .long l1), (6, .int l6)]) hx hb d_Snk_putVarint_87 hl (k := 3) rfl rfl (by decide) rfl (fun ls hl => ?_)
    refine lv_goto (tgt := 5) hx hb d_Snk_putVarint_90 (by decide) ?_
    exact hrec5 ad NN cells slots o l1 v4 (l5 + 1) kb nb x2 H locs ls hNN hag hRc hRs fo hw hW hS (lv_sub hl [2, 3, 1, 0] rfl)
  · have hw := hw.2 c3
    exact hret ad NN cells slots x2 H locs 81 ls d_Snk_putVarint_81 hag (Nat.le_trans (Nat.le_add_right _ _) hRc) (Nat.le_trans (Nat.le_add_right _ _) hRs) hw hW hS
set_option maxRecDepth 100000 in
set_option maxHeartbeats 4000000 in
set_option maxRecDepth 100000 in
theorem t_Snk_putVarint_34 {p : Program} {l : Launch} {e : Env} {R : Room} {s : State} {m : MethodId} {args : Array Value} {below : List Frame} {meth : Method} {c : Code} {Q : State → Prop} {dC : Nat → ClassId} {dI : Nat → Nat → Nat} {cI cB cJ cZ : ClassId} {A : Nat → Prop} {E : Heap} {tM tC : Nat} {kK kV : Nat → Nat} {ad0 : Nat → Nat} {NN0 : Nat} {post : St → Prop} {rec5 : Nat → Int64 → Int64 → Int32 → Nat → Nat → St → Prop} (hx : p.tables.exec = Jvm.exec) (hb : c.code = b_Snk_putVarint) (hml : c.maxLocals = 7) (hown : s.vm.findClass R_Snk = some m.cls) (hT : ∀ w ∈ TG, w.before args s = true) (hK : va_K (dC, dI) CL (TY cI cB cJ cZ) s) (hN : NW s) (hA : ∀ q : Nat, s.heap.size ≤ q → A q) (hRf : 3 ≤ R.frames) (hRl : 221 ≤ R.locals) (hE : CE E tM tC kK kV A s) (hret : ∀ (ad : Nat → Nat) (NN cells slots : Nat) (x : St) (H : Heap) (locs : List Loc) (pc : Nat) (ls : Array Slot), decode b_Snk_putVarint pc = .ok (.return_, 1) → (NN0 ≤ NN ∧ ∀ o : Nat, o < NN0 → ad o = ad0 o) → cells ≤ R.cells → slots ≤ R.slots → post x → Wd dC dI cI cB cJ cZ ad stC kcC NN A x H → va_S A s.heap H locs → W p l e R s m args below meth c H locs cells slots Q (F0 m pc ls [])) (hrec5 : ∀ (ad : Nat → Nat) (NN cells slots : Nat) (o : Nat) (l1 : Int64) (l3 : Int64) (l5 : Int32) (kb : Nat) (nb : Nat) (x : St) (H : Heap) (locs : List Loc) (ls : Array Slot), (152 ≤ NN) → (NN0 ≤ NN ∧ ∀ o : Nat, o < NN0 → ad o = ad0 o) → (cells + kb ≤ R.cells) → (slots + nb ≤ R.slots) → (o < NN ∧ kcC o = 1) → rec5 o l1 l3 l5 kb nb x → Wd dC dI cI cB cJ cZ ad stC kcC NN A x H → va_S A s.heap H locs → lv_has ls 7 [(0, .ref (ad o)), (1, .long l1), (3, .long l3), (5, .int l5)] → W p l e R s m args below meth c H locs cells slots Q (F0 m 5 ls [])) : ∀ (ad : Nat → Nat) (NN cells slots : Nat) (o : Nat) (l1 : Int64) (l3 : Int64) (l5 : Int32) (s0 : Int32) (kb : Nat) (nb : Nat) (x : St) (H : Heap) (locs : List Loc) (ls : Array Slot), (152 ≤ NN) → (NN0 ≤ NN ∧ ∀ o : Nat, o < NN0 → ad o = ad0 o) → (cells + kb ≤ R.cells) → (slots + nb ≤ R.slots) → (o < NN ∧ kcC o = 1) → j_Snk_putVarint_34 post rec5 o l1 l3 l5 s0 kb nb x → Wd dC dI cI cB cJ cZ ad stC kcC NN A x H → va_S A s.heap H locs → lv_has ls 7 [(0, .ref (ad o)), (1, .long l1), (3, .long l3), (5, .int l5)] → W p l e R s m args below meth c H locs cells slots Q (F0 m 34 ls [.int s0]) := by
  intro ad NN cells slots o l1 l3 l5 s0 kb nb x H locs ls hNN hag hRc hRs fo hw hW hS hl
  unfold j_Snk_putVarint_34 at hw
  refine lv_istore (lv' := [(6, .int s0), (0, .ref (ad o)), (1, .long l1), (3, .long l3), (5, .int l5)]) hx hb d_Snk_putVarint_34 hl (by decide) rfl (fun ls hl => ?_)
  refine lv_aload_n hx hb d_Snk_putVarint_36 rfl (lv_at hl 1 rfl) ?_
  obtain ⟨q5, hq5, hw⟩ := hw
  refine w_getr (q := q5) (k := 0) (t := 1) (C := R_Snk) (T := F_Snk) (N := 7) hx hb hT hown hK hW fo.1 fo.2 (by decide) in_Snk rfl rfl (by decide) rfl fr_Snk_0 w_1_40 d_Snk_putVarint_37 hq5 (fun aq5 bq5 => ?_)
  have fq5 : q5 < NN ∧ kcC q5 = 21 := ⟨aq5, bq5⟩
  refine lv_aload_n hx hb d_Snk_putVarint_40 rfl (lv_at hl 1 rfl) ?_
  refine w_geti (k := 1) (t := 1) (C := R_Snk) (T := F_Snk) (N := 7) hx hb hT hown hK hW fo.1 fo.2 (by decide) in_Snk rfl rfl (by decide) rfl fr_Snk_1 w_1_43 d_Snk_putVarint_41 ?_
  refine lv_lload_n hx hb d_Snk_putVarint_44 rfl (lv_at hl 3 rfl) ?_
  refine lv_ldc2 hx hb hown (hT _ w_5_144) d_Snk_putVarint_45 ?_
  refine lv_land hx hb d_Snk_putVarint_48 ?_
  refine lv_iload hx hb d_Snk_putVarint_49 (lv_at hl 0 rfl) ?_
  refine lv_if_eq (tgt := 58) hx hb d_Snk_putVarint_51 (by decide) (fun c6 => ?_) (fun c6 => ?_)
  · have hw := hw.1 c6
    refine lv_sipush (v := 128) hx hb d_Snk_putVarint_58 (by decide) ?_
    exact t_Snk_putVarint_61 hx hb hml hown hT hK hN hA hRf hRl hE hret hrec5 ad NN cells slots o l1 l3 l5 s0 128 (l3 &&& 127) (fI x o 1) q5 kb nb x H locs ls hNN hag hRc hRs fo fq5 hw hW hS (lv_sub hl [1, 2, 3, 4, 0] rfl)
  · have hw := hw.2 c6
    refine lv_iconst (v := 0) hx hb d_Snk_putVarint_54 (by decide) ?_
    refine lv_goto (tgt := 61) hx hb d_Snk_putVarint_55 (by decide) ?_
    exact t_Snk_putVarint_61 hx hb hml hown hT hK hN hA hRf hRl hE hret hrec5 ad NN cells slots o l1 l3 l5 s0 0 (l3 &&& 127) (fI x o 1) q5 kb nb x H locs ls hNN hag hRc hRs fo fq5 hw hW hS (lv_sub hl [1, 2, 3, 4, 0] rfl)
set_option maxRecDepth 100000 in
set_option maxHeartbeats 4000000 in
set_option maxRecDepth 100000 in
theorem t_Snk_putVarint_5 {p : Program} {l : Launch} {e : Env} {R : Room} {s : State} {m : MethodId} {args : Array Value} {below : List Frame} {meth : Method} {c : Code} {Q : State → Prop} {dC : Nat → ClassId} {dI : Nat → Nat → Nat} {cI cB cJ cZ : ClassId} {A : Nat → Prop} {E : Heap} {tM tC : Nat} {kK kV : Nat → Nat} {ad0 : Nat → Nat} {NN0 : Nat} {post : St → Prop} {rec5 : Nat → Int64 → Int64 → Int32 → Nat → Nat → St → Prop} (hx : p.tables.exec = Jvm.exec) (hb : c.code = b_Snk_putVarint) (hml : c.maxLocals = 7) (hown : s.vm.findClass R_Snk = some m.cls) (hT : ∀ w ∈ TG, w.before args s = true) (hK : va_K (dC, dI) CL (TY cI cB cJ cZ) s) (hN : NW s) (hA : ∀ q : Nat, s.heap.size ≤ q → A q) (hRf : 3 ≤ R.frames) (hRl : 221 ≤ R.locals) (hE : CE E tM tC kK kV A s) (hret : ∀ (ad : Nat → Nat) (NN cells slots : Nat) (x : St) (H : Heap) (locs : List Loc) (pc : Nat) (ls : Array Slot), decode b_Snk_putVarint pc = .ok (.return_, 1) → (NN0 ≤ NN ∧ ∀ o : Nat, o < NN0 → ad o = ad0 o) → cells ≤ R.cells → slots ≤ R.slots → post x → Wd dC dI cI cB cJ cZ ad stC kcC NN A x H → va_S A s.heap H locs → W p l e R s m args below meth c H locs cells slots Q (F0 m pc ls [])) (hrec5 : ∀ (ad : Nat → Nat) (NN cells slots : Nat) (o : Nat) (l1 : Int64) (l3 : Int64) (l5 : Int32) (kb : Nat) (nb : Nat) (x : St) (H : Heap) (locs : List Loc) (ls : Array Slot), (152 ≤ NN) → (NN0 ≤ NN ∧ ∀ o : Nat, o < NN0 → ad o = ad0 o) → (cells + kb ≤ R.cells) → (slots + nb ≤ R.slots) → (o < NN ∧ kcC o = 1) → rec5 o l1 l3 l5 kb nb x → Wd dC dI cI cB cJ cZ ad stC kcC NN A x H → va_S A s.heap H locs → lv_has ls 7 [(0, .ref (ad o)), (1, .long l1), (3, .long l3), (5, .int l5)] → W p l e R s m args below meth c H locs cells slots Q (F0 m 5 ls [])) : ∀ (ad : Nat → Nat) (NN cells slots : Nat) (o : Nat) (l1 : Int64) (l3 : Int64) (l5 : Int32) (kb : Nat) (nb : Nat) (x : St) (H : Heap) (locs : List Loc) (ls : Array Slot), (152 ≤ NN) → (NN0 ≤ NN ∧ ∀ o : Nat, o < NN0 → ad o = ad0 o) → (cells + kb ≤ R.cells) → (slots + nb ≤ R.slots) → (o < NN ∧ kcC o = 1) → j_Snk_putVarint_5 post rec5 o l1 l3 l5 kb nb x → Wd dC dI cI cB cJ cZ ad stC kcC NN A x H → va_S A s.heap H locs → lv_has ls 7 [(0, .ref (ad o)), (1, .long l1), (3, .long l3), (5, .int l5)] → W p l e R s m args below meth c H locs cells slots Q (F0 m 5 ls []) := by
  intro ad NN cells slots o l1 l3 l5 kb nb x H locs ls hNN hag hRc hRs fo hw hW hS hl
  unfold j_Snk_putVarint_5 at hw
  refine lv_iload hx hb d_Snk_putVarint_5 (lv_at hl 3 rfl) ?_
  refine lv_bipush (v := 10) hx hb d_Snk_putVarint_7 (by decide) ?_
  refine lv_icmp_ge (tgt := 93) hx hb d_Snk_putVarint_9 (by decide) (fun c7 => ?_) (fun c7 => ?_)
  · have hw := hw.1 c7
    exact hret ad NN cells slots x H locs 93 ls d_Snk_putVarint_93 hag (Nat.le_trans (Nat.le_add_right _ _) hRc) (Nat.le_trans (Nat.le_add_right _ _) hRs) hw hW hS
  · have hw := hw.2 c7
    refine lv_aload_n hx hb d_Snk_putVarint_12 rfl (lv_at hl 0 rfl) ?_
    refine lv_iconst (v := 1) hx hb d_Snk_putVarint_13 (by decide) ?_
    obtain ⟨k8, n9, k10, n11, ek8, en9, hw⟩ := hw
    have hF := hW.free hS hA
    refine va_calli (va_runV (C := R_Snk) (As := [.int 1]) (rest := []) ⟨hx, hb, hml, hown, hT⟩ (k_Snk_hasRoom l dC dI cI cB cJ cZ ad NN E tM tC kK kV hNN H.size o 1 k8 n9 x fo hw) ⟨callB_of 1 hT (gwt_in w_4_56) rfl rfl rfl (hT _ w_1_2) (hT _ w_4_53) (by decide +kernel) ⟨Nat.le_trans (Nat.le_of_ble_eq_true rfl) hRf, Nat.le_trans (Nat.le_of_ble_eq_true rfl) hRl⟩, hT _ w_4_55, hT _ ws_1⟩ ⟨PVc.blind, va_recv hK hW.1 (ci := 1) (q0 := o) rfl (pic_obj fo.1 fo.2 (by decide)), PVc.at _ hW hK hN hE hS hF⟩ rfl rfl hl.1 rfl (lv_room (Nat.le_of_ble_eq_true rfl)) d_Snk_putVarint_14 ⟨show cells + k8 ≤ R.cells by omega, show slots + n9 ≤ R.slots by omega⟩) hS (fun q _ h => hF q h) hF (fun r13 x12 t H locs ht hvm hw hB hz1 hk1 hS => ?_)
    obtain ⟨x12, ad, NN⟩ := x12
    obtain ⟨hB, hle, hg⟩ := hB
    try dsimp only at hw hB hle hg
    have hW := Wd.back hB ht hF
    rw [← hg o fo.1] at hl
    have fo : o < NN ∧ kcC o = 1 := ⟨Nat.lt_of_lt_of_le fo.1 hle, fo.2⟩
    have hag : NN0 ≤ NN ∧ ∀ o : Nat, o < NN0 → ad o = ad0 o := ⟨Nat.le_trans hag.1 hle, fun o h => (hg o (Nat.lt_of_lt_of_le h hag.1)).trans (hag.2 o h)⟩
    have hNN : 152 ≤ NN := Nat.le_trans hNN hle
    clear hg hle
    obtain ⟨cells, ec⟩ : ∃ z, z = cells + k8 := ⟨_, rfl⟩
    obtain ⟨slots, es⟩ : ∃ z, z = slots + n9 := ⟨_, rfl⟩
    first | rw [← ec, ← es] | rw [Nat.add_zero, Nat.add_zero, ← ec, ← es]
    have hRc : cells + k10 ≤ R.cells := by omega
    have hRs : slots + n11 ≤ R.slots := by omega
    clear ec es hB ht hF hz1 hk1 hvm ek8 en9
    refine lv_if_eq (tgt := 93) hx hb d_Snk_putVarint_17 (by decide) (fun c14 => ?_) (fun c14 => ?_)
    · have hw := hw.1 c14
      exact hret ad NN cells slots x12 H locs 93 ls d_Snk_putVarint_93 hag (Nat.le_trans (Nat.le_add_right _ _) hRc) (Nat.le_trans (Nat.le_add_right _ _) hRs) hw hW hS
    · have hw := hw.2 c14
      refine lv_lload_n hx hb d_Snk_putVarint_20 rfl (lv_at hl 2 rfl) ?_
      refine lv_bipush (v := 7) hx hb d_Snk_putVarint_21 (by decide) ?_
      refine lv_lushr hx hb d_Snk_putVarint_23 rfl ?_
      refine lv_lconst (v := 0) hx hb d_Snk_putVarint_24 (by decide) ?_
      refine W.lcmp hx hb d_Snk_putVarint_25 ?_
      refine lv_if_ne (tgt := 33) hx hb d_Snk_putVarint_26 (by decide) (fun c15 => ?_) (fun c15 => ?_)
      · have hw := hw.1 c15
        refine lv_iconst (v := 0) hx hb d_Snk_putVarint_33 (by decide) ?_
        exact t_Snk_putVarint_34 hx hb hml hown hT hK hN hA hRf hRl hE hret hrec5 ad NN cells slots o l1 l3 l5 0 k10 n11 x12 H locs ls hNN hag hRc hRs fo hw hW hS (lv_sub hl [0, 1, 2, 3] rfl)
      · have hw := hw.2 c15
        refine lv_iconst (v := 1) hx hb d_Snk_putVarint_29 (by decide) ?_
        refine lv_goto (tgt := 34) hx hb d_Snk_putVarint_30 (by decide) ?_
        exact t_Snk_putVarint_34 hx hb hml hown hT hK hN hA hRf hRl hE hret hrec5 ad NN cells slots o l1 l3 l5 1 k10 n11 x12 H locs ls hNN hag hRc hRs fo hw hW hS (lv_sub hl [0, 1, 2, 3] rfl)
set_option maxHeartbeats 4000000 in
set_option maxRecDepth 100000 in
theorem tl_Snk_putVarint_5 {p : Program} {l : Launch} {e : Env} {R : Room} {s : State} {m : MethodId} {args : Array Value} {below : List Frame} {meth : Method} {c : Code} {Q : State → Prop} {dC : Nat → ClassId} {dI : Nat → Nat → Nat} {cI cB cJ cZ : ClassId} {A : Nat → Prop} {E : Heap} {tM tC : Nat} {kK kV : Nat → Nat} {ad0 : Nat → Nat} {NN0 : Nat} {post : St → Prop} (hx : p.tables.exec = Jvm.exec) (hb : c.code = b_Snk_putVarint) (hml : c.maxLocals = 7) (hown : s.vm.findClass R_Snk = some m.cls) (hT : ∀ w ∈ TG, w.before args s = true) (hK : va_K (dC, dI) CL (TY cI cB cJ cZ) s) (hN : NW s) (hA : ∀ q : Nat, s.heap.size ≤ q → A q) (hRf : 3 ≤ R.frames) (hRl : 221 ≤ R.locals) (hE : CE E tM tC kK kV A s) (hret : ∀ (ad : Nat → Nat) (NN cells slots : Nat) (x : St) (H : Heap) (locs : List Loc) (pc : Nat) (ls : Array Slot), decode b_Snk_putVarint pc = .ok (.return_, 1) → (NN0 ≤ NN ∧ ∀ o : Nat, o < NN0 → ad o = ad0 o) → cells ≤ R.cells → slots ≤ R.slots → post x → Wd dC dI cI cB cJ cZ ad stC kcC NN A x H → va_S A s.heap H locs → W p l e R s m args below meth c H locs cells slots Q (F0 m pc ls []))  : ∀ n : Nat, ∀ (ad : Nat → Nat) (NN cells slots : Nat) (o : Nat) (l1 : Int64) (l3 : Int64) (l5 : Int32) (kb : Nat) (nb : Nat) (x : St) (H : Heap) (locs : List Loc) (ls : Array Slot), (152 ≤ NN) → (NN0 ≤ NN ∧ ∀ o : Nat, o < NN0 → ad o = ad0 o) → (cells + kb ≤ R.cells) → (slots + nb ≤ R.slots) → (o < NN ∧ kcC o = 1) → wl_Snk_putVarint_5 post n o l1 l3 l5 kb nb x → Wd dC dI cI cB cJ cZ ad stC kcC NN A x H → va_S A s.heap H locs → lv_has ls 7 [(0, .ref (ad o)), (1, .long l1), (3, .long l3), (5, .int l5)] → W p l e R s m args below meth c H locs cells slots Q (F0 m 5 ls []) := by
  intro n
  induction n with
  | zero => intro ad NN cells slots o l1 l3 l5 kb nb x H locs ls hNN hag hRc hRs fo hw; exact hw.elim
  | succ n ih => intro ad NN cells slots o l1 l3 l5 kb nb x H locs ls hNN hag hRc hRs fo hw hW hS hl; exact t_Snk_putVarint_5 hx hb hml hown hT hK hN hA hRf hRl hE hret  ih ad NN cells slots o l1 l3 l5 kb nb x H locs ls hNN hag hRc hRs fo hw hW hS hl
set_option maxRecDepth 100000 in
set_option maxHeartbeats 4000000 in
set_option maxRecDepth 100000 in
theorem t_Snk_putVarint_e {p : Program} {l : Launch} {e : Env} {R : Room} {s : State} {m : MethodId} {args : Array Value} {below : List Frame} {meth : Method} {c : Code} {Q : State → Prop} {dC : Nat → ClassId} {dI : Nat → Nat → Nat} {cI cB cJ cZ : ClassId} {A : Nat → Prop} {E : Heap} {tM tC : Nat} {kK kV : Nat → Nat} {ad0 : Nat → Nat} {NN0 : Nat} {post : St → Prop} (hx : p.tables.exec = Jvm.exec) (hb : c.code = b_Snk_putVarint) (hml : c.maxLocals = 7) (hown : s.vm.findClass R_Snk = some m.cls) (hT : ∀ w ∈ TG, w.before args s = true) (hK : va_K (dC, dI) CL (TY cI cB cJ cZ) s) (hN : NW s) (hA : ∀ q : Nat, s.heap.size ≤ q → A q) (hRf : 3 ≤ R.frames) (hRl : 221 ≤ R.locals) (hE : CE E tM tC kK kV A s) (hret : ∀ (ad : Nat → Nat) (NN cells slots : Nat) (x : St) (H : Heap) (locs : List Loc) (pc : Nat) (ls : Array Slot), decode b_Snk_putVarint pc = .ok (.return_, 1) → (NN0 ≤ NN ∧ ∀ o : Nat, o < NN0 → ad o = ad0 o) → cells ≤ R.cells → slots ≤ R.slots → post x → Wd dC dI cI cB cJ cZ ad stC kcC NN A x H → va_S A s.heap H locs → W p l e R s m args below meth c H locs cells slots Q (F0 m pc ls [])) : ∀ (ad : Nat → Nat) (NN cells slots : Nat) (o : Nat) (l1 : Int64) (kb : Nat) (nb : Nat) (x : St) (H : Heap) (locs : List Loc) (ls : Array Slot), (152 ≤ NN) → (NN0 ≤ NN ∧ ∀ o : Nat, o < NN0 → ad o = ad0 o) → (cells + kb ≤ R.cells) → (slots + nb ≤ R.slots) → (o < NN ∧ kcC o = 1) → wp_Snk_putVarint post o l1 kb nb x → Wd dC dI cI cB cJ cZ ad stC kcC NN A x H → va_S A s.heap H locs → lv_has ls 7 [(0, .ref (ad o)), (1, .long l1)] → W p l e R s m args below meth c H locs cells slots Q (F0 m 0 ls []) := by
  intro ad NN cells slots o l1 kb nb x H locs ls hNN hag hRc hRs fo hw hW hS hl
  unfold wp_Snk_putVarint at hw
  refine lv_lload_n hx hb d_Snk_putVarint_0 rfl (lv_at hl 1 rfl) ?_
  refine lv_lstore_n (lv' := [(3, .long l1), (0, .ref (ad o)), (1, .long l1)]) hx hb d_Snk_putVarint_1 rfl hl (by decide) rfl (fun ls hl => ?_)
  refine lv_iconst (v := 0) hx hb d_Snk_putVarint_2 (by decide) ?_
  refine lv_istore (lv' := [(5, .int 0), (3, .long l1), (0, .ref (ad o)), (1, .long l1)]) hx hb d_Snk_putVarint_3 hl (by decide) rfl (fun ls hl => ?_)
  obtain ⟨n, hw⟩ := hw
  exact tl_Snk_putVarint_5 hx hb hml hown hT hK hN hA hRf hRl hE hret  n ad NN cells slots o l1 l1 0 kb nb x H locs ls hNN hag hRc hRs fo hw hW hS (lv_sub hl [2, 3, 1, 0] rfl)
set_option maxHeartbeats 4000000 in
set_option maxRecDepth 100000 in
theorem k_Snk_putVarint (l : Launch) (dC : Nat → ClassId) (dI : Nat → Nat → Nat) (cI cB cJ cZ : ClassId) (ad : Nat → Nat) (NN : Nat) (E : Heap) (tM tC : Nat) (kK kV : Nat → Nat) (hNN : 152 ≤ NN) (sz : Nat) (o : Nat) (l1 : Int64) (kb : Nat) (nb : Nat) (x : St) (fo : o < NN ∧ kcC o = 1) {post : St → Prop} (hw : wp_Snk_putVarint post o l1 kb nb x) : Met l y_Snk_putVarint (wsOf y_Snk_putVarint b_Snk_putVarint 7 (none)) ({ frames := 3, cells := kb, slots := nb, locals := 221 }) (va_Pc [.ref (ad o), .long l1] (PVc dC dI cI cB cJ cZ ad stC kcC NN E tM tC kK kV sz x)) (va_Qv (fun (u : St × (Nat → Nat) × Nat) => post u.1) (fun u t => Wd dC dI cI cB cJ cZ u.2.1 stC kcC u.2.2 (va_A (pic ad stC kcC NN cI cB cJ cZ x) sz) u.1 t.heap ∧ NN ≤ u.2.2 ∧ ∀ o : Nat, o < NN → u.2.1 o = ad o) (va_A (pic ad stC kcC NN cI cB cJ cZ x) sz)) kb nb (va_A (pic ad stC kcC NN cI cB cJ cZ x) sz) := by
  refine Met.ofW (cc := b_Snk_putVarint) (maxL := 7) (ret := none) (by decide) rfl ?_
  intro p e s m args below meth c s₁ B hml hv
  obtain ⟨rfl, ⟨hsz, hW0, hK, hN⟩, hE⟩ := hv
  have hx := B.exec
  have hb := B.bytes
  have hr := B.returns
  have hts := atoms_spec B.pre
  have hT : ∀ w ∈ TG, w.before _ s = true := fun w h => hts w (List.mem_cons_of_mem _ h)
  have hown : s.vm.findClass R_Snk = some m.cls := findClass_of_methodNamed B.named
  have hlocks := B.notSynchronized
  subst hsz
  have hW : Wd dC dI cI cB cJ cZ ad stC kcC NN (va_A (pic ad stC kcC NN cI cB cJ cZ x) s.heap.size) x s.heap := ⟨hW0.1, hW0.2.1.self (sz := s.heap.size), hW0.2.2⟩
  generalize hAe : va_A (pic ad stC kcC NN cI cB cJ cZ x) s.heap.size = A at hW hE ⊢
  have hA : ∀ q : Nat, s.heap.size ≤ q → A q := fun q h => by rw [← hAe]; exact Or.inr h
  have hS : va_S A s.heap s.heap [] := va_S.rf
  have hl := lv_entry ([.ref (ad o), .long l1]) (n := 7) (Nat.le_of_ble_eq_true rfl)
  rw [lg_entry_eq]
  generalize (lg_sl ([.ref (ad o), .long l1]) ++ List.replicate (7 - (lg_sl ([.ref (ad o), .long l1])).length) Slot.unset).toArray = ls at hl ⊢
  have hl : lv_has ls 7 [(0, .ref (ad o)), (1, .long l1)] := hl
  exact t_Snk_putVarint_e hx hb hml hown hT hK hN hA (Nat.le_refl 3) (Nat.le_refl 221) hE (fun ad1 NN1 cells slots x1 H locs pc ls hd hag hc hs hp hW hS => W.widen (k := kb) (n := nb) hc hs (W.vret hx hb hr (fun t ht hM => ⟨⟨(x1, ad1, NN1), rfl, hp, Wd.back hW ht.symm (fun _ z => z), hag.1, hag.2⟩, hS.F ht⟩) hS.2.2 hd hlocks))  ad NN 0 0 o l1 kb nb x _ _ ls hNN ⟨Nat.le_refl _, fun _ _ => rfl⟩ (Nat.le_of_eq (Nat.zero_add kb)) (Nat.le_of_eq (Nat.zero_add nb)) fo hw hW hS hl
end
