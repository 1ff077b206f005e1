theorem fr_Ans_0 : F_Ans 0 = (R_Ans, "ready", "Z", false) := rfl
theorem fr_Ans_1 : F_Ans 1 = (R_Ans, "count", "I", false) := rfl
theorem fr_Ans_2 : F_Ans 2 = (R_Ans, "skippedGroups", "I", false) := rfl
theorem fr_Ans_3 : F_Ans 3 = (R_Ans, "skippedStretches", "I", false) := rfl
theorem fr_Ans_6 : F_Ans 6 = (R_Ans, "collects", "Z", false) := rfl
theorem fr_Ans_7 : F_Ans 7 = (R_Ans, "items", "I", false) := rfl
theorem fr_Mod_113 : F_Mod 113 = (R_Mod, "outSize", "I", false) := rfl
theorem fr_Mod_121 : F_Mod 121 = (R_Mod, "answered", "Z", false) := rfl
theorem fr_Mod_163 : F_Mod 163 = (R_Mod, "skippedGroups", "I", false) := rfl
theorem fr_Mod_164 : F_Mod 164 = (R_Mod, "skippedStretches", "I", false) := rfl
theorem w_3_155 : (Jvm.Cond.fieldLink "StripedVault$Answer" (39 : Nat) "StripedVault$Answer" "ready" "Z") ∈ TG := tw_3 155 (by decide +kernel) (by decide +kernel)
theorem w_3_156 : (Jvm.Cond.fieldLink "StripedVault" (168 : Nat) "StripedVault$Answer" "ready" "Z") ∈ TG := tw_3 156 (by decide +kernel) (by decide +kernel)
theorem w_3_157 : (Jvm.Cond.fieldLink "StripedVault$Answer" (46 : Nat) "StripedVault$Answer" "count" "I") ∈ TG := tw_3 157 (by decide +kernel) (by decide +kernel)
theorem w_3_160 : (Jvm.Cond.fieldLink "StripedVault" (233 : Nat) "StripedVault$Answer" "skippedGroups" "I") ∈ TG := tw_3 160 (by decide +kernel) (by decide +kernel)
theorem w_3_162 : (Jvm.Cond.fieldLink "StripedVault" (236 : Nat) "StripedVault$Answer" "skippedStretches" "I") ∈ TG := tw_3 162 (by decide +kernel) (by decide +kernel)
theorem w_3_166 : (Jvm.Cond.fieldLink "StripedVault$Answer" (43 : Nat) "StripedVault$Answer" "collects" "Z") ∈ TG := tw_3 166 (by decide +kernel) (by decide +kernel)
theorem w_3_167 : (Jvm.Cond.fieldLink "StripedVault$Answer" (50 : Nat) "StripedVault$Answer" "items" "I") ∈ TG := tw_3 167 (by decide +kernel) (by decide +kernel)
theorem w_3_20 : (Jvm.Cond.fieldLink "StripedVault" (179 : Nat) "StripedVault$Opener" "where" "[I") ∈ TG := tw_3 20 (by decide +kernel) (by decide +kernel)
theorem w_3_222 : (Jvm.Cond.fieldLink "StripedVault" (239 : Nat) "StripedVault$Assembler" "out" "LStripedVault$Sink;") ∈ TG := tw_3 222 (by decide +kernel) (by decide +kernel)
theorem w_9_103 : (Jvm.Cond.fieldLink "StripedVaultModel" (1166 : Nat) "StripedVaultModel" "skippedGroups" "I") ∈ TG := tw_9 103 (by decide +kernel) (by decide +kernel)
theorem w_9_104 : (Jvm.Cond.fieldLink "StripedVaultModel" (1169 : Nat) "StripedVaultModel" "skippedStretches" "I") ∈ TG := tw_9 104 (by decide +kernel) (by decide +kernel)
theorem w_9_53 : (Jvm.Cond.fieldLink "StripedVaultModel" (935 : Nat) "StripedVaultModel" "outSize" "I") ∈ TG := tw_9 53 (by decide +kernel) (by decide +kernel)
theorem w_9_61 : (Jvm.Cond.fieldLink "StripedVaultModel" (923 : Nat) "StripedVaultModel" "answered" "Z") ∈ TG := tw_9 61 (by decide +kernel) (by decide +kernel)
theorem d_V_fault_0 : decode b_V_fault 0 = .ok (.iload_n 1, 1) := by decide +kernel
theorem d_V_fault_1 : decode b_V_fault 1 = .ok (.ifCond .lt 8, 3) := by decide +kernel
theorem d_V_fault_9 : decode b_V_fault 9 = .ok (.iconst (-1), 1) := by decide +kernel
theorem d_V_fault_10 : decode b_V_fault 10 = .ok (.goto 12, 3) := by decide +kernel
theorem d_V_fault_22 : decode b_V_fault 22 = .ok (.ireturn, 1) := by decide +kernel
theorem d_V_fault_4 : decode b_V_fault 4 = .ok (.iload_n 1, 1) := by decide +kernel
theorem d_V_fault_5 : decode b_V_fault 5 = .ok (.iconst 2, 1) := by decide +kernel
theorem d_V_fault_6 : decode b_V_fault 6 = .ok (.if_icmp .le 7, 3) := by decide +kernel
theorem d_V_fault_13 : decode b_V_fault 13 = .ok (.aload_n 0, 1) := by decide +kernel
theorem d_V_fault_14 : decode b_V_fault 14 = .ok (.getfield 68, 3) := by decide +kernel
theorem d_V_fault_17 : decode b_V_fault 17 = .ok (.getfield 179, 3) := by decide +kernel
theorem d_V_fault_20 : decode b_V_fault 20 = .ok (.iload_n 1, 1) := by decide +kernel
theorem d_V_fault_21 : decode b_V_fault 21 = .ok (.iaload, 1) := by decide +kernel
theorem d_Mod_fault_0 : decode b_Mod_fault 0 = .ok (.aload_n 0, 1) := by decide +kernel
theorem d_Mod_fault_1 : decode b_Mod_fault 1 = .ok (.iconst 0, 1) := by decide +kernel
theorem d_Mod_fault_2 : decode b_Mod_fault 2 = .ok (.putfield 360, 3) := by decide +kernel
theorem d_Mod_fault_5 : decode b_Mod_fault 5 = .ok (.iload_n 1, 1) := by decide +kernel
theorem d_Mod_fault_6 : decode b_Mod_fault 6 = .ok (.ifCond .lt 8, 3) := by decide +kernel
theorem d_Mod_fault_14 : decode b_Mod_fault 14 = .ok (.iconst (-1), 1) := by decide +kernel
theorem d_Mod_fault_15 : decode b_Mod_fault 15 = .ok (.goto 9, 3) := by decide +kernel
theorem d_Mod_fault_24 : decode b_Mod_fault 24 = .ok (.ireturn, 1) := by decide +kernel
theorem d_Mod_fault_9 : decode b_Mod_fault 9 = .ok (.iload_n 1, 1) := by decide +kernel
theorem d_Mod_fault_10 : decode b_Mod_fault 10 = .ok (.iconst 2, 1) := by decide +kernel
theorem d_Mod_fault_11 : decode b_Mod_fault 11 = .ok (.if_icmp .le 7, 3) := by decide +kernel
theorem d_Mod_fault_18 : decode b_Mod_fault 18 = .ok (.aload_n 0, 1) := by decide +kernel
theorem d_Mod_fault_19 : decode b_Mod_fault 19 = .ok (.getfield 166, 3) := by decide +kernel
theorem d_Mod_fault_22 : decode b_Mod_fault 22 = .ok (.iload_n 1, 1) := by decide +kernel
theorem d_Mod_fault_23 : decode b_Mod_fault 23 = .ok (.iaload, 1) := by decide +kernel
theorem d_V_output_0 : decode b_V_output 0 = .ok (.iload_n 1, 1) := by decide +kernel
theorem d_V_output_1 : decode b_V_output 1 = .ok (.ifCond .lt 17, 3) := by decide +kernel
theorem d_V_output_18 : decode b_V_output 18 = .ok (.iconst (-1), 1) := by decide +kernel
theorem d_V_output_19 : decode b_V_output 19 = .ok (.goto 19, 3) := by decide +kernel
theorem d_V_output_38 : decode b_V_output 38 = .ok (.ireturn, 1) := by decide +kernel
theorem d_V_output_4 : decode b_V_output 4 = .ok (.iload_n 1, 1) := by decide +kernel
theorem d_V_output_5 : decode b_V_output 5 = .ok (.aload_n 0, 1) := by decide +kernel
theorem d_V_output_6 : decode b_V_output 6 = .ok (.getfield 95, 3) := by decide +kernel
theorem d_V_output_9 : decode b_V_output 9 = .ok (.getfield 239, 3) := by decide +kernel
theorem d_V_output_12 : decode b_V_output 12 = .ok (.getfield 99, 3) := by decide +kernel
theorem d_V_output_15 : decode b_V_output 15 = .ok (.if_icmp .lt 7, 3) := by decide +kernel
theorem d_V_output_22 : decode b_V_output 22 = .ok (.aload_n 0, 1) := by decide +kernel
theorem d_V_output_23 : decode b_V_output 23 = .ok (.getfield 95, 3) := by decide +kernel
theorem d_V_output_26 : decode b_V_output 26 = .ok (.getfield 239, 3) := by decide +kernel
theorem d_V_output_29 : decode b_V_output 29 = .ok (.getfield 116, 3) := by decide +kernel
theorem d_V_output_32 : decode b_V_output 32 = .ok (.iload_n 1, 1) := by decide +kernel
theorem d_V_output_33 : decode b_V_output 33 = .ok (.baload, 1) := by decide +kernel
theorem d_V_output_34 : decode b_V_output 34 = .ok (.sipush 255, 3) := by decide +kernel
theorem d_V_output_37 : decode b_V_output 37 = .ok (.iand, 1) := by decide +kernel
theorem d_Mod_output_0 : decode b_Mod_output 0 = .ok (.aload_n 0, 1) := by decide +kernel
theorem d_Mod_output_1 : decode b_Mod_output 1 = .ok (.iconst 0, 1) := by decide +kernel
theorem d_Mod_output_2 : decode b_Mod_output 2 = .ok (.putfield 360, 3) := by decide +kernel
theorem d_Mod_output_5 : decode b_Mod_output 5 = .ok (.iload_n 1, 1) := by decide +kernel
theorem d_Mod_output_6 : decode b_Mod_output 6 = .ok (.ifCond .lt 11, 3) := by decide +kernel
theorem d_Mod_output_17 : decode b_Mod_output 17 = .ok (.iconst (-1), 1) := by decide +kernel
theorem d_Mod_output_18 : decode b_Mod_output 18 = .ok (.goto 13, 3) := by decide +kernel
theorem d_Mod_output_31 : decode b_Mod_output 31 = .ok (.ireturn, 1) := by decide +kernel
theorem d_Mod_output_9 : decode b_Mod_output 9 = .ok (.iload_n 1, 1) := by decide +kernel
theorem d_Mod_output_10 : decode b_Mod_output 10 = .ok (.aload_n 0, 1) := by decide +kernel
theorem d_Mod_output_11 : decode b_Mod_output 11 = .ok (.getfield 935, 3) := by decide +kernel
theorem d_Mod_output_14 : decode b_Mod_output 14 = .ok (.if_icmp .lt 7, 3) := by decide +kernel
theorem d_Mod_output_21 : decode b_Mod_output 21 = .ok (.aload_n 0, 1) := by decide +kernel
theorem d_Mod_output_22 : decode b_Mod_output 22 = .ok (.getfield 238, 3) := by decide +kernel
theorem d_Mod_output_25 : decode b_Mod_output 25 = .ok (.iload_n 1, 1) := by decide +kernel
theorem d_Mod_output_26 : decode b_Mod_output 26 = .ok (.baload, 1) := by decide +kernel
theorem d_Mod_output_27 : decode b_Mod_output 27 = .ok (.sipush 255, 3) := by decide +kernel
theorem d_Mod_output_30 : decode b_Mod_output 30 = .ok (.iand, 1) := by decide +kernel
theorem d_V_skipped_0 : decode b_V_skipped 0 = .ok (.iload_n 1, 1) := by decide +kernel
theorem d_V_skipped_1 : decode b_V_skipped 1 = .ok (.ifCond .eq 10, 3) := by decide +kernel
theorem d_V_skipped_11 : decode b_V_skipped 11 = .ok (.aload_n 0, 1) := by decide +kernel
theorem d_V_skipped_12 : decode b_V_skipped 12 = .ok (.getfield 85, 3) := by decide +kernel
theorem d_V_skipped_15 : decode b_V_skipped 15 = .ok (.getfield 168, 3) := by decide +kernel
theorem d_V_skipped_18 : decode b_V_skipped 18 = .ok (.ifCond .ne 5, 3) := by decide +kernel
theorem d_V_skipped_23 : decode b_V_skipped 23 = .ok (.iload_n 1, 1) := by decide +kernel
theorem d_V_skipped_24 : decode b_V_skipped 24 = .ok (.ifCond .ne 13, 3) := by decide +kernel
theorem d_V_skipped_37 : decode b_V_skipped 37 = .ok (.aload_n 0, 1) := by decide +kernel
theorem d_V_skipped_38 : decode b_V_skipped 38 = .ok (.getfield 85, 3) := by decide +kernel
theorem d_V_skipped_41 : decode b_V_skipped 41 = .ok (.getfield 236, 3) := by decide +kernel
theorem d_V_skipped_44 : decode b_V_skipped 44 = .ok (.ireturn, 1) := by decide +kernel
theorem d_V_skipped_27 : decode b_V_skipped 27 = .ok (.aload_n 0, 1) := by decide +kernel
theorem d_V_skipped_28 : decode b_V_skipped 28 = .ok (.getfield 85, 3) := by decide +kernel
theorem d_V_skipped_31 : decode b_V_skipped 31 = .ok (.getfield 233, 3) := by decide +kernel
theorem d_V_skipped_34 : decode b_V_skipped 34 = .ok (.goto 10, 3) := by decide +kernel
theorem d_V_skipped_21 : decode b_V_skipped 21 = .ok (.iconst 0, 1) := by decide +kernel
theorem d_V_skipped_22 : decode b_V_skipped 22 = .ok (.ireturn, 1) := by decide +kernel
theorem d_V_skipped_4 : decode b_V_skipped 4 = .ok (.iload_n 1, 1) := by decide +kernel
theorem d_V_skipped_5 : decode b_V_skipped 5 = .ok (.iconst 1, 1) := by decide +kernel
theorem d_V_skipped_6 : decode b_V_skipped 6 = .ok (.if_icmp .eq 5, 3) := by decide +kernel
theorem d_V_skipped_9 : decode b_V_skipped 9 = .ok (.iconst (-1), 1) := by decide +kernel
theorem d_V_skipped_10 : decode b_V_skipped 10 = .ok (.ireturn, 1) := by decide +kernel
theorem d_Mod_skipped_0 : decode b_Mod_skipped 0 = .ok (.aload_n 0, 1) := by decide +kernel
theorem d_Mod_skipped_1 : decode b_Mod_skipped 1 = .ok (.iconst 0, 1) := by decide +kernel
theorem d_Mod_skipped_2 : decode b_Mod_skipped 2 = .ok (.putfield 360, 3) := by decide +kernel
theorem d_Mod_skipped_5 : decode b_Mod_skipped 5 = .ok (.iload_n 1, 1) := by decide +kernel
theorem d_Mod_skipped_6 : decode b_Mod_skipped 6 = .ok (.ifCond .lt 8, 3) := by decide +kernel
theorem d_Mod_skipped_14 : decode b_Mod_skipped 14 = .ok (.iconst (-1), 1) := by decide +kernel
theorem d_Mod_skipped_15 : decode b_Mod_skipped 15 = .ok (.goto 29, 3) := by decide +kernel
theorem d_Mod_skipped_44 : decode b_Mod_skipped 44 = .ok (.ireturn, 1) := by decide +kernel
theorem d_Mod_skipped_9 : decode b_Mod_skipped 9 = .ok (.iload_n 1, 1) := by decide +kernel
theorem d_Mod_skipped_10 : decode b_Mod_skipped 10 = .ok (.iconst 1, 1) := by decide +kernel
theorem d_Mod_skipped_11 : decode b_Mod_skipped 11 = .ok (.if_icmp .le 7, 3) := by decide +kernel
theorem d_Mod_skipped_18 : decode b_Mod_skipped 18 = .ok (.aload_n 0, 1) := by decide +kernel
theorem d_Mod_skipped_19 : decode b_Mod_skipped 19 = .ok (.getfield 923, 3) := by decide +kernel
theorem d_Mod_skipped_22 : decode b_Mod_skipped 22 = .ok (.ifCond .ne 7, 3) := by decide +kernel
theorem d_Mod_skipped_29 : decode b_Mod_skipped 29 = .ok (.iload_n 1, 1) := by decide +kernel
theorem d_Mod_skipped_30 : decode b_Mod_skipped 30 = .ok (.ifCond .ne 10, 3) := by decide +kernel
theorem d_Mod_skipped_40 : decode b_Mod_skipped 40 = .ok (.aload_n 0, 1) := by decide +kernel
theorem d_Mod_skipped_41 : decode b_Mod_skipped 41 = .ok (.getfield 1169, 3) := by decide +kernel
theorem d_Mod_skipped_33 : decode b_Mod_skipped 33 = .ok (.aload_n 0, 1) := by decide +kernel
theorem d_Mod_skipped_34 : decode b_Mod_skipped 34 = .ok (.getfield 1166, 3) := by decide +kernel
theorem d_Mod_skipped_37 : decode b_Mod_skipped 37 = .ok (.goto 7, 3) := by decide +kernel
theorem d_Mod_skipped_25 : decode b_Mod_skipped 25 = .ok (.iconst 0, 1) := by decide +kernel
theorem d_Mod_skipped_26 : decode b_Mod_skipped 26 = .ok (.goto 18, 3) := by decide +kernel
theorem d_Ans_rowAt_0 : decode b_Ans_rowAt 0 = .ok (.aload_n 0, 1) := by decide +kernel
theorem d_Ans_rowAt_1 : decode b_Ans_rowAt 1 = .ok (.getfield 39, 3) := by decide +kernel
theorem d_Ans_rowAt_4 : decode b_Ans_rowAt 4 = .ok (.ifCond .eq 22, 3) := by decide +kernel
theorem d_Ans_rowAt_26 : decode b_Ans_rowAt 26 = .ok (.iconst (-1), 1) := by decide +kernel
theorem d_Ans_rowAt_27 : decode b_Ans_rowAt 27 = .ok (.goto 9, 3) := by decide +kernel
theorem d_Ans_rowAt_36 : decode b_Ans_rowAt 36 = .ok (.ireturn, 1) := by decide +kernel
theorem d_Ans_rowAt_7 : decode b_Ans_rowAt 7 = .ok (.aload_n 0, 1) := by decide +kernel
theorem d_Ans_rowAt_8 : decode b_Ans_rowAt 8 = .ok (.getfield 43, 3) := by decide +kernel
theorem d_Ans_rowAt_11 : decode b_Ans_rowAt 11 = .ok (.ifCond .ne 15, 3) := by decide +kernel
theorem d_Ans_rowAt_14 : decode b_Ans_rowAt 14 = .ok (.iload_n 1, 1) := by decide +kernel
theorem d_Ans_rowAt_15 : decode b_Ans_rowAt 15 = .ok (.ifCond .lt 11, 3) := by decide +kernel
theorem d_Ans_rowAt_18 : decode b_Ans_rowAt 18 = .ok (.iload_n 1, 1) := by decide +kernel
theorem d_Ans_rowAt_19 : decode b_Ans_rowAt 19 = .ok (.aload_n 0, 1) := by decide +kernel
theorem d_Ans_rowAt_20 : decode b_Ans_rowAt 20 = .ok (.getfield 46, 3) := by decide +kernel
theorem d_Ans_rowAt_23 : decode b_Ans_rowAt 23 = .ok (.if_icmp .lt 7, 3) := by decide +kernel
theorem d_Ans_rowAt_30 : decode b_Ans_rowAt 30 = .ok (.aload_n 0, 1) := by decide +kernel
theorem d_Ans_rowAt_31 : decode b_Ans_rowAt 31 = .ok (.getfield 15, 3) := by decide +kernel
theorem d_Ans_rowAt_34 : decode b_Ans_rowAt 34 = .ok (.iload_n 1, 1) := by decide +kernel
theorem d_Ans_rowAt_35 : decode b_Ans_rowAt 35 = .ok (.iaload, 1) := by decide +kernel
theorem d_Ans_placeOf_0 : decode b_Ans_placeOf 0 = .ok (.aload_n 0, 1) := by decide +kernel
theorem d_Ans_placeOf_1 : decode b_Ans_placeOf 1 = .ok (.getfield 39, 3) := by decide +kernel
theorem d_Ans_placeOf_4 : decode b_Ans_placeOf 4 = .ok (.ifCond .eq 38, 3) := by decide +kernel
theorem d_Ans_placeOf_42 : decode b_Ans_placeOf 42 = .ok (.iconst 0, 1) := by decide +kernel
theorem d_Ans_placeOf_43 : decode b_Ans_placeOf 43 = .ok (.istore_n 3, 1) := by decide +kernel
theorem d_Ans_placeOf_44 : decode b_Ans_placeOf 44 = .ok (.iload_n 3, 1) := by decide +kernel
theorem d_Ans_placeOf_45 : decode b_Ans_placeOf 45 = .ok (.ifCond .eq 12, 3) := by decide +kernel
theorem d_Ans_placeOf_57 : decode b_Ans_placeOf 57 = .ok (.iconst (-1), 1) := by decide +kernel
theorem d_Ans_placeOf_58 : decode b_Ans_placeOf 58 = .ok (.ireturn, 1) := by decide +kernel
theorem d_Ans_placeOf_7 : decode b_Ans_placeOf 7 = .ok (.aload_n 0, 1) := by decide +kernel
theorem d_Ans_placeOf_8 : decode b_Ans_placeOf 8 = .ok (.getfield 43, 3) := by decide +kernel
theorem d_Ans_placeOf_11 : decode b_Ans_placeOf 11 = .ok (.ifCond .eq 31, 3) := by decide +kernel
theorem d_Ans_placeOf_14 : decode b_Ans_placeOf 14 = .ok (.iload_n 1, 1) := by decide +kernel
theorem d_Ans_placeOf_15 : decode b_Ans_placeOf 15 = .ok (.ifCond .lt 27, 3) := by decide +kernel
theorem d_Ans_placeOf_18 : decode b_Ans_placeOf 18 = .ok (.iload_n 1, 1) := by decide +kernel
theorem d_Ans_placeOf_19 : decode b_Ans_placeOf 19 = .ok (.aload_n 0, 1) := by decide +kernel
theorem d_Ans_placeOf_20 : decode b_Ans_placeOf 20 = .ok (.getfield 46, 3) := by decide +kernel
theorem d_Ans_placeOf_23 : decode b_Ans_placeOf 23 = .ok (.if_icmp .ge 19, 3) := by decide +kernel
theorem d_Ans_placeOf_26 : decode b_Ans_placeOf 26 = .ok (.iload_n 2, 1) := by decide +kernel
theorem d_Ans_placeOf_27 : decode b_Ans_placeOf 27 = .ok (.ifCond .lt 15, 3) := by decide +kernel
theorem d_Ans_placeOf_30 : decode b_Ans_placeOf 30 = .ok (.iload_n 2, 1) := by decide +kernel
theorem d_Ans_placeOf_31 : decode b_Ans_placeOf 31 = .ok (.aload_n 0, 1) := by decide +kernel
theorem d_Ans_placeOf_32 : decode b_Ans_placeOf 32 = .ok (.getfield 50, 3) := by decide +kernel
theorem d_Ans_placeOf_35 : decode b_Ans_placeOf 35 = .ok (.if_icmp .ge 7, 3) := by decide +kernel
theorem d_Ans_placeOf_38 : decode b_Ans_placeOf 38 = .ok (.iconst 1, 1) := by decide +kernel
theorem d_Ans_placeOf_39 : decode b_Ans_placeOf 39 = .ok (.goto 4, 3) := by decide +kernel
theorem d_Ans_placeOf_48 : decode b_Ans_placeOf 48 = .ok (.iload_n 1, 1) := by decide +kernel
theorem d_Ans_placeOf_49 : decode b_Ans_placeOf 49 = .ok (.bipush 16, 2) := by decide +kernel
theorem d_Ans_placeOf_51 : decode b_Ans_placeOf 51 = .ok (.imul, 1) := by decide +kernel
theorem d_Ans_placeOf_52 : decode b_Ans_placeOf 52 = .ok (.iload_n 2, 1) := by decide +kernel
theorem d_Ans_placeOf_53 : decode b_Ans_placeOf 53 = .ok (.iadd, 1) := by decide +kernel
theorem d_Ans_placeOf_54 : decode b_Ans_placeOf 54 = .ok (.goto 4, 3) := by decide +kernel
theorem in_le {k b : Int32} {m : Nat} (h0 : ¬ k < 0) (h : k ≤ b) (hn : b.toInt < m) : vp_in k m := by
  rw [vp_in_iff]
  rw [Int32.le_iff_toInt_le] at h
  rw [Int32.lt_iff_toInt_lt, Int32.toInt_zero] at h0
  omega
def sp_upto (k b x : Int32) : Int32 := if k < 0 then -1 else if k ≤ b then x else -1
def sp_skip (k rd x y : Int32) : Int32 := if k = 0 then (if rd = 0 then 0 else x) else if k = 1 then (if rd = 0 then 0 else y) else -1
theorem sk_lt {k : Int32} (h : k < 0) : ¬ k = 0 ∧ ¬ k = 1 := by
  constructor
  · intro e; subst e; exact absurd h (by decide)
  · intro e; subst e; exact absurd h (by decide)
theorem sk_gt {k : Int32} (h : ¬ k ≤ 1) : ¬ k = 0 ∧ ¬ k = 1 := by
  constructor
  · intro e; subst e; exact absurd (by decide) h
  · intro e; subst e; exact absurd (by decide) h
theorem sk_01 {k : Int32} (h0 : ¬ k < 0) (h1 : k ≤ 1) : k = 0 ∨ k = 1 := by
  rw [Int32.lt_iff_toInt_lt, Int32.toInt_zero] at h0
  rw [Int32.le_iff_toInt_le] at h1
  have e1 : (1 : Int32).toInt = 1 := by decide
  rw [e1] at h1
  rcases (show k.toInt = 0 ∨ k.toInt = 1 by omega) with h | h
  · exact Or.inl (Int32.toInt_inj.mp (by rw [h]; decide))
  · exact Or.inr (Int32.toInt_inj.mp (by rw [h]; decide))
def sp_rowAt (rd cl k n x : Int32) : Int32 := if rd = 0 then -1 else if cl = 0 then sp_at k n x else -1
def sp_place (rd cl k n i w : Int32) : Int32 := if rd = 0 then -1 else if cl = 0 then -1 else if k < 0 then -1 else if n ≤ k then -1 else if i < 0 then -1 else if w ≤ i then -1 else k * 16 + i
section
variable (l : Launch) (dC : Nat → ClassId) (dI : Nat → Nat → Nat) (cI cB cJ cZ : ClassId)
set_option maxHeartbeats 4000000 in
set_option maxRecDepth 100000 in
/-- fault(k) -/
theorem c_V_fault (sz : Nat) (h : Nat) (F : List Value) (f : Nat) (S : List Value) (a : Nat) (g : Nat → Int32) (k : Int32) (nF : F.length = 15) (gF_9 : F[9]? = some (.ref f)) (nS : S.length = 17) (gS_4 : S[4]? = some (.ref a)) : Met l y_V_fault (wsOf y_V_fault b_V_fault 2 (some (.int))) ({ frames := 0, cells := 0, slots := 0, locals := 0 }) (va_Pc [.ref h, .int k] (PC dC dI cI cB cJ cZ sz [(h, .inr (0, F)), (f, .inr (7, S)), (a, .inl (cI, 3, .inl g))])) (va_Qi (fun (r : Int32) (_ : Unit) => r = sp_upto k 2 (g k.toNatClampNeg)) (fun _ t => va_P (dC, dI) CL [(h, .inr (0, F)), (f, .inr (7, S)), (a, .inl (cI, 3, .inl g))] t.heap ∧ va_D (va_A [(h, .inr (0, F)), (f, .inr (7, S)), (a, .inl (cI, 3, .inl g))] sz) [(h, .inr (0, F)), (f, .inr (7, S)), (a, .inl (cI, 3, .inl g))]) (va_A [(h, .inr (0, F)), (f, .inr (7, S)), (a, .inl (cI, 3, .inl g))] sz)) 0 0 (va_A [(h, .inr (0, F)), (f, .inr (7, S)), (a, .inl (cI, 3, .inl g))] sz) := by
  refine Met.ofW (cc := b_V_fault) (maxL := 2) (ret := some (.int)) (by decide) rfl ?_
  intro p e s m args below meth c s₁ B hml hv
  obtain ⟨rfl, hsz, hP, hK, hD0, hN⟩ := hv
  have hx := B.exec
  have hb := B.bytes
  have hr := B.returns
  have hts := atoms_spec B.pre
  have hT : ∀ w ∈ TG, w.before _ s = true := fun w h => hts w (List.mem_cons_of_mem _ h)
  have hown : s.vm.findClass R_V = some m.cls := findClass_of_methodNamed B.named
  have hlocks := B.notSynchronized
  subst hsz
  have hD := hD0.self (sz := s.heap.size)
  generalize hAe : va_A [(h, .inr (0, F)), (f, .inr (7, S)), (a, .inl (cI, 3, .inl g))] s.heap.size = A at hD ⊢
  have hA : ∀ q : Nat, s.heap.size ≤ q → A q := fun q h => by rw [← hAe]; exact Or.inr h
  have hS : va_S A s.heap s.heap [] := va_S.rf
  have hl := lv_entry ([.ref h, .int k]) (n := 2) (Nat.le_of_ble_eq_true rfl)
  rw [lg_entry_eq]
  generalize (lg_sl ([.ref h, .int k]) ++ List.replicate (2 - (lg_sl ([.ref h, .int k])).length) Slot.unset).toArray = ls at hl ⊢
  have hl : lv_has ls 2 [(0, .ref h), (1, .int k)] := hl
  refine lv_iload_n hx hb d_V_fault_0 rfl (lv_at hl 1 rfl) ?_
  refine lv_if_lt (tgt := 9) hx hb d_V_fault_1 (by decide) (fun c_1 => ?_) (fun c_1 => ?_)
  · refine lv_iconst (v := (-1)) hx hb d_V_fault_9 (by decide) ?_
    refine lv_goto (tgt := 22) hx hb d_V_fault_10 (by decide) ?_
    exact W.iret (v := (-1)) hx hb hr (fun t ht hW => ⟨⟨(-1), (), rfl, by simp [sp_upto, c_1], by rw [ht]; exact hP, hD⟩, hS.F ht⟩) hS.2.2 d_V_fault_22
  · refine lv_iload_n hx hb d_V_fault_4 rfl (lv_at hl 1 rfl) ?_
    refine lv_iconst (v := 2) hx hb d_V_fault_5 (by decide) ?_
    refine lv_icmp_le (tgt := 13) hx hb d_V_fault_6 (by decide) (fun c_2 => ?_) (fun c_2 => ?_)
    · refine lv_aload_n hx hb d_V_fault_13 rfl (lv_at hl 0 rfl) ?_
      refine f_get (D := (dC, dI)) (ci := 0) (v := .ref f) (C := R_V) (T := F_V) (N := 15) hx hb hT in_V hown hK hP 0 rfl rfl 9 (by decide) fr_V_9 w_4_4 gF_9 d_V_fault_14 ?_
      refine f_get (D := (dC, dI)) (ci := 7) (v := .ref a) (C := R_Opn) (T := F_Opn) (N := 17) hx hb hT in_Opn hown hK hP 1 rfl rfl 4 (by decide) fr_Opn_4 w_3_20 gS_4 d_V_fault_17 ?_
      refine lv_iload_n hx hb d_V_fault_20 rfl (lv_at hl 1 rfl) ?_
      refine va_iald hx hb hK hP 2 0 rfl rfl (in_le c_1 c_2 (by decide)) d_V_fault_21 ?_
      exact W.iret (v := (g (k : Int32).toNatClampNeg)) hx hb hr (fun t ht hW => ⟨⟨(g (k : Int32).toNatClampNeg), (), rfl, by simp [sp_upto, c_1, c_2], by rw [ht]; exact hP, hD⟩, hS.F ht⟩) hS.2.2 d_V_fault_22
    · refine lv_iconst (v := (-1)) hx hb d_V_fault_9 (by decide) ?_
      refine lv_goto (tgt := 22) hx hb d_V_fault_10 (by decide) ?_
      exact W.iret (v := (-1)) hx hb hr (fun t ht hW => ⟨⟨(-1), (), rfl, by simp [sp_upto, c_1, c_2], by rw [ht]; exact hP, hD⟩, hS.F ht⟩) hS.2.2 d_V_fault_22
set_option maxHeartbeats 4000000 in
set_option maxRecDepth 100000 in
/-- the model's fault(k) -/
theorem c_Mod_fault (sz : Nat) (h : Nat) (F : List Value) (a : Nat) (g : Nat → Int32) (k : Int32) (nF : F.length = 167) (gF_80 : F[80]? = some (.ref a)) : Met l y_Mod_fault (wsOf y_Mod_fault b_Mod_fault 2 (some (.int))) ({ frames := 0, cells := 0, slots := 0, locals := 0 }) (va_Pc [.ref h, .int k] (PC dC dI cI cB cJ cZ sz [(h, .inr (12, F)), (a, .inl (cI, 3, .inl g))])) (va_Qi (fun (r : Int32) (_ : Unit) => r = sp_upto k 2 (g k.toNatClampNeg)) (fun _ t => va_P (dC, dI) CL [(h, .inr (12, F.set 0 (.int 0))), (a, .inl (cI, 3, .inl g))] t.heap ∧ va_D (va_A [(h, .inr (12, F)), (a, .inl (cI, 3, .inl g))] sz) [(h, .inr (12, F.set 0 (.int 0))), (a, .inl (cI, 3, .inl g))]) (va_A [(h, .inr (12, F)), (a, .inl (cI, 3, .inl g))] sz)) 0 0 (va_A [(h, .inr (12, F)), (a, .inl (cI, 3, .inl g))] sz) := by
  refine Met.ofW (cc := b_Mod_fault) (maxL := 2) (ret := some (.int)) (by decide) rfl ?_
  intro p e s m args below meth c s₁ B hml hv
  obtain ⟨rfl, hsz, hP, hK, hD0, hN⟩ := hv
  have hx := B.exec
  have hb := B.bytes
  have hr := B.returns
  have hts := atoms_spec B.pre
  have hT : ∀ w ∈ TG, w.before _ s = true := fun w h => hts w (List.mem_cons_of_mem _ h)
  have hown : s.vm.findClass R_Mod = some m.cls := findClass_of_methodNamed B.named
  have hlocks := B.notSynchronized
  subst hsz
  have hD := hD0.self (sz := s.heap.size)
  generalize hAe : va_A [(h, .inr (12, F)), (a, .inl (cI, 3, .inl g))] s.heap.size = A at hD ⊢
  have hA : ∀ q : Nat, s.heap.size ≤ q → A q := fun q h => by rw [← hAe]; exact Or.inr h
  have hS : va_S A s.heap s.heap [] := va_S.rf
  have hl := lv_entry ([.ref h, .int k]) (n := 2) (Nat.le_of_ble_eq_true rfl)
  rw [lg_entry_eq]
  generalize (lg_sl ([.ref h, .int k]) ++ List.replicate (2 - (lg_sl ([.ref h, .int k])).length) Slot.unset).toArray = ls at hl ⊢
  have hl : lv_has ls 2 [(0, .ref h), (1, .int k)] := hl
  refine lv_aload_n hx hb d_Mod_fault_0 rfl (lv_at hl 0 rfl) ?_
  refine lv_iconst (v := 0) hx hb d_Mod_fault_1 (by decide) ?_
  refine f_put (D := (dC, dI)) (ci := 12) (v := .int 0) (ty := .int) (C := R_Mod) (T := F_Mod) (N := 167) hx hb hT in_Mod t_Mod t_Mod_ok n_Mod hown hK hP hD hS 0 rfl rfl 0 (by decide) fr_Mod_0 w_8_180 (by decide +kernel) rfl rfl (by rw [nF]; decide) d_Mod_fault_2 (fun H locs hP hD hS => ?_)
  have hP : va_P (dC, dI) CL [(h, .inr (12, F.set 0 (.int 0))), (a, .inl (cI, 3, .inl g))] H := hP
  have hD : va_D A [(h, .inr (12, F.set 0 (.int 0))), (a, .inl (cI, 3, .inl g))] := hD
  refine lv_iload_n hx hb d_Mod_fault_5 rfl (lv_at hl 1 rfl) ?_
  refine lv_if_lt (tgt := 14) hx hb d_Mod_fault_6 (by decide) (fun c_1 => ?_) (fun c_1 => ?_)
  · refine lv_iconst (v := (-1)) hx hb d_Mod_fault_14 (by decide) ?_
    refine lv_goto (tgt := 24) hx hb d_Mod_fault_15 (by decide) ?_
    exact W.iret (v := (-1)) hx hb hr (fun t ht hW => ⟨⟨(-1), (), rfl, by simp [sp_upto, c_1], by rw [ht]; exact hP, hD⟩, hS.F ht⟩) hS.2.2 d_Mod_fault_24
  · refine lv_iload_n hx hb d_Mod_fault_9 rfl (lv_at hl 1 rfl) ?_
    refine lv_iconst (v := 2) hx hb d_Mod_fault_10 (by decide) ?_
    refine lv_icmp_le (tgt := 18) hx hb d_Mod_fault_11 (by decide) (fun c_2 => ?_) (fun c_2 => ?_)
    · refine lv_aload_n hx hb d_Mod_fault_18 rfl (lv_at hl 0 rfl) ?_
      refine f_get (D := (dC, dI)) (ci := 12) (v := .ref a) (C := R_Mod) (T := F_Mod) (N := 167) hx hb hT in_Mod hown hK hP 0 rfl rfl 80 (by decide) fr_Mod_80 w_9_20 ((List.getElem?_set_ne (by decide)).trans gF_80) d_Mod_fault_19 ?_
      refine lv_iload_n hx hb d_Mod_fault_22 rfl (lv_at hl 1 rfl) ?_
      refine va_iald hx hb hK hP 1 0 rfl rfl (in_le c_1 c_2 (by decide)) d_Mod_fault_23 ?_
      exact W.iret (v := (g (k : Int32).toNatClampNeg)) hx hb hr (fun t ht hW => ⟨⟨(g (k : Int32).toNatClampNeg), (), rfl, by simp [sp_upto, c_1, c_2], by rw [ht]; exact hP, hD⟩, hS.F ht⟩) hS.2.2 d_Mod_fault_24
    · refine lv_iconst (v := (-1)) hx hb d_Mod_fault_14 (by decide) ?_
      refine lv_goto (tgt := 24) hx hb d_Mod_fault_15 (by decide) ?_
      exact W.iret (v := (-1)) hx hb hr (fun t ht hW => ⟨⟨(-1), (), rfl, by simp [sp_upto, c_1, c_2], by rw [ht]; exact hP, hD⟩, hS.F ht⟩) hS.2.2 d_Mod_fault_24
set_option maxHeartbeats 4000000 in
set_option maxRecDepth 100000 in
/-- output(k) -/
theorem c_V_output (sz : Nat) (h : Nat) (F : List Value) (f : Nat) (S : List Value) (o : Nat) (O : List Value) (a z : Nat) (g : Nat → Int32) (k n : Int32) (nF : F.length = 15) (gF_14 : F[14]? = some (.ref f)) (nS : S.length = 4) (gS_0 : S[0]? = some (.ref o)) (nO : O.length = 7) (gO_1 : O[1]? = some (.int n)) (gO_0 : O[0]? = some (.ref a)) (hn : n.toInt ≤ z) : Met l y_V_output (wsOf y_V_output b_V_output 2 (some (.int))) ({ frames := 0, cells := 0, slots := 0, locals := 0 }) (va_Pc [.ref h, .int k] (PC dC dI cI cB cJ cZ sz [(h, .inr (0, F)), (f, .inr (11, S)), (o, .inr (1, O)), (a, .inl (cB, z, .inl g))])) (va_Qi (fun (r : Int32) (_ : Unit) => r = sp_at k n (g k.toNatClampNeg &&& 255)) (fun _ t => va_P (dC, dI) CL [(h, .inr (0, F)), (f, .inr (11, S)), (o, .inr (1, O)), (a, .inl (cB, z, .inl g))] t.heap ∧ va_D (va_A [(h, .inr (0, F)), (f, .inr (11, S)), (o, .inr (1, O)), (a, .inl (cB, z, .inl g))] sz) [(h, .inr (0, F)), (f, .inr (11, S)), (o, .inr (1, O)), (a, .inl (cB, z, .inl g))]) (va_A [(h, .inr (0, F)), (f, .inr (11, S)), (o, .inr (1, O)), (a, .inl (cB, z, .inl g))] sz)) 0 0 (va_A [(h, .inr (0, F)), (f, .inr (11, S)), (o, .inr (1, O)), (a, .inl (cB, z, .inl g))] sz) := by
  refine Met.ofW (cc := b_V_output) (maxL := 2) (ret := some (.int)) (by decide) rfl ?_
  intro p e s m args below meth c s₁ B hml hv
  obtain ⟨rfl, hsz, hP, hK, hD0, hN⟩ := hv
  have hx := B.exec
  have hb := B.bytes
  have hr := B.returns
  have hts := atoms_spec B.pre
  have hT : ∀ w ∈ TG, w.before _ s = true := fun w h => hts w (List.mem_cons_of_mem _ h)
  have hown : s.vm.findClass R_V = some m.cls := findClass_of_methodNamed B.named
  have hlocks := B.notSynchronized
  subst hsz
  have hD := hD0.self (sz := s.heap.size)
  generalize hAe : va_A [(h, .inr (0, F)), (f, .inr (11, S)), (o, .inr (1, O)), (a, .inl (cB, z, .inl g))] s.heap.size = A at hD ⊢
  have hA : ∀ q : Nat, s.heap.size ≤ q → A q := fun q h => by rw [← hAe]; exact Or.inr h
  have hS : va_S A s.heap s.heap [] := va_S.rf
  have hl := lv_entry ([.ref h, .int k]) (n := 2) (Nat.le_of_ble_eq_true rfl)
  rw [lg_entry_eq]
  generalize (lg_sl ([.ref h, .int k]) ++ List.replicate (2 - (lg_sl ([.ref h, .int k])).length) Slot.unset).toArray = ls at hl ⊢
  have hl : lv_has ls 2 [(0, .ref h), (1, .int k)] := hl
  refine lv_iload_n hx hb d_V_output_0 rfl (lv_at hl 1 rfl) ?_
  refine lv_if_lt (tgt := 18) hx hb d_V_output_1 (by decide) (fun c_1 => ?_) (fun c_1 => ?_)
  · refine lv_iconst (v := (-1)) hx hb d_V_output_18 (by decide) ?_
    refine lv_goto (tgt := 38) hx hb d_V_output_19 (by decide) ?_
    exact W.iret (v := (-1)) hx hb hr (fun t ht hW => ⟨⟨(-1), (), rfl, by simp [sp_at, c_1], by rw [ht]; exact hP, hD⟩, hS.F ht⟩) hS.2.2 d_V_output_38
  · refine lv_iload_n hx hb d_V_output_4 rfl (lv_at hl 1 rfl) ?_
    refine lv_aload_n hx hb d_V_output_5 rfl (lv_at hl 0 rfl) ?_
    refine f_get (D := (dC, dI)) (ci := 0) (v := .ref f) (C := R_V) (T := F_V) (N := 15) hx hb hT in_V hown hK hP 0 rfl rfl 14 (by decide) fr_V_14 w_4_9 gF_14 d_V_output_6 ?_
    refine f_get (D := (dC, dI)) (ci := 11) (v := .ref o) (C := R_Asm) (T := F_Asm) (N := 4) hx hb hT in_Asm hown hK hP 1 rfl rfl 0 (by decide) fr_Asm_0 w_3_222 gS_0 d_V_output_9 ?_
    refine f_get (D := (dC, dI)) (ci := 1) (v := .int n) (C := R_Snk) (T := F_Snk) (N := 7) hx hb hT in_Snk hown hK hP 2 rfl rfl 1 (by decide) fr_Snk_1 w_1_44 gO_1 d_V_output_12 ?_
    refine lv_icmp_lt (tgt := 22) hx hb d_V_output_15 (by decide) (fun c_2 => ?_) (fun c_2 => ?_)
    · refine lv_aload_n hx hb d_V_output_22 rfl (lv_at hl 0 rfl) ?_
      refine f_get (D := (dC, dI)) (ci := 0) (v := .ref f) (C := R_V) (T := F_V) (N := 15) hx hb hT in_V hown hK hP 0 rfl rfl 14 (by decide) fr_V_14 w_4_9 gF_14 d_V_output_23 ?_
      refine f_get (D := (dC, dI)) (ci := 11) (v := .ref o) (C := R_Asm) (T := F_Asm) (N := 4) hx hb hT in_Asm hown hK hP 1 rfl rfl 0 (by decide) fr_Asm_0 w_3_222 gS_0 d_V_output_26 ?_
      refine f_get (D := (dC, dI)) (ci := 1) (v := .ref a) (C := R_Snk) (T := F_Snk) (N := 7) hx hb hT in_Snk hown hK hP 2 rfl rfl 0 (by decide) fr_Snk_0 w_1_42 gO_0 d_V_output_29 ?_
      refine lv_iload_n hx hb d_V_output_32 rfl (lv_at hl 1 rfl) ?_
      refine va_bald hx hb hK hP 3 1 rfl rfl (in_row c_1 c_2 hn) d_V_output_33 ?_
      refine lv_sipush (v := 255) hx hb d_V_output_34 (by decide) ?_
      refine lv_iand hx hb d_V_output_37 ?_
      exact W.iret (v := ((g (k : Int32).toNatClampNeg) &&& 255)) hx hb hr (fun t ht hW => ⟨⟨((g (k : Int32).toNatClampNeg) &&& 255), (), rfl, by simp [sp_at, c_1, c_2], by rw [ht]; exact hP, hD⟩, hS.F ht⟩) hS.2.2 d_V_output_38
    · refine lv_iconst (v := (-1)) hx hb d_V_output_18 (by decide) ?_
      refine lv_goto (tgt := 38) hx hb d_V_output_19 (by decide) ?_
      exact W.iret (v := (-1)) hx hb hr (fun t ht hW => ⟨⟨(-1), (), rfl, by simp [sp_at, c_1, c_2], by rw [ht]; exact hP, hD⟩, hS.F ht⟩) hS.2.2 d_V_output_38
set_option maxHeartbeats 4000000 in
set_option maxRecDepth 100000 in
/-- the model's output(k) -/
theorem c_Mod_output (sz : Nat) (h : Nat) (F : List Value) (a z : Nat) (g : Nat → Int32) (k n : Int32) (nF : F.length = 167) (gF_113 : F[113]? = some (.int n)) (gF_112 : F[112]? = some (.ref a)) (hn : n.toInt ≤ z) : Met l y_Mod_output (wsOf y_Mod_output b_Mod_output 2 (some (.int))) ({ frames := 0, cells := 0, slots := 0, locals := 0 }) (va_Pc [.ref h, .int k] (PC dC dI cI cB cJ cZ sz [(h, .inr (12, F)), (a, .inl (cB, z, .inl g))])) (va_Qi (fun (r : Int32) (_ : Unit) => r = sp_at k n (g k.toNatClampNeg &&& 255)) (fun _ t => va_P (dC, dI) CL [(h, .inr (12, F.set 0 (.int 0))), (a, .inl (cB, z, .inl g))] t.heap ∧ va_D (va_A [(h, .inr (12, F)), (a, .inl (cB, z, .inl g))] sz) [(h, .inr (12, F.set 0 (.int 0))), (a, .inl (cB, z, .inl g))]) (va_A [(h, .inr (12, F)), (a, .inl (cB, z, .inl g))] sz)) 0 0 (va_A [(h, .inr (12, F)), (a, .inl (cB, z, .inl g))] sz) := by
  refine Met.ofW (cc := b_Mod_output) (maxL := 2) (ret := some (.int)) (by decide) rfl ?_
  intro p e s m args below meth c s₁ B hml hv
  obtain ⟨rfl, hsz, hP, hK, hD0, hN⟩ := hv
  have hx := B.exec
  have hb := B.bytes
  have hr := B.returns
  have hts := atoms_spec B.pre
  have hT : ∀ w ∈ TG, w.before _ s = true := fun w h => hts w (List.mem_cons_of_mem _ h)
  have hown : s.vm.findClass R_Mod = some m.cls := findClass_of_methodNamed B.named
  have hlocks := B.notSynchronized
  subst hsz
  have hD := hD0.self (sz := s.heap.size)
  generalize hAe : va_A [(h, .inr (12, F)), (a, .inl (cB, z, .inl g))] s.heap.size = A at hD ⊢
  have hA : ∀ q : Nat, s.heap.size ≤ q → A q := fun q h => by rw [← hAe]; exact Or.inr h
  have hS : va_S A s.heap s.heap [] := va_S.rf
  have hl := lv_entry ([.ref h, .int k]) (n := 2) (Nat.le_of_ble_eq_true rfl)
  rw [lg_entry_eq]
  generalize (lg_sl ([.ref h, .int k]) ++ List.replicate (2 - (lg_sl ([.ref h, .int k])).length) Slot.unset).toArray = ls at hl ⊢
  have hl : lv_has ls 2 [(0, .ref h), (1, .int k)] := hl
  refine lv_aload_n hx hb d_Mod_output_0 rfl (lv_at hl 0 rfl) ?_
  refine lv_iconst (v := 0) hx hb d_Mod_output_1 (by decide) ?_
  refine f_put (D := (dC, dI)) (ci := 12) (v := .int 0) (ty := .int) (C := R_Mod) (T := F_Mod) (N := 167) hx hb hT in_Mod t_Mod t_Mod_ok n_Mod hown hK hP hD hS 0 rfl rfl 0 (by decide) fr_Mod_0 w_8_180 (by decide +kernel) rfl rfl (by rw [nF]; decide) d_Mod_output_2 (fun H locs hP hD hS => ?_)
  have hP : va_P (dC, dI) CL [(h, .inr (12, F.set 0 (.int 0))), (a, .inl (cB, z, .inl g))] H := hP
  have hD : va_D A [(h, .inr (12, F.set 0 (.int 0))), (a, .inl (cB, z, .inl g))] := hD
  refine lv_iload_n hx hb d_Mod_output_5 rfl (lv_at hl 1 rfl) ?_
  refine lv_if_lt (tgt := 17) hx hb d_Mod_output_6 (by decide) (fun c_1 => ?_) (fun c_1 => ?_)
  · refine lv_iconst (v := (-1)) hx hb d_Mod_output_17 (by decide) ?_
    refine lv_goto (tgt := 31) hx hb d_Mod_output_18 (by decide) ?_
    exact W.iret (v := (-1)) hx hb hr (fun t ht hW => ⟨⟨(-1), (), rfl, by simp [sp_at, c_1], by rw [ht]; exact hP, hD⟩, hS.F ht⟩) hS.2.2 d_Mod_output_31
  · refine lv_iload_n hx hb d_Mod_output_9 rfl (lv_at hl 1 rfl) ?_
    refine lv_aload_n hx hb d_Mod_output_10 rfl (lv_at hl 0 rfl) ?_
    refine f_get (D := (dC, dI)) (ci := 12) (v := .int n) (C := R_Mod) (T := F_Mod) (N := 167) hx hb hT in_Mod hown hK hP 0 rfl rfl 113 (by decide) fr_Mod_113 w_9_53 ((List.getElem?_set_ne (by decide)).trans gF_113) d_Mod_output_11 ?_
    refine lv_icmp_lt (tgt := 21) hx hb d_Mod_output_14 (by decide) (fun c_2 => ?_) (fun c_2 => ?_)
    · refine lv_aload_n hx hb d_Mod_output_21 rfl (lv_at hl 0 rfl) ?_
      refine f_get (D := (dC, dI)) (ci := 12) (v := .ref a) (C := R_Mod) (T := F_Mod) (N := 167) hx hb hT in_Mod hown hK hP 0 rfl rfl 112 (by decide) fr_Mod_112 w_9_52 ((List.getElem?_set_ne (by decide)).trans gF_112) d_Mod_output_22 ?_
      refine lv_iload_n hx hb d_Mod_output_25 rfl (lv_at hl 1 rfl) ?_
      refine va_bald hx hb hK hP 1 1 rfl rfl (in_row c_1 c_2 hn) d_Mod_output_26 ?_
      refine lv_sipush (v := 255) hx hb d_Mod_output_27 (by decide) ?_
      refine lv_iand hx hb d_Mod_output_30 ?_
      exact W.iret (v := ((g (k : Int32).toNatClampNeg) &&& 255)) hx hb hr (fun t ht hW => ⟨⟨((g (k : Int32).toNatClampNeg) &&& 255), (), rfl, by simp [sp_at, c_1, c_2], by rw [ht]; exact hP, hD⟩, hS.F ht⟩) hS.2.2 d_Mod_output_31
    · refine lv_iconst (v := (-1)) hx hb d_Mod_output_17 (by decide) ?_
      refine lv_goto (tgt := 31) hx hb d_Mod_output_18 (by decide) ?_
      exact W.iret (v := (-1)) hx hb hr (fun t ht hW => ⟨⟨(-1), (), rfl, by simp [sp_at, c_1, c_2], by rw [ht]; exact hP, hD⟩, hS.F ht⟩) hS.2.2 d_Mod_output_31
set_option maxHeartbeats 4000000 in
set_option maxRecDepth 100000 in
/-- skipped(k) -/
theorem c_V_skipped (sz : Nat) (h : Nat) (F : List Value) (f : Nat) (S : List Value) (k rd x y : Int32) (nF : F.length = 15) (gF_12 : F[12]? = some (.ref f)) (nS : S.length = 16) (gS_0 : S[0]? = some (.int rd)) (gS_2 : S[2]? = some (.int x)) (gS_3 : S[3]? = some (.int y)) : Met l y_V_skipped (wsOf y_V_skipped b_V_skipped 2 (some (.int))) ({ frames := 0, cells := 0, slots := 0, locals := 0 }) (va_Pc [.ref h, .int k] (PC dC dI cI cB cJ cZ sz [(h, .inr (0, F)), (f, .inr (10, S))])) (va_Qi (fun (r : Int32) (_ : Unit) => r = sp_skip k rd x y) (fun _ t => va_P (dC, dI) CL [(h, .inr (0, F)), (f, .inr (10, S))] t.heap ∧ va_D (va_A [(h, .inr (0, F)), (f, .inr (10, S))] sz) [(h, .inr (0, F)), (f, .inr (10, S))]) (va_A [(h, .inr (0, F)), (f, .inr (10, S))] sz)) 0 0 (va_A [(h, .inr (0, F)), (f, .inr (10, S))] sz) := by
  refine Met.ofW (cc := b_V_skipped) (maxL := 2) (ret := some (.int)) (by decide) rfl ?_
  intro p e s m args below meth c s₁ B hml hv
  obtain ⟨rfl, hsz, hP, hK, hD0, hN⟩ := hv
  have hx := B.exec
  have hb := B.bytes
  have hr := B.returns
  have hts := atoms_spec B.pre
  have hT : ∀ w ∈ TG, w.before _ s = true := fun w h => hts w (List.mem_cons_of_mem _ h)
  have hown : s.vm.findClass R_V = some m.cls := findClass_of_methodNamed B.named
  have hlocks := B.notSynchronized
  subst hsz
  have hD := hD0.self (sz := s.heap.size)
  generalize hAe : va_A [(h, .inr (0, F)), (f, .inr (10, S))] s.heap.size = A at hD ⊢
  have hA : ∀ q : Nat, s.heap.size ≤ q → A q := fun q h => by rw [← hAe]; exact Or.inr h
  have hS : va_S A s.heap s.heap [] := va_S.rf
  have hl := lv_entry ([.ref h, .int k]) (n := 2) (Nat.le_of_ble_eq_true rfl)
  rw [lg_entry_eq]
  generalize (lg_sl ([.ref h, .int k]) ++ List.replicate (2 - (lg_sl ([.ref h, .int k])).length) Slot.unset).toArray = ls at hl ⊢
  have hl : lv_has ls 2 [(0, .ref h), (1, .int k)] := hl
  refine lv_iload_n hx hb d_V_skipped_0 rfl (lv_at hl 1 rfl) ?_
  refine lv_if_eq (tgt := 11) hx hb d_V_skipped_1 (by decide) (fun c_1 => ?_) (fun c_1 => ?_)
  · refine lv_aload_n hx hb d_V_skipped_11 rfl (lv_at hl 0 rfl) ?_
    refine f_get (D := (dC, dI)) (ci := 0) (v := .ref f) (C := R_V) (T := F_V) (N := 15) hx hb hT in_V hown hK hP 0 rfl rfl 12 (by decide) fr_V_12 w_4_7 gF_12 d_V_skipped_12 ?_
    refine f_get (D := (dC, dI)) (ci := 10) (v := .int rd) (C := R_Ans) (T := F_Ans) (N := 16) hx hb hT in_Ans hown hK hP 1 rfl rfl 0 (by decide) fr_Ans_0 w_3_156 gS_0 d_V_skipped_15 ?_
    refine lv_if_ne (tgt := 23) hx hb d_V_skipped_18 (by decide) (fun c_2 => ?_) (fun c_2 => ?_)
    · refine lv_iload_n hx hb d_V_skipped_23 rfl (lv_at hl 1 rfl) ?_
      refine lv_if_ne (tgt := 37) hx hb d_V_skipped_24 (by decide) (fun c_3 => ?_) (fun c_3 => ?_)
      · refine lv_aload_n hx hb d_V_skipped_37 rfl (lv_at hl 0 rfl) ?_
        refine f_get (D := (dC, dI)) (ci := 0) (v := .ref f) (C := R_V) (T := F_V) (N := 15) hx hb hT in_V hown hK hP 0 rfl rfl 12 (by decide) fr_V_12 w_4_7 gF_12 d_V_skipped_38 ?_
        refine f_get (D := (dC, dI)) (ci := 10) (v := .int y) (C := R_Ans) (T := F_Ans) (N := 16) hx hb hT in_Ans hown hK hP 1 rfl rfl 3 (by decide) fr_Ans_3 w_3_162 gS_3 d_V_skipped_41 ?_
        exact W.iret (v := y) hx hb hr (fun t ht hW => ⟨⟨y, (), rfl, by first | (simp [sp_skip, c_1, c_2, c_3]; done) | exact absurd c_1 c_3 | exact absurd c_4 c_1, by rw [ht]; exact hP, hD⟩, hS.F ht⟩) hS.2.2 d_V_skipped_44
      · refine lv_aload_n hx hb d_V_skipped_27 rfl (lv_at hl 0 rfl) ?_
        refine f_get (D := (dC, dI)) (ci := 0) (v := .ref f) (C := R_V) (T := F_V) (N := 15) hx hb hT in_V hown hK hP 0 rfl rfl 12 (by decide) fr_V_12 w_4_7 gF_12 d_V_skipped_28 ?_
        refine f_get (D := (dC, dI)) (ci := 10) (v := .int x) (C := R_Ans) (T := F_Ans) (N := 16) hx hb hT in_Ans hown hK hP 1 rfl rfl 2 (by decide) fr_Ans_2 w_3_160 gS_2 d_V_skipped_31 ?_
        refine lv_goto (tgt := 44) hx hb d_V_skipped_34 (by decide) ?_
        exact W.iret (v := x) hx hb hr (fun t ht hW => ⟨⟨x, (), rfl, by first | (simp [sp_skip, c_1, c_2, c_3]; done) | exact absurd c_1 c_3 | exact absurd c_4 c_1, by rw [ht]; exact hP, hD⟩, hS.F ht⟩) hS.2.2 d_V_skipped_44
    · refine lv_iconst (v := 0) hx hb d_V_skipped_21 (by decide) ?_
      exact W.iret (v := 0) hx hb hr (fun t ht hW => ⟨⟨0, (), rfl, by first | (simp [sp_skip, c_1, c_2]; done) | exact absurd c_1 c_3 | exact absurd c_4 c_1, by rw [ht]; exact hP, hD⟩, hS.F ht⟩) hS.2.2 d_V_skipped_22
  · refine lv_iload_n hx hb d_V_skipped_4 rfl (lv_at hl 1 rfl) ?_
    refine lv_iconst (v := 1) hx hb d_V_skipped_5 (by decide) ?_
    refine lv_icmp_eq (tgt := 11) hx hb d_V_skipped_6 (by decide) (fun c_2 => ?_) (fun c_2 => ?_)
    · refine lv_aload_n hx hb d_V_skipped_11 rfl (lv_at hl 0 rfl) ?_
      refine f_get (D := (dC, dI)) (ci := 0) (v := .ref f) (C := R_V) (T := F_V) (N := 15) hx hb hT in_V hown hK hP 0 rfl rfl 12 (by decide) fr_V_12 w_4_7 gF_12 d_V_skipped_12 ?_
      refine f_get (D := (dC, dI)) (ci := 10) (v := .int rd) (C := R_Ans) (T := F_Ans) (N := 16) hx hb hT in_Ans hown hK hP 1 rfl rfl 0 (by decide) fr_Ans_0 w_3_156 gS_0 d_V_skipped_15 ?_
      refine lv_if_ne (tgt := 23) hx hb d_V_skipped_18 (by decide) (fun c_3 => ?_) (fun c_3 => ?_)
      · refine lv_iload_n hx hb d_V_skipped_23 rfl (lv_at hl 1 rfl) ?_
        refine lv_if_ne (tgt := 37) hx hb d_V_skipped_24 (by decide) (fun c_4 => ?_) (fun c_4 => ?_)
        · refine lv_aload_n hx hb d_V_skipped_37 rfl (lv_at hl 0 rfl) ?_
          refine f_get (D := (dC, dI)) (ci := 0) (v := .ref f) (C := R_V) (T := F_V) (N := 15) hx hb hT in_V hown hK hP 0 rfl rfl 12 (by decide) fr_V_12 w_4_7 gF_12 d_V_skipped_38 ?_
          refine f_get (D := (dC, dI)) (ci := 10) (v := .int y) (C := R_Ans) (T := F_Ans) (N := 16) hx hb hT in_Ans hown hK hP 1 rfl rfl 3 (by decide) fr_Ans_3 w_3_162 gS_3 d_V_skipped_41 ?_
          exact W.iret (v := y) hx hb hr (fun t ht hW => ⟨⟨y, (), rfl, by first | (simp [sp_skip, c_1, c_2, c_3, c_4]; done) | exact absurd c_1 c_3 | exact absurd c_4 c_1, by rw [ht]; exact hP, hD⟩, hS.F ht⟩) hS.2.2 d_V_skipped_44
        · refine lv_aload_n hx hb d_V_skipped_27 rfl (lv_at hl 0 rfl) ?_
          refine f_get (D := (dC, dI)) (ci := 0) (v := .ref f) (C := R_V) (T := F_V) (N := 15) hx hb hT in_V hown hK hP 0 rfl rfl 12 (by decide) fr_V_12 w_4_7 gF_12 d_V_skipped_28 ?_
          refine f_get (D := (dC, dI)) (ci := 10) (v := .int x) (C := R_Ans) (T := F_Ans) (N := 16) hx hb hT in_Ans hown hK hP 1 rfl rfl 2 (by decide) fr_Ans_2 w_3_160 gS_2 d_V_skipped_31 ?_
          refine lv_goto (tgt := 44) hx hb d_V_skipped_34 (by decide) ?_
          exact W.iret (v := x) hx hb hr (fun t ht hW => ⟨⟨x, (), rfl, by first | (simp [sp_skip, c_1, c_2, c_3, c_4]; done) | exact absurd c_1 c_3 | exact absurd c_4 c_1, by rw [ht]; exact hP, hD⟩, hS.F ht⟩) hS.2.2 d_V_skipped_44
      · refine lv_iconst (v := 0) hx hb d_V_skipped_21 (by decide) ?_
        exact W.iret (v := 0) hx hb hr (fun t ht hW => ⟨⟨0, (), rfl, by first | (simp [sp_skip, c_1, c_2, c_3]; done) | exact absurd c_1 c_3 | exact absurd c_4 c_1, by rw [ht]; exact hP, hD⟩, hS.F ht⟩) hS.2.2 d_V_skipped_22
    · refine lv_iconst (v := (-1)) hx hb d_V_skipped_9 (by decide) ?_
      exact W.iret (v := (-1)) hx hb hr (fun t ht hW => ⟨⟨(-1), (), rfl, by first | (simp [sp_skip, c_1, c_2]; done) | exact absurd c_1 c_3 | exact absurd c_4 c_1, by rw [ht]; exact hP, hD⟩, hS.F ht⟩) hS.2.2 d_V_skipped_10
set_option maxHeartbeats 4000000 in
set_option maxRecDepth 100000 in
/-- the model's skipped(k) -/
theorem c_Mod_skipped (sz : Nat) (h : Nat) (F : List Value) (k rd x y : Int32) (nF : F.length = 167) (gF_121 : F[121]? = some (.int rd)) (gF_163 : F[163]? = some (.int x)) (gF_164 : F[164]? = some (.int y)) : Met l y_Mod_skipped (wsOf y_Mod_skipped b_Mod_skipped 2 (some (.int))) ({ frames := 0, cells := 0, slots := 0, locals := 0 }) (va_Pc [.ref h, .int k] (PC dC dI cI cB cJ cZ sz [(h, .inr (12, F))])) (va_Qi (fun (r : Int32) (_ : Unit) => r = sp_skip k rd x y) (fun _ t => va_P (dC, dI) CL [(h, .inr (12, F.set 0 (.int 0)))] t.heap ∧ va_D (va_A [(h, .inr (12, F))] sz) [(h, .inr (12, F.set 0 (.int 0)))]) (va_A [(h, .inr (12, F))] sz)) 0 0 (va_A [(h, .inr (12, F))] sz) := by
  refine Met.ofW (cc := b_Mod_skipped) (maxL := 2) (ret := some (.int)) (by decide) rfl ?_
  intro p e s m args below meth c s₁ B hml hv
  obtain ⟨rfl, hsz, hP, hK, hD0, hN⟩ := hv
  have hx := B.exec
  have hb := B.bytes
  have hr := B.returns
  have hts := atoms_spec B.pre
  have hT : ∀ w ∈ TG, w.before _ s = true := fun w h => hts w (List.mem_cons_of_mem _ h)
  have hown : s.vm.findClass R_Mod = some m.cls := findClass_of_methodNamed B.named
  have hlocks := B.notSynchronized
  subst hsz
  have hD := hD0.self (sz := s.heap.size)
  generalize hAe : va_A [(h, .inr (12, F))] s.heap.size = A at hD ⊢
  have hA : ∀ q : Nat, s.heap.size ≤ q → A q := fun q h => by rw [← hAe]; exact Or.inr h
  have hS : va_S A s.heap s.heap [] := va_S.rf
  have hl := lv_entry ([.ref h, .int k]) (n := 2) (Nat.le_of_ble_eq_true rfl)
  rw [lg_entry_eq]
  generalize (lg_sl ([.ref h, .int k]) ++ List.replicate (2 - (lg_sl ([.ref h, .int k])).length) Slot.unset).toArray = ls at hl ⊢
  have hl : lv_has ls 2 [(0, .ref h), (1, .int k)] := hl
  refine lv_aload_n hx hb d_Mod_skipped_0 rfl (lv_at hl 0 rfl) ?_
  refine lv_iconst (v := 0) hx hb d_Mod_skipped_1 (by decide) ?_
  refine f_put (D := (dC, dI)) (ci := 12) (v := .int 0) (ty := .int) (C := R_Mod) (T := F_Mod) (N := 167) hx hb hT in_Mod t_Mod t_Mod_ok n_Mod hown hK hP hD hS 0 rfl rfl 0 (by decide) fr_Mod_0 w_8_180 (by decide +kernel) rfl rfl (by rw [nF]; decide) d_Mod_skipped_2 (fun H locs hP hD hS => ?_)
  have hP : va_P (dC, dI) CL [(h, .inr (12, F.set 0 (.int 0)))] H := hP
  have hD : va_D A [(h, .inr (12, F.set 0 (.int 0)))] := hD
  refine lv_iload_n hx hb d_Mod_skipped_5 rfl (lv_at hl 1 rfl) ?_
  refine lv_if_lt (tgt := 14) hx hb d_Mod_skipped_6 (by decide) (fun c_1 => ?_) (fun c_1 => ?_)
  · refine lv_iconst (v := (-1)) hx hb d_Mod_skipped_14 (by decide) ?_
    refine lv_goto (tgt := 44) hx hb d_Mod_skipped_15 (by decide) ?_
    exact W.iret (v := (-1)) hx hb hr (fun t ht hW => ⟨⟨(-1), (), rfl, by simp [sp_skip, (sk_lt c_1).1, (sk_lt c_1).2], by rw [ht]; exact hP, hD⟩, hS.F ht⟩) hS.2.2 d_Mod_skipped_44
  · refine lv_iload_n hx hb d_Mod_skipped_9 rfl (lv_at hl 1 rfl) ?_
    refine lv_iconst (v := 1) hx hb d_Mod_skipped_10 (by decide) ?_
    refine lv_icmp_le (tgt := 18) hx hb d_Mod_skipped_11 (by decide) (fun c_2 => ?_) (fun c_2 => ?_)
    · refine lv_aload_n hx hb d_Mod_skipped_18 rfl (lv_at hl 0 rfl) ?_
      refine f_get (D := (dC, dI)) (ci := 12) (v := .int rd) (C := R_Mod) (T := F_Mod) (N := 167) hx hb hT in_Mod hown hK hP 0 rfl rfl 121 (by decide) fr_Mod_121 w_9_61 ((List.getElem?_set_ne (by decide)).trans gF_121) d_Mod_skipped_19 ?_
      refine lv_if_ne (tgt := 29) hx hb d_Mod_skipped_22 (by decide) (fun c_3 => ?_) (fun c_3 => ?_)
      · refine lv_iload_n hx hb d_Mod_skipped_29 rfl (lv_at hl 1 rfl) ?_
        refine lv_if_ne (tgt := 40) hx hb d_Mod_skipped_30 (by decide) (fun c_4 => ?_) (fun c_4 => ?_)
        · refine lv_aload_n hx hb d_Mod_skipped_40 rfl (lv_at hl 0 rfl) ?_
          refine f_get (D := (dC, dI)) (ci := 12) (v := .int y) (C := R_Mod) (T := F_Mod) (N := 167) hx hb hT in_Mod hown hK hP 0 rfl rfl 164 (by decide) fr_Mod_164 w_9_104 ((List.getElem?_set_ne (by decide)).trans gF_164) d_Mod_skipped_41 ?_
          exact W.iret (v := y) hx hb hr (fun t ht hW => ⟨⟨y, (), rfl, by rcases sk_01 c_1 c_2 with e | e <;> simp_all [sp_skip], by rw [ht]; exact hP, hD⟩, hS.F ht⟩) hS.2.2 d_Mod_skipped_44
        · refine lv_aload_n hx hb d_Mod_skipped_33 rfl (lv_at hl 0 rfl) ?_
          refine f_get (D := (dC, dI)) (ci := 12) (v := .int x) (C := R_Mod) (T := F_Mod) (N := 167) hx hb hT in_Mod hown hK hP 0 rfl rfl 163 (by decide) fr_Mod_163 w_9_103 ((List.getElem?_set_ne (by decide)).trans gF_163) d_Mod_skipped_34 ?_
          refine lv_goto (tgt := 44) hx hb d_Mod_skipped_37 (by decide) ?_
          exact W.iret (v := x) hx hb hr (fun t ht hW => ⟨⟨x, (), rfl, by rcases sk_01 c_1 c_2 with e | e <;> simp_all [sp_skip], by rw [ht]; exact hP, hD⟩, hS.F ht⟩) hS.2.2 d_Mod_skipped_44
      · refine lv_iconst (v := 0) hx hb d_Mod_skipped_25 (by decide) ?_
        refine lv_goto (tgt := 44) hx hb d_Mod_skipped_26 (by decide) ?_
        exact W.iret (v := 0) hx hb hr (fun t ht hW => ⟨⟨0, (), rfl, by rcases sk_01 c_1 c_2 with e | e <;> simp [sp_skip, e, c_3], by rw [ht]; exact hP, hD⟩, hS.F ht⟩) hS.2.2 d_Mod_skipped_44
    · refine lv_iconst (v := (-1)) hx hb d_Mod_skipped_14 (by decide) ?_
      refine lv_goto (tgt := 44) hx hb d_Mod_skipped_15 (by decide) ?_
      exact W.iret (v := (-1)) hx hb hr (fun t ht hW => ⟨⟨(-1), (), rfl, by simp [sp_skip, (sk_gt c_2).1, (sk_gt c_2).2], by rw [ht]; exact hP, hD⟩, hS.F ht⟩) hS.2.2 d_Mod_skipped_44
set_option maxHeartbeats 4000000 in
set_option maxRecDepth 100000 in
/-- Answer.rowAt(k) -/
theorem c_Ans_rowAt (sz : Nat) (h : Nat) (F : List Value) (a z : Nat) (g : Nat → Int32) (rd cl k n : Int32) (nF : F.length = 16) (gF_0 : F[0]? = some (.int rd)) (gF_6 : F[6]? = some (.int cl)) (gF_1 : F[1]? = some (.int n)) (gF_5 : F[5]? = some (.ref a)) (hn : n.toInt ≤ z) : Met l y_Ans_rowAt (wsOf y_Ans_rowAt b_Ans_rowAt 2 (some (.int))) ({ frames := 0, cells := 0, slots := 0, locals := 0 }) (va_Pc [.ref h, .int k] (PC dC dI cI cB cJ cZ sz [(h, .inr (10, F)), (a, .inl (cI, z, .inl g))])) (va_Qi (fun (r : Int32) (_ : Unit) => r = sp_rowAt rd cl k n (g k.toNatClampNeg)) (fun _ t => va_P (dC, dI) CL [(h, .inr (10, F)), (a, .inl (cI, z, .inl g))] t.heap ∧ va_D (va_A [(h, .inr (10, F)), (a, .inl (cI, z, .inl g))] sz) [(h, .inr (10, F)), (a, .inl (cI, z, .inl g))]) (va_A [(h, .inr (10, F)), (a, .inl (cI, z, .inl g))] sz)) 0 0 (va_A [(h, .inr (10, F)), (a, .inl (cI, z, .inl g))] sz) := by
  refine Met.ofW (cc := b_Ans_rowAt) (maxL := 2) (ret := some (.int)) (by decide) rfl ?_
  intro p e s m args below meth c s₁ B hml hv
  obtain ⟨rfl, hsz, hP, hK, hD0, hN⟩ := hv
  have hx := B.exec
  have hb := B.bytes
  have hr := B.returns
  have hts := atoms_spec B.pre
  have hT : ∀ w ∈ TG, w.before _ s = true := fun w h => hts w (List.mem_cons_of_mem _ h)
  have hown : s.vm.findClass R_Ans = some m.cls := findClass_of_methodNamed B.named
  have hlocks := B.notSynchronized
  subst hsz
  have hD := hD0.self (sz := s.heap.size)
  generalize hAe : va_A [(h, .inr (10, F)), (a, .inl (cI, z, .inl g))] s.heap.size = A at hD ⊢
  have hA : ∀ q : Nat, s.heap.size ≤ q → A q := fun q h => by rw [← hAe]; exact Or.inr h
  have hS : va_S A s.heap s.heap [] := va_S.rf
  have hl := lv_entry ([.ref h, .int k]) (n := 2) (Nat.le_of_ble_eq_true rfl)
  rw [lg_entry_eq]
  generalize (lg_sl ([.ref h, .int k]) ++ List.replicate (2 - (lg_sl ([.ref h, .int k])).length) Slot.unset).toArray = ls at hl ⊢
  have hl : lv_has ls 2 [(0, .ref h), (1, .int k)] := hl
  refine lv_aload_n hx hb d_Ans_rowAt_0 rfl (lv_at hl 0 rfl) ?_
  refine f_get (D := (dC, dI)) (ci := 10) (v := .int rd) (C := R_Ans) (T := F_Ans) (N := 16) hx hb hT in_Ans hown hK hP 0 rfl rfl 0 (by decide) fr_Ans_0 w_3_155 gF_0 d_Ans_rowAt_1 ?_
  refine lv_if_eq (tgt := 26) hx hb d_Ans_rowAt_4 (by decide) (fun c_1 => ?_) (fun c_1 => ?_)
  · refine lv_iconst (v := (-1)) hx hb d_Ans_rowAt_26 (by decide) ?_
    refine lv_goto (tgt := 36) hx hb d_Ans_rowAt_27 (by decide) ?_
    exact W.iret (v := (-1)) hx hb hr (fun t ht hW => ⟨⟨(-1), (), rfl, by simp [sp_rowAt, sp_at, c_1], by rw [ht]; exact hP, hD⟩, hS.F ht⟩) hS.2.2 d_Ans_rowAt_36
  · refine lv_aload_n hx hb d_Ans_rowAt_7 rfl (lv_at hl 0 rfl) ?_
    refine f_get (D := (dC, dI)) (ci := 10) (v := .int cl) (C := R_Ans) (T := F_Ans) (N := 16) hx hb hT in_Ans hown hK hP 0 rfl rfl 6 (by decide) fr_Ans_6 w_3_166 gF_6 d_Ans_rowAt_8 ?_
    refine lv_if_ne (tgt := 26) hx hb d_Ans_rowAt_11 (by decide) (fun c_2 => ?_) (fun c_2 => ?_)
    · refine lv_iconst (v := (-1)) hx hb d_Ans_rowAt_26 (by decide) ?_
      refine lv_goto (tgt := 36) hx hb d_Ans_rowAt_27 (by decide) ?_
      exact W.iret (v := (-1)) hx hb hr (fun t ht hW => ⟨⟨(-1), (), rfl, by simp [sp_rowAt, sp_at, c_1, c_2], by rw [ht]; exact hP, hD⟩, hS.F ht⟩) hS.2.2 d_Ans_rowAt_36
    · refine lv_iload_n hx hb d_Ans_rowAt_14 rfl (lv_at hl 1 rfl) ?_
      refine lv_if_lt (tgt := 26) hx hb d_Ans_rowAt_15 (by decide) (fun c_3 => ?_) (fun c_3 => ?_)
      · refine lv_iconst (v := (-1)) hx hb d_Ans_rowAt_26 (by decide) ?_
        refine lv_goto (tgt := 36) hx hb d_Ans_rowAt_27 (by decide) ?_
        exact W.iret (v := (-1)) hx hb hr (fun t ht hW => ⟨⟨(-1), (), rfl, by simp [sp_rowAt, sp_at, c_1, c_2, c_3], by rw [ht]; exact hP, hD⟩, hS.F ht⟩) hS.2.2 d_Ans_rowAt_36
      · refine lv_iload_n hx hb d_Ans_rowAt_18 rfl (lv_at hl 1 rfl) ?_
        refine lv_aload_n hx hb d_Ans_rowAt_19 rfl (lv_at hl 0 rfl) ?_
        refine f_get (D := (dC, dI)) (ci := 10) (v := .int n) (C := R_Ans) (T := F_Ans) (N := 16) hx hb hT in_Ans hown hK hP 0 rfl rfl 1 (by decide) fr_Ans_1 w_3_157 gF_1 d_Ans_rowAt_20 ?_
        refine lv_icmp_lt (tgt := 30) hx hb d_Ans_rowAt_23 (by decide) (fun c_4 => ?_) (fun c_4 => ?_)
        · refine lv_aload_n hx hb d_Ans_rowAt_30 rfl (lv_at hl 0 rfl) ?_
          refine f_get (D := (dC, dI)) (ci := 10) (v := .ref a) (C := R_Ans) (T := F_Ans) (N := 16) hx hb hT in_Ans hown hK hP 0 rfl rfl 5 (by decide) fr_Ans_5 w_3_165 gF_5 d_Ans_rowAt_31 ?_
          refine lv_iload_n hx hb d_Ans_rowAt_34 rfl (lv_at hl 1 rfl) ?_
          refine va_iald hx hb hK hP 1 0 rfl rfl (in_row c_3 c_4 hn) d_Ans_rowAt_35 ?_
          exact W.iret (v := (g (k : Int32).toNatClampNeg)) hx hb hr (fun t ht hW => ⟨⟨(g (k : Int32).toNatClampNeg), (), rfl, by simp [sp_rowAt, sp_at, c_1, c_2, c_3, c_4], by rw [ht]; exact hP, hD⟩, hS.F ht⟩) hS.2.2 d_Ans_rowAt_36
        · refine lv_iconst (v := (-1)) hx hb d_Ans_rowAt_26 (by decide) ?_
          refine lv_goto (tgt := 36) hx hb d_Ans_rowAt_27 (by decide) ?_
          exact W.iret (v := (-1)) hx hb hr (fun t ht hW => ⟨⟨(-1), (), rfl, by simp [sp_rowAt, sp_at, c_1, c_2, c_3, c_4], by rw [ht]; exact hP, hD⟩, hS.F ht⟩) hS.2.2 d_Ans_rowAt_36
set_option maxHeartbeats 4000000 in
set_option maxRecDepth 100000 in
/-- Answer.placeOf(k, i) -/
theorem c_Ans_placeOf (sz : Nat) (h : Nat) (F : List Value) (rd cl k n i w : Int32) (nF : F.length = 16) (gF_0 : F[0]? = some (.int rd)) (gF_6 : F[6]? = some (.int cl)) (gF_1 : F[1]? = some (.int n)) (gF_7 : F[7]? = some (.int w)) : Met l y_Ans_placeOf (wsOf y_Ans_placeOf b_Ans_placeOf 4 (some (.int))) ({ frames := 0, cells := 0, slots := 0, locals := 0 }) (va_Pc [.ref h, .int k, .int i] (PC dC dI cI cB cJ cZ sz [(h, .inr (10, F))])) (va_Qi (fun (r : Int32) (_ : Unit) => r = sp_place rd cl k n i w) (fun _ t => va_P (dC, dI) CL [(h, .inr (10, F))] t.heap ∧ va_D (va_A [(h, .inr (10, F))] sz) [(h, .inr (10, F))]) (va_A [(h, .inr (10, F))] sz)) 0 0 (va_A [(h, .inr (10, F))] sz) := by
  refine Met.ofW (cc := b_Ans_placeOf) (maxL := 4) (ret := some (.int)) (by decide) rfl ?_
  intro p e s m args below meth c s₁ B hml hv
  obtain ⟨rfl, hsz, hP, hK, hD0, hN⟩ := hv
  have hx := B.exec
  have hb := B.bytes
  have hr := B.returns
  have hts := atoms_spec B.pre
  have hT : ∀ w ∈ TG, w.before _ s = true := fun w h => hts w (List.mem_cons_of_mem _ h)
  have hown : s.vm.findClass R_Ans = some m.cls := findClass_of_methodNamed B.named
  have hlocks := B.notSynchronized
  subst hsz
  have hD := hD0.self (sz := s.heap.size)
  generalize hAe : va_A [(h, .inr (10, F))] s.heap.size = A at hD ⊢
  have hA : ∀ q : Nat, s.heap.size ≤ q → A q := fun q h => by rw [← hAe]; exact Or.inr h
  have hS : va_S A s.heap s.heap [] := va_S.rf
  have hl := lv_entry ([.ref h, .int k, .int i]) (n := 4) (Nat.le_of_ble_eq_true rfl)
  rw [lg_entry_eq]
  generalize (lg_sl ([.ref h, .int k, .int i]) ++ List.replicate (4 - (lg_sl ([.ref h, .int k, .int i])).length) Slot.unset).toArray = ls at hl ⊢
  have hl : lv_has ls 4 [(0, .ref h), (1, .int k), (2, .int i)] := hl
  refine lv_aload_n hx hb d_Ans_placeOf_0 rfl (lv_at hl 0 rfl) ?_
  refine f_get (D := (dC, dI)) (ci := 10) (v := .int rd) (C := R_Ans) (T := F_Ans) (N := 16) hx hb hT in_Ans hown hK hP 0 rfl rfl 0 (by decide) fr_Ans_0 w_3_155 gF_0 d_Ans_placeOf_1 ?_
  refine lv_if_eq (tgt := 42) hx hb d_Ans_placeOf_4 (by decide) (fun c_1 => ?_) (fun c_1 => ?_)
  · refine lv_iconst (v := 0) hx hb d_Ans_placeOf_42 (by decide) ?_
    refine lv_istore_n (lv' := [(3, .int 0), (0, .ref h), (1, .int k), (2, .int i)]) hx hb d_Ans_placeOf_43 rfl hl (by decide) rfl (fun ls hl => ?_)
    refine lv_iload_n hx hb d_Ans_placeOf_44 rfl (lv_at hl 0 rfl) ?_
    refine lv_if_eq (tgt := 57) hx hb d_Ans_placeOf_45 (by decide) (fun c1 => ?_) (fun c1 => by first | exact absurd c1 (by decide) | exact absurd (by decide) c1)
    refine lv_iconst (v := (-1)) hx hb d_Ans_placeOf_57 (by decide) ?_
    exact W.iret (v := (-1)) hx hb hr (fun t ht hW => ⟨⟨(-1), (), rfl, by simp [sp_place, c_1], by rw [ht]; exact hP, hD⟩, hS.F ht⟩) hS.2.2 d_Ans_placeOf_58
  · refine lv_aload_n hx hb d_Ans_placeOf_7 rfl (lv_at hl 0 rfl) ?_
    refine f_get (D := (dC, dI)) (ci := 10) (v := .int cl) (C := R_Ans) (T := F_Ans) (N := 16) hx hb hT in_Ans hown hK hP 0 rfl rfl 6 (by decide) fr_Ans_6 w_3_166 gF_6 d_Ans_placeOf_8 ?_
    refine lv_if_eq (tgt := 42) hx hb d_Ans_placeOf_11 (by decide) (fun c_2 => ?_) (fun c_2 => ?_)
    · refine lv_iconst (v := 0) hx hb d_Ans_placeOf_42 (by decide) ?_
      refine lv_istore_n (lv' := [(3, .int 0), (0, .ref h), (1, .int k), (2, .int i)]) hx hb d_Ans_placeOf_43 rfl hl (by decide) rfl (fun ls hl => ?_)
      refine lv_iload_n hx hb d_Ans_placeOf_44 rfl (lv_at hl 0 rfl) ?_
      refine lv_if_eq (tgt := 57) hx hb d_Ans_placeOf_45 (by decide) (fun c1 => ?_) (fun c1 => by first | exact absurd c1 (by decide) | exact absurd (by decide) c1)
      refine lv_iconst (v := (-1)) hx hb d_Ans_placeOf_57 (by decide) ?_
      exact W.iret (v := (-1)) hx hb hr (fun t ht hW => ⟨⟨(-1), (), rfl, by simp [sp_place, c_1, c_2], by rw [ht]; exact hP, hD⟩, hS.F ht⟩) hS.2.2 d_Ans_placeOf_58
    · refine lv_iload_n hx hb d_Ans_placeOf_14 rfl (lv_at hl 1 rfl) ?_
      refine lv_if_lt (tgt := 42) hx hb d_Ans_placeOf_15 (by decide) (fun c_3 => ?_) (fun c_3 => ?_)
      · refine lv_iconst (v := 0) hx hb d_Ans_placeOf_42 (by decide) ?_
        refine lv_istore_n (lv' := [(3, .int 0), (0, .ref h), (1, .int k), (2, .int i)]) hx hb d_Ans_placeOf_43 rfl hl (by decide) rfl (fun ls hl => ?_)
        refine lv_iload_n hx hb d_Ans_placeOf_44 rfl (lv_at hl 0 rfl) ?_
        refine lv_if_eq (tgt := 57) hx hb d_Ans_placeOf_45 (by decide) (fun c1 => ?_) (fun c1 => by first | exact absurd c1 (by decide) | exact absurd (by decide) c1)
        refine lv_iconst (v := (-1)) hx hb d_Ans_placeOf_57 (by decide) ?_
        exact W.iret (v := (-1)) hx hb hr (fun t ht hW => ⟨⟨(-1), (), rfl, by simp [sp_place, c_1, c_2, c_3], by rw [ht]; exact hP, hD⟩, hS.F ht⟩) hS.2.2 d_Ans_placeOf_58
      · refine lv_iload_n hx hb d_Ans_placeOf_18 rfl (lv_at hl 1 rfl) ?_
        refine lv_aload_n hx hb d_Ans_placeOf_19 rfl (lv_at hl 0 rfl) ?_
        refine f_get (D := (dC, dI)) (ci := 10) (v := .int n) (C := R_Ans) (T := F_Ans) (N := 16) hx hb hT in_Ans hown hK hP 0 rfl rfl 1 (by decide) fr_Ans_1 w_3_157 gF_1 d_Ans_placeOf_20 ?_
        refine lv_icmp_ge (tgt := 42) hx hb d_Ans_placeOf_23 (by decide) (fun c_4 => ?_) (fun c_4 => ?_)
        · refine lv_iconst (v := 0) hx hb d_Ans_placeOf_42 (by decide) ?_
          refine lv_istore_n (lv' := [(3, .int 0), (0, .ref h), (1, .int k), (2, .int i)]) hx hb d_Ans_placeOf_43 rfl hl (by decide) rfl (fun ls hl => ?_)
          refine lv_iload_n hx hb d_Ans_placeOf_44 rfl (lv_at hl 0 rfl) ?_
          refine lv_if_eq (tgt := 57) hx hb d_Ans_placeOf_45 (by decide) (fun c1 => ?_) (fun c1 => by first | exact absurd c1 (by decide) | exact absurd (by decide) c1)
          refine lv_iconst (v := (-1)) hx hb d_Ans_placeOf_57 (by decide) ?_
          exact W.iret (v := (-1)) hx hb hr (fun t ht hW => ⟨⟨(-1), (), rfl, by simp [sp_place, c_1, c_2, c_3, c_4], by rw [ht]; exact hP, hD⟩, hS.F ht⟩) hS.2.2 d_Ans_placeOf_58
        · refine lv_iload_n hx hb d_Ans_placeOf_26 rfl (lv_at hl 2 rfl) ?_
          refine lv_if_lt (tgt := 42) hx hb d_Ans_placeOf_27 (by decide) (fun c_5 => ?_) (fun c_5 => ?_)
          · refine lv_iconst (v := 0) hx hb d_Ans_placeOf_42 (by decide) ?_
            refine lv_istore_n (lv' := [(3, .int 0), (0, .ref h), (1, .int k), (2, .int i)]) hx hb d_Ans_placeOf_43 rfl hl (by decide) rfl (fun ls hl => ?_)
            refine lv_iload_n hx hb d_Ans_placeOf_44 rfl (lv_at hl 0 rfl) ?_
            refine lv_if_eq (tgt := 57) hx hb d_Ans_placeOf_45 (by decide) (fun c1 => ?_) (fun c1 => by first | exact absurd c1 (by decide) | exact absurd (by decide) c1)
            refine lv_iconst (v := (-1)) hx hb d_Ans_placeOf_57 (by decide) ?_
            exact W.iret (v := (-1)) hx hb hr (fun t ht hW => ⟨⟨(-1), (), rfl, by simp [sp_place, c_1, c_2, c_3, c_4, c_5], by rw [ht]; exact hP, hD⟩, hS.F ht⟩) hS.2.2 d_Ans_placeOf_58
          · refine lv_iload_n hx hb d_Ans_placeOf_30 rfl (lv_at hl 2 rfl) ?_
            refine lv_aload_n hx hb d_Ans_placeOf_31 rfl (lv_at hl 0 rfl) ?_
            refine f_get (D := (dC, dI)) (ci := 10) (v := .int w) (C := R_Ans) (T := F_Ans) (N := 16) hx hb hT in_Ans hown hK hP 0 rfl rfl 7 (by decide) fr_Ans_7 w_3_167 gF_7 d_Ans_placeOf_32 ?_
            refine lv_icmp_ge (tgt := 42) hx hb d_Ans_placeOf_35 (by decide) (fun c_6 => ?_) (fun c_6 => ?_)
            · refine lv_iconst (v := 0) hx hb d_Ans_placeOf_42 (by decide) ?_
              refine lv_istore_n (lv' := [(3, .int 0), (0, .ref h), (1, .int k), (2, .int i)]) hx hb d_Ans_placeOf_43 rfl hl (by decide) rfl (fun ls hl => ?_)
              refine lv_iload_n hx hb d_Ans_placeOf_44 rfl (lv_at hl 0 rfl) ?_
              refine lv_if_eq (tgt := 57) hx hb d_Ans_placeOf_45 (by decide) (fun c1 => ?_) (fun c1 => by first | exact absurd c1 (by decide) | exact absurd (by decide) c1)
              refine lv_iconst (v := (-1)) hx hb d_Ans_placeOf_57 (by decide) ?_
              exact W.iret (v := (-1)) hx hb hr (fun t ht hW => ⟨⟨(-1), (), rfl, by simp [sp_place, c_1, c_2, c_3, c_4, c_5, c_6], by rw [ht]; exact hP, hD⟩, hS.F ht⟩) hS.2.2 d_Ans_placeOf_58
            · refine lv_iconst (v := 1) hx hb d_Ans_placeOf_38 (by decide) ?_
              refine lv_goto (tgt := 43) hx hb d_Ans_placeOf_39 (by decide) ?_
              refine lv_istore_n (lv' := [(3, .int 1), (0, .ref h), (1, .int k), (2, .int i)]) hx hb d_Ans_placeOf_43 rfl hl (by decide) rfl (fun ls hl => ?_)
              refine lv_iload_n hx hb d_Ans_placeOf_44 rfl (lv_at hl 0 rfl) ?_
              refine lv_if_eq (tgt := 57) hx hb d_Ans_placeOf_45 (by decide) (fun c1 => by first | exact absurd c1 (by decide) | exact absurd (by decide) c1) (fun c1 => ?_)
              refine lv_iload_n hx hb d_Ans_placeOf_48 rfl (lv_at hl 2 rfl) ?_
              refine lv_bipush (v := 16) hx hb d_Ans_placeOf_49 (by decide) ?_
              refine lv_imul hx hb d_Ans_placeOf_51 ?_
              refine lv_iload_n hx hb d_Ans_placeOf_52 rfl (lv_at hl 3 rfl) ?_
              refine lv_iadd hx hb d_Ans_placeOf_53 ?_
              refine lv_goto (tgt := 58) hx hb d_Ans_placeOf_54 (by decide) ?_
              exact W.iret (v := ((k * 16) + i)) hx hb hr (fun t ht hW => ⟨⟨((k * 16) + i), (), rfl, by simp [sp_place, c_1, c_2, c_3, c_4, c_5, c_6], by rw [ht]; exact hP, hD⟩, hS.F ht⟩) hS.2.2 d_Ans_placeOf_58
end
