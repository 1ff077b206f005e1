theorem fr_Mod_67 : F_Mod 67 = (R_Mod, "pos", "I", false) := rfl
theorem fr_Mod_69 : F_Mod 69 = (R_Mod, "fault", "I", false) := rfl
theorem fr_Mod_83 : F_Mod 83 = (R_Mod, "opens", "I", false) := rfl
theorem fr_Mod_85 : F_Mod 85 = (R_Mod, "openGroups", "I", false) := rfl
theorem fr_Mod_86 : F_Mod 86 = (R_Mod, "openPages", "I", false) := rfl
theorem fr_Mod_87 : F_Mod 87 = (R_Mod, "openEntries", "I", false) := rfl
theorem fr_Mod_88 : F_Mod 88 = (R_Mod, "openTexts", "I", false) := rfl
theorem fr_Mod_93 : F_Mod 93 = (R_Mod, "poolCount", "I", false) := rfl
theorem fr_Mod_94 : F_Mod 94 = (R_Mod, "poolUsed", "I", false) := rfl
theorem w_12_100 : (Jvm.Cond.methodLink "StripedVaultModel" (929 : Nat) ({ cls := "StripedVaultModel", name := "openFooter", desc := "()V" } : Jvm.MethodName)) ∈ TG := tw_12 100 (by decide +kernel) (by decide +kernel)
theorem w_12_102 : (Jvm.Cond.instanceMethod ({ cls := "StripedVaultModel", name := "openFooter", desc := "()V" } : Jvm.MethodName)) ∈ TG := tw_12 102 (by decide +kernel) (by decide +kernel)
theorem w_12_103 : (Jvm.Cond.code ({ cls := "StripedVaultModel", name := "openFooter", desc := "()V" } : Jvm.MethodName) prog_14_method_130_code (12 : Nat) (Option.none : Option Jvm.ClassFile.FieldType)) ∈ TG := tw_12 103 (by decide +kernel) (by decide +kernel)
theorem w_12_108 : (Jvm.Cond.methodLink "StripedVaultModel" (841 : Nat) ({ cls := "StripedVaultModel", name := "faults", desc := "(ZI)V" } : Jvm.MethodName)) ∈ TG := tw_12 108 (by decide +kernel) (by decide +kernel)
theorem w_12_110 : (Jvm.Cond.instanceMethod ({ cls := "StripedVaultModel", name := "faults", desc := "(ZI)V" } : Jvm.MethodName)) ∈ TG := tw_12 110 (by decide +kernel) (by decide +kernel)
theorem w_12_111 : (Jvm.Cond.code ({ cls := "StripedVaultModel", name := "faults", desc := "(ZI)V" } : Jvm.MethodName) prog_14_method_123_code (3 : Nat) (Option.none : Option Jvm.ClassFile.FieldType)) ∈ TG := tw_12 111 (by decide +kernel) (by decide +kernel)
theorem w_9_23 : (Jvm.Cond.fieldLink "StripedVaultModel" (926 : Nat) "StripedVaultModel" "opens" "I") ∈ TG := tw_9 23 (by decide +kernel) (by decide +kernel)
theorem w_9_25 : (Jvm.Cond.fieldLink "StripedVaultModel" (877 : Nat) "StripedVaultModel" "openGroups" "I") ∈ TG := tw_9 25 (by decide +kernel) (by decide +kernel)
theorem w_9_26 : (Jvm.Cond.fieldLink "StripedVaultModel" (902 : Nat) "StripedVaultModel" "openPages" "I") ∈ TG := tw_9 26 (by decide +kernel) (by decide +kernel)
theorem w_9_27 : (Jvm.Cond.fieldLink "StripedVaultModel" (896 : Nat) "StripedVaultModel" "openEntries" "I") ∈ TG := tw_9 27 (by decide +kernel) (by decide +kernel)
theorem w_9_28 : (Jvm.Cond.fieldLink "StripedVaultModel" (893 : Nat) "StripedVaultModel" "openTexts" "I") ∈ TG := tw_9 28 (by decide +kernel) (by decide +kernel)
theorem w_9_33 : (Jvm.Cond.fieldLink "StripedVaultModel" (835 : Nat) "StripedVaultModel" "poolCount" "I") ∈ TG := tw_9 33 (by decide +kernel) (by decide +kernel)
theorem w_9_34 : (Jvm.Cond.fieldLink "StripedVaultModel" (838 : Nat) "StripedVaultModel" "poolUsed" "I") ∈ TG := tw_9 34 (by decide +kernel) (by decide +kernel)
theorem w_9_7 : (Jvm.Cond.fieldLink "StripedVaultModel" (553 : Nat) "StripedVaultModel" "pos" "I") ∈ TG := tw_9 7 (by decide +kernel) (by decide +kernel)
theorem w_9_9 : (Jvm.Cond.fieldLink "StripedVaultModel" (550 : Nat) "StripedVaultModel" "fault" "I") ∈ TG := tw_9 9 (by decide +kernel) (by decide +kernel)
theorem ws_182 : Cond.selects R_Mod y_Mod_openFooter y_Mod_openFooter ∈ TG := tw_s 182 (by decide +kernel) (by decide +kernel)
theorem ws_184 : Cond.selects R_Mod y_Mod_faults y_Mod_faults ∈ TG := tw_s 184 (by decide +kernel) (by decide +kernel)
theorem d_Mod_faults_0 : decode b_Mod_faults 0 = .ok (.iload_n 1, 1) := by decide +kernel
theorem d_Mod_faults_1 : decode b_Mod_faults 1 = .ok (.ifCond .eq 15, 3) := by decide +kernel
theorem d_Mod_faults_4 : decode b_Mod_faults 4 = .ok (.aload_n 0, 1) := by decide +kernel
theorem d_Mod_faults_5 : decode b_Mod_faults 5 = .ok (.getfield 550, 3) := by decide +kernel
theorem d_Mod_faults_8 : decode b_Mod_faults 8 = .ok (.ifCond .ne 8, 3) := by decide +kernel
theorem d_Mod_faults_11 : decode b_Mod_faults 11 = .ok (.aload_n 0, 1) := by decide +kernel
theorem d_Mod_faults_12 : decode b_Mod_faults 12 = .ok (.iload_n 2, 1) := by decide +kernel
theorem d_Mod_faults_13 : decode b_Mod_faults 13 = .ok (.putfield 550, 3) := by decide +kernel
theorem d_Mod_faults_16 : decode b_Mod_faults 16 = .ok (.return_, 1) := by decide +kernel
theorem d_Mod_openFooter_0 : decode b_Mod_openFooter 0 = .ok (.aload_n 0, 1) := by decide +kernel
theorem d_Mod_openFooter_1 : decode b_Mod_openFooter 1 = .ok (.getfield 832, 3) := by decide +kernel
theorem d_Mod_openFooter_4 : decode b_Mod_openFooter 4 = .ok (.istore_n 1, 1) := by decide +kernel
theorem d_Mod_openFooter_5 : decode b_Mod_openFooter 5 = .ok (.aload_n 0, 1) := by decide +kernel
theorem d_Mod_openFooter_6 : decode b_Mod_openFooter 6 = .ok (.iload_n 1, 1) := by decide +kernel
theorem d_Mod_openFooter_7 : decode b_Mod_openFooter 7 = .ok (.bipush 16, 2) := by decide +kernel
theorem d_Mod_openFooter_9 : decode b_Mod_openFooter 9 = .ok (.if_icmp .lt 21, 3) := by decide +kernel
theorem d_Mod_openFooter_30 : decode b_Mod_openFooter 30 = .ok (.iconst 1, 1) := by decide +kernel
theorem d_Mod_openFooter_31 : decode b_Mod_openFooter 31 = .ok (.goto 4, 3) := by decide +kernel
theorem d_Mod_openFooter_35 : decode b_Mod_openFooter 35 = .ok (.bipush 13, 2) := by decide +kernel
theorem d_Mod_openFooter_37 : decode b_Mod_openFooter 37 = .ok (.invokevirtual 841, 3) := by decide +kernel
theorem d_Mod_openFooter_40 : decode b_Mod_openFooter 40 = .ok (.aload_n 0, 1) := by decide +kernel
theorem d_Mod_openFooter_41 : decode b_Mod_openFooter 41 = .ok (.getfield 550, 3) := by decide +kernel
theorem d_Mod_openFooter_44 : decode b_Mod_openFooter 44 = .ok (.ifCond .eq 4, 3) := by decide +kernel
theorem d_Mod_openFooter_47 : decode b_Mod_openFooter 47 = .ok (.return_, 1) := by decide +kernel
theorem d_Mod_open_0 : decode b_Mod_open 0 = .ok (.aload_n 0, 1) := by decide +kernel
theorem d_Mod_open_1 : decode b_Mod_open 1 = .ok (.iconst 0, 1) := by decide +kernel
theorem d_Mod_open_2 : decode b_Mod_open 2 = .ok (.putfield 360, 3) := by decide +kernel
theorem d_Mod_open_5 : decode b_Mod_open 5 = .ok (.aload_n 0, 1) := by decide +kernel
theorem d_Mod_open_6 : decode b_Mod_open 6 = .ok (.iconst 0, 1) := by decide +kernel
theorem d_Mod_open_7 : decode b_Mod_open 7 = .ok (.putfield 917, 3) := by decide +kernel
theorem d_Mod_open_10 : decode b_Mod_open 10 = .ok (.aload_n 0, 1) := by decide +kernel
theorem d_Mod_open_11 : decode b_Mod_open 11 = .ok (.iconst 0, 1) := by decide +kernel
theorem d_Mod_open_12 : decode b_Mod_open 12 = .ok (.putfield 920, 3) := by decide +kernel
theorem d_Mod_open_15 : decode b_Mod_open 15 = .ok (.aload_n 0, 1) := by decide +kernel
theorem d_Mod_open_16 : decode b_Mod_open 16 = .ok (.iconst 0, 1) := by decide +kernel
theorem d_Mod_open_17 : decode b_Mod_open 17 = .ok (.putfield 923, 3) := by decide +kernel
theorem d_Mod_open_20 : decode b_Mod_open 20 = .ok (.iconst 0, 1) := by decide +kernel
theorem d_Mod_open_21 : decode b_Mod_open 21 = .ok (.istore_n 1, 1) := by decide +kernel
theorem d_Mod_open_22 : decode b_Mod_open 22 = .ok (.iload_n 1, 1) := by decide +kernel
theorem d_Mod_open_23 : decode b_Mod_open 23 = .ok (.iconst 3, 1) := by decide +kernel
theorem d_Mod_open_24 : decode b_Mod_open 24 = .ok (.if_icmp .ge 16, 3) := by decide +kernel
theorem d_Mod_open_27 : decode b_Mod_open 27 = .ok (.aload_n 0, 1) := by decide +kernel
theorem d_Mod_open_28 : decode b_Mod_open 28 = .ok (.getfield 166, 3) := by decide +kernel
theorem d_Mod_open_31 : decode b_Mod_open 31 = .ok (.iload_n 1, 1) := by decide +kernel
theorem d_Mod_open_32 : decode b_Mod_open 32 = .ok (.iconst (-1), 1) := by decide +kernel
theorem d_Mod_open_33 : decode b_Mod_open 33 = .ok (.iastore, 1) := by decide +kernel
theorem d_Mod_open_34 : decode b_Mod_open 34 = .ok (.iinc 1 1, 3) := by decide +kernel
theorem d_Mod_open_37 : decode b_Mod_open 37 = .ok (.goto (-15), 3) := by decide +kernel
theorem d_Mod_open_40 : decode b_Mod_open 40 = .ok (.aload_n 0, 1) := by decide +kernel
theorem d_Mod_open_41 : decode b_Mod_open 41 = .ok (.getfield 926, 3) := by decide +kernel
theorem d_Mod_open_44 : decode b_Mod_open 44 = .ok (.bipush 100, 2) := by decide +kernel
theorem d_Mod_open_46 : decode b_Mod_open 46 = .ok (.if_icmp .ne 6, 3) := by decide +kernel
theorem d_Mod_open_52 : decode b_Mod_open 52 = .ok (.aload_n 0, 1) := by decide +kernel
theorem d_Mod_open_53 : decode b_Mod_open 53 = .ok (.dup, 1) := by decide +kernel
theorem d_Mod_open_54 : decode b_Mod_open 54 = .ok (.getfield 926, 3) := by decide +kernel
theorem d_Mod_open_57 : decode b_Mod_open 57 = .ok (.iconst 1, 1) := by decide +kernel
theorem d_Mod_open_58 : decode b_Mod_open 58 = .ok (.iadd, 1) := by decide +kernel
theorem d_Mod_open_59 : decode b_Mod_open 59 = .ok (.putfield 926, 3) := by decide +kernel
theorem d_Mod_open_62 : decode b_Mod_open 62 = .ok (.aload_n 0, 1) := by decide +kernel
theorem d_Mod_open_63 : decode b_Mod_open 63 = .ok (.iconst 0, 1) := by decide +kernel
theorem d_Mod_open_64 : decode b_Mod_open 64 = .ok (.putfield 553, 3) := by decide +kernel
theorem d_Mod_open_67 : decode b_Mod_open 67 = .ok (.aload_n 0, 1) := by decide +kernel
theorem d_Mod_open_68 : decode b_Mod_open 68 = .ok (.iconst 0, 1) := by decide +kernel
theorem d_Mod_open_69 : decode b_Mod_open 69 = .ok (.putfield 550, 3) := by decide +kernel
theorem d_Mod_open_72 : decode b_Mod_open 72 = .ok (.aload_n 0, 1) := by decide +kernel
theorem d_Mod_open_73 : decode b_Mod_open 73 = .ok (.iconst 0, 1) := by decide +kernel
theorem d_Mod_open_74 : decode b_Mod_open 74 = .ok (.putfield 877, 3) := by decide +kernel
theorem d_Mod_open_77 : decode b_Mod_open 77 = .ok (.aload_n 0, 1) := by decide +kernel
theorem d_Mod_open_78 : decode b_Mod_open 78 = .ok (.iconst 0, 1) := by decide +kernel
theorem d_Mod_open_79 : decode b_Mod_open 79 = .ok (.putfield 902, 3) := by decide +kernel
theorem d_Mod_open_82 : decode b_Mod_open 82 = .ok (.aload_n 0, 1) := by decide +kernel
theorem d_Mod_open_83 : decode b_Mod_open 83 = .ok (.iconst 0, 1) := by decide +kernel
theorem d_Mod_open_84 : decode b_Mod_open 84 = .ok (.putfield 896, 3) := by decide +kernel
theorem d_Mod_open_87 : decode b_Mod_open 87 = .ok (.aload_n 0, 1) := by decide +kernel
theorem d_Mod_open_88 : decode b_Mod_open 88 = .ok (.iconst 0, 1) := by decide +kernel
theorem d_Mod_open_89 : decode b_Mod_open 89 = .ok (.putfield 893, 3) := by decide +kernel
theorem d_Mod_open_92 : decode b_Mod_open 92 = .ok (.aload_n 0, 1) := by decide +kernel
theorem d_Mod_open_93 : decode b_Mod_open 93 = .ok (.iconst 0, 1) := by decide +kernel
theorem d_Mod_open_94 : decode b_Mod_open 94 = .ok (.putfield 835, 3) := by decide +kernel
theorem d_Mod_open_97 : decode b_Mod_open 97 = .ok (.aload_n 0, 1) := by decide +kernel
theorem d_Mod_open_98 : decode b_Mod_open 98 = .ok (.iconst 0, 1) := by decide +kernel
theorem d_Mod_open_99 : decode b_Mod_open 99 = .ok (.putfield 838, 3) := by decide +kernel
theorem d_Mod_open_102 : decode b_Mod_open 102 = .ok (.aload_n 0, 1) := by decide +kernel
theorem d_Mod_open_103 : decode b_Mod_open 103 = .ok (.invokevirtual 929, 3) := by decide +kernel
theorem d_Mod_open_106 : decode b_Mod_open 106 = .ok (.aload_n 0, 1) := by decide +kernel
theorem d_Mod_open_107 : decode b_Mod_open 107 = .ok (.iconst 4, 1) := by decide +kernel
theorem d_Mod_open_108 : decode b_Mod_open 108 = .ok (.putfield 553, 3) := by decide +kernel
theorem d_Mod_open_111 : decode b_Mod_open 111 = .ok (.iconst 0, 1) := by decide +kernel
theorem d_Mod_open_112 : decode b_Mod_open 112 = .ok (.istore_n 1, 1) := by decide +kernel
theorem d_Mod_open_113 : decode b_Mod_open 113 = .ok (.iconst 0, 1) := by decide +kernel
theorem d_Mod_open_114 : decode b_Mod_open 114 = .ok (.istore_n 2, 1) := by decide +kernel
theorem d_Mod_open_115 : decode b_Mod_open 115 = .ok (.iload_n 2, 1) := by decide +kernel
theorem d_Mod_open_116 : decode b_Mod_open 116 = .ok (.aload_n 0, 1) := by decide +kernel
theorem d_Mod_open_117 : decode b_Mod_open 117 = .ok (.getfield 877, 3) := by decide +kernel
theorem d_Mod_open_120 : decode b_Mod_open 120 = .ok (.if_icmp .ge 57, 3) := by decide +kernel
theorem d_Mod_open_177 : decode b_Mod_open 177 = .ok (.aload_n 0, 1) := by decide +kernel
theorem d_Mod_open_178 : decode b_Mod_open 178 = .ok (.getfield 550, 3) := by decide +kernel
theorem d_Mod_open_181 : decode b_Mod_open 181 = .ok (.ifCond .eq 8, 3) := by decide +kernel
theorem d_Mod_open_184 : decode b_Mod_open 184 = .ok (.aload_n 0, 1) := by decide +kernel
theorem d_Mod_open_185 : decode b_Mod_open 185 = .ok (.getfield 550, 3) := by decide +kernel
theorem d_Mod_open_188 : decode b_Mod_open 188 = .ok (.ireturn, 1) := by decide +kernel
section
variable (l : Launch) (dC : Nat → ClassId) (dI : Nat → Nat → Nat) (cI cB cJ cZ : ClassId)
set_option maxHeartbeats 4000000 in
set_option maxRecDepth 100000 in
/-- the model's faults(true, k), the first one -/
theorem c_Mod_faults_bad (sz : Nat) (h : Nat) (F : List Value) (k : Int32) (nF : F.length = 167) (gF_69 : F[69]? = some (.int 0)) : Met l y_Mod_faults (wsOf y_Mod_faults b_Mod_faults 3 none) ({ frames := 0, cells := 0, slots := 0, locals := 0 }) (va_Pc [.ref h, .int 1, .int k] (PC dC dI cI cB cJ cZ sz [(h, .inr (12, F))])) (va_Qv (fun _ : Unit => True) (fun _ t => va_P (dC, dI) CL [(h, .inr (12, F.set 69 (.int k)))] t.heap ∧ va_D (va_A [(h, .inr (12, F))] sz) [(h, .inr (12, F.set 69 (.int k)))]) (va_A [(h, .inr (12, F))] sz)) 0 0 (va_A [(h, .inr (12, F))] sz) := by
  refine Met.ofW (cc := b_Mod_faults) (maxL := 3) (ret := none) (by decide) rfl ?_
  intro p e s m args below meth c s₁ B hml hv
  obtain ⟨rfl, hsz, hP, hK, hD0, hN⟩ := hv
  have hx := B.exec
  have hb := B.bytes
  have hr := B.returns
  have hts := atoms_spec B.pre
  have hT : ∀ w ∈ TG, w.before _ s = true := fun w h => hts w (List.mem_cons_of_mem _ h)
  have hown : s.vm.findClass R_Mod = some m.cls := findClass_of_methodNamed B.named
  have hlocks := B.notSynchronized
  subst hsz
  have hD := hD0.self (sz := s.heap.size)
  generalize hAe : va_A [(h, .inr (12, F))] s.heap.size = A at hD ⊢
  have hA : ∀ q : Nat, s.heap.size ≤ q → A q := fun q h => by rw [← hAe]; exact Or.inr h
  have hS : va_S A s.heap s.heap [] := va_S.rf
  have hl := lv_entry ([.ref h, .int 1, .int k]) (n := 3) (Nat.le_of_ble_eq_true rfl)
  rw [lg_entry_eq]
  generalize (lg_sl ([.ref h, .int 1, .int k]) ++ List.replicate (3 - (lg_sl ([.ref h, .int 1, .int k])).length) Slot.unset).toArray = ls at hl ⊢
  have hl : lv_has ls 3 [(0, .ref h), (1, .int 1), (2, .int k)] := hl
  refine lv_iload_n hx hb d_Mod_faults_0 rfl (lv_at hl 1 rfl) ?_
  refine lv_if_eq (tgt := 16) hx hb d_Mod_faults_1 (by decide) (fun c1 => by first | exact absurd c1 (by decide) | exact absurd (by decide) c1) (fun c1 => ?_)
  refine lv_aload_n hx hb d_Mod_faults_4 rfl (lv_at hl 0 rfl) ?_
  refine f_get (D := (dC, dI)) (ci := 12) (v := .int 0) (C := R_Mod) (T := F_Mod) (N := 167) hx hb hT in_Mod hown hK hP 0 rfl rfl 69 (by decide) fr_Mod_69 w_9_9 gF_69 d_Mod_faults_5 ?_
  refine lv_if_ne (tgt := 16) hx hb d_Mod_faults_8 (by decide) (fun c1 => by first | exact absurd c1 (by decide) | exact absurd (by decide) c1) (fun c1 => ?_)
  refine lv_aload_n hx hb d_Mod_faults_11 rfl (lv_at hl 0 rfl) ?_
  refine lv_iload_n hx hb d_Mod_faults_12 rfl (lv_at hl 2 rfl) ?_
  refine f_put (D := (dC, dI)) (ci := 12) (v := .int k) (ty := .int) (C := R_Mod) (T := F_Mod) (N := 167) hx hb hT in_Mod t_Mod t_Mod_ok n_Mod hown hK hP hD hS 0 rfl rfl 69 (by decide) fr_Mod_69 w_9_9 (by decide +kernel) rfl rfl (by rw [nF]; decide) d_Mod_faults_13 (fun H locs hP hD hS => ?_)
  have hP : va_P (dC, dI) CL [(h, .inr (12, F.set 69 (.int k)))] H := hP
  have hD : va_D A [(h, .inr (12, F.set 69 (.int k)))] := hD
  exact W.vret hx hb hr (fun t ht hW => ⟨⟨(), rfl, trivial, by rw [ht]; exact hP, hD⟩, hS.F ht⟩) hS.2.2 d_Mod_faults_16
set_option maxHeartbeats 4000000 in
set_option maxRecDepth 100000 in
/-- the model's openFooter of no bytes -/
theorem c_Mod_openFooter_none (sz : Nat) (h : Nat) (F : List Value) (nF : F.length = 167) (gF_65 : F[65]? = some (.int 0)) (gF_69 : F[69]? = some (.int 0)) : Met l y_Mod_openFooter (wsOf y_Mod_openFooter b_Mod_openFooter 12 none) ({ frames := 1, cells := 0, slots := 0, locals := 22 }) (va_Pc [.ref h] (PC dC dI cI cB cJ cZ sz [(h, .inr (12, F))])) (va_Qv (fun _ : Unit => True) (fun _ t => va_P (dC, dI) CL [(h, .inr (12, F.set 69 (.int 13)))] t.heap ∧ va_D (va_A [(h, .inr (12, F))] sz) [(h, .inr (12, F.set 69 (.int 13)))]) (va_A [(h, .inr (12, F))] sz)) 0 0 (va_A [(h, .inr (12, F))] sz) := by
  refine Met.ofW (cc := b_Mod_openFooter) (maxL := 12) (ret := none) (by decide) rfl ?_
  intro p e s m args below meth c s₁ B hml hv
  obtain ⟨rfl, hsz, hP, hK, hD0, hN⟩ := hv
  have hx := B.exec
  have hb := B.bytes
  have hr := B.returns
  have hts := atoms_spec B.pre
  have hT : ∀ w ∈ TG, w.before _ s = true := fun w h => hts w (List.mem_cons_of_mem _ h)
  have hown : s.vm.findClass R_Mod = some m.cls := findClass_of_methodNamed B.named
  have hlocks := B.notSynchronized
  subst hsz
  have hD := hD0.self (sz := s.heap.size)
  generalize hAe : va_A [(h, .inr (12, F))] s.heap.size = A at hD ⊢
  have hA : ∀ q : Nat, s.heap.size ≤ q → A q := fun q h => by rw [← hAe]; exact Or.inr h
  have hS : va_S A s.heap s.heap [] := va_S.rf
  have hl := lv_entry ([.ref h]) (n := 12) (Nat.le_of_ble_eq_true rfl)
  rw [lg_entry_eq]
  generalize (lg_sl ([.ref h]) ++ List.replicate (12 - (lg_sl ([.ref h])).length) Slot.unset).toArray = ls at hl ⊢
  have hl : lv_has ls 12 [(0, .ref h)] := hl
  refine lv_aload_n hx hb d_Mod_openFooter_0 rfl (lv_at hl 0 rfl) ?_
  refine f_get (D := (dC, dI)) (ci := 12) (v := .int 0) (C := R_Mod) (T := F_Mod) (N := 167) hx hb hT in_Mod hown hK hP 0 rfl rfl 65 (by decide) fr_Mod_65 w_9_5 gF_65 d_Mod_openFooter_1 ?_
  refine lv_istore_n (lv' := [(1, .int 0), (0, .ref h)]) hx hb d_Mod_openFooter_4 rfl hl (by decide) rfl (fun ls hl => ?_)
  refine lv_aload_n hx hb d_Mod_openFooter_5 rfl (lv_at hl 1 rfl) ?_
  refine lv_iload_n hx hb d_Mod_openFooter_6 rfl (lv_at hl 0 rfl) ?_
  refine lv_bipush (v := 16) hx hb d_Mod_openFooter_7 (by decide) ?_
  refine lv_icmp_lt (tgt := 30) hx hb d_Mod_openFooter_9 (by decide) (fun c1 => ?_) (fun c1 => by first | exact absurd c1 (by decide) | exact absurd (by decide) c1)
  refine lv_iconst (v := 1) hx hb d_Mod_openFooter_30 (by decide) ?_
  refine lv_goto (tgt := 35) hx hb d_Mod_openFooter_31 (by decide) ?_
  refine lv_bipush (v := 13) hx hb d_Mod_openFooter_35 (by decide) ?_
  have hPc := hP.sub (ws' := [(h, .inr (12, F))]) [0] rfl
  have hDc := hD.sub (ws' := [(h, .inr (12, F))]) [0] (by decide) rfl
  have hFc := va_free (wc := [(h, .inr (12, F))]) hD hS hA [0] rfl
  refine va_callv (va_runV (C := R_Mod) (As := [.int 1, .int 13]) (rest := []) ⟨hx, hb, hml, hown, hT⟩ (c_Mod_faults_bad l dC dI cI cB cJ cZ s.heap.size h F 13 nF gF_69) ⟨callB_of 2 hT (gw_in w_12_111) rfl rfl rfl (hT _ w_1_15) (hT _ w_12_108) (by decide +kernel) ⟨Nat.le_of_ble_eq_true rfl, Nat.le_of_ble_eq_true rfl⟩, hT _ w_12_110, hT _ ws_184⟩ ⟨PC.blind, va_recv hK hPc (ci := 12) (q0 := 0) rfl rfl, PC.at _ hPc hDc hK hN⟩ rfl rfl hl.1 rfl (lv_room (Nat.le_of_ble_eq_true rfl)) d_Mod_openFooter_37 ⟨show _ ≤ 0 by omega, show _ ≤ 0 by omega⟩) hS (fun q _ h => hFc q h) hFc (fun  u t H1 locs ht hvm hw hB hz1 hk1 hS => ?_)
  obtain ⟨hP1, hD1⟩ := hB
  rw [ht] at hP1
  obtain ⟨hP, hD⟩ := va_join (wr := []) (w1 := [(h, .inr (12, F.set 69 (.int 13)))]) hP hD [0] [] rfl rfl (by decide) (by decide) hk1 hFc hP1 hD1
  generalize H1 = H at hP hS ⊢
  have hP : va_P (dC, dI) CL [(h, .inr (12, F.set 69 (.int 13)))] H := hP
  have hD : va_D A [(h, .inr (12, F.set 69 (.int 13)))] := hD
  refine lv_aload_n hx hb d_Mod_openFooter_40 rfl (lv_at hl 1 rfl) ?_
  refine f_get (D := (dC, dI)) (ci := 12) (v := .int 13) (C := R_Mod) (T := F_Mod) (N := 167) hx hb hT in_Mod hown hK hP 0 rfl rfl 69 (by decide) fr_Mod_69 w_9_9 (List.getElem?_set_self (by rw [nF]; decide)) d_Mod_openFooter_41 ?_
  refine lv_if_eq (tgt := 48) hx hb d_Mod_openFooter_44 (by decide) (fun c1 => by first | exact absurd c1 (by decide) | exact absurd (by decide) c1) (fun c1 => ?_)
  exact W.vret hx hb hr (fun t ht hW => ⟨⟨(), rfl, trivial, by rw [ht]; exact hP, hD⟩, hS.F ht⟩) hS.2.2 d_Mod_openFooter_47
set_option maxHeartbeats 4000000 in
set_option maxRecDepth 100000 in
/-- the model's open of an empty file, the first time -/
theorem c_Mod_open_none (sz : Nat) (h : Nat) (F : List Value) (a : Nat) (g : Nat → Int32) (nF : F.length = 167) (gF_65 : F[65]? = some (.int 0)) (gF_83 : F[83]? = some (.int 0)) (gF_80 : F[80]? = some (.ref a)) : Met l y_Mod_open (wsOf y_Mod_open b_Mod_open 4 (some (.int))) ({ frames := 2, cells := 0, slots := 0, locals := 53 }) (va_Pc [.ref h] (PC dC dI cI cB cJ cZ sz [(h, .inr (12, F)), (a, .inl (cI, 3, .inl g))])) (va_Qi (fun (r : Int32) (_ : Unit) => r = 13) (fun _ t => va_P (dC, dI) CL [(a, .inl (cI, 3, .inl (upd (upd (upd (g) (0 : Int32).toNatClampNeg (-1)) (1 : Int32).toNatClampNeg (-1)) (2 : Int32).toNatClampNeg (-1)))), (h, .inr (12, ((((((((((((((F.set 0 (.int 0)).set 82 (.int 0)).set 120 (.int 0)).set 121 (.int 0)).set 83 (.int (0 + 1))).set 67 (.int 0)).set 69 (.int 0)).set 85 (.int 0)).set 86 (.int 0)).set 87 (.int 0)).set 88 (.int 0)).set 93 (.int 0)).set 94 (.int 0)).set 69 (.int 13)).set 67 (.int 4)))] t.heap ∧ va_D (va_A [(h, .inr (12, F)), (a, .inl (cI, 3, .inl g))] sz) [(a, .inl (cI, 3, .inl (upd (upd (upd (g) (0 : Int32).toNatClampNeg (-1)) (1 : Int32).toNatClampNeg (-1)) (2 : Int32).toNatClampNeg (-1)))), (h, .inr (12, ((((((((((((((F.set 0 (.int 0)).set 82 (.int 0)).set 120 (.int 0)).set 121 (.int 0)).set 83 (.int (0 + 1))).set 67 (.int 0)).set 69 (.int 0)).set 85 (.int 0)).set 86 (.int 0)).set 87 (.int 0)).set 88 (.int 0)).set 93 (.int 0)).set 94 (.int 0)).set 69 (.int 13)).set 67 (.int 4)))]) (va_A [(h, .inr (12, F)), (a, .inl (cI, 3, .inl g))] sz)) 0 0 (va_A [(h, .inr (12, F)), (a, .inl (cI, 3, .inl g))] sz) := by
  refine Met.ofW (cc := b_Mod_open) (maxL := 4) (ret := some (.int)) (by decide) rfl ?_
  intro p e s m args below meth c s₁ B hml hv
  obtain ⟨rfl, hsz, hP, hK, hD0, hN⟩ := hv
  have hx := B.exec
  have hb := B.bytes
  have hr := B.returns
  have hts := atoms_spec B.pre
  have hT : ∀ w ∈ TG, w.before _ s = true := fun w h => hts w (List.mem_cons_of_mem _ h)
  have hown : s.vm.findClass R_Mod = some m.cls := findClass_of_methodNamed B.named
  have hlocks := B.notSynchronized
  subst hsz
  have hD := hD0.self (sz := s.heap.size)
  generalize hAe : va_A [(h, .inr (12, F)), (a, .inl (cI, 3, .inl g))] s.heap.size = A at hD ⊢
  have hA : ∀ q : Nat, s.heap.size ≤ q → A q := fun q h => by rw [← hAe]; exact Or.inr h
  have hS : va_S A s.heap s.heap [] := va_S.rf
  have hl := lv_entry ([.ref h]) (n := 4) (Nat.le_of_ble_eq_true rfl)
  rw [lg_entry_eq]
  generalize (lg_sl ([.ref h]) ++ List.replicate (4 - (lg_sl ([.ref h])).length) Slot.unset).toArray = ls at hl ⊢
  have hl : lv_has ls 4 [(0, .ref h)] := hl
  refine lv_aload_n hx hb d_Mod_open_0 rfl (lv_at hl 0 rfl) ?_
  refine lv_iconst (v := 0) hx hb d_Mod_open_1 (by decide) ?_
  refine f_put (D := (dC, dI)) (ci := 12) (v := .int 0) (ty := .int) (C := R_Mod) (T := F_Mod) (N := 167) hx hb hT in_Mod t_Mod t_Mod_ok n_Mod hown hK hP hD hS 0 rfl rfl 0 (by decide) fr_Mod_0 w_8_180 (by decide +kernel) rfl rfl (by rw [nF]; decide) d_Mod_open_2 (fun H locs hP hD hS => ?_)
  have hP : va_P (dC, dI) CL [(h, .inr (12, F.set 0 (.int 0))), (a, .inl (cI, 3, .inl g))] H := hP
  have hD : va_D A [(h, .inr (12, F.set 0 (.int 0))), (a, .inl (cI, 3, .inl g))] := hD
  refine lv_aload_n hx hb d_Mod_open_5 rfl (lv_at hl 0 rfl) ?_
  refine lv_iconst (v := 0) hx hb d_Mod_open_6 (by decide) ?_
  refine f_put (D := (dC, dI)) (ci := 12) (v := .int 0) (ty := .boolean) (C := R_Mod) (T := F_Mod) (N := 167) hx hb hT in_Mod t_Mod t_Mod_ok n_Mod hown hK hP hD hS 0 rfl rfl 82 (by decide) fr_Mod_82 w_9_22 (by decide +kernel) rfl rfl (by rw [List.length_set]; exact (by rw [nF]; decide)) d_Mod_open_7 (fun H locs hP hD hS => ?_)
  have hP : va_P (dC, dI) CL [(h, .inr (12, (F.set 0 (.int 0)).set 82 (.int 0))), (a, .inl (cI, 3, .inl g))] H := hP
  have hD : va_D A [(h, .inr (12, (F.set 0 (.int 0)).set 82 (.int 0))), (a, .inl (cI, 3, .inl g))] := hD
  refine lv_aload_n hx hb d_Mod_open_10 rfl (lv_at hl 0 rfl) ?_
  refine lv_iconst (v := 0) hx hb d_Mod_open_11 (by decide) ?_
  refine f_put (D := (dC, dI)) (ci := 12) (v := .int 0) (ty := .boolean) (C := R_Mod) (T := F_Mod) (N := 167) hx hb hT in_Mod t_Mod t_Mod_ok n_Mod hown hK hP hD hS 0 rfl rfl 120 (by decide) fr_Mod_120 w_9_60 (by decide +kernel) rfl rfl (by rw [List.length_set]; exact (by rw [List.length_set]; exact (by rw [nF]; decide))) d_Mod_open_12 (fun H locs hP hD hS => ?_)
  have hP : va_P (dC, dI) CL [(h, .inr (12, ((F.set 0 (.int 0)).set 82 (.int 0)).set 120 (.int 0))), (a, .inl (cI, 3, .inl g))] H := hP
  have hD : va_D A [(h, .inr (12, ((F.set 0 (.int 0)).set 82 (.int 0)).set 120 (.int 0))), (a, .inl (cI, 3, .inl g))] := hD
  refine lv_aload_n hx hb d_Mod_open_15 rfl (lv_at hl 0 rfl) ?_
  refine lv_iconst (v := 0) hx hb d_Mod_open_16 (by decide) ?_
  refine f_put (D := (dC, dI)) (ci := 12) (v := .int 0) (ty := .boolean) (C := R_Mod) (T := F_Mod) (N := 167) hx hb hT in_Mod t_Mod t_Mod_ok n_Mod hown hK hP hD hS 0 rfl rfl 121 (by decide) fr_Mod_121 w_9_61 (by decide +kernel) rfl rfl (by rw [List.length_set]; exact (by rw [List.length_set]; exact (by rw [List.length_set]; exact (by rw [nF]; decide)))) d_Mod_open_17 (fun H locs hP hD hS => ?_)
  have hP : va_P (dC, dI) CL [(h, .inr (12, (((F.set 0 (.int 0)).set 82 (.int 0)).set 120 (.int 0)).set 121 (.int 0))), (a, .inl (cI, 3, .inl g))] H := hP
  have hD : va_D A [(h, .inr (12, (((F.set 0 (.int 0)).set 82 (.int 0)).set 120 (.int 0)).set 121 (.int 0))), (a, .inl (cI, 3, .inl g))] := hD
  refine lv_iconst (v := 0) hx hb d_Mod_open_20 (by decide) ?_
  refine lv_istore_n (lv' := [(1, .int 0), (0, .ref h)]) hx hb d_Mod_open_21 rfl hl (by decide) rfl (fun ls hl => ?_)
  refine lv_iload_n hx hb d_Mod_open_22 rfl (lv_at hl 0 rfl) ?_
  refine lv_iconst (v := 3) hx hb d_Mod_open_23 (by decide) ?_
  refine lv_icmp_ge (tgt := 40) hx hb d_Mod_open_24 (by decide) (fun c1 => by first | exact absurd c1 (by decide) | exact absurd (by decide) c1) (fun c1 => ?_)
  refine lv_aload_n hx hb d_Mod_open_27 rfl (lv_at hl 1 rfl) ?_
  refine f_get (D := (dC, dI)) (ci := 12) (v := .ref a) (C := R_Mod) (T := F_Mod) (N := 167) hx hb hT in_Mod hown hK hP 0 rfl rfl 80 (by decide) fr_Mod_80 w_9_20 ((List.getElem?_set_ne (by decide)).trans ((List.getElem?_set_ne (by decide)).trans ((List.getElem?_set_ne (by decide)).trans ((List.getElem?_set_ne (by decide)).trans gF_80)))) d_Mod_open_28 ?_
  refine lv_iload_n hx hb d_Mod_open_31 rfl (lv_at hl 0 rfl) ?_
  refine lv_iconst (v := (-1)) hx hb d_Mod_open_32 (by decide) ?_
  refine va_iast hx hb hK hP hD hS 1 0 rfl rfl (vp_lit (by decide)) d_Mod_open_33 (fun H locs hP hD hS => ?_)
  have hP : va_P (dC, dI) CL [(h, .inr (12, (((F.set 0 (.int 0)).set 82 (.int 0)).set 120 (.int 0)).set 121 (.int 0))), (a, .inl (cI, 3, .inl (upd (g) (0 : Int32).toNatClampNeg (-1))))] H := hP
  have hD : va_D A [(h, .inr (12, (((F.set 0 (.int 0)).set 82 (.int 0)).set 120 (.int 0)).set 121 (.int 0))), (a, .inl (cI, 3, .inl (upd (g) (0 : Int32).toNatClampNeg (-1))))] := hD
  refine lv_iinc (v := 1) (lv' := [(1, .int 1), (0, .ref h)]) hx hb d_Mod_open_34 hl (k := 0) rfl (by decide) (by decide) rfl (fun ls hl => ?_)
  refine lv_goto (tgt := 22) hx hb d_Mod_open_37 (by decide) ?_
  refine lv_iload_n hx hb d_Mod_open_22 rfl (lv_at hl 0 rfl) ?_
  refine lv_iconst (v := 3) hx hb d_Mod_open_23 (by decide) ?_
  refine lv_icmp_ge (tgt := 40) hx hb d_Mod_open_24 (by decide) (fun c1 => by first | exact absurd c1 (by decide) | exact absurd (by decide) c1) (fun c1 => ?_)
  refine lv_aload_n hx hb d_Mod_open_27 rfl (lv_at hl 1 rfl) ?_
  refine f_get (D := (dC, dI)) (ci := 12) (v := .ref a) (C := R_Mod) (T := F_Mod) (N := 167) hx hb hT in_Mod hown hK hP 0 rfl rfl 80 (by decide) fr_Mod_80 w_9_20 ((List.getElem?_set_ne (by decide)).trans ((List.getElem?_set_ne (by decide)).trans ((List.getElem?_set_ne (by decide)).trans ((List.getElem?_set_ne (by decide)).trans gF_80)))) d_Mod_open_28 ?_
  refine lv_iload_n hx hb d_Mod_open_31 rfl (lv_at hl 0 rfl) ?_
  refine lv_iconst (v := (-1)) hx hb d_Mod_open_32 (by decide) ?_
  refine va_iast hx hb hK hP hD hS 1 0 rfl rfl (vp_lit (by decide)) d_Mod_open_33 (fun H locs hP hD hS => ?_)
  have hP : va_P (dC, dI) CL [(h, .inr (12, (((F.set 0 (.int 0)).set 82 (.int 0)).set 120 (.int 0)).set 121 (.int 0))), (a, .inl (cI, 3, .inl (upd (upd (g) (0 : Int32).toNatClampNeg (-1)) (1 : Int32).toNatClampNeg (-1))))] H := hP
  have hD : va_D A [(h, .inr (12, (((F.set 0 (.int 0)).set 82 (.int 0)).set 120 (.int 0)).set 121 (.int 0))), (a, .inl (cI, 3, .inl (upd (upd (g) (0 : Int32).toNatClampNeg (-1)) (1 : Int32).toNatClampNeg (-1))))] := hD
  refine lv_iinc (v := 2) (lv' := [(1, .int 2), (0, .ref h)]) hx hb d_Mod_open_34 hl (k := 0) rfl (by decide) (by decide) rfl (fun ls hl => ?_)
  refine lv_goto (tgt := 22) hx hb d_Mod_open_37 (by decide) ?_
  refine lv_iload_n hx hb d_Mod_open_22 rfl (lv_at hl 0 rfl) ?_
  refine lv_iconst (v := 3) hx hb d_Mod_open_23 (by decide) ?_
  refine lv_icmp_ge (tgt := 40) hx hb d_Mod_open_24 (by decide) (fun c1 => by first | exact absurd c1 (by decide) | exact absurd (by decide) c1) (fun c1 => ?_)
  refine lv_aload_n hx hb d_Mod_open_27 rfl (lv_at hl 1 rfl) ?_
  refine f_get (D := (dC, dI)) (ci := 12) (v := .ref a) (C := R_Mod) (T := F_Mod) (N := 167) hx hb hT in_Mod hown hK hP 0 rfl rfl 80 (by decide) fr_Mod_80 w_9_20 ((List.getElem?_set_ne (by decide)).trans ((List.getElem?_set_ne (by decide)).trans ((List.getElem?_set_ne (by decide)).trans ((List.getElem?_set_ne (by decide)).trans gF_80)))) d_Mod_open_28 ?_
  refine lv_iload_n hx hb d_Mod_open_31 rfl (lv_at hl 0 rfl) ?_
  refine lv_iconst (v := (-1)) hx hb d_Mod_open_32 (by decide) ?_
  refine va_iast hx hb hK hP hD hS 1 0 rfl rfl (vp_lit (by decide)) d_Mod_open_33 (fun H locs hP hD hS => ?_)
  have hP : va_P (dC, dI) CL [(h, .inr (12, (((F.set 0 (.int 0)).set 82 (.int 0)).set 120 (.int 0)).set 121 (.int 0))), (a, .inl (cI, 3, .inl (upd (upd (upd (g) (0 : Int32).toNatClampNeg (-1)) (1 : Int32).toNatClampNeg (-1)) (2 : Int32).toNatClampNeg (-1))))] H := hP
  have hD : va_D A [(h, .inr (12, (((F.set 0 (.int 0)).set 82 (.int 0)).set 120 (.int 0)).set 121 (.int 0))), (a, .inl (cI, 3, .inl (upd (upd (upd (g) (0 : Int32).toNatClampNeg (-1)) (1 : Int32).toNatClampNeg (-1)) (2 : Int32).toNatClampNeg (-1))))] := hD
  refine lv_iinc (v := 3) (lv' := [(1, .int 3), (0, .ref h)]) hx hb d_Mod_open_34 hl (k := 0) rfl (by decide) (by decide) rfl (fun ls hl => ?_)
  refine lv_goto (tgt := 22) hx hb d_Mod_open_37 (by decide) ?_
  refine lv_iload_n hx hb d_Mod_open_22 rfl (lv_at hl 0 rfl) ?_
  refine lv_iconst (v := 3) hx hb d_Mod_open_23 (by decide) ?_
  refine lv_icmp_ge (tgt := 40) hx hb d_Mod_open_24 (by decide) (fun c1 => ?_) (fun c1 => by first | exact absurd c1 (by decide) | exact absurd (by decide) c1)
  refine lv_aload_n hx hb d_Mod_open_40 rfl (lv_at hl 1 rfl) ?_
  refine f_get (D := (dC, dI)) (ci := 12) (v := .int 0) (C := R_Mod) (T := F_Mod) (N := 167) hx hb hT in_Mod hown hK hP 0 rfl rfl 83 (by decide) fr_Mod_83 w_9_23 ((List.getElem?_set_ne (by decide)).trans ((List.getElem?_set_ne (by decide)).trans ((List.getElem?_set_ne (by decide)).trans ((List.getElem?_set_ne (by decide)).trans gF_83)))) d_Mod_open_41 ?_
  refine lv_bipush (v := 100) hx hb d_Mod_open_44 (by decide) ?_
  refine lv_icmp_ne (tgt := 52) hx hb d_Mod_open_46 (by decide) (fun c1 => ?_) (fun c1 => by first | exact absurd c1 (by decide) | exact absurd (by decide) c1)
  refine lv_aload_n hx hb d_Mod_open_52 rfl (lv_at hl 1 rfl) ?_
  refine lv_dup hx hb d_Mod_open_53 rfl ?_
  refine f_get (D := (dC, dI)) (ci := 12) (v := .int 0) (C := R_Mod) (T := F_Mod) (N := 167) hx hb hT in_Mod hown hK hP 0 rfl rfl 83 (by decide) fr_Mod_83 w_9_23 ((List.getElem?_set_ne (by decide)).trans ((List.getElem?_set_ne (by decide)).trans ((List.getElem?_set_ne (by decide)).trans ((List.getElem?_set_ne (by decide)).trans gF_83)))) d_Mod_open_54 ?_
  refine lv_iconst (v := 1) hx hb d_Mod_open_57 (by decide) ?_
  refine lv_iadd hx hb d_Mod_open_58 ?_
  refine f_put (D := (dC, dI)) (ci := 12) (v := .int (0 + 1)) (ty := .int) (C := R_Mod) (T := F_Mod) (N := 167) hx hb hT in_Mod t_Mod t_Mod_ok n_Mod hown hK hP hD hS 0 rfl rfl 83 (by decide) fr_Mod_83 w_9_23 (by decide +kernel) rfl rfl (by rw [List.length_set]; exact (by rw [List.length_set]; exact (by rw [List.length_set]; exact (by rw [List.length_set]; exact (by rw [nF]; decide))))) d_Mod_open_59 (fun H locs hP hD hS => ?_)
  have hP : va_P (dC, dI) CL [(h, .inr (12, ((((F.set 0 (.int 0)).set 82 (.int 0)).set 120 (.int 0)).set 121 (.int 0)).set 83 (.int (0 + 1)))), (a, .inl (cI, 3, .inl (upd (upd (upd (g) (0 : Int32).toNatClampNeg (-1)) (1 : Int32).toNatClampNeg (-1)) (2 : Int32).toNatClampNeg (-1))))] H := hP
  have hD : va_D A [(h, .inr (12, ((((F.set 0 (.int 0)).set 82 (.int 0)).set 120 (.int 0)).set 121 (.int 0)).set 83 (.int (0 + 1)))), (a, .inl (cI, 3, .inl (upd (upd (upd (g) (0 : Int32).toNatClampNeg (-1)) (1 : Int32).toNatClampNeg (-1)) (2 : Int32).toNatClampNeg (-1))))] := hD
  refine lv_aload_n hx hb d_Mod_open_62 rfl (lv_at hl 1 rfl) ?_
  refine lv_iconst (v := 0) hx hb d_Mod_open_63 (by decide) ?_
  refine f_put (D := (dC, dI)) (ci := 12) (v := .int 0) (ty := .int) (C := R_Mod) (T := F_Mod) (N := 167) hx hb hT in_Mod t_Mod t_Mod_ok n_Mod hown hK hP hD hS 0 rfl rfl 67 (by decide) fr_Mod_67 w_9_7 (by decide +kernel) rfl rfl (by rw [List.length_set]; exact (by rw [List.length_set]; exact (by rw [List.length_set]; exact (by rw [List.length_set]; exact (by rw [List.length_set]; exact (by rw [nF]; decide)))))) d_Mod_open_64 (fun H locs hP hD hS => ?_)
  have hP : va_P (dC, dI) CL [(h, .inr (12, (((((F.set 0 (.int 0)).set 82 (.int 0)).set 120 (.int 0)).set 121 (.int 0)).set 83 (.int (0 + 1))).set 67 (.int 0))), (a, .inl (cI, 3, .inl (upd (upd (upd (g) (0 : Int32).toNatClampNeg (-1)) (1 : Int32).toNatClampNeg (-1)) (2 : Int32).toNatClampNeg (-1))))] H := hP
  have hD : va_D A [(h, .inr (12, (((((F.set 0 (.int 0)).set 82 (.int 0)).set 120 (.int 0)).set 121 (.int 0)).set 83 (.int (0 + 1))).set 67 (.int 0))), (a, .inl (cI, 3, .inl (upd (upd (upd (g) (0 : Int32).toNatClampNeg (-1)) (1 : Int32).toNatClampNeg (-1)) (2 : Int32).toNatClampNeg (-1))))] := hD
  refine lv_aload_n hx hb d_Mod_open_67 rfl (lv_at hl 1 rfl) ?_
  refine lv_iconst (v := 0) hx hb d_Mod_open_68 (by decide) ?_
  refine f_put (D := (dC, dI)) (ci := 12) (v := .int 0) (ty := .int) (C := R_Mod) (T := F_Mod) (N := 167) hx hb hT in_Mod t_Mod t_Mod_ok n_Mod hown hK hP hD hS 0 rfl rfl 69 (by decide) fr_Mod_69 w_9_9 (by decide +kernel) rfl rfl (by rw [List.length_set]; exact (by rw [List.length_set]; exact (by rw [List.length_set]; exact (by rw [List.length_set]; exact (by rw [List.length_set]; exact (by rw [List.length_set]; exact (by rw [nF]; decide))))))) d_Mod_open_69 (fun H locs hP hD hS => ?_)
  have hP : va_P (dC, dI) CL [(h, .inr (12, ((((((F.set 0 (.int 0)).set 82 (.int 0)).set 120 (.int 0)).set 121 (.int 0)).set 83 (.int (0 + 1))).set 67 (.int 0)).set 69 (.int 0))), (a, .inl (cI, 3, .inl (upd (upd (upd (g) (0 : Int32).toNatClampNeg (-1)) (1 : Int32).toNatClampNeg (-1)) (2 : Int32).toNatClampNeg (-1))))] H := hP
  have hD : va_D A [(h, .inr (12, ((((((F.set 0 (.int 0)).set 82 (.int 0)).set 120 (.int 0)).set 121 (.int 0)).set 83 (.int (0 + 1))).set 67 (.int 0)).set 69 (.int 0))), (a, .inl (cI, 3, .inl (upd (upd (upd (g) (0 : Int32).toNatClampNeg (-1)) (1 : Int32).toNatClampNeg (-1)) (2 : Int32).toNatClampNeg (-1))))] := hD
  refine lv_aload_n hx hb d_Mod_open_72 rfl (lv_at hl 1 rfl) ?_
  refine lv_iconst (v := 0) hx hb d_Mod_open_73 (by decide) ?_
  refine f_put (D := (dC, dI)) (ci := 12) (v := .int 0) (ty := .int) (C := R_Mod) (T := F_Mod) (N := 167) hx hb hT in_Mod t_Mod t_Mod_ok n_Mod hown hK hP hD hS 0 rfl rfl 85 (by decide) fr_Mod_85 w_9_25 (by decide +kernel) rfl rfl (by rw [List.length_set]; exact (by rw [List.length_set]; exact (by rw [List.length_set]; exact (by rw [List.length_set]; exact (by rw [List.length_set]; exact (by rw [List.length_set]; exact (by rw [List.length_set]; exact (by rw [nF]; decide)))))))) d_Mod_open_74 (fun H locs hP hD hS => ?_)
  have hP : va_P (dC, dI) CL [(h, .inr (12, (((((((F.set 0 (.int 0)).set 82 (.int 0)).set 120 (.int 0)).set 121 (.int 0)).set 83 (.int (0 + 1))).set 67 (.int 0)).set 69 (.int 0)).set 85 (.int 0))), (a, .inl (cI, 3, .inl (upd (upd (upd (g) (0 : Int32).toNatClampNeg (-1)) (1 : Int32).toNatClampNeg (-1)) (2 : Int32).toNatClampNeg (-1))))] H := hP
  have hD : va_D A [(h, .inr (12, (((((((F.set 0 (.int 0)).set 82 (.int 0)).set 120 (.int 0)).set 121 (.int 0)).set 83 (.int (0 + 1))).set 67 (.int 0)).set 69 (.int 0)).set 85 (.int 0))), (a, .inl (cI, 3, .inl (upd (upd (upd (g) (0 : Int32).toNatClampNeg (-1)) (1 : Int32).toNatClampNeg (-1)) (2 : Int32).toNatClampNeg (-1))))] := hD
  refine lv_aload_n hx hb d_Mod_open_77 rfl (lv_at hl 1 rfl) ?_
  refine lv_iconst (v := 0) hx hb d_Mod_open_78 (by decide) ?_
  refine f_put (D := (dC, dI)) (ci := 12) (v := .int 0) (ty := .int) (C := R_Mod) (T := F_Mod) (N := 167) hx hb hT in_Mod t_Mod t_Mod_ok n_Mod hown hK hP hD hS 0 rfl rfl 86 (by decide) fr_Mod_86 w_9_26 (by decide +kernel) rfl rfl (by rw [List.length_set]; exact (by rw [List.length_set]; exact (by rw [List.length_set]; exact (by rw [List.length_set]; exact (by rw [List.length_set]; exact (by rw [List.length_set]; exact (by rw [List.length_set]; exact (by rw [List.length_set]; exact (by rw [nF]; decide))))))))) d_Mod_open_79 (fun H locs hP hD hS => ?_)
  have hP : va_P (dC, dI) CL [(h, .inr (12, ((((((((F.set 0 (.int 0)).set 82 (.int 0)).set 120 (.int 0)).set 121 (.int 0)).set 83 (.int (0 + 1))).set 67 (.int 0)).set 69 (.int 0)).set 85 (.int 0)).set 86 (.int 0))), (a, .inl (cI, 3, .inl (upd (upd (upd (g) (0 : Int32).toNatClampNeg (-1)) (1 : Int32).toNatClampNeg (-1)) (2 : Int32).toNatClampNeg (-1))))] H := hP
  have hD : va_D A [(h, .inr (12, ((((((((F.set 0 (.int 0)).set 82 (.int 0)).set 120 (.int 0)).set 121 (.int 0)).set 83 (.int (0 + 1))).set 67 (.int 0)).set 69 (.int 0)).set 85 (.int 0)).set 86 (.int 0))), (a, .inl (cI, 3, .inl (upd (upd (upd (g) (0 : Int32).toNatClampNeg (-1)) (1 : Int32).toNatClampNeg (-1)) (2 : Int32).toNatClampNeg (-1))))] := hD
  refine lv_aload_n hx hb d_Mod_open_82 rfl (lv_at hl 1 rfl) ?_
  refine lv_iconst (v := 0) hx hb d_Mod_open_83 (by decide) ?_
  refine f_put (D := (dC, dI)) (ci := 12) (v := .int 0) (ty := .int) (C := R_Mod) (T := F_Mod) (N := 167) hx hb hT in_Mod t_Mod t_Mod_ok n_Mod hown hK hP hD hS 0 rfl rfl 87 (by decide) fr_Mod_87 w_9_27 (by decide +kernel) rfl rfl (by rw [List.length_set]; exact (by rw [List.length_set]; exact (by rw [List.length_set]; exact (by rw [List.length_set]; exact (by rw [List.length_set]; exact (by rw [List.length_set]; exact (by rw [List.length_set]; exact (by rw [List.length_set]; exact (by rw [List.length_set]; exact (by rw [nF]; decide)))))))))) d_Mod_open_84 (fun H locs hP hD hS => ?_)
  have hP : va_P (dC, dI) CL [(h, .inr (12, (((((((((F.set 0 (.int 0)).set 82 (.int 0)).set 120 (.int 0)).set 121 (.int 0)).set 83 (.int (0 + 1))).set 67 (.int 0)).set 69 (.int 0)).set 85 (.int 0)).set 86 (.int 0)).set 87 (.int 0))), (a, .inl (cI, 3, .inl (upd (upd (upd (g) (0 : Int32).toNatClampNeg (-1)) (1 : Int32).toNatClampNeg (-1)) (2 : Int32).toNatClampNeg (-1))))] H := hP
  have hD : va_D A [(h, .inr (12, (((((((((F.set 0 (.int 0)).set 82 (.int 0)).set 120 (.int 0)).set 121 (.int 0)).set 83 (.int (0 + 1))).set 67 (.int 0)).set 69 (.int 0)).set 85 (.int 0)).set 86 (.int 0)).set 87 (.int 0))), (a, .inl (cI, 3, .inl (upd (upd (upd (g) (0 : Int32).toNatClampNeg (-1)) (1 : Int32).toNatClampNeg (-1)) (2 : Int32).toNatClampNeg (-1))))] := hD
  refine lv_aload_n hx hb d_Mod_open_87 rfl (lv_at hl 1 rfl) ?_
  refine lv_iconst (v := 0) hx hb d_Mod_open_88 (by decide) ?_
  refine f_put (D := (dC, dI)) (ci := 12) (v := .int 0) (ty := .int) (C := R_Mod) (T := F_Mod) (N := 167) hx hb hT in_Mod t_Mod t_Mod_ok n_Mod hown hK hP hD hS 0 rfl rfl 88 (by decide) fr_Mod_88 w_9_28 (by decide +kernel) rfl rfl (by rw [List.length_set]; exact (by rw [List.length_set]; exact (by rw [List.length_set]; exact (by rw [List.length_set]; exact (by rw [List.length_set]; exact (by rw [List.length_set]; exact (by rw [List.length_set]; exact (by rw [List.length_set]; exact (by rw [List.length_set]; exact (by rw [List.length_set]; exact (by rw [nF]; decide))))))))))) d_Mod_open_89 (fun H locs hP hD hS => ?_)
  have hP : va_P (dC, dI) CL [(h, .inr (12, ((((((((((F.set 0 (.int 0)).set 82 (.int 0)).set 120 (.int 0)).set 121 (.int 0)).set 83 (.int (0 + 1))).set 67 (.int 0)).set 69 (.int 0)).set 85 (.int 0)).set 86 (.int 0)).set 87 (.int 0)).set 88 (.int 0))), (a, .inl (cI, 3, .inl (upd (upd (upd (g) (0 : Int32).toNatClampNeg (-1)) (1 : Int32).toNatClampNeg (-1)) (2 : Int32).toNatClampNeg (-1))))] H := hP
  have hD : va_D A [(h, .inr (12, ((((((((((F.set 0 (.int 0)).set 82 (.int 0)).set 120 (.int 0)).set 121 (.int 0)).set 83 (.int (0 + 1))).set 67 (.int 0)).set 69 (.int 0)).set 85 (.int 0)).set 86 (.int 0)).set 87 (.int 0)).set 88 (.int 0))), (a, .inl (cI, 3, .inl (upd (upd (upd (g) (0 : Int32).toNatClampNeg (-1)) (1 : Int32).toNatClampNeg (-1)) (2 : Int32).toNatClampNeg (-1))))] := hD
  refine lv_aload_n hx hb d_Mod_open_92 rfl (lv_at hl 1 rfl) ?_
  refine lv_iconst (v := 0) hx hb d_Mod_open_93 (by decide) ?_
  refine f_put (D := (dC, dI)) (ci := 12) (v := .int 0) (ty := .int) (C := R_Mod) (T := F_Mod) (N := 167) hx hb hT in_Mod t_Mod t_Mod_ok n_Mod hown hK hP hD hS 0 rfl rfl 93 (by decide) fr_Mod_93 w_9_33 (by decide +kernel) rfl rfl (by rw [List.length_set]; exact (by rw [List.length_set]; exact (by rw [List.length_set]; exact (by rw [List.length_set]; exact (by rw [List.length_set]; exact (by rw [List.length_set]; exact (by rw [List.length_set]; exact (by rw [List.length_set]; exact (by rw [List.length_set]; exact (by rw [List.length_set]; exact (by rw [List.length_set]; exact (by rw [nF]; decide)))))))))))) d_Mod_open_94 (fun H locs hP hD hS => ?_)
  have hP : va_P (dC, dI) CL [(h, .inr (12, (((((((((((F.set 0 (.int 0)).set 82 (.int 0)).set 120 (.int 0)).set 121 (.int 0)).set 83 (.int (0 + 1))).set 67 (.int 0)).set 69 (.int 0)).set 85 (.int 0)).set 86 (.int 0)).set 87 (.int 0)).set 88 (.int 0)).set 93 (.int 0))), (a, .inl (cI, 3, .inl (upd (upd (upd (g) (0 : Int32).toNatClampNeg (-1)) (1 : Int32).toNatClampNeg (-1)) (2 : Int32).toNatClampNeg (-1))))] H := hP
  have hD : va_D A [(h, .inr (12, (((((((((((F.set 0 (.int 0)).set 82 (.int 0)).set 120 (.int 0)).set 121 (.int 0)).set 83 (.int (0 + 1))).set 67 (.int 0)).set 69 (.int 0)).set 85 (.int 0)).set 86 (.int 0)).set 87 (.int 0)).set 88 (.int 0)).set 93 (.int 0))), (a, .inl (cI, 3, .inl (upd (upd (upd (g) (0 : Int32).toNatClampNeg (-1)) (1 : Int32).toNatClampNeg (-1)) (2 : Int32).toNatClampNeg (-1))))] := hD
  refine lv_aload_n hx hb d_Mod_open_97 rfl (lv_at hl 1 rfl) ?_
  refine lv_iconst (v := 0) hx hb d_Mod_open_98 (by decide) ?_
  refine f_put (D := (dC, dI)) (ci := 12) (v := .int 0) (ty := .int) (C := R_Mod) (T := F_Mod) (N := 167) hx hb hT in_Mod t_Mod t_Mod_ok n_Mod hown hK hP hD hS 0 rfl rfl 94 (by decide) fr_Mod_94 w_9_34 (by decide +kernel) rfl rfl (by rw [List.length_set]; exact (by rw [List.length_set]; exact (by rw [List.length_set]; exact (by rw [List.length_set]; exact (by rw [List.length_set]; exact (by rw [List.length_set]; exact (by rw [List.length_set]; exact (by rw [List.length_set]; exact (by rw [List.length_set]; exact (by rw [List.length_set]; exact (by rw [List.length_set]; exact (by rw [List.length_set]; exact (by rw [nF]; decide))))))))))))) d_Mod_open_99 (fun H locs hP hD hS => ?_)
  have hP : va_P (dC, dI) CL [(h, .inr (12, ((((((((((((F.set 0 (.int 0)).set 82 (.int 0)).set 120 (.int 0)).set 121 (.int 0)).set 83 (.int (0 + 1))).set 67 (.int 0)).set 69 (.int 0)).set 85 (.int 0)).set 86 (.int 0)).set 87 (.int 0)).set 88 (.int 0)).set 93 (.int 0)).set 94 (.int 0))), (a, .inl (cI, 3, .inl (upd (upd (upd (g) (0 : Int32).toNatClampNeg (-1)) (1 : Int32).toNatClampNeg (-1)) (2 : Int32).toNatClampNeg (-1))))] H := hP
  have hD : va_D A [(h, .inr (12, ((((((((((((F.set 0 (.int 0)).set 82 (.int 0)).set 120 (.int 0)).set 121 (.int 0)).set 83 (.int (0 + 1))).set 67 (.int 0)).set 69 (.int 0)).set 85 (.int 0)).set 86 (.int 0)).set 87 (.int 0)).set 88 (.int 0)).set 93 (.int 0)).set 94 (.int 0))), (a, .inl (cI, 3, .inl (upd (upd (upd (g) (0 : Int32).toNatClampNeg (-1)) (1 : Int32).toNatClampNeg (-1)) (2 : Int32).toNatClampNeg (-1))))] := hD
  refine lv_aload_n hx hb d_Mod_open_102 rfl (lv_at hl 1 rfl) ?_
  have hPc := hP.sub (ws' := [(h, .inr (12, ((((((((((((F.set 0 (.int 0)).set 82 (.int 0)).set 120 (.int 0)).set 121 (.int 0)).set 83 (.int (0 + 1))).set 67 (.int 0)).set 69 (.int 0)).set 85 (.int 0)).set 86 (.int 0)).set 87 (.int 0)).set 88 (.int 0)).set 93 (.int 0)).set 94 (.int 0)))]) [0] rfl
  have hDc := hD.sub (ws' := [(h, .inr (12, ((((((((((((F.set 0 (.int 0)).set 82 (.int 0)).set 120 (.int 0)).set 121 (.int 0)).set 83 (.int (0 + 1))).set 67 (.int 0)).set 69 (.int 0)).set 85 (.int 0)).set 86 (.int 0)).set 87 (.int 0)).set 88 (.int 0)).set 93 (.int 0)).set 94 (.int 0)))]) [0] (by decide) rfl
  have hFc := va_free (wc := [(h, .inr (12, ((((((((((((F.set 0 (.int 0)).set 82 (.int 0)).set 120 (.int 0)).set 121 (.int 0)).set 83 (.int (0 + 1))).set 67 (.int 0)).set 69 (.int 0)).set 85 (.int 0)).set 86 (.int 0)).set 87 (.int 0)).set 88 (.int 0)).set 93 (.int 0)).set 94 (.int 0)))]) hD hS hA [0] rfl
  refine va_callv (va_runV (C := R_Mod) (As := []) (rest := []) ⟨hx, hb, hml, hown, hT⟩ (c_Mod_openFooter_none l dC dI cI cB cJ cZ H.size h (((((((((((((F.set 0 (.int 0)).set 82 (.int 0)).set 120 (.int 0)).set 121 (.int 0)).set 83 (.int (0 + 1))).set 67 (.int 0)).set 69 (.int 0)).set 85 (.int 0)).set 86 (.int 0)).set 87 (.int 0)).set 88 (.int 0)).set 93 (.int 0)).set 94 (.int 0))  (by rw [List.length_set]; exact (by rw [List.length_set]; exact (by rw [List.length_set]; exact (by rw [List.length_set]; exact (by rw [List.length_set]; exact (by rw [List.length_set]; exact (by rw [List.length_set]; exact (by rw [List.length_set]; exact (by rw [List.length_set]; exact (by rw [List.length_set]; exact (by rw [List.length_set]; exact (by rw [List.length_set]; exact (by rw [List.length_set]; exact nF))))))))))))) ((List.getElem?_set_ne (by decide)).trans ((List.getElem?_set_ne (by decide)).trans ((List.getElem?_set_ne (by decide)).trans ((List.getElem?_set_ne (by decide)).trans ((List.getElem?_set_ne (by decide)).trans ((List.getElem?_set_ne (by decide)).trans ((List.getElem?_set_ne (by decide)).trans ((List.getElem?_set_ne (by decide)).trans ((List.getElem?_set_ne (by decide)).trans ((List.getElem?_set_ne (by decide)).trans ((List.getElem?_set_ne (by decide)).trans ((List.getElem?_set_ne (by decide)).trans ((List.getElem?_set_ne (by decide)).trans gF_65))))))))))))) ((List.getElem?_set_ne (by decide)).trans ((List.getElem?_set_ne (by decide)).trans ((List.getElem?_set_ne (by decide)).trans ((List.getElem?_set_ne (by decide)).trans ((List.getElem?_set_ne (by decide)).trans ((List.getElem?_set_ne (by decide)).trans (List.getElem?_set_self (by rw [List.length_set]; exact (by rw [List.length_set]; exact (by rw [List.length_set]; exact (by rw [List.length_set]; exact (by rw [List.length_set]; exact (by rw [List.length_set]; exact (by rw [nF]; decide))))))))))))))) ⟨callB_of 0 hT (gw_in w_12_103) rfl rfl rfl (hT _ w_1_15) (hT _ w_12_100) (by decide +kernel) ⟨Nat.le_of_ble_eq_true rfl, Nat.le_of_ble_eq_true rfl⟩, hT _ w_12_102, hT _ ws_182⟩ ⟨PC.blind, va_recv hK hPc (ci := 12) (q0 := 0) rfl rfl, PC.at _ hPc hDc hK hN⟩ rfl rfl hl.1 rfl (lv_room (Nat.le_of_ble_eq_true rfl)) d_Mod_open_103 ⟨show _ ≤ 0 by omega, show _ ≤ 0 by omega⟩) hS (fun q _ h => hFc q h) hFc (fun  u t H1 locs ht hvm hw hB hz1 hk1 hS => ?_)
  obtain ⟨hP1, hD1⟩ := hB
  rw [ht] at hP1
  obtain ⟨hP, hD⟩ := va_join (wr := [(a, .inl (cI, 3, .inl (upd (upd (upd (g) (0 : Int32).toNatClampNeg (-1)) (1 : Int32).toNatClampNeg (-1)) (2 : Int32).toNatClampNeg (-1))))]) (w1 := [(h, .inr (12, (((((((((((((F.set 0 (.int 0)).set 82 (.int 0)).set 120 (.int 0)).set 121 (.int 0)).set 83 (.int (0 + 1))).set 67 (.int 0)).set 69 (.int 0)).set 85 (.int 0)).set 86 (.int 0)).set 87 (.int 0)).set 88 (.int 0)).set 93 (.int 0)).set 94 (.int 0)).set 69 (.int 13)))]) hP hD [0] [1] rfl rfl (by decide) (by decide) hk1 hFc hP1 hD1
  generalize H1 = H at hP hS ⊢
  have hP : va_P (dC, dI) CL [(a, .inl (cI, 3, .inl (upd (upd (upd (g) (0 : Int32).toNatClampNeg (-1)) (1 : Int32).toNatClampNeg (-1)) (2 : Int32).toNatClampNeg (-1)))), (h, .inr (12, (((((((((((((F.set 0 (.int 0)).set 82 (.int 0)).set 120 (.int 0)).set 121 (.int 0)).set 83 (.int (0 + 1))).set 67 (.int 0)).set 69 (.int 0)).set 85 (.int 0)).set 86 (.int 0)).set 87 (.int 0)).set 88 (.int 0)).set 93 (.int 0)).set 94 (.int 0)).set 69 (.int 13)))] H := hP
  have hD : va_D A [(a, .inl (cI, 3, .inl (upd (upd (upd (g) (0 : Int32).toNatClampNeg (-1)) (1 : Int32).toNatClampNeg (-1)) (2 : Int32).toNatClampNeg (-1)))), (h, .inr (12, (((((((((((((F.set 0 (.int 0)).set 82 (.int 0)).set 120 (.int 0)).set 121 (.int 0)).set 83 (.int (0 + 1))).set 67 (.int 0)).set 69 (.int 0)).set 85 (.int 0)).set 86 (.int 0)).set 87 (.int 0)).set 88 (.int 0)).set 93 (.int 0)).set 94 (.int 0)).set 69 (.int 13)))] := hD
  refine lv_aload_n hx hb d_Mod_open_106 rfl (lv_at hl 1 rfl) ?_
  refine lv_iconst (v := 4) hx hb d_Mod_open_107 (by decide) ?_
  refine f_put (D := (dC, dI)) (ci := 12) (v := .int 4) (ty := .int) (C := R_Mod) (T := F_Mod) (N := 167) hx hb hT in_Mod t_Mod t_Mod_ok n_Mod hown hK hP hD hS 1 rfl rfl 67 (by decide) fr_Mod_67 w_9_7 (by decide +kernel) rfl rfl (by rw [List.length_set]; exact (by rw [List.length_set]; exact (by rw [List.length_set]; exact (by rw [List.length_set]; exact (by rw [List.length_set]; exact (by rw [List.length_set]; exact (by rw [List.length_set]; exact (by rw [List.length_set]; exact (by rw [List.length_set]; exact (by rw [List.length_set]; exact (by rw [List.length_set]; exact (by rw [List.length_set]; exact (by rw [List.length_set]; exact (by rw [List.length_set]; exact (by rw [nF]; decide))))))))))))))) d_Mod_open_108 (fun H locs hP hD hS => ?_)
  have hP : va_P (dC, dI) CL [(a, .inl (cI, 3, .inl (upd (upd (upd (g) (0 : Int32).toNatClampNeg (-1)) (1 : Int32).toNatClampNeg (-1)) (2 : Int32).toNatClampNeg (-1)))), (h, .inr (12, ((((((((((((((F.set 0 (.int 0)).set 82 (.int 0)).set 120 (.int 0)).set 121 (.int 0)).set 83 (.int (0 + 1))).set 67 (.int 0)).set 69 (.int 0)).set 85 (.int 0)).set 86 (.int 0)).set 87 (.int 0)).set 88 (.int 0)).set 93 (.int 0)).set 94 (.int 0)).set 69 (.int 13)).set 67 (.int 4)))] H := hP
  have hD : va_D A [(a, .inl (cI, 3, .inl (upd (upd (upd (g) (0 : Int32).toNatClampNeg (-1)) (1 : Int32).toNatClampNeg (-1)) (2 : Int32).toNatClampNeg (-1)))), (h, .inr (12, ((((((((((((((F.set 0 (.int 0)).set 82 (.int 0)).set 120 (.int 0)).set 121 (.int 0)).set 83 (.int (0 + 1))).set 67 (.int 0)).set 69 (.int 0)).set 85 (.int 0)).set 86 (.int 0)).set 87 (.int 0)).set 88 (.int 0)).set 93 (.int 0)).set 94 (.int 0)).set 69 (.int 13)).set 67 (.int 4)))] := hD
  refine lv_iconst (v := 0) hx hb d_Mod_open_111 (by decide) ?_
  refine lv_istore_n (lv' := [(1, .int 0), (0, .ref h)]) hx hb d_Mod_open_112 rfl hl (by decide) rfl (fun ls hl => ?_)
  refine lv_iconst (v := 0) hx hb d_Mod_open_113 (by decide) ?_
  refine lv_istore_n (lv' := [(2, .int 0), (1, .int 0), (0, .ref h)]) hx hb d_Mod_open_114 rfl hl (by decide) rfl (fun ls hl => ?_)
  refine lv_iload_n hx hb d_Mod_open_115 rfl (lv_at hl 0 rfl) ?_
  refine lv_aload_n hx hb d_Mod_open_116 rfl (lv_at hl 2 rfl) ?_
  refine f_get (D := (dC, dI)) (ci := 12) (v := .int 0) (C := R_Mod) (T := F_Mod) (N := 167) hx hb hT in_Mod hown hK hP 1 rfl rfl 85 (by decide) fr_Mod_85 w_9_25 ((List.getElem?_set_ne (by decide)).trans ((List.getElem?_set_ne (by decide)).trans ((List.getElem?_set_ne (by decide)).trans ((List.getElem?_set_ne (by decide)).trans ((List.getElem?_set_ne (by decide)).trans ((List.getElem?_set_ne (by decide)).trans ((List.getElem?_set_ne (by decide)).trans (List.getElem?_set_self (by rw [List.length_set]; exact (by rw [List.length_set]; exact (by rw [List.length_set]; exact (by rw [List.length_set]; exact (by rw [List.length_set]; exact (by rw [List.length_set]; exact (by rw [List.length_set]; exact (by rw [nF]; decide)))))))))))))))) d_Mod_open_117 ?_
  refine lv_icmp_ge (tgt := 177) hx hb d_Mod_open_120 (by decide) (fun c1 => ?_) (fun c1 => by first | exact absurd c1 (by decide) | exact absurd (by decide) c1)
  refine lv_aload_n hx hb d_Mod_open_177 rfl (lv_at hl 2 rfl) ?_
  refine f_get (D := (dC, dI)) (ci := 12) (v := .int 13) (C := R_Mod) (T := F_Mod) (N := 167) hx hb hT in_Mod hown hK hP 1 rfl rfl 69 (by decide) fr_Mod_69 w_9_9 ((List.getElem?_set_ne (by decide)).trans (List.getElem?_set_self (by rw [List.length_set]; exact (by rw [List.length_set]; exact (by rw [List.length_set]; exact (by rw [List.length_set]; exact (by rw [List.length_set]; exact (by rw [List.length_set]; exact (by rw [List.length_set]; exact (by rw [List.length_set]; exact (by rw [List.length_set]; exact (by rw [List.length_set]; exact (by rw [List.length_set]; exact (by rw [List.length_set]; exact (by rw [List.length_set]; exact (by rw [nF]; decide)))))))))))))))) d_Mod_open_178 ?_
  refine lv_if_eq (tgt := 189) hx hb d_Mod_open_181 (by decide) (fun c1 => by first | exact absurd c1 (by decide) | exact absurd (by decide) c1) (fun c1 => ?_)
  refine lv_aload_n hx hb d_Mod_open_184 rfl (lv_at hl 2 rfl) ?_
  refine f_get (D := (dC, dI)) (ci := 12) (v := .int 13) (C := R_Mod) (T := F_Mod) (N := 167) hx hb hT in_Mod hown hK hP 1 rfl rfl 69 (by decide) fr_Mod_69 w_9_9 ((List.getElem?_set_ne (by decide)).trans (List.getElem?_set_self (by rw [List.length_set]; exact (by rw [List.length_set]; exact (by rw [List.length_set]; exact (by rw [List.length_set]; exact (by rw [List.length_set]; exact (by rw [List.length_set]; exact (by rw [List.length_set]; exact (by rw [List.length_set]; exact (by rw [List.length_set]; exact (by rw [List.length_set]; exact (by rw [List.length_set]; exact (by rw [List.length_set]; exact (by rw [List.length_set]; exact (by rw [nF]; decide)))))))))))))))) d_Mod_open_185 ?_
  exact W.iret (v := 13) hx hb hr (fun t ht hW => ⟨⟨13, (), rfl, rfl, by rw [ht]; exact hP, hD⟩, hS.F ht⟩) hS.2.2 d_Mod_open_188
end
