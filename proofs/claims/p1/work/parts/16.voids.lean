theorem fr_Mod_35 : F_Mod 35 = (R_Mod, "entries", "I", false) := rfl
theorem fr_Mod_36 : F_Mod 36 = (R_Mod, "textSize", "I", false) := rfl
theorem fr_Rec_1 : F_Rec 1 = (R_Rec, "entries", "I", false) := rfl
theorem fr_Rec_2 : F_Rec 2 = (R_Rec, "textEnd", "I", false) := rfl
theorem fr_Snk_2 : F_Snk 2 = (R_Snk, "over", "Z", false) := rfl
theorem w_11_55 : (Jvm.Cond.methodLink "StripedVaultModel" (470 : Nat) ({ cls := "StripedVaultModel", name := "empty", desc := "()V" } : Jvm.MethodName)) ∈ TG := tw_11 55 (by decide +kernel) (by decide +kernel)
theorem w_11_57 : (Jvm.Cond.instanceMethod ({ cls := "StripedVaultModel", name := "empty", desc := "()V" } : Jvm.MethodName)) ∈ TG := tw_11 57 (by decide +kernel) (by decide +kernel)
theorem w_11_58 : (Jvm.Cond.code ({ cls := "StripedVaultModel", name := "empty", desc := "()V" } : Jvm.MethodName) prog_14_method_39_code (1 : Nat) (Option.none : Option Jvm.ClassFile.FieldType)) ∈ TG := tw_11 58 (by decide +kernel) (by decide +kernel)
theorem w_1_15 : (Jvm.Cond.initialized "StripedVaultModel") ∈ TG := tw_1 15 (by decide +kernel) (by decide +kernel)
theorem w_1_227 : (Jvm.Cond.fieldLink "StripedVault$Records" (45 : Nat) "StripedVault$Records" "count" "I") ∈ TG := tw_1 227 (by decide +kernel) (by decide +kernel)
theorem w_1_230 : (Jvm.Cond.fieldLink "StripedVault$Records" (49 : Nat) "StripedVault$Records" "entries" "I") ∈ TG := tw_1 230 (by decide +kernel) (by decide +kernel)
theorem w_1_231 : (Jvm.Cond.fieldLink "StripedVault$Records" (52 : Nat) "StripedVault$Records" "textEnd" "I") ∈ TG := tw_1 231 (by decide +kernel) (by decide +kernel)
theorem w_1_43 : (Jvm.Cond.fieldLink "StripedVault$Sink" (29 : Nat) "StripedVault$Sink" "count" "I") ∈ TG := tw_1 43 (by decide +kernel) (by decide +kernel)
theorem w_1_47 : (Jvm.Cond.fieldLink "StripedVault$Sink" (32 : Nat) "StripedVault$Sink" "over" "Z") ∈ TG := tw_1 47 (by decide +kernel) (by decide +kernel)
theorem w_4_78 : (Jvm.Cond.methodLink "StripedVault" (109 : Nat) ({ cls := "StripedVault$Sink", name := "forget", desc := "()V" } : Jvm.MethodName)) ∈ TG := tw_4 78 (by decide +kernel) (by decide +kernel)
theorem w_4_79 : (Jvm.Cond.instanceMethod ({ cls := "StripedVault$Sink", name := "forget", desc := "()V" } : Jvm.MethodName)) ∈ TG := tw_4 79 (by decide +kernel) (by decide +kernel)
theorem w_4_80 : (Jvm.Cond.selects "StripedVault$Sink" ({ cls := "StripedVault$Sink", name := "forget", desc := "()V" } : Jvm.MethodName) ({ cls := "StripedVault$Sink", name := "forget", desc := "()V" } : Jvm.MethodName)) ∈ TG := tw_4 80 (by decide +kernel) (by decide +kernel)
theorem w_4_81 : (Jvm.Cond.code ({ cls := "StripedVault$Sink", name := "forget", desc := "()V" } : Jvm.MethodName) prog_9_method_2_code (1 : Nat) (Option.none : Option Jvm.ClassFile.FieldType)) ∈ TG := tw_4 81 (by decide +kernel) (by decide +kernel)
theorem w_5_11 : (Jvm.Cond.methodLink "StripedVault" (128 : Nat) ({ cls := "StripedVault$Records", name := "forget", desc := "()V" } : Jvm.MethodName)) ∈ TG := tw_5 11 (by decide +kernel) (by decide +kernel)
theorem w_5_12 : (Jvm.Cond.instanceMethod ({ cls := "StripedVault$Records", name := "forget", desc := "()V" } : Jvm.MethodName)) ∈ TG := tw_5 12 (by decide +kernel) (by decide +kernel)
theorem w_5_13 : (Jvm.Cond.selects "StripedVault$Records" ({ cls := "StripedVault$Records", name := "forget", desc := "()V" } : Jvm.MethodName) ({ cls := "StripedVault$Records", name := "forget", desc := "()V" } : Jvm.MethodName)) ∈ TG := tw_5 13 (by decide +kernel) (by decide +kernel)
theorem w_5_14 : (Jvm.Cond.code ({ cls := "StripedVault$Records", name := "forget", desc := "()V" } : Jvm.MethodName) prog_6_method_2_code (1 : Nat) (Option.none : Option Jvm.ClassFile.FieldType)) ∈ TG := tw_5 14 (by decide +kernel) (by decide +kernel)
theorem w_8_215 : (Jvm.Cond.fieldLink "StripedVaultModel" (526 : Nat) "StripedVaultModel" "entries" "I") ∈ TG := tw_8 215 (by decide +kernel) (by decide +kernel)
theorem w_8_216 : (Jvm.Cond.fieldLink "StripedVaultModel" (529 : Nat) "StripedVaultModel" "textSize" "I") ∈ TG := tw_8 216 (by decide +kernel) (by decide +kernel)
theorem ws_124 : Cond.selects R_Mod y_Mod_empty y_Mod_empty ∈ TG := tw_s 124 (by decide +kernel) (by decide +kernel)
theorem d_Snk_forget_0 : decode b_Snk_forget 0 = .ok (.aload_n 0, 1) := by decide +kernel
theorem d_Snk_forget_1 : decode b_Snk_forget 1 = .ok (.iconst 0, 1) := by decide +kernel
theorem d_Snk_forget_2 : decode b_Snk_forget 2 = .ok (.putfield 29, 3) := by decide +kernel
theorem d_Snk_forget_5 : decode b_Snk_forget 5 = .ok (.aload_n 0, 1) := by decide +kernel
theorem d_Snk_forget_6 : decode b_Snk_forget 6 = .ok (.iconst 0, 1) := by decide +kernel
theorem d_Snk_forget_7 : decode b_Snk_forget 7 = .ok (.putfield 32, 3) := by decide +kernel
theorem d_Snk_forget_10 : decode b_Snk_forget 10 = .ok (.return_, 1) := by decide +kernel
theorem d_Rec_forget_0 : decode b_Rec_forget 0 = .ok (.aload_n 0, 1) := by decide +kernel
theorem d_Rec_forget_1 : decode b_Rec_forget 1 = .ok (.iconst 0, 1) := by decide +kernel
theorem d_Rec_forget_2 : decode b_Rec_forget 2 = .ok (.putfield 45, 3) := by decide +kernel
theorem d_Rec_forget_5 : decode b_Rec_forget 5 = .ok (.aload_n 0, 1) := by decide +kernel
theorem d_Rec_forget_6 : decode b_Rec_forget 6 = .ok (.iconst 0, 1) := by decide +kernel
theorem d_Rec_forget_7 : decode b_Rec_forget 7 = .ok (.putfield 49, 3) := by decide +kernel
theorem d_Rec_forget_10 : decode b_Rec_forget 10 = .ok (.aload_n 0, 1) := by decide +kernel
theorem d_Rec_forget_11 : decode b_Rec_forget 11 = .ok (.iconst 0, 1) := by decide +kernel
theorem d_Rec_forget_12 : decode b_Rec_forget 12 = .ok (.putfield 52, 3) := by decide +kernel
theorem d_Rec_forget_15 : decode b_Rec_forget 15 = .ok (.aload_n 0, 1) := by decide +kernel
theorem d_Rec_forget_16 : decode b_Rec_forget 16 = .ok (.getfield 29, 3) := by decide +kernel
theorem d_Rec_forget_19 : decode b_Rec_forget 19 = .ok (.iconst (-1), 1) := by decide +kernel
theorem d_Rec_forget_20 : decode b_Rec_forget 20 = .ok (.invokestatic 39, 3) := by decide +kernel
theorem d_Rec_forget_23 : decode b_Rec_forget 23 = .ok (.aload_n 0, 1) := by decide +kernel
theorem d_Rec_forget_24 : decode b_Rec_forget 24 = .ok (.getfield 32, 3) := by decide +kernel
theorem d_Rec_forget_27 : decode b_Rec_forget 27 = .ok (.iconst (-1), 1) := by decide +kernel
theorem d_Rec_forget_28 : decode b_Rec_forget 28 = .ok (.invokestatic 39, 3) := by decide +kernel
theorem d_Rec_forget_31 : decode b_Rec_forget 31 = .ok (.return_, 1) := by decide +kernel
theorem d_V_clear_0 : decode b_V_clear 0 = .ok (.aload_n 0, 1) := by decide +kernel
theorem d_V_clear_1 : decode b_V_clear 1 = .ok (.getfield 45, 3) := by decide +kernel
theorem d_V_clear_4 : decode b_V_clear 4 = .ok (.invokevirtual 128, 3) := by decide +kernel
theorem d_V_clear_7 : decode b_V_clear 7 = .ok (.return_, 1) := by decide +kernel
theorem d_V_take_0 : decode b_V_take 0 = .ok (.aload_n 0, 1) := by decide +kernel
theorem d_V_take_1 : decode b_V_take 1 = .ok (.getfield 22, 3) := by decide +kernel
theorem d_V_take_4 : decode b_V_take 4 = .ok (.astore_n 1, 1) := by decide +kernel
theorem d_V_take_5 : decode b_V_take 5 = .ok (.aload_n 0, 1) := by decide +kernel
theorem d_V_take_6 : decode b_V_take 6 = .ok (.aload_n 0, 1) := by decide +kernel
theorem d_V_take_7 : decode b_V_take 7 = .ok (.getfield 19, 3) := by decide +kernel
theorem d_V_take_10 : decode b_V_take 10 = .ok (.putfield 22, 3) := by decide +kernel
theorem d_V_take_13 : decode b_V_take 13 = .ok (.aload_n 0, 1) := by decide +kernel
theorem d_V_take_14 : decode b_V_take 14 = .ok (.aload_n 1, 1) := by decide +kernel
theorem d_V_take_15 : decode b_V_take 15 = .ok (.putfield 19, 3) := by decide +kernel
theorem d_V_take_18 : decode b_V_take 18 = .ok (.aload_n 0, 1) := by decide +kernel
theorem d_V_take_19 : decode b_V_take 19 = .ok (.getfield 19, 3) := by decide +kernel
theorem d_V_take_22 : decode b_V_take 22 = .ok (.invokevirtual 109, 3) := by decide +kernel
theorem d_V_take_25 : decode b_V_take 25 = .ok (.return_, 1) := by decide +kernel
theorem d_Mod_empty_0 : decode b_Mod_empty 0 = .ok (.aload_n 0, 1) := by decide +kernel
theorem d_Mod_empty_1 : decode b_Mod_empty 1 = .ok (.iconst 0, 1) := by decide +kernel
theorem d_Mod_empty_2 : decode b_Mod_empty 2 = .ok (.putfield 523, 3) := by decide +kernel
theorem d_Mod_empty_5 : decode b_Mod_empty 5 = .ok (.aload_n 0, 1) := by decide +kernel
theorem d_Mod_empty_6 : decode b_Mod_empty 6 = .ok (.iconst 0, 1) := by decide +kernel
theorem d_Mod_empty_7 : decode b_Mod_empty 7 = .ok (.putfield 526, 3) := by decide +kernel
theorem d_Mod_empty_10 : decode b_Mod_empty 10 = .ok (.aload_n 0, 1) := by decide +kernel
theorem d_Mod_empty_11 : decode b_Mod_empty 11 = .ok (.iconst 0, 1) := by decide +kernel
theorem d_Mod_empty_12 : decode b_Mod_empty 12 = .ok (.putfield 529, 3) := by decide +kernel
theorem d_Mod_empty_15 : decode b_Mod_empty 15 = .ok (.aload_n 0, 1) := by decide +kernel
theorem d_Mod_empty_16 : decode b_Mod_empty 16 = .ok (.getfield 78, 3) := by decide +kernel
theorem d_Mod_empty_19 : decode b_Mod_empty 19 = .ok (.iconst 0, 1) := by decide +kernel
theorem d_Mod_empty_20 : decode b_Mod_empty 20 = .ok (.iconst 0, 1) := by decide +kernel
theorem d_Mod_empty_21 : decode b_Mod_empty 21 = .ok (.iastore, 1) := by decide +kernel
theorem d_Mod_empty_22 : decode b_Mod_empty 22 = .ok (.return_, 1) := by decide +kernel
theorem d_Mod_clear_0 : decode b_Mod_clear 0 = .ok (.aload_n 0, 1) := by decide +kernel
theorem d_Mod_clear_1 : decode b_Mod_clear 1 = .ok (.iconst 0, 1) := by decide +kernel
theorem d_Mod_clear_2 : decode b_Mod_clear 2 = .ok (.putfield 360, 3) := by decide +kernel
theorem d_Mod_clear_5 : decode b_Mod_clear 5 = .ok (.aload_n 0, 1) := by decide +kernel
theorem d_Mod_clear_6 : decode b_Mod_clear 6 = .ok (.invokevirtual 470, 3) := by decide +kernel
theorem d_Mod_clear_9 : decode b_Mod_clear 9 = .ok (.return_, 1) := by decide +kernel
section
variable (l : Launch) (dC : Nat → ClassId) (dI : Nat → Nat → Nat) (cI cB cJ cZ : ClassId)
set_option maxHeartbeats 4000000 in
set_option maxRecDepth 100000 in
/-- Sink.forget() -/
theorem c_Snk_forget (sz : Nat) (h : Nat) (F : List Value) (nF : F.length = 7) : Met l y_Snk_forget (wsOf y_Snk_forget b_Snk_forget 1 none) ({ frames := 0, cells := 0, slots := 0, locals := 0 }) (va_Pc [.ref h] (PC dC dI cI cB cJ cZ sz [(h, .inr (1, F))])) (va_Qv (fun _ : Unit => True) (fun _ t => va_P (dC, dI) CL [(h, .inr (1, (F.set 1 (.int 0)).set 2 (.int 0)))] t.heap ∧ va_D (va_A [(h, .inr (1, F))] sz) [(h, .inr (1, (F.set 1 (.int 0)).set 2 (.int 0)))]) (va_A [(h, .inr (1, F))] sz)) 0 0 (va_A [(h, .inr (1, F))] sz) := by
  refine Met.ofW (cc := b_Snk_forget) (maxL := 1) (ret := none) (by decide) rfl ?_
  intro p e s m args below meth c s₁ B hml hv
  obtain ⟨rfl, hsz, hP, hK, hD0, hN⟩ := hv
  have hx := B.exec
  have hb := B.bytes
  have hr := B.returns
  have hts := atoms_spec B.pre
  have hT : ∀ w ∈ TG, w.before _ s = true := fun w h => hts w (List.mem_cons_of_mem _ h)
  have hown : s.vm.findClass R_Snk = some m.cls := findClass_of_methodNamed B.named
  have hlocks := B.notSynchronized
  subst hsz
  have hD := hD0.self (sz := s.heap.size)
  generalize hAe : va_A [(h, .inr (1, F))] s.heap.size = A at hD ⊢
  have hA : ∀ q : Nat, s.heap.size ≤ q → A q := fun q h => by rw [← hAe]; exact Or.inr h
  have hS : va_S A s.heap s.heap [] := va_S.rf
  have hl := lv_entry ([.ref h]) (n := 1) (Nat.le_of_ble_eq_true rfl)
  rw [lg_entry_eq]
  generalize (lg_sl ([.ref h]) ++ List.replicate (1 - (lg_sl ([.ref h])).length) Slot.unset).toArray = ls at hl ⊢
  have hl : lv_has ls 1 [(0, .ref h)] := hl
  refine lv_aload_n hx hb d_Snk_forget_0 rfl (lv_at hl 0 rfl) ?_
  refine lv_iconst (v := 0) hx hb d_Snk_forget_1 (by decide) ?_
  refine f_put (D := (dC, dI)) (ci := 1) (v := .int 0) (ty := .int) (C := R_Snk) (T := F_Snk) (N := 7) hx hb hT in_Snk t_Snk t_Snk_ok n_Snk hown hK hP hD hS 0 rfl rfl 1 (by decide) fr_Snk_1 w_1_43 (by decide +kernel) rfl rfl (by rw [nF]; decide) d_Snk_forget_2 (fun H locs hP hD hS => ?_)
  have hP : va_P (dC, dI) CL [(h, .inr (1, F.set 1 (.int 0)))] H := hP
  have hD : va_D A [(h, .inr (1, F.set 1 (.int 0)))] := hD
  refine lv_aload_n hx hb d_Snk_forget_5 rfl (lv_at hl 0 rfl) ?_
  refine lv_iconst (v := 0) hx hb d_Snk_forget_6 (by decide) ?_
  refine f_put (D := (dC, dI)) (ci := 1) (v := .int 0) (ty := .boolean) (C := R_Snk) (T := F_Snk) (N := 7) hx hb hT in_Snk t_Snk t_Snk_ok n_Snk hown hK hP hD hS 0 rfl rfl 2 (by decide) fr_Snk_2 w_1_47 (by decide +kernel) rfl rfl (by rw [List.length_set]; exact (by rw [nF]; decide)) d_Snk_forget_7 (fun H locs hP hD hS => ?_)
  have hP : va_P (dC, dI) CL [(h, .inr (1, (F.set 1 (.int 0)).set 2 (.int 0)))] H := hP
  have hD : va_D A [(h, .inr (1, (F.set 1 (.int 0)).set 2 (.int 0)))] := hD
  exact W.vret hx hb hr (fun t ht hW => ⟨⟨(), rfl, trivial, by rw [ht]; exact hP, hD⟩, hS.F ht⟩) hS.2.2 d_Snk_forget_10
set_option maxHeartbeats 4000000 in
set_option maxRecDepth 100000 in
/-- Records.forget() -/
theorem c_Rec_forget (sz : Nat) (h : Nat) (F : List Value) (a b : Nat) (g k : Nat → Int32) (nF : F.length = 15) (gF_10 : F[10]? = some (.ref a)) (gF_11 : F[11]? = some (.ref b)) : Met l y_Rec_forget (wsOf y_Rec_forget b_Rec_forget 1 none) ({ frames := 1, cells := 0, slots := 0, locals := 23 }) (va_Pc [.ref h] (PC dC dI cI cB cJ cZ sz [(h, .inr (4, F)), (a, .inl (cI, 64, .inl g)), (b, .inl (cI, 64, .inl k))])) (va_Qv (fun _ : Unit => True) (fun _ t => va_P (dC, dI) CL [(h, .inr (4, ((F.set 0 (.int 0)).set 1 (.int 0)).set 2 (.int 0))), (a, .inl (cI, 64, .inl (fun _ => (-1)))), (b, .inl (cI, 64, .inl (fun _ => (-1))))] t.heap ∧ va_D (va_A [(h, .inr (4, F)), (a, .inl (cI, 64, .inl g)), (b, .inl (cI, 64, .inl k))] sz) [(h, .inr (4, ((F.set 0 (.int 0)).set 1 (.int 0)).set 2 (.int 0))), (a, .inl (cI, 64, .inl (fun _ => (-1)))), (b, .inl (cI, 64, .inl (fun _ => (-1))))]) (va_A [(h, .inr (4, F)), (a, .inl (cI, 64, .inl g)), (b, .inl (cI, 64, .inl k))] sz)) 0 0 (va_A [(h, .inr (4, F)), (a, .inl (cI, 64, .inl g)), (b, .inl (cI, 64, .inl k))] sz) := by
  refine Met.ofW (cc := b_Rec_forget) (maxL := 1) (ret := none) (by decide) rfl ?_
  intro p e s m args below meth c s₁ B hml hv
  obtain ⟨rfl, hsz, hP, hK, hD0, hN⟩ := hv
  have hx := B.exec
  have hb := B.bytes
  have hr := B.returns
  have hts := atoms_spec B.pre
  have hT : ∀ w ∈ TG, w.before _ s = true := fun w h => hts w (List.mem_cons_of_mem _ h)
  have hown : s.vm.findClass R_Rec = some m.cls := findClass_of_methodNamed B.named
  have hlocks := B.notSynchronized
  subst hsz
  have hD := hD0.self (sz := s.heap.size)
  generalize hAe : va_A [(h, .inr (4, F)), (a, .inl (cI, 64, .inl g)), (b, .inl (cI, 64, .inl k))] s.heap.size = A at hD ⊢
  have hA : ∀ q : Nat, s.heap.size ≤ q → A q := fun q h => by rw [← hAe]; exact Or.inr h
  have hS : va_S A s.heap s.heap [] := va_S.rf
  have hl := lv_entry ([.ref h]) (n := 1) (Nat.le_of_ble_eq_true rfl)
  rw [lg_entry_eq]
  generalize (lg_sl ([.ref h]) ++ List.replicate (1 - (lg_sl ([.ref h])).length) Slot.unset).toArray = ls at hl ⊢
  have hl : lv_has ls 1 [(0, .ref h)] := hl
  refine lv_aload_n hx hb d_Rec_forget_0 rfl (lv_at hl 0 rfl) ?_
  refine lv_iconst (v := 0) hx hb d_Rec_forget_1 (by decide) ?_
  refine f_put (D := (dC, dI)) (ci := 4) (v := .int 0) (ty := .int) (C := R_Rec) (T := F_Rec) (N := 15) hx hb hT in_Rec t_Rec t_Rec_ok n_Rec hown hK hP hD hS 0 rfl rfl 0 (by decide) fr_Rec_0 w_1_227 (by decide +kernel) rfl rfl (by rw [nF]; decide) d_Rec_forget_2 (fun H locs hP hD hS => ?_)
  have hP : va_P (dC, dI) CL [(h, .inr (4, F.set 0 (.int 0))), (a, .inl (cI, 64, .inl g)), (b, .inl (cI, 64, .inl k))] H := hP
  have hD : va_D A [(h, .inr (4, F.set 0 (.int 0))), (a, .inl (cI, 64, .inl g)), (b, .inl (cI, 64, .inl k))] := hD
  refine lv_aload_n hx hb d_Rec_forget_5 rfl (lv_at hl 0 rfl) ?_
  refine lv_iconst (v := 0) hx hb d_Rec_forget_6 (by decide) ?_
  refine f_put (D := (dC, dI)) (ci := 4) (v := .int 0) (ty := .int) (C := R_Rec) (T := F_Rec) (N := 15) hx hb hT in_Rec t_Rec t_Rec_ok n_Rec hown hK hP hD hS 0 rfl rfl 1 (by decide) fr_Rec_1 w_1_230 (by decide +kernel) rfl rfl (by rw [List.length_set]; exact (by rw [nF]; decide)) d_Rec_forget_7 (fun H locs hP hD hS => ?_)
  have hP : va_P (dC, dI) CL [(h, .inr (4, (F.set 0 (.int 0)).set 1 (.int 0))), (a, .inl (cI, 64, .inl g)), (b, .inl (cI, 64, .inl k))] H := hP
  have hD : va_D A [(h, .inr (4, (F.set 0 (.int 0)).set 1 (.int 0))), (a, .inl (cI, 64, .inl g)), (b, .inl (cI, 64, .inl k))] := hD
  refine lv_aload_n hx hb d_Rec_forget_10 rfl (lv_at hl 0 rfl) ?_
  refine lv_iconst (v := 0) hx hb d_Rec_forget_11 (by decide) ?_
  refine f_put (D := (dC, dI)) (ci := 4) (v := .int 0) (ty := .int) (C := R_Rec) (T := F_Rec) (N := 15) hx hb hT in_Rec t_Rec t_Rec_ok n_Rec hown hK hP hD hS 0 rfl rfl 2 (by decide) fr_Rec_2 w_1_231 (by decide +kernel) rfl rfl (by rw [List.length_set]; exact (by rw [List.length_set]; exact (by rw [nF]; decide))) d_Rec_forget_12 (fun H locs hP hD hS => ?_)
  have hP : va_P (dC, dI) CL [(h, .inr (4, ((F.set 0 (.int 0)).set 1 (.int 0)).set 2 (.int 0))), (a, .inl (cI, 64, .inl g)), (b, .inl (cI, 64, .inl k))] H := hP
  have hD : va_D A [(h, .inr (4, ((F.set 0 (.int 0)).set 1 (.int 0)).set 2 (.int 0))), (a, .inl (cI, 64, .inl g)), (b, .inl (cI, 64, .inl k))] := hD
  refine lv_aload_n hx hb d_Rec_forget_15 rfl (lv_at hl 0 rfl) ?_
  refine f_get (D := (dC, dI)) (ci := 4) (v := .ref a) (C := R_Rec) (T := F_Rec) (N := 15) hx hb hT in_Rec hown hK hP 0 rfl rfl 10 (by decide) fr_Rec_10 w_2_3 ((List.getElem?_set_ne (by decide)).trans ((List.getElem?_set_ne (by decide)).trans ((List.getElem?_set_ne (by decide)).trans gF_10))) d_Rec_forget_16 ?_
  refine lv_iconst (v := (-1)) hx hb d_Rec_forget_19 (by decide) ?_
  have hPc := hP.sub (ws' := [(a, .inl (cI, 64, .inl g))]) [1] rfl
  have hDc := hD.sub (ws' := [(a, .inl (cI, 64, .inl g))]) [1] (by decide) rfl
  have hFc := va_free (wc := [(a, .inl (cI, 64, .inl g))]) hD hS hA [1] rfl
  refine va_callv (va_runS (As := [.ref a, .int (-1)]) (rest := []) ⟨hx, hb, hml, hown, hT⟩ (c_JArr_fill l dC dI cI cB cJ cZ a H.size 64 g (-1) (by decide)) ⟨callB_of 2 hT (gw_in w_1_226) rfl rfl rfl (hT _ w_1_7) (hT _ w_1_224) (by decide +kernel) ⟨Nat.le_of_ble_eq_true rfl, Nat.le_of_ble_eq_true rfl⟩, hT _ w_1_225⟩ ⟨PC.blind, PC.at _ hPc hDc hK hN⟩ rfl rfl hl.1 rfl (lv_room (Nat.le_of_ble_eq_true rfl)) d_Rec_forget_20 ⟨show _ ≤ 0 by omega, show _ ≤ 0 by omega⟩) hS (fun q _ h => hFc q h) hFc (fun  u t H1 locs ht hvm hw hB hz1 hk1 hS => ?_)
  obtain ⟨hP1, hD1⟩ := hB
  rw [ht] at hP1
  obtain ⟨hP, hD⟩ := va_join (wr := [(h, .inr (4, ((F.set 0 (.int 0)).set 1 (.int 0)).set 2 (.int 0))), (b, .inl (cI, 64, .inl k))]) (w1 := [(a, .inl (cI, 64, .inl (fun _ => (-1))))]) hP hD [1] [0, 2] rfl rfl (by decide) (by decide) hk1 hFc hP1 hD1
  generalize H1 = H at hP hS ⊢
  have hP : va_P (dC, dI) CL [(h, .inr (4, ((F.set 0 (.int 0)).set 1 (.int 0)).set 2 (.int 0))), (b, .inl (cI, 64, .inl k)), (a, .inl (cI, 64, .inl (fun _ => (-1))))] H := hP
  have hD : va_D A [(h, .inr (4, ((F.set 0 (.int 0)).set 1 (.int 0)).set 2 (.int 0))), (b, .inl (cI, 64, .inl k)), (a, .inl (cI, 64, .inl (fun _ => (-1))))] := hD
  refine lv_aload_n hx hb d_Rec_forget_23 rfl (lv_at hl 0 rfl) ?_
  refine f_get (D := (dC, dI)) (ci := 4) (v := .ref b) (C := R_Rec) (T := F_Rec) (N := 15) hx hb hT in_Rec hown hK hP 0 rfl rfl 11 (by decide) fr_Rec_11 w_2_5 ((List.getElem?_set_ne (by decide)).trans ((List.getElem?_set_ne (by decide)).trans ((List.getElem?_set_ne (by decide)).trans gF_11))) d_Rec_forget_24 ?_
  refine lv_iconst (v := (-1)) hx hb d_Rec_forget_27 (by decide) ?_
  have hPc := hP.sub (ws' := [(b, .inl (cI, 64, .inl k))]) [1] rfl
  have hDc := hD.sub (ws' := [(b, .inl (cI, 64, .inl k))]) [1] (by decide) rfl
  have hFc := va_free (wc := [(b, .inl (cI, 64, .inl k))]) hD hS hA [1] rfl
  refine va_callv (va_runS (As := [.ref b, .int (-1)]) (rest := []) ⟨hx, hb, hml, hown, hT⟩ (c_JArr_fill l dC dI cI cB cJ cZ b H.size 64 k (-1) (by decide)) ⟨callB_of 2 hT (gw_in w_1_226) rfl rfl rfl (hT _ w_1_7) (hT _ w_1_224) (by decide +kernel) ⟨Nat.le_of_ble_eq_true rfl, Nat.le_of_ble_eq_true rfl⟩, hT _ w_1_225⟩ ⟨PC.blind, PC.at _ hPc hDc hK hN⟩ rfl rfl hl.1 rfl (lv_room (Nat.le_of_ble_eq_true rfl)) d_Rec_forget_28 ⟨show _ ≤ 0 by omega, show _ ≤ 0 by omega⟩) hS (fun q _ h => hFc q h) hFc (fun  u t H1 locs ht hvm hw hB hz1 hk1 hS => ?_)
  obtain ⟨hP1, hD1⟩ := hB
  rw [ht] at hP1
  obtain ⟨hP, hD⟩ := va_join (wr := [(h, .inr (4, ((F.set 0 (.int 0)).set 1 (.int 0)).set 2 (.int 0))), (a, .inl (cI, 64, .inl (fun _ => (-1))))]) (w1 := [(b, .inl (cI, 64, .inl (fun _ => (-1))))]) hP hD [1] [0, 2] rfl rfl (by decide) (by decide) hk1 hFc hP1 hD1
  generalize H1 = H at hP hS ⊢
  have hP : va_P (dC, dI) CL [(h, .inr (4, ((F.set 0 (.int 0)).set 1 (.int 0)).set 2 (.int 0))), (a, .inl (cI, 64, .inl (fun _ => (-1)))), (b, .inl (cI, 64, .inl (fun _ => (-1))))] H := hP
  have hD : va_D A [(h, .inr (4, ((F.set 0 (.int 0)).set 1 (.int 0)).set 2 (.int 0))), (a, .inl (cI, 64, .inl (fun _ => (-1)))), (b, .inl (cI, 64, .inl (fun _ => (-1))))] := hD
  exact W.vret hx hb hr (fun t ht hW => ⟨⟨(), rfl, trivial, by rw [ht]; exact hP, hD⟩, hS.F ht⟩) hS.2.2 d_Rec_forget_31
set_option maxHeartbeats 4000000 in
set_option maxRecDepth 100000 in
/-- clear() -/
theorem c_V_clear (sz : Nat) (h : Nat) (F : List Value) (f : Nat) (S : List Value) (a b : Nat) (g k : Nat → Int32) (nF : F.length = 15) (gF_6 : F[6]? = some (.ref f)) (nS : S.length = 15) (gS_10 : S[10]? = some (.ref a)) (gS_11 : S[11]? = some (.ref b)) : Met l y_V_clear (wsOf y_V_clear b_V_clear 1 none) ({ frames := 2, cells := 0, slots := 0, locals := 43 }) (va_Pc [.ref h] (PC dC dI cI cB cJ cZ sz [(h, .inr (0, F)), (f, .inr (4, S)), (a, .inl (cI, 64, .inl g)), (b, .inl (cI, 64, .inl k))])) (va_Qv (fun _ : Unit => True) (fun _ t => va_P (dC, dI) CL [(h, .inr (0, F)), (f, .inr (4, ((S.set 0 (.int 0)).set 1 (.int 0)).set 2 (.int 0))), (a, .inl (cI, 64, .inl (fun _ => (-1)))), (b, .inl (cI, 64, .inl (fun _ => (-1))))] t.heap ∧ va_D (va_A [(h, .inr (0, F)), (f, .inr (4, S)), (a, .inl (cI, 64, .inl g)), (b, .inl (cI, 64, .inl k))] sz) [(h, .inr (0, F)), (f, .inr (4, ((S.set 0 (.int 0)).set 1 (.int 0)).set 2 (.int 0))), (a, .inl (cI, 64, .inl (fun _ => (-1)))), (b, .inl (cI, 64, .inl (fun _ => (-1))))]) (va_A [(h, .inr (0, F)), (f, .inr (4, S)), (a, .inl (cI, 64, .inl g)), (b, .inl (cI, 64, .inl k))] sz)) 0 0 (va_A [(h, .inr (0, F)), (f, .inr (4, S)), (a, .inl (cI, 64, .inl g)), (b, .inl (cI, 64, .inl k))] sz) := by
  refine Met.ofW (cc := b_V_clear) (maxL := 1) (ret := none) (by decide) rfl ?_
  intro p e s m args below meth c s₁ B hml hv
  obtain ⟨rfl, hsz, hP, hK, hD0, hN⟩ := hv
  have hx := B.exec
  have hb := B.bytes
  have hr := B.returns
  have hts := atoms_spec B.pre
  have hT : ∀ w ∈ TG, w.before _ s = true := fun w h => hts w (List.mem_cons_of_mem _ h)
  have hown : s.vm.findClass R_V = some m.cls := findClass_of_methodNamed B.named
  have hlocks := B.notSynchronized
  subst hsz
  have hD := hD0.self (sz := s.heap.size)
  generalize hAe : va_A [(h, .inr (0, F)), (f, .inr (4, S)), (a, .inl (cI, 64, .inl g)), (b, .inl (cI, 64, .inl k))] s.heap.size = A at hD ⊢
  have hA : ∀ q : Nat, s.heap.size ≤ q → A q := fun q h => by rw [← hAe]; exact Or.inr h
  have hS : va_S A s.heap s.heap [] := va_S.rf
  have hl := lv_entry ([.ref h]) (n := 1) (Nat.le_of_ble_eq_true rfl)
  rw [lg_entry_eq]
  generalize (lg_sl ([.ref h]) ++ List.replicate (1 - (lg_sl ([.ref h])).length) Slot.unset).toArray = ls at hl ⊢
  have hl : lv_has ls 1 [(0, .ref h)] := hl
  refine lv_aload_n hx hb d_V_clear_0 rfl (lv_at hl 0 rfl) ?_
  refine f_get (D := (dC, dI)) (ci := 0) (v := .ref f) (C := R_V) (T := F_V) (N := 15) hx hb hT in_V hown hK hP 0 rfl rfl 6 (by decide) fr_V_6 w_4_1 gF_6 d_V_clear_1 ?_
  have hPc := hP.sub (ws' := [(f, .inr (4, S)), (a, .inl (cI, 64, .inl g)), (b, .inl (cI, 64, .inl k))]) [1, 2, 3] rfl
  have hDc := hD.sub (ws' := [(f, .inr (4, S)), (a, .inl (cI, 64, .inl g)), (b, .inl (cI, 64, .inl k))]) [1, 2, 3] (by decide) rfl
  have hFc := va_free (wc := [(f, .inr (4, S)), (a, .inl (cI, 64, .inl g)), (b, .inl (cI, 64, .inl k))]) hD hS hA [1, 2, 3] rfl
  refine va_callv (va_runV (C := R_Rec) (As := []) (rest := []) ⟨hx, hb, hml, hown, hT⟩ (c_Rec_forget l dC dI cI cB cJ cZ s.heap.size f S a b g k nS gS_10 gS_11) ⟨callB_of 0 hT (gw_in w_5_14) rfl rfl rfl (hT _ w_1_6) (hT _ w_5_11) (by decide +kernel) ⟨Nat.le_of_ble_eq_true rfl, Nat.le_of_ble_eq_true rfl⟩, hT _ w_5_12, hT _ w_5_13⟩ ⟨PC.blind, va_recv hK hPc (ci := 4) (q0 := 0) rfl rfl, PC.at _ hPc hDc hK hN⟩ rfl rfl hl.1 rfl (lv_room (Nat.le_of_ble_eq_true rfl)) d_V_clear_4 ⟨show _ ≤ 0 by omega, show _ ≤ 0 by omega⟩) hS (fun q _ h => hFc q h) hFc (fun  u t H1 locs ht hvm hw hB hz1 hk1 hS => ?_)
  obtain ⟨hP1, hD1⟩ := hB
  rw [ht] at hP1
  obtain ⟨hP, hD⟩ := va_join (wr := [(h, .inr (0, F))]) (w1 := [(f, .inr (4, ((S.set 0 (.int 0)).set 1 (.int 0)).set 2 (.int 0))), (a, .inl (cI, 64, .inl (fun _ => (-1)))), (b, .inl (cI, 64, .inl (fun _ => (-1))))]) hP hD [1, 2, 3] [0] rfl rfl (by decide) (by decide) hk1 hFc hP1 hD1
  generalize H1 = H at hP hS ⊢
  have hP : va_P (dC, dI) CL [(h, .inr (0, F)), (f, .inr (4, ((S.set 0 (.int 0)).set 1 (.int 0)).set 2 (.int 0))), (a, .inl (cI, 64, .inl (fun _ => (-1)))), (b, .inl (cI, 64, .inl (fun _ => (-1))))] H := hP
  have hD : va_D A [(h, .inr (0, F)), (f, .inr (4, ((S.set 0 (.int 0)).set 1 (.int 0)).set 2 (.int 0))), (a, .inl (cI, 64, .inl (fun _ => (-1)))), (b, .inl (cI, 64, .inl (fun _ => (-1))))] := hD
  exact W.vret hx hb hr (fun t ht hW => ⟨⟨(), rfl, trivial, by rw [ht]; exact hP, hD⟩, hS.F ht⟩) hS.2.2 d_V_clear_7
set_option maxHeartbeats 4000000 in
set_option maxRecDepth 100000 in
/-- take() -/
theorem c_V_take (sz : Nat) (h : Nat) (F : List Value) (f : Nat) (S : List Value) (i : Nat) (nF : F.length = 15) (gF_2 : F[2]? = some (.ref f)) (gF_1 : F[1]? = some (.ref i)) (nS : S.length = 7) : Met l y_V_take (wsOf y_V_take b_V_take 2 none) ({ frames := 1, cells := 0, slots := 0, locals := 20 }) (va_Pc [.ref h] (PC dC dI cI cB cJ cZ sz [(h, .inr (0, F)), (f, .inr (1, S))])) (va_Qv (fun _ : Unit => True) (fun _ t => va_P (dC, dI) CL [(h, .inr (0, (F.set 2 (.ref i)).set 1 (.ref f))), (f, .inr (1, (S.set 1 (.int 0)).set 2 (.int 0)))] t.heap ∧ va_D (va_A [(h, .inr (0, F)), (f, .inr (1, S))] sz) [(h, .inr (0, (F.set 2 (.ref i)).set 1 (.ref f))), (f, .inr (1, (S.set 1 (.int 0)).set 2 (.int 0)))]) (va_A [(h, .inr (0, F)), (f, .inr (1, S))] sz)) 0 0 (va_A [(h, .inr (0, F)), (f, .inr (1, S))] sz) := by
  refine Met.ofW (cc := b_V_take) (maxL := 2) (ret := none) (by decide) rfl ?_
  intro p e s m args below meth c s₁ B hml hv
  obtain ⟨rfl, hsz, hP, hK, hD0, hN⟩ := hv
  have hx := B.exec
  have hb := B.bytes
  have hr := B.returns
  have hts := atoms_spec B.pre
  have hT : ∀ w ∈ TG, w.before _ s = true := fun w h => hts w (List.mem_cons_of_mem _ h)
  have hown : s.vm.findClass R_V = some m.cls := findClass_of_methodNamed B.named
  have hlocks := B.notSynchronized
  subst hsz
  have hD := hD0.self (sz := s.heap.size)
  generalize hAe : va_A [(h, .inr (0, F)), (f, .inr (1, S))] s.heap.size = A at hD ⊢
  have hA : ∀ q : Nat, s.heap.size ≤ q → A q := fun q h => by rw [← hAe]; exact Or.inr h
  have hS : va_S A s.heap s.heap [] := va_S.rf
  have hl := lv_entry ([.ref h]) (n := 2) (Nat.le_of_ble_eq_true rfl)
  rw [lg_entry_eq]
  generalize (lg_sl ([.ref h]) ++ List.replicate (2 - (lg_sl ([.ref h])).length) Slot.unset).toArray = ls at hl ⊢
  have hl : lv_has ls 2 [(0, .ref h)] := hl
  refine lv_aload_n hx hb d_V_take_0 rfl (lv_at hl 0 rfl) ?_
  refine f_get (D := (dC, dI)) (ci := 0) (v := .ref f) (C := R_V) (T := F_V) (N := 15) hx hb hT in_V hown hK hP 0 rfl rfl 2 (by decide) fr_V_2 w_3_237 gF_2 d_V_take_1 ?_
  refine lv_astore_n (lv' := [(1, .ref f), (0, .ref h)]) hx hb d_V_take_4 rfl hl (by decide) rfl (fun ls hl => ?_)
  refine lv_aload_n hx hb d_V_take_5 rfl (lv_at hl 1 rfl) ?_
  refine lv_aload_n hx hb d_V_take_6 rfl (lv_at hl 1 rfl) ?_
  refine f_get (D := (dC, dI)) (ci := 0) (v := .ref i) (C := R_V) (T := F_V) (N := 15) hx hb hT in_V hown hK hP 0 rfl rfl 1 (by decide) fr_V_1 w_3_236 gF_1 d_V_take_7 ?_
  refine f_put (D := (dC, dI)) (ci := 0) (v := .ref i) (ty := .object "StripedVault$Sink") (C := R_V) (T := F_V) (N := 15) hx hb hT in_V t_V t_V_ok n_V hown hK hP hD hS 0 rfl rfl 2 (by decide) fr_V_2 w_3_237 (by decide +kernel) rfl rfl (by rw [nF]; decide) d_V_take_10 (fun H locs hP hD hS => ?_)
  have hP : va_P (dC, dI) CL [(h, .inr (0, F.set 2 (.ref i))), (f, .inr (1, S))] H := hP
  have hD : va_D A [(h, .inr (0, F.set 2 (.ref i))), (f, .inr (1, S))] := hD
  refine lv_aload_n hx hb d_V_take_13 rfl (lv_at hl 1 rfl) ?_
  refine lv_aload_n hx hb d_V_take_14 rfl (lv_at hl 0 rfl) ?_
  refine f_put (D := (dC, dI)) (ci := 0) (v := .ref f) (ty := .object "StripedVault$Sink") (C := R_V) (T := F_V) (N := 15) hx hb hT in_V t_V t_V_ok n_V hown hK hP hD hS 0 rfl rfl 1 (by decide) fr_V_1 w_3_236 (by decide +kernel) rfl rfl (by rw [List.length_set]; exact (by rw [nF]; decide)) d_V_take_15 (fun H locs hP hD hS => ?_)
  have hP : va_P (dC, dI) CL [(h, .inr (0, (F.set 2 (.ref i)).set 1 (.ref f))), (f, .inr (1, S))] H := hP
  have hD : va_D A [(h, .inr (0, (F.set 2 (.ref i)).set 1 (.ref f))), (f, .inr (1, S))] := hD
  refine lv_aload_n hx hb d_V_take_18 rfl (lv_at hl 1 rfl) ?_
  refine f_get (D := (dC, dI)) (ci := 0) (v := .ref f) (C := R_V) (T := F_V) (N := 15) hx hb hT in_V hown hK hP 0 rfl rfl 1 (by decide) fr_V_1 w_3_236 (List.getElem?_set_self (by rw [List.length_set]; exact (by rw [nF]; decide))) d_V_take_19 ?_
  have hPc := hP.sub (ws' := [(f, .inr (1, S))]) [1] rfl
  have hDc := hD.sub (ws' := [(f, .inr (1, S))]) [1] (by decide) rfl
  have hFc := va_free (wc := [(f, .inr (1, S))]) hD hS hA [1] rfl
  refine va_callv (va_runV (C := R_Snk) (As := []) (rest := []) ⟨hx, hb, hml, hown, hT⟩ (c_Snk_forget l dC dI cI cB cJ cZ H.size f S  nS) ⟨callB_of 0 hT (gw_in w_4_81) rfl rfl rfl (hT _ w_1_2) (hT _ w_4_78) (by decide +kernel) ⟨Nat.le_of_ble_eq_true rfl, Nat.le_of_ble_eq_true rfl⟩, hT _ w_4_79, hT _ w_4_80⟩ ⟨PC.blind, va_recv hK hPc (ci := 1) (q0 := 0) rfl rfl, PC.at _ hPc hDc hK hN⟩ rfl rfl hl.1 rfl (lv_room (Nat.le_of_ble_eq_true rfl)) d_V_take_22 ⟨show _ ≤ 0 by omega, show _ ≤ 0 by omega⟩) hS (fun q _ h => hFc q h) hFc (fun  u t H1 locs ht hvm hw hB hz1 hk1 hS => ?_)
  obtain ⟨hP1, hD1⟩ := hB
  rw [ht] at hP1
  obtain ⟨hP, hD⟩ := va_join (wr := [(h, .inr (0, (F.set 2 (.ref i)).set 1 (.ref f)))]) (w1 := [(f, .inr (1, (S.set 1 (.int 0)).set 2 (.int 0)))]) hP hD [1] [0] rfl rfl (by decide) (by decide) hk1 hFc hP1 hD1
  generalize H1 = H at hP hS ⊢
  have hP : va_P (dC, dI) CL [(h, .inr (0, (F.set 2 (.ref i)).set 1 (.ref f))), (f, .inr (1, (S.set 1 (.int 0)).set 2 (.int 0)))] H := hP
  have hD : va_D A [(h, .inr (0, (F.set 2 (.ref i)).set 1 (.ref f))), (f, .inr (1, (S.set 1 (.int 0)).set 2 (.int 0)))] := hD
  exact W.vret hx hb hr (fun t ht hW => ⟨⟨(), rfl, trivial, by rw [ht]; exact hP, hD⟩, hS.F ht⟩) hS.2.2 d_V_take_25
set_option maxHeartbeats 4000000 in
set_option maxRecDepth 100000 in
/-- the model's empty() -/
theorem c_Mod_empty (sz : Nat) (h : Nat) (F : List Value) (a : Nat) (g : Nat → Int32) (nF : F.length = 167) (gF_31 : F[31]? = some (.ref a)) : Met l y_Mod_empty (wsOf y_Mod_empty b_Mod_empty 1 none) ({ frames := 0, cells := 0, slots := 0, locals := 0 }) (va_Pc [.ref h] (PC dC dI cI cB cJ cZ sz [(h, .inr (12, F)), (a, .inl (cI, 2001, .inl g))])) (va_Qv (fun _ : Unit => True) (fun _ t => va_P (dC, dI) CL [(h, .inr (12, ((F.set 34 (.int 0)).set 35 (.int 0)).set 36 (.int 0))), (a, .inl (cI, 2001, .inl (upd (g) (0 : Int32).toNatClampNeg 0)))] t.heap ∧ va_D (va_A [(h, .inr (12, F)), (a, .inl (cI, 2001, .inl g))] sz) [(h, .inr (12, ((F.set 34 (.int 0)).set 35 (.int 0)).set 36 (.int 0))), (a, .inl (cI, 2001, .inl (upd (g) (0 : Int32).toNatClampNeg 0)))]) (va_A [(h, .inr (12, F)), (a, .inl (cI, 2001, .inl g))] sz)) 0 0 (va_A [(h, .inr (12, F)), (a, .inl (cI, 2001, .inl g))] sz) := by
  refine Met.ofW (cc := b_Mod_empty) (maxL := 1) (ret := none) (by decide) rfl ?_
  intro p e s m args below meth c s₁ B hml hv
  obtain ⟨rfl, hsz, hP, hK, hD0, hN⟩ := hv
  have hx := B.exec
  have hb := B.bytes
  have hr := B.returns
  have hts := atoms_spec B.pre
  have hT : ∀ w ∈ TG, w.before _ s = true := fun w h => hts w (List.mem_cons_of_mem _ h)
  have hown : s.vm.findClass R_Mod = some m.cls := findClass_of_methodNamed B.named
  have hlocks := B.notSynchronized
  subst hsz
  have hD := hD0.self (sz := s.heap.size)
  generalize hAe : va_A [(h, .inr (12, F)), (a, .inl (cI, 2001, .inl g))] s.heap.size = A at hD ⊢
  have hA : ∀ q : Nat, s.heap.size ≤ q → A q := fun q h => by rw [← hAe]; exact Or.inr h
  have hS : va_S A s.heap s.heap [] := va_S.rf
  have hl := lv_entry ([.ref h]) (n := 1) (Nat.le_of_ble_eq_true rfl)
  rw [lg_entry_eq]
  generalize (lg_sl ([.ref h]) ++ List.replicate (1 - (lg_sl ([.ref h])).length) Slot.unset).toArray = ls at hl ⊢
  have hl : lv_has ls 1 [(0, .ref h)] := hl
  refine lv_aload_n hx hb d_Mod_empty_0 rfl (lv_at hl 0 rfl) ?_
  refine lv_iconst (v := 0) hx hb d_Mod_empty_1 (by decide) ?_
  refine f_put (D := (dC, dI)) (ci := 12) (v := .int 0) (ty := .int) (C := R_Mod) (T := F_Mod) (N := 167) hx hb hT in_Mod t_Mod t_Mod_ok n_Mod hown hK hP hD hS 0 rfl rfl 34 (by decide) fr_Mod_34 w_8_214 (by decide +kernel) rfl rfl (by rw [nF]; decide) d_Mod_empty_2 (fun H locs hP hD hS => ?_)
  have hP : va_P (dC, dI) CL [(h, .inr (12, F.set 34 (.int 0))), (a, .inl (cI, 2001, .inl g))] H := hP
  have hD : va_D A [(h, .inr (12, F.set 34 (.int 0))), (a, .inl (cI, 2001, .inl g))] := hD
  refine lv_aload_n hx hb d_Mod_empty_5 rfl (lv_at hl 0 rfl) ?_
  refine lv_iconst (v := 0) hx hb d_Mod_empty_6 (by decide) ?_
  refine f_put (D := (dC, dI)) (ci := 12) (v := .int 0) (ty := .int) (C := R_Mod) (T := F_Mod) (N := 167) hx hb hT in_Mod t_Mod t_Mod_ok n_Mod hown hK hP hD hS 0 rfl rfl 35 (by decide) fr_Mod_35 w_8_215 (by decide +kernel) rfl rfl (by rw [List.length_set]; exact (by rw [nF]; decide)) d_Mod_empty_7 (fun H locs hP hD hS => ?_)
  have hP : va_P (dC, dI) CL [(h, .inr (12, (F.set 34 (.int 0)).set 35 (.int 0))), (a, .inl (cI, 2001, .inl g))] H := hP
  have hD : va_D A [(h, .inr (12, (F.set 34 (.int 0)).set 35 (.int 0))), (a, .inl (cI, 2001, .inl g))] := hD
  refine lv_aload_n hx hb d_Mod_empty_10 rfl (lv_at hl 0 rfl) ?_
  refine lv_iconst (v := 0) hx hb d_Mod_empty_11 (by decide) ?_
  refine f_put (D := (dC, dI)) (ci := 12) (v := .int 0) (ty := .int) (C := R_Mod) (T := F_Mod) (N := 167) hx hb hT in_Mod t_Mod t_Mod_ok n_Mod hown hK hP hD hS 0 rfl rfl 36 (by decide) fr_Mod_36 w_8_216 (by decide +kernel) rfl rfl (by rw [List.length_set]; exact (by rw [List.length_set]; exact (by rw [nF]; decide))) d_Mod_empty_12 (fun H locs hP hD hS => ?_)
  have hP : va_P (dC, dI) CL [(h, .inr (12, ((F.set 34 (.int 0)).set 35 (.int 0)).set 36 (.int 0))), (a, .inl (cI, 2001, .inl g))] H := hP
  have hD : va_D A [(h, .inr (12, ((F.set 34 (.int 0)).set 35 (.int 0)).set 36 (.int 0))), (a, .inl (cI, 2001, .inl g))] := hD
  refine lv_aload_n hx hb d_Mod_empty_15 rfl (lv_at hl 0 rfl) ?_
  refine f_get (D := (dC, dI)) (ci := 12) (v := .ref a) (C := R_Mod) (T := F_Mod) (N := 167) hx hb hT in_Mod hown hK hP 0 rfl rfl 31 (by decide) fr_Mod_31 w_8_211 ((List.getElem?_set_ne (by decide)).trans ((List.getElem?_set_ne (by decide)).trans ((List.getElem?_set_ne (by decide)).trans gF_31))) d_Mod_empty_16 ?_
  refine lv_iconst (v := 0) hx hb d_Mod_empty_19 (by decide) ?_
  refine lv_iconst (v := 0) hx hb d_Mod_empty_20 (by decide) ?_
  refine va_iast hx hb hK hP hD hS 1 0 rfl rfl (vp_lit (by decide)) d_Mod_empty_21 (fun H locs hP hD hS => ?_)
  have hP : va_P (dC, dI) CL [(h, .inr (12, ((F.set 34 (.int 0)).set 35 (.int 0)).set 36 (.int 0))), (a, .inl (cI, 2001, .inl (upd (g) (0 : Int32).toNatClampNeg 0)))] H := hP
  have hD : va_D A [(h, .inr (12, ((F.set 34 (.int 0)).set 35 (.int 0)).set 36 (.int 0))), (a, .inl (cI, 2001, .inl (upd (g) (0 : Int32).toNatClampNeg 0)))] := hD
  exact W.vret hx hb hr (fun t ht hW => ⟨⟨(), rfl, trivial, by rw [ht]; exact hP, hD⟩, hS.F ht⟩) hS.2.2 d_Mod_empty_22
set_option maxHeartbeats 4000000 in
set_option maxRecDepth 100000 in
/-- the model's clear() -/
theorem c_Mod_clear (sz : Nat) (h : Nat) (F : List Value) (a : Nat) (g : Nat → Int32) (nF : F.length = 167) (gF_31 : F[31]? = some (.ref a)) : Met l y_Mod_clear (wsOf y_Mod_clear b_Mod_clear 1 none) ({ frames := 1, cells := 0, slots := 0, locals := 20 }) (va_Pc [.ref h] (PC dC dI cI cB cJ cZ sz [(h, .inr (12, F)), (a, .inl (cI, 2001, .inl g))])) (va_Qv (fun _ : Unit => True) (fun _ t => va_P (dC, dI) CL [(h, .inr (12, (((F.set 0 (.int 0)).set 34 (.int 0)).set 35 (.int 0)).set 36 (.int 0))), (a, .inl (cI, 2001, .inl (upd (g) (0 : Int32).toNatClampNeg 0)))] t.heap ∧ va_D (va_A [(h, .inr (12, F)), (a, .inl (cI, 2001, .inl g))] sz) [(h, .inr (12, (((F.set 0 (.int 0)).set 34 (.int 0)).set 35 (.int 0)).set 36 (.int 0))), (a, .inl (cI, 2001, .inl (upd (g) (0 : Int32).toNatClampNeg 0)))]) (va_A [(h, .inr (12, F)), (a, .inl (cI, 2001, .inl g))] sz)) 0 0 (va_A [(h, .inr (12, F)), (a, .inl (cI, 2001, .inl g))] sz) := by
  refine Met.ofW (cc := b_Mod_clear) (maxL := 1) (ret := none) (by decide) rfl ?_
  intro p e s m args below meth c s₁ B hml hv
  obtain ⟨rfl, hsz, hP, hK, hD0, hN⟩ := hv
  have hx := B.exec
  have hb := B.bytes
  have hr := B.returns
  have hts := atoms_spec B.pre
  have hT : ∀ w ∈ TG, w.before _ s = true := fun w h => hts w (List.mem_cons_of_mem _ h)
  have hown : s.vm.findClass R_Mod = some m.cls := findClass_of_methodNamed B.named
  have hlocks := B.notSynchronized
  subst hsz
  have hD := hD0.self (sz := s.heap.size)
  generalize hAe : va_A [(h, .inr (12, F)), (a, .inl (cI, 2001, .inl g))] s.heap.size = A at hD ⊢
  have hA : ∀ q : Nat, s.heap.size ≤ q → A q := fun q h => by rw [← hAe]; exact Or.inr h
  have hS : va_S A s.heap s.heap [] := va_S.rf
  have hl := lv_entry ([.ref h]) (n := 1) (Nat.le_of_ble_eq_true rfl)
  rw [lg_entry_eq]
  generalize (lg_sl ([.ref h]) ++ List.replicate (1 - (lg_sl ([.ref h])).length) Slot.unset).toArray = ls at hl ⊢
  have hl : lv_has ls 1 [(0, .ref h)] := hl
  refine lv_aload_n hx hb d_Mod_clear_0 rfl (lv_at hl 0 rfl) ?_
  refine lv_iconst (v := 0) hx hb d_Mod_clear_1 (by decide) ?_
  refine f_put (D := (dC, dI)) (ci := 12) (v := .int 0) (ty := .int) (C := R_Mod) (T := F_Mod) (N := 167) hx hb hT in_Mod t_Mod t_Mod_ok n_Mod hown hK hP hD hS 0 rfl rfl 0 (by decide) fr_Mod_0 w_8_180 (by decide +kernel) rfl rfl (by rw [nF]; decide) d_Mod_clear_2 (fun H locs hP hD hS => ?_)
  have hP : va_P (dC, dI) CL [(h, .inr (12, F.set 0 (.int 0))), (a, .inl (cI, 2001, .inl g))] H := hP
  have hD : va_D A [(h, .inr (12, F.set 0 (.int 0))), (a, .inl (cI, 2001, .inl g))] := hD
  refine lv_aload_n hx hb d_Mod_clear_5 rfl (lv_at hl 0 rfl) ?_
  have hPc := hP.sub (ws' := [(h, .inr (12, F.set 0 (.int 0))), (a, .inl (cI, 2001, .inl g))]) [0, 1] rfl
  have hDc := hD.sub (ws' := [(h, .inr (12, F.set 0 (.int 0))), (a, .inl (cI, 2001, .inl g))]) [0, 1] (by decide) rfl
  have hFc := va_free (wc := [(h, .inr (12, F.set 0 (.int 0))), (a, .inl (cI, 2001, .inl g))]) hD hS hA [0, 1] rfl
  refine va_callv (va_runV (C := R_Mod) (As := []) (rest := []) ⟨hx, hb, hml, hown, hT⟩ (c_Mod_empty l dC dI cI cB cJ cZ H.size h (F.set 0 (.int 0)) a g (by rw [List.length_set]; exact nF) ((List.getElem?_set_ne (by decide)).trans gF_31)) ⟨callB_of 0 hT (gw_in w_11_58) rfl rfl rfl (hT _ w_1_15) (hT _ w_11_55) (by decide +kernel) ⟨Nat.le_of_ble_eq_true rfl, Nat.le_of_ble_eq_true rfl⟩, hT _ w_11_57, hT _ ws_124⟩ ⟨PC.blind, va_recv hK hPc (ci := 12) (q0 := 0) rfl rfl, PC.at _ hPc hDc hK hN⟩ rfl rfl hl.1 rfl (lv_room (Nat.le_of_ble_eq_true rfl)) d_Mod_clear_6 ⟨show _ ≤ 0 by omega, show _ ≤ 0 by omega⟩) hS (fun q _ h => hFc q h) hFc (fun  u t H1 locs ht hvm hw hB hz1 hk1 hS => ?_)
  obtain ⟨hP1, hD1⟩ := hB
  rw [ht] at hP1
  obtain ⟨hP, hD⟩ := va_join (wr := []) (w1 := [(h, .inr (12, (((F.set 0 (.int 0)).set 34 (.int 0)).set 35 (.int 0)).set 36 (.int 0))), (a, .inl (cI, 2001, .inl (upd (g) (0 : Int32).toNatClampNeg 0)))]) hP hD [0, 1] [] rfl rfl (by decide) (by decide) hk1 hFc hP1 hD1
  generalize H1 = H at hP hS ⊢
  have hP : va_P (dC, dI) CL [(h, .inr (12, (((F.set 0 (.int 0)).set 34 (.int 0)).set 35 (.int 0)).set 36 (.int 0))), (a, .inl (cI, 2001, .inl (upd (g) (0 : Int32).toNatClampNeg 0)))] H := hP
  have hD : va_D A [(h, .inr (12, (((F.set 0 (.int 0)).set 34 (.int 0)).set 35 (.int 0)).set 36 (.int 0))), (a, .inl (cI, 2001, .inl (upd (g) (0 : Int32).toNatClampNeg 0)))] := hD
  exact W.vret hx hb hr (fun t ht hW => ⟨⟨(), rfl, trivial, by rw [ht]; exact hP, hD⟩, hS.F ht⟩) hS.2.2 d_Mod_clear_9
end
