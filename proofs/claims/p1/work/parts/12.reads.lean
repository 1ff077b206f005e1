theorem fr_Mod_0 : F_Mod 0 = (R_Mod, "code", "I", false) := rfl
theorem fr_Mod_34 : F_Mod 34 = (R_Mod, "rows", "I", false) := rfl
theorem fr_Mod_65 : F_Mod 65 = (R_Mod, "fileSize", "I", false) := rfl
theorem fr_Rec_0 : F_Rec 0 = (R_Rec, "count", "I", false) := rfl
theorem fr_Snk_1 : F_Snk 1 = (R_Snk, "count", "I", false) := rfl
theorem w_1_229 : (Jvm.Cond.fieldLink "StripedVault" (135 : Nat) "StripedVault$Records" "count" "I") ∈ TG := tw_1 229 (by decide +kernel) (by decide +kernel)
theorem w_1_44 : (Jvm.Cond.fieldLink "StripedVault" (99 : Nat) "StripedVault$Sink" "count" "I") ∈ TG := tw_1 44 (by decide +kernel) (by decide +kernel)
theorem w_8_180 : (Jvm.Cond.fieldLink "StripedVaultModel" (360 : Nat) "StripedVaultModel" "code" "I") ∈ TG := tw_8 180 (by decide +kernel) (by decide +kernel)
theorem w_8_214 : (Jvm.Cond.fieldLink "StripedVaultModel" (523 : Nat) "StripedVaultModel" "rows" "I") ∈ TG := tw_8 214 (by decide +kernel) (by decide +kernel)
theorem w_9_5 : (Jvm.Cond.fieldLink "StripedVaultModel" (832 : Nat) "StripedVaultModel" "fileSize" "I") ∈ TG := tw_9 5 (by decide +kernel) (by decide +kernel)
theorem d_V_size_0 : decode b_V_size 0 = .ok (.aload_n 0, 1) := by decide +kernel
theorem d_V_size_1 : decode b_V_size 1 = .ok (.getfield 22, 3) := by decide +kernel
theorem d_V_size_4 : decode b_V_size 4 = .ok (.getfield 99, 3) := by decide +kernel
theorem d_V_size_7 : decode b_V_size 7 = .ok (.ireturn, 1) := by decide +kernel
theorem d_V_records_0 : decode b_V_records 0 = .ok (.aload_n 0, 1) := by decide +kernel
theorem d_V_records_1 : decode b_V_records 1 = .ok (.getfield 45, 3) := by decide +kernel
theorem d_V_records_4 : decode b_V_records 4 = .ok (.getfield 135, 3) := by decide +kernel
theorem d_V_records_7 : decode b_V_records 7 = .ok (.ireturn, 1) := by decide +kernel
theorem d_Mod_size_0 : decode b_Mod_size 0 = .ok (.aload_n 0, 1) := by decide +kernel
theorem d_Mod_size_1 : decode b_Mod_size 1 = .ok (.iconst 0, 1) := by decide +kernel
theorem d_Mod_size_2 : decode b_Mod_size 2 = .ok (.putfield 360, 3) := by decide +kernel
theorem d_Mod_size_5 : decode b_Mod_size 5 = .ok (.aload_n 0, 1) := by decide +kernel
theorem d_Mod_size_6 : decode b_Mod_size 6 = .ok (.getfield 832, 3) := by decide +kernel
theorem d_Mod_size_9 : decode b_Mod_size 9 = .ok (.ireturn, 1) := by decide +kernel
theorem d_Mod_records_0 : decode b_Mod_records 0 = .ok (.aload_n 0, 1) := by decide +kernel
theorem d_Mod_records_1 : decode b_Mod_records 1 = .ok (.iconst 0, 1) := by decide +kernel
theorem d_Mod_records_2 : decode b_Mod_records 2 = .ok (.putfield 360, 3) := by decide +kernel
theorem d_Mod_records_5 : decode b_Mod_records 5 = .ok (.aload_n 0, 1) := by decide +kernel
theorem d_Mod_records_6 : decode b_Mod_records 6 = .ok (.getfield 523, 3) := by decide +kernel
theorem d_Mod_records_9 : decode b_Mod_records 9 = .ok (.ireturn, 1) := by decide +kernel
section
variable (l : Launch) (dC : Nat → ClassId) (dI : Nat → Nat → Nat) (cI cB cJ cZ : ClassId)
set_option maxHeartbeats 4000000 in
set_option maxRecDepth 100000 in
/-- size(): the count of the file's bytes -/
theorem c_V_size (sz : Nat) (h : Nat) (F : List Value) (f : Nat) (S : List Value) (n : Int32) (nF : F.length = 15) (gF_2 : F[2]? = some (.ref f)) (nS : S.length = 7) (gS_1 : S[1]? = some (.int n)) : Met l y_V_size (wsOf y_V_size b_V_size 1 (some (.int))) ({ frames := 0, cells := 0, slots := 0, locals := 0 }) (va_Pc [.ref h] (PC dC dI cI cB cJ cZ sz [(h, .inr (0, F)), (f, .inr (1, S))])) (va_Qi (fun (r : Int32) (_ : Unit) => r = n) (fun _ t => va_P (dC, dI) CL [(h, .inr (0, F)), (f, .inr (1, S))] t.heap ∧ va_D (va_A [(h, .inr (0, F)), (f, .inr (1, S))] sz) [(h, .inr (0, F)), (f, .inr (1, S))]) (va_A [(h, .inr (0, F)), (f, .inr (1, S))] sz)) 0 0 (va_A [(h, .inr (0, F)), (f, .inr (1, S))] sz) := by
  refine Met.ofW (cc := b_V_size) (maxL := 1) (ret := some (.int)) (by decide) rfl ?_
  intro p e s m args below meth c s₁ B hml hv
  obtain ⟨rfl, hsz, hP, hK, hD0, hN⟩ := hv
  have hx := B.exec
  have hb := B.bytes
  have hr := B.returns
  have hts := atoms_spec B.pre
  have hT : ∀ w ∈ TG, w.before _ s = true := fun w h => hts w (List.mem_cons_of_mem _ h)
  have hown : s.vm.findClass R_V = some m.cls := findClass_of_methodNamed B.named
  have hlocks := B.notSynchronized
  subst hsz
  have hD := hD0.self (sz := s.heap.size)
  generalize hAe : va_A [(h, .inr (0, F)), (f, .inr (1, S))] s.heap.size = A at hD ⊢
  have hA : ∀ q : Nat, s.heap.size ≤ q → A q := fun q h => by rw [← hAe]; exact Or.inr h
  have hS : va_S A s.heap s.heap [] := va_S.rf
  have hl := lv_entry ([.ref h]) (n := 1) (Nat.le_of_ble_eq_true rfl)
  rw [lg_entry_eq]
  generalize (lg_sl ([.ref h]) ++ List.replicate (1 - (lg_sl ([.ref h])).length) Slot.unset).toArray = ls at hl ⊢
  have hl : lv_has ls 1 [(0, .ref h)] := hl
  refine lv_aload_n hx hb d_V_size_0 rfl (lv_at hl 0 rfl) ?_
  refine f_get (D := (dC, dI)) (ci := 0) (v := .ref f) (C := R_V) (T := F_V) (N := 15) hx hb hT in_V hown hK hP 0 rfl rfl 2 (by decide) fr_V_2 w_3_237 gF_2 d_V_size_1 ?_
  refine f_get (D := (dC, dI)) (ci := 1) (v := .int n) (C := R_Snk) (T := F_Snk) (N := 7) hx hb hT in_Snk hown hK hP 1 rfl rfl 1 (by decide) fr_Snk_1 w_1_44 gS_1 d_V_size_4 ?_
  exact W.iret (v := n) hx hb hr (fun t ht hW => ⟨⟨n, (), rfl, rfl, by rw [ht]; exact hP, hD⟩, hS.F ht⟩) hS.2.2 d_V_size_7
set_option maxHeartbeats 4000000 in
set_option maxRecDepth 100000 in
/-- records() -/
theorem c_V_records (sz : Nat) (h : Nat) (F : List Value) (f : Nat) (S : List Value) (n : Int32) (nF : F.length = 15) (gF_6 : F[6]? = some (.ref f)) (nS : S.length = 15) (gS_0 : S[0]? = some (.int n)) : Met l y_V_records (wsOf y_V_records b_V_records 1 (some (.int))) ({ frames := 0, cells := 0, slots := 0, locals := 0 }) (va_Pc [.ref h] (PC dC dI cI cB cJ cZ sz [(h, .inr (0, F)), (f, .inr (4, S))])) (va_Qi (fun (r : Int32) (_ : Unit) => r = n) (fun _ t => va_P (dC, dI) CL [(h, .inr (0, F)), (f, .inr (4, S))] t.heap ∧ va_D (va_A [(h, .inr (0, F)), (f, .inr (4, S))] sz) [(h, .inr (0, F)), (f, .inr (4, S))]) (va_A [(h, .inr (0, F)), (f, .inr (4, S))] sz)) 0 0 (va_A [(h, .inr (0, F)), (f, .inr (4, S))] sz) := by
  refine Met.ofW (cc := b_V_records) (maxL := 1) (ret := some (.int)) (by decide) rfl ?_
  intro p e s m args below meth c s₁ B hml hv
  obtain ⟨rfl, hsz, hP, hK, hD0, hN⟩ := hv
  have hx := B.exec
  have hb := B.bytes
  have hr := B.returns
  have hts := atoms_spec B.pre
  have hT : ∀ w ∈ TG, w.before _ s = true := fun w h => hts w (List.mem_cons_of_mem _ h)
  have hown : s.vm.findClass R_V = some m.cls := findClass_of_methodNamed B.named
  have hlocks := B.notSynchronized
  subst hsz
  have hD := hD0.self (sz := s.heap.size)
  generalize hAe : va_A [(h, .inr (0, F)), (f, .inr (4, S))] s.heap.size = A at hD ⊢
  have hA : ∀ q : Nat, s.heap.size ≤ q → A q := fun q h => by rw [← hAe]; exact Or.inr h
  have hS : va_S A s.heap s.heap [] := va_S.rf
  have hl := lv_entry ([.ref h]) (n := 1) (Nat.le_of_ble_eq_true rfl)
  rw [lg_entry_eq]
  generalize (lg_sl ([.ref h]) ++ List.replicate (1 - (lg_sl ([.ref h])).length) Slot.unset).toArray = ls at hl ⊢
  have hl : lv_has ls 1 [(0, .ref h)] := hl
  refine lv_aload_n hx hb d_V_records_0 rfl (lv_at hl 0 rfl) ?_
  refine f_get (D := (dC, dI)) (ci := 0) (v := .ref f) (C := R_V) (T := F_V) (N := 15) hx hb hT in_V hown hK hP 0 rfl rfl 6 (by decide) fr_V_6 w_4_1 gF_6 d_V_records_1 ?_
  refine f_get (D := (dC, dI)) (ci := 4) (v := .int n) (C := R_Rec) (T := F_Rec) (N := 15) hx hb hT in_Rec hown hK hP 1 rfl rfl 0 (by decide) fr_Rec_0 w_1_229 gS_0 d_V_records_4 ?_
  exact W.iret (v := n) hx hb hr (fun t ht hW => ⟨⟨n, (), rfl, rfl, by rw [ht]; exact hP, hD⟩, hS.F ht⟩) hS.2.2 d_V_records_7
set_option maxHeartbeats 4000000 in
set_option maxRecDepth 100000 in
/-- the model's size() -/
theorem c_Mod_size (sz : Nat) (h : Nat) (F : List Value) (n : Int32) (nF : F.length = 167) (gF_65 : F[65]? = some (.int n)) : Met l y_Mod_size (wsOf y_Mod_size b_Mod_size 1 (some (.int))) ({ frames := 0, cells := 0, slots := 0, locals := 0 }) (va_Pc [.ref h] (PC dC dI cI cB cJ cZ sz [(h, .inr (12, F))])) (va_Qi (fun (r : Int32) (_ : Unit) => r = n) (fun _ t => va_P (dC, dI) CL [(h, .inr (12, F.set 0 (.int 0)))] t.heap ∧ va_D (va_A [(h, .inr (12, F))] sz) [(h, .inr (12, F.set 0 (.int 0)))]) (va_A [(h, .inr (12, F))] sz)) 0 0 (va_A [(h, .inr (12, F))] sz) := by
  refine Met.ofW (cc := b_Mod_size) (maxL := 1) (ret := some (.int)) (by decide) rfl ?_
  intro p e s m args below meth c s₁ B hml hv
  obtain ⟨rfl, hsz, hP, hK, hD0, hN⟩ := hv
  have hx := B.exec
  have hb := B.bytes
  have hr := B.returns
  have hts := atoms_spec B.pre
  have hT : ∀ w ∈ TG, w.before _ s = true := fun w h => hts w (List.mem_cons_of_mem _ h)
  have hown : s.vm.findClass R_Mod = some m.cls := findClass_of_methodNamed B.named
  have hlocks := B.notSynchronized
  subst hsz
  have hD := hD0.self (sz := s.heap.size)
  generalize hAe : va_A [(h, .inr (12, F))] s.heap.size = A at hD ⊢
  have hA : ∀ q : Nat, s.heap.size ≤ q → A q := fun q h => by rw [← hAe]; exact Or.inr h
  have hS : va_S A s.heap s.heap [] := va_S.rf
  have hl := lv_entry ([.ref h]) (n := 1) (Nat.le_of_ble_eq_true rfl)
  rw [lg_entry_eq]
  generalize (lg_sl ([.ref h]) ++ List.replicate (1 - (lg_sl ([.ref h])).length) Slot.unset).toArray = ls at hl ⊢
  have hl : lv_has ls 1 [(0, .ref h)] := hl
  refine lv_aload_n hx hb d_Mod_size_0 rfl (lv_at hl 0 rfl) ?_
  refine lv_iconst (v := 0) hx hb d_Mod_size_1 (by decide) ?_
  refine f_put (D := (dC, dI)) (ci := 12) (v := .int 0) (ty := .int) (C := R_Mod) (T := F_Mod) (N := 167) hx hb hT in_Mod t_Mod t_Mod_ok n_Mod hown hK hP hD hS 0 rfl rfl 0 (by decide) fr_Mod_0 w_8_180 (by decide +kernel) rfl rfl (by rw [nF]; decide) d_Mod_size_2 (fun H locs hP hD hS => ?_)
  have hP : va_P (dC, dI) CL [(h, .inr (12, F.set 0 (.int 0)))] H := hP
  have hD : va_D A [(h, .inr (12, F.set 0 (.int 0)))] := hD
  refine lv_aload_n hx hb d_Mod_size_5 rfl (lv_at hl 0 rfl) ?_
  refine f_get (D := (dC, dI)) (ci := 12) (v := .int n) (C := R_Mod) (T := F_Mod) (N := 167) hx hb hT in_Mod hown hK hP 0 rfl rfl 65 (by decide) fr_Mod_65 w_9_5 ((List.getElem?_set_ne (by decide)).trans gF_65) d_Mod_size_6 ?_
  exact W.iret (v := n) hx hb hr (fun t ht hW => ⟨⟨n, (), rfl, rfl, by rw [ht]; exact hP, hD⟩, hS.F ht⟩) hS.2.2 d_Mod_size_9
set_option maxHeartbeats 4000000 in
set_option maxRecDepth 100000 in
/-- the model's records() -/
theorem c_Mod_records (sz : Nat) (h : Nat) (F : List Value) (n : Int32) (nF : F.length = 167) (gF_34 : F[34]? = some (.int n)) : Met l y_Mod_records (wsOf y_Mod_records b_Mod_records 1 (some (.int))) ({ frames := 0, cells := 0, slots := 0, locals := 0 }) (va_Pc [.ref h] (PC dC dI cI cB cJ cZ sz [(h, .inr (12, F))])) (va_Qi (fun (r : Int32) (_ : Unit) => r = n) (fun _ t => va_P (dC, dI) CL [(h, .inr (12, F.set 0 (.int 0)))] t.heap ∧ va_D (va_A [(h, .inr (12, F))] sz) [(h, .inr (12, F.set 0 (.int 0)))]) (va_A [(h, .inr (12, F))] sz)) 0 0 (va_A [(h, .inr (12, F))] sz) := by
  refine Met.ofW (cc := b_Mod_records) (maxL := 1) (ret := some (.int)) (by decide) rfl ?_
  intro p e s m args below meth c s₁ B hml hv
  obtain ⟨rfl, hsz, hP, hK, hD0, hN⟩ := hv
  have hx := B.exec
  have hb := B.bytes
  have hr := B.returns
  have hts := atoms_spec B.pre
  have hT : ∀ w ∈ TG, w.before _ s = true := fun w h => hts w (List.mem_cons_of_mem _ h)
  have hown : s.vm.findClass R_Mod = some m.cls := findClass_of_methodNamed B.named
  have hlocks := B.notSynchronized
  subst hsz
  have hD := hD0.self (sz := s.heap.size)
  generalize hAe : va_A [(h, .inr (12, F))] s.heap.size = A at hD ⊢
  have hA : ∀ q : Nat, s.heap.size ≤ q → A q := fun q h => by rw [← hAe]; exact Or.inr h
  have hS : va_S A s.heap s.heap [] := va_S.rf
  have hl := lv_entry ([.ref h]) (n := 1) (Nat.le_of_ble_eq_true rfl)
  rw [lg_entry_eq]
  generalize (lg_sl ([.ref h]) ++ List.replicate (1 - (lg_sl ([.ref h])).length) Slot.unset).toArray = ls at hl ⊢
  have hl : lv_has ls 1 [(0, .ref h)] := hl
  refine lv_aload_n hx hb d_Mod_records_0 rfl (lv_at hl 0 rfl) ?_
  refine lv_iconst (v := 0) hx hb d_Mod_records_1 (by decide) ?_
  refine f_put (D := (dC, dI)) (ci := 12) (v := .int 0) (ty := .int) (C := R_Mod) (T := F_Mod) (N := 167) hx hb hT in_Mod t_Mod t_Mod_ok n_Mod hown hK hP hD hS 0 rfl rfl 0 (by decide) fr_Mod_0 w_8_180 (by decide +kernel) rfl rfl (by rw [nF]; decide) d_Mod_records_2 (fun H locs hP hD hS => ?_)
  have hP : va_P (dC, dI) CL [(h, .inr (12, F.set 0 (.int 0)))] H := hP
  have hD : va_D A [(h, .inr (12, F.set 0 (.int 0)))] := hD
  refine lv_aload_n hx hb d_Mod_records_5 rfl (lv_at hl 0 rfl) ?_
  refine f_get (D := (dC, dI)) (ci := 12) (v := .int n) (C := R_Mod) (T := F_Mod) (N := 167) hx hb hT in_Mod hown hK hP 0 rfl rfl 34 (by decide) fr_Mod_34 w_8_214 ((List.getElem?_set_ne (by decide)).trans gF_34) d_Mod_records_6 ?_
  exact W.iret (v := n) hx hb hr (fun t ht hW => ⟨⟨n, (), rfl, rfl, by rw [ht]; exact hP, hD⟩, hS.F ht⟩) hS.2.2 d_Mod_records_9
end
