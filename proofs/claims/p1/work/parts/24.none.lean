theorem fr_Qry_0 : F_Qry 0 = (R_Qry, "ready", "Z", false) := rfl
theorem fr_Sch_0 : F_Sch 0 = (R_Sch, "fields", "I", false) := rfl
theorem fr_Vlt_0 : F_Vlt 0 = (R_Vlt, "ready", "Z", false) := rfl
theorem w_1_133 : (Jvm.Cond.fieldLink "StripedVault" (129 : Nat) "StripedVault$Schema" "fields" "I") ∈ TG := tw_1 133 (by decide +kernel) (by decide +kernel)
theorem w_2_121 : (Jvm.Cond.fieldLink "StripedVault$Assembler" (35 : Nat) "StripedVault$Vault" "ready" "Z") ∈ TG := tw_2 121 (by decide +kernel) (by decide +kernel)
theorem w_2_122 : (Jvm.Cond.fieldLink "StripedVault" (163 : Nat) "StripedVault$Vault" "ready" "Z") ∈ TG := tw_2 122 (by decide +kernel) (by decide +kernel)
theorem w_3_75 : (Jvm.Cond.fieldLink "StripedVault" (167 : Nat) "StripedVault$Query" "ready" "Z") ∈ TG := tw_3 75 (by decide +kernel) (by decide +kernel)
theorem w_4_86 : (Jvm.Cond.methodLink "StripedVault" (112 : Nat) ({ cls := "StripedVault", name := "useInput", desc := "()I" } : Jvm.MethodName)) ∈ TG := tw_4 86 (by decide +kernel) (by decide +kernel)
theorem w_4_88 : (Jvm.Cond.instanceMethod ({ cls := "StripedVault", name := "useInput", desc := "()I" } : Jvm.MethodName)) ∈ TG := tw_4 88 (by decide +kernel) (by decide +kernel)
theorem w_4_89 : (Jvm.Cond.code ({ cls := "StripedVault", name := "useInput", desc := "()I" } : Jvm.MethodName) prog_1_method_6_code (2 : Nat) (Option.some Jvm.ClassFile.FieldType.int)) ∈ TG := tw_4 89 (by decide +kernel) (by decide +kernel)
theorem w_7_76 : (Jvm.Cond.methodLink "StripedVault" (193 : Nat) ({ cls := "StripedVault$Assembler", name := "assemble", desc := "(I[Z)I" } : Jvm.MethodName)) ∈ TG := tw_7 76 (by decide +kernel) (by decide +kernel)
theorem w_7_77 : (Jvm.Cond.instanceMethod ({ cls := "StripedVault$Assembler", name := "assemble", desc := "(I[Z)I" } : Jvm.MethodName)) ∈ TG := tw_7 77 (by decide +kernel) (by decide +kernel)
theorem w_7_78 : (Jvm.Cond.selects "StripedVault$Assembler" ({ cls := "StripedVault$Assembler", name := "assemble", desc := "(I[Z)I" } : Jvm.MethodName) ({ cls := "StripedVault$Assembler", name := "assemble", desc := "(I[Z)I" } : Jvm.MethodName)) ∈ TG := tw_7 78 (by decide +kernel) (by decide +kernel)
theorem w_7_79 : (Jvm.Cond.code ({ cls := "StripedVault$Assembler", name := "assemble", desc := "(I[Z)I" } : Jvm.MethodName) prog_3_method_2_code (8 : Nat) (Option.some Jvm.ClassFile.FieldType.int)) ∈ TG := tw_7 79 (by decide +kernel) (by decide +kernel)
theorem w_7_80 : (Jvm.Cond.methodLink "StripedVault$Assembler" (32 : Nat) ({ cls := "StripedVault$Sink", name := "forget", desc := "()V" } : Jvm.MethodName)) ∈ TG := tw_7 80 (by decide +kernel) (by decide +kernel)
theorem ws_2 : Cond.selects R_V y_V_useInput y_V_useInput ∈ TG := tw_s 2 (by decide +kernel) (by decide +kernel)
theorem d_V_useInput_0 : decode b_V_useInput 0 = .ok (.aload_n 0, 1) := by decide +kernel
theorem d_V_useInput_1 : decode b_V_useInput 1 = .ok (.getfield 19, 3) := by decide +kernel
theorem d_V_useInput_4 : decode b_V_useInput 4 = .ok (.getfield 99, 3) := by decide +kernel
theorem d_V_useInput_7 : decode b_V_useInput 7 = .ok (.istore_n 1, 1) := by decide +kernel
theorem d_V_useInput_8 : decode b_V_useInput 8 = .ok (.aload_n 0, 1) := by decide +kernel
theorem d_V_useInput_9 : decode b_V_useInput 9 = .ok (.getfield 19, 3) := by decide +kernel
theorem d_V_useInput_12 : decode b_V_useInput 12 = .ok (.invokevirtual 109, 3) := by decide +kernel
theorem d_V_useInput_15 : decode b_V_useInput 15 = .ok (.iload_n 1, 1) := by decide +kernel
theorem d_V_useInput_16 : decode b_V_useInput 16 = .ok (.ireturn, 1) := by decide +kernel
theorem d_V_record_0 : decode b_V_record 0 = .ok (.aload_n 0, 1) := by decide +kernel
theorem d_V_record_1 : decode b_V_record 1 = .ok (.invokevirtual 112, 3) := by decide +kernel
theorem d_V_record_4 : decode b_V_record 4 = .ok (.istore_n 1, 1) := by decide +kernel
theorem d_V_record_5 : decode b_V_record 5 = .ok (.aload_n 0, 1) := by decide +kernel
theorem d_V_record_6 : decode b_V_record 6 = .ok (.getfield 35, 3) := by decide +kernel
theorem d_V_record_9 : decode b_V_record 9 = .ok (.getfield 129, 3) := by decide +kernel
theorem d_V_record_12 : decode b_V_record 12 = .ok (.ifCond .ne 6, 3) := by decide +kernel
theorem d_V_record_15 : decode b_V_record 15 = .ok (.bipush (-2), 2) := by decide +kernel
theorem d_V_record_17 : decode b_V_record 17 = .ok (.ireturn, 1) := by decide +kernel
theorem d_V_write_0 : decode b_V_write 0 = .ok (.aload_n 0, 1) := by decide +kernel
theorem d_V_write_1 : decode b_V_write 1 = .ok (.getfield 35, 3) := by decide +kernel
theorem d_V_write_4 : decode b_V_write 4 = .ok (.getfield 129, 3) := by decide +kernel
theorem d_V_write_7 : decode b_V_write 7 = .ok (.ifCond .eq 27, 3) := by decide +kernel
theorem d_V_write_34 : decode b_V_write 34 = .ok (.iconst (-1), 1) := by decide +kernel
theorem d_V_write_35 : decode b_V_write 35 = .ok (.ireturn, 1) := by decide +kernel
theorem d_V_query_0 : decode b_V_query 0 = .ok (.aload_n 0, 1) := by decide +kernel
theorem d_V_query_1 : decode b_V_query 1 = .ok (.invokevirtual 112, 3) := by decide +kernel
theorem d_V_query_4 : decode b_V_query 4 = .ok (.istore_n 1, 1) := by decide +kernel
theorem d_V_query_5 : decode b_V_query 5 = .ok (.aload_n 0, 1) := by decide +kernel
theorem d_V_query_6 : decode b_V_query 6 = .ok (.getfield 59, 3) := by decide +kernel
theorem d_V_query_9 : decode b_V_query 9 = .ok (.getfield 163, 3) := by decide +kernel
theorem d_V_query_12 : decode b_V_query 12 = .ok (.ifCond .ne 6, 3) := by decide +kernel
theorem d_V_query_15 : decode b_V_query 15 = .ok (.bipush (-2), 2) := by decide +kernel
theorem d_V_query_17 : decode b_V_query 17 = .ok (.ireturn, 1) := by decide +kernel
theorem d_V_run_0 : decode b_V_run 0 = .ok (.aload_n 0, 1) := by decide +kernel
theorem d_V_run_1 : decode b_V_run 1 = .ok (.getfield 75, 3) := by decide +kernel
theorem d_V_run_4 : decode b_V_run 4 = .ok (.getfield 167, 3) := by decide +kernel
theorem d_V_run_7 : decode b_V_run 7 = .ok (.ifCond .eq 21, 3) := by decide +kernel
theorem d_V_run_28 : decode b_V_run 28 = .ok (.iconst (-1), 1) := by decide +kernel
theorem d_V_run_29 : decode b_V_run 29 = .ok (.ireturn, 1) := by decide +kernel
theorem d_V_opened_0 : decode b_V_opened 0 = .ok (.aload_n 0, 1) := by decide +kernel
theorem d_V_opened_1 : decode b_V_opened 1 = .ok (.getfield 59, 3) := by decide +kernel
theorem d_V_opened_4 : decode b_V_opened 4 = .ok (.getfield 163, 3) := by decide +kernel
theorem d_V_opened_7 : decode b_V_opened 7 = .ok (.ifCond .ne 5, 3) := by decide +kernel
theorem d_V_opened_10 : decode b_V_opened 10 = .ok (.iconst (-1), 1) := by decide +kernel
theorem d_V_opened_11 : decode b_V_opened 11 = .ok (.ireturn, 1) := by decide +kernel
theorem d_Asm_assemble_0 : decode b_Asm_assemble 0 = .ok (.aload_n 0, 1) := by decide +kernel
theorem d_Asm_assemble_1 : decode b_Asm_assemble 1 = .ok (.getfield 15, 3) := by decide +kernel
theorem d_Asm_assemble_4 : decode b_Asm_assemble 4 = .ok (.invokevirtual 32, 3) := by decide +kernel
theorem d_Asm_assemble_7 : decode b_Asm_assemble 7 = .ok (.aload_n 0, 1) := by decide +kernel
theorem d_Asm_assemble_8 : decode b_Asm_assemble 8 = .ok (.getfield 28, 3) := by decide +kernel
theorem d_Asm_assemble_11 : decode b_Asm_assemble 11 = .ok (.getfield 35, 3) := by decide +kernel
theorem d_Asm_assemble_14 : decode b_Asm_assemble 14 = .ok (.ifCond .eq 18, 3) := by decide +kernel
theorem d_Asm_assemble_32 : decode b_Asm_assemble 32 = .ok (.iconst (-1), 1) := by decide +kernel
theorem d_Asm_assemble_33 : decode b_Asm_assemble 33 = .ok (.ireturn, 1) := by decide +kernel
theorem d_V_show_0 : decode b_V_show 0 = .ok (.aload_n 0, 1) := by decide +kernel
theorem d_V_show_1 : decode b_V_show 1 = .ok (.getfield 95, 3) := by decide +kernel
theorem d_V_show_4 : decode b_V_show 4 = .ok (.iload_n 1, 1) := by decide +kernel
theorem d_V_show_5 : decode b_V_show 5 = .ok (.aconst_null, 1) := by decide +kernel
theorem d_V_show_6 : decode b_V_show 6 = .ok (.invokevirtual 193, 3) := by decide +kernel
theorem d_V_show_9 : decode b_V_show 9 = .ok (.ireturn, 1) := by decide +kernel
section
variable (l : Launch) (dC : Nat → ClassId) (dI : Nat → Nat → Nat) (cI cB cJ cZ : ClassId)
set_option maxHeartbeats 4000000 in
set_option maxRecDepth 100000 in
/-- useInput() -/
theorem c_V_useInput (sz : Nat) (h : Nat) (F : List Value) (f : Nat) (S : List Value) (n : Int32) (nF : F.length = 15) (gF_1 : F[1]? = some (.ref f)) (nS : S.length = 7) (gS_1 : S[1]? = some (.int n)) : Met l y_V_useInput (wsOf y_V_useInput b_V_useInput 2 (some (.int))) ({ frames := 1, cells := 0, slots := 0, locals := 20 }) (va_Pc [.ref h] (PC dC dI cI cB cJ cZ sz [(h, .inr (0, F)), (f, .inr (1, S))])) (va_Qi (fun (r : Int32) (_ : Unit) => r = n) (fun _ t => va_P (dC, dI) CL [(h, .inr (0, F)), (f, .inr (1, (S.set 1 (.int 0)).set 2 (.int 0)))] t.heap ∧ va_D (va_A [(h, .inr (0, F)), (f, .inr (1, S))] sz) [(h, .inr (0, F)), (f, .inr (1, (S.set 1 (.int 0)).set 2 (.int 0)))]) (va_A [(h, .inr (0, F)), (f, .inr (1, S))] sz)) 0 0 (va_A [(h, .inr (0, F)), (f, .inr (1, S))] sz) := by
  refine Met.ofW (cc := b_V_useInput) (maxL := 2) (ret := some (.int)) (by decide) rfl ?_
  intro p e s m args below meth c s₁ B hml hv
  obtain ⟨rfl, hsz, hP, hK, hD0, hN⟩ := hv
  have hx := B.exec
  have hb := B.bytes
  have hr := B.returns
  have hts := atoms_spec B.pre
  have hT : ∀ w ∈ TG, w.before _ s = true := fun w h => hts w (List.mem_cons_of_mem _ h)
  have hown : s.vm.findClass R_V = some m.cls := findClass_of_methodNamed B.named
  have hlocks := B.notSynchronized
  subst hsz
  have hD := hD0.self (sz := s.heap.size)
  generalize hAe : va_A [(h, .inr (0, F)), (f, .inr (1, S))] s.heap.size = A at hD ⊢
  have hA : ∀ q : Nat, s.heap.size ≤ q → A q := fun q h => by rw [← hAe]; exact Or.inr h
  have hS : va_S A s.heap s.heap [] := va_S.rf
  have hl := lv_entry ([.ref h]) (n := 2) (Nat.le_of_ble_eq_true rfl)
  rw [lg_entry_eq]
  generalize (lg_sl ([.ref h]) ++ List.replicate (2 - (lg_sl ([.ref h])).length) Slot.unset).toArray = ls at hl ⊢
  have hl : lv_has ls 2 [(0, .ref h)] := hl
  refine lv_aload_n hx hb d_V_useInput_0 rfl (lv_at hl 0 rfl) ?_
  refine f_get (D := (dC, dI)) (ci := 0) (v := .ref f) (C := R_V) (T := F_V) (N := 15) hx hb hT in_V hown hK hP 0 rfl rfl 1 (by decide) fr_V_1 w_3_236 gF_1 d_V_useInput_1 ?_
  refine f_get (D := (dC, dI)) (ci := 1) (v := .int n) (C := R_Snk) (T := F_Snk) (N := 7) hx hb hT in_Snk hown hK hP 1 rfl rfl 1 (by decide) fr_Snk_1 w_1_44 gS_1 d_V_useInput_4 ?_
  refine lv_istore_n (lv' := [(1, .int n), (0, .ref h)]) hx hb d_V_useInput_7 rfl hl (by decide) rfl (fun ls hl => ?_)
  refine lv_aload_n hx hb d_V_useInput_8 rfl (lv_at hl 1 rfl) ?_
  refine f_get (D := (dC, dI)) (ci := 0) (v := .ref f) (C := R_V) (T := F_V) (N := 15) hx hb hT in_V hown hK hP 0 rfl rfl 1 (by decide) fr_V_1 w_3_236 gF_1 d_V_useInput_9 ?_
  have hPc := hP.sub (ws' := [(f, .inr (1, S))]) [1] rfl
  have hDc := hD.sub (ws' := [(f, .inr (1, S))]) [1] (by decide) rfl
  have hFc := va_free (wc := [(f, .inr (1, S))]) hD hS hA [1] rfl
  refine va_callv (va_runV (C := R_Snk) (As := []) (rest := []) ⟨hx, hb, hml, hown, hT⟩ (c_Snk_forget l dC dI cI cB cJ cZ s.heap.size f S  nS) ⟨callB_of 0 hT (gw_in w_4_81) rfl rfl rfl (hT _ w_1_2) (hT _ w_4_78) (by decide +kernel) ⟨Nat.le_of_ble_eq_true rfl, Nat.le_of_ble_eq_true rfl⟩, hT _ w_4_79, hT _ w_4_80⟩ ⟨PC.blind, va_recv hK hPc (ci := 1) (q0 := 0) rfl rfl, PC.at _ hPc hDc hK hN⟩ rfl rfl hl.1 rfl (lv_room (Nat.le_of_ble_eq_true rfl)) d_V_useInput_12 ⟨show _ ≤ 0 by omega, show _ ≤ 0 by omega⟩) hS (fun q _ h => hFc q h) hFc (fun  u t H1 locs ht hvm hw hB hz1 hk1 hS => ?_)
  obtain ⟨hP1, hD1⟩ := hB
  rw [ht] at hP1
  obtain ⟨hP, hD⟩ := va_join (wr := [(h, .inr (0, F))]) (w1 := [(f, .inr (1, (S.set 1 (.int 0)).set 2 (.int 0)))]) hP hD [1] [0] rfl rfl (by decide) (by decide) hk1 hFc hP1 hD1
  generalize H1 = H at hP hS ⊢
  have hP : va_P (dC, dI) CL [(h, .inr (0, F)), (f, .inr (1, (S.set 1 (.int 0)).set 2 (.int 0)))] H := hP
  have hD : va_D A [(h, .inr (0, F)), (f, .inr (1, (S.set 1 (.int 0)).set 2 (.int 0)))] := hD
  refine lv_iload_n hx hb d_V_useInput_15 rfl (lv_at hl 0 rfl) ?_
  exact W.iret (v := n) hx hb hr (fun t ht hW => ⟨⟨n, (), rfl, rfl, by rw [ht]; exact hP, hD⟩, hS.F ht⟩) hS.2.2 d_V_useInput_16
set_option maxHeartbeats 4000000 in
set_option maxRecDepth 100000 in
/-- record() without a schema -/
theorem c_V_record_none (sz : Nat) (h : Nat) (F : List Value) (f : Nat) (S : List Value) (c0 : Nat) (C : List Value) (n : Int32) (nF : F.length = 15) (gF_1 : F[1]? = some (.ref f)) (gF_4 : F[4]? = some (.ref c0)) (nS : S.length = 7) (gS_1 : S[1]? = some (.int n)) (nC : C.length = 13) (gC_0 : C[0]? = some (.int 0)) : Met l y_V_record (wsOf y_V_record b_V_record 2 (some (.int))) ({ frames := 2, cells := 0, slots := 0, locals := 41 }) (va_Pc [.ref h] (PC dC dI cI cB cJ cZ sz [(h, .inr (0, F)), (f, .inr (1, S)), (c0, .inr (3, C))])) (va_Qi (fun (r : Int32) (_ : Unit) => r = (-2)) (fun _ t => va_P (dC, dI) CL [(c0, .inr (3, C)), (h, .inr (0, F)), (f, .inr (1, (S.set 1 (.int 0)).set 2 (.int 0)))] t.heap ∧ va_D (va_A [(h, .inr (0, F)), (f, .inr (1, S)), (c0, .inr (3, C))] sz) [(c0, .inr (3, C)), (h, .inr (0, F)), (f, .inr (1, (S.set 1 (.int 0)).set 2 (.int 0)))]) (va_A [(h, .inr (0, F)), (f, .inr (1, S)), (c0, .inr (3, C))] sz)) 0 0 (va_A [(h, .inr (0, F)), (f, .inr (1, S)), (c0, .inr (3, C))] sz) := by
  refine Met.ofW (cc := b_V_record) (maxL := 2) (ret := some (.int)) (by decide) rfl ?_
  intro p e s m args below meth c s₁ B hml hv
  obtain ⟨rfl, hsz, hP, hK, hD0, hN⟩ := hv
  have hx := B.exec
  have hb := B.bytes
  have hr := B.returns
  have hts := atoms_spec B.pre
  have hT : ∀ w ∈ TG, w.before _ s = true := fun w h => hts w (List.mem_cons_of_mem _ h)
  have hown : s.vm.findClass R_V = some m.cls := findClass_of_methodNamed B.named
  have hlocks := B.notSynchronized
  subst hsz
  have hD := hD0.self (sz := s.heap.size)
  generalize hAe : va_A [(h, .inr (0, F)), (f, .inr (1, S)), (c0, .inr (3, C))] s.heap.size = A at hD ⊢
  have hA : ∀ q : Nat, s.heap.size ≤ q → A q := fun q h => by rw [← hAe]; exact Or.inr h
  have hS : va_S A s.heap s.heap [] := va_S.rf
  have hl := lv_entry ([.ref h]) (n := 2) (Nat.le_of_ble_eq_true rfl)
  rw [lg_entry_eq]
  generalize (lg_sl ([.ref h]) ++ List.replicate (2 - (lg_sl ([.ref h])).length) Slot.unset).toArray = ls at hl ⊢
  have hl : lv_has ls 2 [(0, .ref h)] := hl
  refine lv_aload_n hx hb d_V_record_0 rfl (lv_at hl 0 rfl) ?_
  have hPc := hP.sub (ws' := [(h, .inr (0, F)), (f, .inr (1, S))]) [0, 1] rfl
  have hDc := hD.sub (ws' := [(h, .inr (0, F)), (f, .inr (1, S))]) [0, 1] (by decide) rfl
  have hFc := va_free (wc := [(h, .inr (0, F)), (f, .inr (1, S))]) hD hS hA [0, 1] rfl
  refine va_calli (va_runV (C := R_V) (As := []) (rest := []) ⟨hx, hb, hml, hown, hT⟩ (c_V_useInput l dC dI cI cB cJ cZ s.heap.size h F f S n nF gF_1 nS gS_1) ⟨callB_of 0 hT (gw_in w_4_89) rfl rfl rfl (hT _ w_1_1) (hT _ w_4_86) (by decide +kernel) ⟨Nat.le_of_ble_eq_true rfl, Nat.le_of_ble_eq_true rfl⟩, hT _ w_4_88, hT _ ws_2⟩ ⟨PC.blind, va_recv hK hPc (ci := 0) (q0 := 0) rfl rfl, PC.at _ hPc hDc hK hN⟩ rfl rfl hl.1 rfl (lv_room (Nat.le_of_ble_eq_true rfl)) d_V_record_1 ⟨show _ ≤ 0 by omega, show _ ≤ 0 by omega⟩) hS (fun q _ h => hFc q h) hFc (fun r1 u t H1 locs ht hvm hw hB hz1 hk1 hS => ?_)
  obtain ⟨hP1, hD1⟩ := hB
  have hw : n = r1 := Eq.symm hw
  subst hw
  rw [ht] at hP1
  obtain ⟨hP, hD⟩ := va_join (wr := [(c0, .inr (3, C))]) (w1 := [(h, .inr (0, F)), (f, .inr (1, (S.set 1 (.int 0)).set 2 (.int 0)))]) hP hD [0, 1] [2] rfl rfl (by decide) (by decide) hk1 hFc hP1 hD1
  generalize H1 = H at hP hS ⊢
  have hP : va_P (dC, dI) CL [(c0, .inr (3, C)), (h, .inr (0, F)), (f, .inr (1, (S.set 1 (.int 0)).set 2 (.int 0)))] H := hP
  have hD : va_D A [(c0, .inr (3, C)), (h, .inr (0, F)), (f, .inr (1, (S.set 1 (.int 0)).set 2 (.int 0)))] := hD
  refine lv_istore_n (lv' := [(1, .int n), (0, .ref h)]) hx hb d_V_record_4 rfl hl (by decide) rfl (fun ls hl => ?_)
  refine lv_aload_n hx hb d_V_record_5 rfl (lv_at hl 1 rfl) ?_
  refine f_get (D := (dC, dI)) (ci := 0) (v := .ref c0) (C := R_V) (T := F_V) (N := 15) hx hb hT in_V hown hK hP 1 rfl rfl 4 (by decide) fr_V_4 w_3_239 gF_4 d_V_record_6 ?_
  refine f_get (D := (dC, dI)) (ci := 3) (v := .int 0) (C := R_Sch) (T := F_Sch) (N := 13) hx hb hT in_Sch hown hK hP 0 rfl rfl 0 (by decide) fr_Sch_0 w_1_133 gC_0 d_V_record_9 ?_
  refine lv_if_ne (tgt := 18) hx hb d_V_record_12 (by decide) (fun c1 => by first | exact absurd c1 (by decide) | exact absurd (by decide) c1) (fun c1 => ?_)
  refine lv_bipush (v := (-2)) hx hb d_V_record_15 (by decide) ?_
  exact W.iret (v := (-2)) hx hb hr (fun t ht hW => ⟨⟨(-2), (), rfl, rfl, by rw [ht]; exact hP, hD⟩, hS.F ht⟩) hS.2.2 d_V_record_17
set_option maxHeartbeats 4000000 in
set_option maxRecDepth 100000 in
/-- write(k, i) without a schema -/
theorem c_V_write_none (sz : Nat) (h : Nat) (F : List Value) (c0 : Nat) (C : List Value) (k i : Int32) (nF : F.length = 15) (gF_4 : F[4]? = some (.ref c0)) (nC : C.length = 13) (gC_0 : C[0]? = some (.int 0)) : Met l y_V_write (wsOf y_V_write b_V_write 8 (some (.int))) ({ frames := 0, cells := 0, slots := 0, locals := 0 }) (va_Pc [.ref h, .int k, .int i] (PC dC dI cI cB cJ cZ sz [(h, .inr (0, F)), (c0, .inr (3, C))])) (va_Qi (fun (r : Int32) (_ : Unit) => r = (-1)) (fun _ t => va_P (dC, dI) CL [(h, .inr (0, F)), (c0, .inr (3, C))] t.heap ∧ va_D (va_A [(h, .inr (0, F)), (c0, .inr (3, C))] sz) [(h, .inr (0, F)), (c0, .inr (3, C))]) (va_A [(h, .inr (0, F)), (c0, .inr (3, C))] sz)) 0 0 (va_A [(h, .inr (0, F)), (c0, .inr (3, C))] sz) := by
  refine Met.ofW (cc := b_V_write) (maxL := 8) (ret := some (.int)) (by decide) rfl ?_
  intro p e s m args below meth c s₁ B hml hv
  obtain ⟨rfl, hsz, hP, hK, hD0, hN⟩ := hv
  have hx := B.exec
  have hb := B.bytes
  have hr := B.returns
  have hts := atoms_spec B.pre
  have hT : ∀ w ∈ TG, w.before _ s = true := fun w h => hts w (List.mem_cons_of_mem _ h)
  have hown : s.vm.findClass R_V = some m.cls := findClass_of_methodNamed B.named
  have hlocks := B.notSynchronized
  subst hsz
  have hD := hD0.self (sz := s.heap.size)
  generalize hAe : va_A [(h, .inr (0, F)), (c0, .inr (3, C))] s.heap.size = A at hD ⊢
  have hA : ∀ q : Nat, s.heap.size ≤ q → A q := fun q h => by rw [← hAe]; exact Or.inr h
  have hS : va_S A s.heap s.heap [] := va_S.rf
  have hl := lv_entry ([.ref h, .int k, .int i]) (n := 8) (Nat.le_of_ble_eq_true rfl)
  rw [lg_entry_eq]
  generalize (lg_sl ([.ref h, .int k, .int i]) ++ List.replicate (8 - (lg_sl ([.ref h, .int k, .int i])).length) Slot.unset).toArray = ls at hl ⊢
  have hl : lv_has ls 8 [(0, .ref h), (1, .int k), (2, .int i)] := hl
  refine lv_aload_n hx hb d_V_write_0 rfl (lv_at hl 0 rfl) ?_
  refine f_get (D := (dC, dI)) (ci := 0) (v := .ref c0) (C := R_V) (T := F_V) (N := 15) hx hb hT in_V hown hK hP 0 rfl rfl 4 (by decide) fr_V_4 w_3_239 gF_4 d_V_write_1 ?_
  refine f_get (D := (dC, dI)) (ci := 3) (v := .int 0) (C := R_Sch) (T := F_Sch) (N := 13) hx hb hT in_Sch hown hK hP 1 rfl rfl 0 (by decide) fr_Sch_0 w_1_133 gC_0 d_V_write_4 ?_
  refine lv_if_eq (tgt := 34) hx hb d_V_write_7 (by decide) (fun c1 => ?_) (fun c1 => by first | exact absurd c1 (by decide) | exact absurd (by decide) c1)
  refine lv_iconst (v := (-1)) hx hb d_V_write_34 (by decide) ?_
  exact W.iret (v := (-1)) hx hb hr (fun t ht hW => ⟨⟨(-1), (), rfl, rfl, by rw [ht]; exact hP, hD⟩, hS.F ht⟩) hS.2.2 d_V_write_35
set_option maxHeartbeats 4000000 in
set_option maxRecDepth 100000 in
/-- query() with nothing open -/
theorem c_V_query_none (sz : Nat) (h : Nat) (F : List Value) (f : Nat) (S : List Value) (c0 : Nat) (C : List Value) (n : Int32) (nF : F.length = 15) (gF_1 : F[1]? = some (.ref f)) (gF_8 : F[8]? = some (.ref c0)) (nS : S.length = 7) (gS_1 : S[1]? = some (.int n)) (nC : C.length = 20) (gC_0 : C[0]? = some (.int 0)) : Met l y_V_query (wsOf y_V_query b_V_query 4 (some (.int))) ({ frames := 2, cells := 0, slots := 0, locals := 41 }) (va_Pc [.ref h] (PC dC dI cI cB cJ cZ sz [(h, .inr (0, F)), (f, .inr (1, S)), (c0, .inr (6, C))])) (va_Qi (fun (r : Int32) (_ : Unit) => r = (-2)) (fun _ t => va_P (dC, dI) CL [(c0, .inr (6, C)), (h, .inr (0, F)), (f, .inr (1, (S.set 1 (.int 0)).set 2 (.int 0)))] t.heap ∧ va_D (va_A [(h, .inr (0, F)), (f, .inr (1, S)), (c0, .inr (6, C))] sz) [(c0, .inr (6, C)), (h, .inr (0, F)), (f, .inr (1, (S.set 1 (.int 0)).set 2 (.int 0)))]) (va_A [(h, .inr (0, F)), (f, .inr (1, S)), (c0, .inr (6, C))] sz)) 0 0 (va_A [(h, .inr (0, F)), (f, .inr (1, S)), (c0, .inr (6, C))] sz) := by
  refine Met.ofW (cc := b_V_query) (maxL := 4) (ret := some (.int)) (by decide) rfl ?_
  intro p e s m args below meth c s₁ B hml hv
  obtain ⟨rfl, hsz, hP, hK, hD0, hN⟩ := hv
  have hx := B.exec
  have hb := B.bytes
  have hr := B.returns
  have hts := atoms_spec B.pre
  have hT : ∀ w ∈ TG, w.before _ s = true := fun w h => hts w (List.mem_cons_of_mem _ h)
  have hown : s.vm.findClass R_V = some m.cls := findClass_of_methodNamed B.named
  have hlocks := B.notSynchronized
  subst hsz
  have hD := hD0.self (sz := s.heap.size)
  generalize hAe : va_A [(h, .inr (0, F)), (f, .inr (1, S)), (c0, .inr (6, C))] s.heap.size = A at hD ⊢
  have hA : ∀ q : Nat, s.heap.size ≤ q → A q := fun q h => by rw [← hAe]; exact Or.inr h
  have hS : va_S A s.heap s.heap [] := va_S.rf
  have hl := lv_entry ([.ref h]) (n := 4) (Nat.le_of_ble_eq_true rfl)
  rw [lg_entry_eq]
  generalize (lg_sl ([.ref h]) ++ List.replicate (4 - (lg_sl ([.ref h])).length) Slot.unset).toArray = ls at hl ⊢
  have hl : lv_has ls 4 [(0, .ref h)] := hl
  refine lv_aload_n hx hb d_V_query_0 rfl (lv_at hl 0 rfl) ?_
  have hPc := hP.sub (ws' := [(h, .inr (0, F)), (f, .inr (1, S))]) [0, 1] rfl
  have hDc := hD.sub (ws' := [(h, .inr (0, F)), (f, .inr (1, S))]) [0, 1] (by decide) rfl
  have hFc := va_free (wc := [(h, .inr (0, F)), (f, .inr (1, S))]) hD hS hA [0, 1] rfl
  refine va_calli (va_runV (C := R_V) (As := []) (rest := []) ⟨hx, hb, hml, hown, hT⟩ (c_V_useInput l dC dI cI cB cJ cZ s.heap.size h F f S n nF gF_1 nS gS_1) ⟨callB_of 0 hT (gw_in w_4_89) rfl rfl rfl (hT _ w_1_1) (hT _ w_4_86) (by decide +kernel) ⟨Nat.le_of_ble_eq_true rfl, Nat.le_of_ble_eq_true rfl⟩, hT _ w_4_88, hT _ ws_2⟩ ⟨PC.blind, va_recv hK hPc (ci := 0) (q0 := 0) rfl rfl, PC.at _ hPc hDc hK hN⟩ rfl rfl hl.1 rfl (lv_room (Nat.le_of_ble_eq_true rfl)) d_V_query_1 ⟨show _ ≤ 0 by omega, show _ ≤ 0 by omega⟩) hS (fun q _ h => hFc q h) hFc (fun r1 u t H1 locs ht hvm hw hB hz1 hk1 hS => ?_)
  obtain ⟨hP1, hD1⟩ := hB
  have hw : n = r1 := Eq.symm hw
  subst hw
  rw [ht] at hP1
  obtain ⟨hP, hD⟩ := va_join (wr := [(c0, .inr (6, C))]) (w1 := [(h, .inr (0, F)), (f, .inr (1, (S.set 1 (.int 0)).set 2 (.int 0)))]) hP hD [0, 1] [2] rfl rfl (by decide) (by decide) hk1 hFc hP1 hD1
  generalize H1 = H at hP hS ⊢
  have hP : va_P (dC, dI) CL [(c0, .inr (6, C)), (h, .inr (0, F)), (f, .inr (1, (S.set 1 (.int 0)).set 2 (.int 0)))] H := hP
  have hD : va_D A [(c0, .inr (6, C)), (h, .inr (0, F)), (f, .inr (1, (S.set 1 (.int 0)).set 2 (.int 0)))] := hD
  refine lv_istore_n (lv' := [(1, .int n), (0, .ref h)]) hx hb d_V_query_4 rfl hl (by decide) rfl (fun ls hl => ?_)
  refine lv_aload_n hx hb d_V_query_5 rfl (lv_at hl 1 rfl) ?_
  refine f_get (D := (dC, dI)) (ci := 0) (v := .ref c0) (C := R_V) (T := F_V) (N := 15) hx hb hT in_V hown hK hP 1 rfl rfl 8 (by decide) fr_V_8 w_4_3 gF_8 d_V_query_6 ?_
  refine f_get (D := (dC, dI)) (ci := 6) (v := .int 0) (C := R_Vlt) (T := F_Vlt) (N := 20) hx hb hT in_Vlt hown hK hP 0 rfl rfl 0 (by decide) fr_Vlt_0 w_2_122 gC_0 d_V_query_9 ?_
  refine lv_if_ne (tgt := 18) hx hb d_V_query_12 (by decide) (fun c1 => by first | exact absurd c1 (by decide) | exact absurd (by decide) c1) (fun c1 => ?_)
  refine lv_bipush (v := (-2)) hx hb d_V_query_15 (by decide) ?_
  exact W.iret (v := (-2)) hx hb hr (fun t ht hW => ⟨⟨(-2), (), rfl, rfl, by rw [ht]; exact hP, hD⟩, hS.F ht⟩) hS.2.2 d_V_query_17
set_option maxHeartbeats 4000000 in
set_option maxRecDepth 100000 in
/-- run() without a query -/
theorem c_V_run_none (sz : Nat) (h : Nat) (F : List Value) (c0 : Nat) (C : List Value) (nF : F.length = 15) (gF_10 : F[10]? = some (.ref c0)) (nC : C.length = 20) (gC_0 : C[0]? = some (.int 0)) : Met l y_V_run (wsOf y_V_run b_V_run 2 (some (.int))) ({ frames := 0, cells := 0, slots := 0, locals := 0 }) (va_Pc [.ref h] (PC dC dI cI cB cJ cZ sz [(h, .inr (0, F)), (c0, .inr (9, C))])) (va_Qi (fun (r : Int32) (_ : Unit) => r = (-1)) (fun _ t => va_P (dC, dI) CL [(h, .inr (0, F)), (c0, .inr (9, C))] t.heap ∧ va_D (va_A [(h, .inr (0, F)), (c0, .inr (9, C))] sz) [(h, .inr (0, F)), (c0, .inr (9, C))]) (va_A [(h, .inr (0, F)), (c0, .inr (9, C))] sz)) 0 0 (va_A [(h, .inr (0, F)), (c0, .inr (9, C))] sz) := by
  refine Met.ofW (cc := b_V_run) (maxL := 2) (ret := some (.int)) (by decide) rfl ?_
  intro p e s m args below meth c s₁ B hml hv
  obtain ⟨rfl, hsz, hP, hK, hD0, hN⟩ := hv
  have hx := B.exec
  have hb := B.bytes
  have hr := B.returns
  have hts := atoms_spec B.pre
  have hT : ∀ w ∈ TG, w.before _ s = true := fun w h => hts w (List.mem_cons_of_mem _ h)
  have hown : s.vm.findClass R_V = some m.cls := findClass_of_methodNamed B.named
  have hlocks := B.notSynchronized
  subst hsz
  have hD := hD0.self (sz := s.heap.size)
  generalize hAe : va_A [(h, .inr (0, F)), (c0, .inr (9, C))] s.heap.size = A at hD ⊢
  have hA : ∀ q : Nat, s.heap.size ≤ q → A q := fun q h => by rw [← hAe]; exact Or.inr h
  have hS : va_S A s.heap s.heap [] := va_S.rf
  have hl := lv_entry ([.ref h]) (n := 2) (Nat.le_of_ble_eq_true rfl)
  rw [lg_entry_eq]
  generalize (lg_sl ([.ref h]) ++ List.replicate (2 - (lg_sl ([.ref h])).length) Slot.unset).toArray = ls at hl ⊢
  have hl : lv_has ls 2 [(0, .ref h)] := hl
  refine lv_aload_n hx hb d_V_run_0 rfl (lv_at hl 0 rfl) ?_
  refine f_get (D := (dC, dI)) (ci := 0) (v := .ref c0) (C := R_V) (T := F_V) (N := 15) hx hb hT in_V hown hK hP 0 rfl rfl 10 (by decide) fr_V_10 w_4_5 gF_10 d_V_run_1 ?_
  refine f_get (D := (dC, dI)) (ci := 9) (v := .int 0) (C := R_Qry) (T := F_Qry) (N := 20) hx hb hT in_Qry hown hK hP 1 rfl rfl 0 (by decide) fr_Qry_0 w_3_75 gC_0 d_V_run_4 ?_
  refine lv_if_eq (tgt := 28) hx hb d_V_run_7 (by decide) (fun c1 => ?_) (fun c1 => by first | exact absurd c1 (by decide) | exact absurd (by decide) c1)
  refine lv_iconst (v := (-1)) hx hb d_V_run_28 (by decide) ?_
  exact W.iret (v := (-1)) hx hb hr (fun t ht hW => ⟨⟨(-1), (), rfl, rfl, by rw [ht]; exact hP, hD⟩, hS.F ht⟩) hS.2.2 d_V_run_29
set_option maxHeartbeats 4000000 in
set_option maxRecDepth 100000 in
/-- opened(k) with nothing open -/
theorem c_V_opened_none (sz : Nat) (h : Nat) (F : List Value) (c0 : Nat) (C : List Value) (k : Int32) (nF : F.length = 15) (gF_8 : F[8]? = some (.ref c0)) (nC : C.length = 20) (gC_0 : C[0]? = some (.int 0)) : Met l y_V_opened (wsOf y_V_opened b_V_opened 2 (some (.int))) ({ frames := 0, cells := 0, slots := 0, locals := 0 }) (va_Pc [.ref h, .int k] (PC dC dI cI cB cJ cZ sz [(h, .inr (0, F)), (c0, .inr (6, C))])) (va_Qi (fun (r : Int32) (_ : Unit) => r = (-1)) (fun _ t => va_P (dC, dI) CL [(h, .inr (0, F)), (c0, .inr (6, C))] t.heap ∧ va_D (va_A [(h, .inr (0, F)), (c0, .inr (6, C))] sz) [(h, .inr (0, F)), (c0, .inr (6, C))]) (va_A [(h, .inr (0, F)), (c0, .inr (6, C))] sz)) 0 0 (va_A [(h, .inr (0, F)), (c0, .inr (6, C))] sz) := by
  refine Met.ofW (cc := b_V_opened) (maxL := 2) (ret := some (.int)) (by decide) rfl ?_
  intro p e s m args below meth c s₁ B hml hv
  obtain ⟨rfl, hsz, hP, hK, hD0, hN⟩ := hv
  have hx := B.exec
  have hb := B.bytes
  have hr := B.returns
  have hts := atoms_spec B.pre
  have hT : ∀ w ∈ TG, w.before _ s = true := fun w h => hts w (List.mem_cons_of_mem _ h)
  have hown : s.vm.findClass R_V = some m.cls := findClass_of_methodNamed B.named
  have hlocks := B.notSynchronized
  subst hsz
  have hD := hD0.self (sz := s.heap.size)
  generalize hAe : va_A [(h, .inr (0, F)), (c0, .inr (6, C))] s.heap.size = A at hD ⊢
  have hA : ∀ q : Nat, s.heap.size ≤ q → A q := fun q h => by rw [← hAe]; exact Or.inr h
  have hS : va_S A s.heap s.heap [] := va_S.rf
  have hl := lv_entry ([.ref h, .int k]) (n := 2) (Nat.le_of_ble_eq_true rfl)
  rw [lg_entry_eq]
  generalize (lg_sl ([.ref h, .int k]) ++ List.replicate (2 - (lg_sl ([.ref h, .int k])).length) Slot.unset).toArray = ls at hl ⊢
  have hl : lv_has ls 2 [(0, .ref h), (1, .int k)] := hl
  refine lv_aload_n hx hb d_V_opened_0 rfl (lv_at hl 0 rfl) ?_
  refine f_get (D := (dC, dI)) (ci := 0) (v := .ref c0) (C := R_V) (T := F_V) (N := 15) hx hb hT in_V hown hK hP 0 rfl rfl 8 (by decide) fr_V_8 w_4_3 gF_8 d_V_opened_1 ?_
  refine f_get (D := (dC, dI)) (ci := 6) (v := .int 0) (C := R_Vlt) (T := F_Vlt) (N := 20) hx hb hT in_Vlt hown hK hP 1 rfl rfl 0 (by decide) fr_Vlt_0 w_2_122 gC_0 d_V_opened_4 ?_
  refine lv_if_ne (tgt := 12) hx hb d_V_opened_7 (by decide) (fun c1 => by first | exact absurd c1 (by decide) | exact absurd (by decide) c1) (fun c1 => ?_)
  refine lv_iconst (v := (-1)) hx hb d_V_opened_10 (by decide) ?_
  exact W.iret (v := (-1)) hx hb hr (fun t ht hW => ⟨⟨(-1), (), rfl, rfl, by rw [ht]; exact hP, hD⟩, hS.F ht⟩) hS.2.2 d_V_opened_11
set_option maxHeartbeats 4000000 in
set_option maxRecDepth 100000 in
/-- assemble(k, null) with nothing open -/
theorem c_Asm_assemble_none (sz : Nat) (h : Nat) (F : List Value) (f : Nat) (S : List Value) (c0 : Nat) (C : List Value) (k : Int32) (nF : F.length = 4) (gF_0 : F[0]? = some (.ref f)) (gF_1 : F[1]? = some (.ref c0)) (nS : S.length = 7) (nC : C.length = 20) (gC_0 : C[0]? = some (.int 0)) : Met l y_Asm_assemble (wsOf y_Asm_assemble b_Asm_assemble 8 (some (.int))) ({ frames := 1, cells := 0, slots := 0, locals := 20 }) (va_Pc [.ref h, .int k, .null] (PC dC dI cI cB cJ cZ sz [(h, .inr (11, F)), (f, .inr (1, S)), (c0, .inr (6, C))])) (va_Qi (fun (r : Int32) (_ : Unit) => r = (-1)) (fun _ t => va_P (dC, dI) CL [(h, .inr (11, F)), (c0, .inr (6, C)), (f, .inr (1, (S.set 1 (.int 0)).set 2 (.int 0)))] t.heap ∧ va_D (va_A [(h, .inr (11, F)), (f, .inr (1, S)), (c0, .inr (6, C))] sz) [(h, .inr (11, F)), (c0, .inr (6, C)), (f, .inr (1, (S.set 1 (.int 0)).set 2 (.int 0)))]) (va_A [(h, .inr (11, F)), (f, .inr (1, S)), (c0, .inr (6, C))] sz)) 0 0 (va_A [(h, .inr (11, F)), (f, .inr (1, S)), (c0, .inr (6, C))] sz) := by
  refine Met.ofW (cc := b_Asm_assemble) (maxL := 8) (ret := some (.int)) (by decide) rfl ?_
  intro p e s m args below meth c s₁ B hml hv
  obtain ⟨rfl, hsz, hP, hK, hD0, hN⟩ := hv
  have hx := B.exec
  have hb := B.bytes
  have hr := B.returns
  have hts := atoms_spec B.pre
  have hT : ∀ w ∈ TG, w.before _ s = true := fun w h => hts w (List.mem_cons_of_mem _ h)
  have hown : s.vm.findClass R_Asm = some m.cls := findClass_of_methodNamed B.named
  have hlocks := B.notSynchronized
  subst hsz
  have hD := hD0.self (sz := s.heap.size)
  generalize hAe : va_A [(h, .inr (11, F)), (f, .inr (1, S)), (c0, .inr (6, C))] s.heap.size = A at hD ⊢
  have hA : ∀ q : Nat, s.heap.size ≤ q → A q := fun q h => by rw [← hAe]; exact Or.inr h
  have hS : va_S A s.heap s.heap [] := va_S.rf
  have hl := lv_entry ([.ref h, .int k, .null]) (n := 8) (Nat.le_of_ble_eq_true rfl)
  rw [lg_entry_eq]
  generalize (lg_sl ([.ref h, .int k, .null]) ++ List.replicate (8 - (lg_sl ([.ref h, .int k, .null])).length) Slot.unset).toArray = ls at hl ⊢
  have hl : lv_has ls 8 [(0, .ref h), (1, .int k), (2, .null)] := hl
  refine lv_aload_n hx hb d_Asm_assemble_0 rfl (lv_at hl 0 rfl) ?_
  refine f_get (D := (dC, dI)) (ci := 11) (v := .ref f) (C := R_Asm) (T := F_Asm) (N := 4) hx hb hT in_Asm hown hK hP 0 rfl rfl 0 (by decide) fr_Asm_0 w_3_221 gF_0 d_Asm_assemble_1 ?_
  have hPc := hP.sub (ws' := [(f, .inr (1, S))]) [1] rfl
  have hDc := hD.sub (ws' := [(f, .inr (1, S))]) [1] (by decide) rfl
  have hFc := va_free (wc := [(f, .inr (1, S))]) hD hS hA [1] rfl
  refine va_callv (va_runV (C := R_Snk) (As := []) (rest := []) ⟨hx, hb, hml, hown, hT⟩ (c_Snk_forget l dC dI cI cB cJ cZ s.heap.size f S  nS) ⟨callB_of 0 hT (gw_in w_4_81) rfl rfl rfl (hT _ w_1_2) (hT _ w_7_80) (by decide +kernel) ⟨Nat.le_of_ble_eq_true rfl, Nat.le_of_ble_eq_true rfl⟩, hT _ w_4_79, hT _ w_4_80⟩ ⟨PC.blind, va_recv hK hPc (ci := 1) (q0 := 0) rfl rfl, PC.at _ hPc hDc hK hN⟩ rfl rfl hl.1 rfl (lv_room (Nat.le_of_ble_eq_true rfl)) d_Asm_assemble_4 ⟨show _ ≤ 0 by omega, show _ ≤ 0 by omega⟩) hS (fun q _ h => hFc q h) hFc (fun  u t H1 locs ht hvm hw hB hz1 hk1 hS => ?_)
  obtain ⟨hP1, hD1⟩ := hB
  rw [ht] at hP1
  obtain ⟨hP, hD⟩ := va_join (wr := [(h, .inr (11, F)), (c0, .inr (6, C))]) (w1 := [(f, .inr (1, (S.set 1 (.int 0)).set 2 (.int 0)))]) hP hD [1] [0, 2] rfl rfl (by decide) (by decide) hk1 hFc hP1 hD1
  generalize H1 = H at hP hS ⊢
  have hP : va_P (dC, dI) CL [(h, .inr (11, F)), (c0, .inr (6, C)), (f, .inr (1, (S.set 1 (.int 0)).set 2 (.int 0)))] H := hP
  have hD : va_D A [(h, .inr (11, F)), (c0, .inr (6, C)), (f, .inr (1, (S.set 1 (.int 0)).set 2 (.int 0)))] := hD
  refine lv_aload_n hx hb d_Asm_assemble_7 rfl (lv_at hl 0 rfl) ?_
  refine f_get (D := (dC, dI)) (ci := 11) (v := .ref c0) (C := R_Asm) (T := F_Asm) (N := 4) hx hb hT in_Asm hown hK hP 0 rfl rfl 1 (by decide) fr_Asm_1 w_3_223 gF_1 d_Asm_assemble_8 ?_
  refine f_get (D := (dC, dI)) (ci := 6) (v := .int 0) (C := R_Vlt) (T := F_Vlt) (N := 20) hx hb hT in_Vlt hown hK hP 1 rfl rfl 0 (by decide) fr_Vlt_0 w_2_121 gC_0 d_Asm_assemble_11 ?_
  refine lv_if_eq (tgt := 32) hx hb d_Asm_assemble_14 (by decide) (fun c1 => ?_) (fun c1 => by first | exact absurd c1 (by decide) | exact absurd (by decide) c1)
  refine lv_iconst (v := (-1)) hx hb d_Asm_assemble_32 (by decide) ?_
  exact W.iret (v := (-1)) hx hb hr (fun t ht hW => ⟨⟨(-1), (), rfl, rfl, by rw [ht]; exact hP, hD⟩, hS.F ht⟩) hS.2.2 d_Asm_assemble_33
set_option maxHeartbeats 4000000 in
set_option maxRecDepth 100000 in
/-- show(k) with nothing open -/
theorem c_V_show_none (sz : Nat) (h : Nat) (F : List Value) (b : Nat) (Bb : List Value) (f : Nat) (S : List Value) (c0 : Nat) (C : List Value) (k : Int32) (nF : F.length = 15) (gF_14 : F[14]? = some (.ref b)) (nBb : Bb.length = 4) (gBb_0 : Bb[0]? = some (.ref f)) (gBb_1 : Bb[1]? = some (.ref c0)) (nS : S.length = 7) (nC : C.length = 20) (gC_0 : C[0]? = some (.int 0)) : Met l y_V_show (wsOf y_V_show b_V_show 2 (some (.int))) ({ frames := 2, cells := 0, slots := 0, locals := 47 }) (va_Pc [.ref h, .int k] (PC dC dI cI cB cJ cZ sz [(h, .inr (0, F)), (b, .inr (11, Bb)), (f, .inr (1, S)), (c0, .inr (6, C))])) (va_Qi (fun (r : Int32) (_ : Unit) => r = (-1)) (fun _ t => va_P (dC, dI) CL [(h, .inr (0, F)), (b, .inr (11, Bb)), (c0, .inr (6, C)), (f, .inr (1, (S.set 1 (.int 0)).set 2 (.int 0)))] t.heap ∧ va_D (va_A [(h, .inr (0, F)), (b, .inr (11, Bb)), (f, .inr (1, S)), (c0, .inr (6, C))] sz) [(h, .inr (0, F)), (b, .inr (11, Bb)), (c0, .inr (6, C)), (f, .inr (1, (S.set 1 (.int 0)).set 2 (.int 0)))]) (va_A [(h, .inr (0, F)), (b, .inr (11, Bb)), (f, .inr (1, S)), (c0, .inr (6, C))] sz)) 0 0 (va_A [(h, .inr (0, F)), (b, .inr (11, Bb)), (f, .inr (1, S)), (c0, .inr (6, C))] sz) := by
  refine Met.ofW (cc := b_V_show) (maxL := 2) (ret := some (.int)) (by decide) rfl ?_
  intro p e s m args below meth c s₁ B hml hv
  obtain ⟨rfl, hsz, hP, hK, hD0, hN⟩ := hv
  have hx := B.exec
  have hb := B.bytes
  have hr := B.returns
  have hts := atoms_spec B.pre
  have hT : ∀ w ∈ TG, w.before _ s = true := fun w h => hts w (List.mem_cons_of_mem _ h)
  have hown : s.vm.findClass R_V = some m.cls := findClass_of_methodNamed B.named
  have hlocks := B.notSynchronized
  subst hsz
  have hD := hD0.self (sz := s.heap.size)
  generalize hAe : va_A [(h, .inr (0, F)), (b, .inr (11, Bb)), (f, .inr (1, S)), (c0, .inr (6, C))] s.heap.size = A at hD ⊢
  have hA : ∀ q : Nat, s.heap.size ≤ q → A q := fun q h => by rw [← hAe]; exact Or.inr h
  have hS : va_S A s.heap s.heap [] := va_S.rf
  have hl := lv_entry ([.ref h, .int k]) (n := 2) (Nat.le_of_ble_eq_true rfl)
  rw [lg_entry_eq]
  generalize (lg_sl ([.ref h, .int k]) ++ List.replicate (2 - (lg_sl ([.ref h, .int k])).length) Slot.unset).toArray = ls at hl ⊢
  have hl : lv_has ls 2 [(0, .ref h), (1, .int k)] := hl
  refine lv_aload_n hx hb d_V_show_0 rfl (lv_at hl 0 rfl) ?_
  refine f_get (D := (dC, dI)) (ci := 0) (v := .ref b) (C := R_V) (T := F_V) (N := 15) hx hb hT in_V hown hK hP 0 rfl rfl 14 (by decide) fr_V_14 w_4_9 gF_14 d_V_show_1 ?_
  refine lv_iload_n hx hb d_V_show_4 rfl (lv_at hl 1 rfl) ?_
  refine lv_null hx hb d_V_show_5 ?_
  have hPc := hP.sub (ws' := [(b, .inr (11, Bb)), (f, .inr (1, S)), (c0, .inr (6, C))]) [1, 2, 3] rfl
  have hDc := hD.sub (ws' := [(b, .inr (11, Bb)), (f, .inr (1, S)), (c0, .inr (6, C))]) [1, 2, 3] (by decide) rfl
  have hFc := va_free (wc := [(b, .inr (11, Bb)), (f, .inr (1, S)), (c0, .inr (6, C))]) hD hS hA [1, 2, 3] rfl
  refine va_calli (va_runV (C := R_Asm) (As := [.int k, .null]) (rest := []) ⟨hx, hb, hml, hown, hT⟩ (c_Asm_assemble_none l dC dI cI cB cJ cZ s.heap.size b Bb f S c0 C k nBb gBb_0 gBb_1 nS nC gC_0) ⟨callB_of 2 hT (gw_in w_7_79) rfl rfl rfl (hT _ w_1_14) (hT _ w_7_76) (by decide +kernel) ⟨Nat.le_of_ble_eq_true rfl, Nat.le_of_ble_eq_true rfl⟩, hT _ w_7_77, hT _ w_7_78⟩ ⟨PC.blind, va_recv hK hPc (ci := 11) (q0 := 0) rfl rfl, PC.at _ hPc hDc hK hN⟩ rfl rfl hl.1 rfl (lv_room (Nat.le_of_ble_eq_true rfl)) d_V_show_6 ⟨show _ ≤ 0 by omega, show _ ≤ 0 by omega⟩) hS (fun q _ h => hFc q h) hFc (fun r1 u t H1 locs ht hvm hw hB hz1 hk1 hS => ?_)
  obtain ⟨hP1, hD1⟩ := hB
  have hw : (-1) = r1 := Eq.symm hw
  subst hw
  rw [ht] at hP1
  obtain ⟨hP, hD⟩ := va_join (wr := [(h, .inr (0, F))]) (w1 := [(b, .inr (11, Bb)), (c0, .inr (6, C)), (f, .inr (1, (S.set 1 (.int 0)).set 2 (.int 0)))]) hP hD [1, 2, 3] [0] rfl rfl (by decide) (by decide) hk1 hFc hP1 hD1
  generalize H1 = H at hP hS ⊢
  have hP : va_P (dC, dI) CL [(h, .inr (0, F)), (b, .inr (11, Bb)), (c0, .inr (6, C)), (f, .inr (1, (S.set 1 (.int 0)).set 2 (.int 0)))] H := hP
  have hD : va_D A [(h, .inr (0, F)), (b, .inr (11, Bb)), (c0, .inr (6, C)), (f, .inr (1, (S.set 1 (.int 0)).set 2 (.int 0)))] := hD
  exact W.iret (v := (-1)) hx hb hr (fun t ht hW => ⟨⟨(-1), (), rfl, rfl, by rw [ht]; exact hP, hD⟩, hS.F ht⟩) hS.2.2 d_V_show_9
set_option maxHeartbeats 4000000 in
set_option maxRecDepth 100000 in
/-- assemble(k, wanted) with nothing open -/
theorem c_Asm_assemble_noneW (sz : Nat) (h : Nat) (F : List Value) (f : Nat) (S : List Value) (c0 : Nat) (C : List Value) (k : Int32) (y : Nat) (nF : F.length = 4) (gF_0 : F[0]? = some (.ref f)) (gF_1 : F[1]? = some (.ref c0)) (nS : S.length = 7) (nC : C.length = 20) (gC_0 : C[0]? = some (.int 0)) : Met l y_Asm_assemble (wsOf y_Asm_assemble b_Asm_assemble 8 (some (.int))) ({ frames := 1, cells := 0, slots := 0, locals := 20 }) (va_Pc [.ref h, .int k, .ref y] (PC dC dI cI cB cJ cZ sz [(h, .inr (11, F)), (f, .inr (1, S)), (c0, .inr (6, C))])) (va_Qi (fun (r : Int32) (_ : Unit) => r = (-1)) (fun _ t => va_P (dC, dI) CL [(h, .inr (11, F)), (c0, .inr (6, C)), (f, .inr (1, (S.set 1 (.int 0)).set 2 (.int 0)))] t.heap ∧ va_D (va_A [(h, .inr (11, F)), (f, .inr (1, S)), (c0, .inr (6, C))] sz) [(h, .inr (11, F)), (c0, .inr (6, C)), (f, .inr (1, (S.set 1 (.int 0)).set 2 (.int 0)))]) (va_A [(h, .inr (11, F)), (f, .inr (1, S)), (c0, .inr (6, C))] sz)) 0 0 (va_A [(h, .inr (11, F)), (f, .inr (1, S)), (c0, .inr (6, C))] sz) := by
  refine Met.ofW (cc := b_Asm_assemble) (maxL := 8) (ret := some (.int)) (by decide) rfl ?_
  intro p e s m args below meth c s₁ B hml hv
  obtain ⟨rfl, hsz, hP, hK, hD0, hN⟩ := hv
  have hx := B.exec
  have hb := B.bytes
  have hr := B.returns
  have hts := atoms_spec B.pre
  have hT : ∀ w ∈ TG, w.before _ s = true := fun w h => hts w (List.mem_cons_of_mem _ h)
  have hown : s.vm.findClass R_Asm = some m.cls := findClass_of_methodNamed B.named
  have hlocks := B.notSynchronized
  subst hsz
  have hD := hD0.self (sz := s.heap.size)
  generalize hAe : va_A [(h, .inr (11, F)), (f, .inr (1, S)), (c0, .inr (6, C))] s.heap.size = A at hD ⊢
  have hA : ∀ q : Nat, s.heap.size ≤ q → A q := fun q h => by rw [← hAe]; exact Or.inr h
  have hS : va_S A s.heap s.heap [] := va_S.rf
  have hl := lv_entry ([.ref h, .int k, .ref y]) (n := 8) (Nat.le_of_ble_eq_true rfl)
  rw [lg_entry_eq]
  generalize (lg_sl ([.ref h, .int k, .ref y]) ++ List.replicate (8 - (lg_sl ([.ref h, .int k, .ref y])).length) Slot.unset).toArray = ls at hl ⊢
  have hl : lv_has ls 8 [(0, .ref h), (1, .int k), (2, .ref y)] := hl
  refine lv_aload_n hx hb d_Asm_assemble_0 rfl (lv_at hl 0 rfl) ?_
  refine f_get (D := (dC, dI)) (ci := 11) (v := .ref f) (C := R_Asm) (T := F_Asm) (N := 4) hx hb hT in_Asm hown hK hP 0 rfl rfl 0 (by decide) fr_Asm_0 w_3_221 gF_0 d_Asm_assemble_1 ?_
  have hPc := hP.sub (ws' := [(f, .inr (1, S))]) [1] rfl
  have hDc := hD.sub (ws' := [(f, .inr (1, S))]) [1] (by decide) rfl
  have hFc := va_free (wc := [(f, .inr (1, S))]) hD hS hA [1] rfl
  refine va_callv (va_runV (C := R_Snk) (As := []) (rest := []) ⟨hx, hb, hml, hown, hT⟩ (c_Snk_forget l dC dI cI cB cJ cZ s.heap.size f S  nS) ⟨callB_of 0 hT (gw_in w_4_81) rfl rfl rfl (hT _ w_1_2) (hT _ w_7_80) (by decide +kernel) ⟨Nat.le_of_ble_eq_true rfl, Nat.le_of_ble_eq_true rfl⟩, hT _ w_4_79, hT _ w_4_80⟩ ⟨PC.blind, va_recv hK hPc (ci := 1) (q0 := 0) rfl rfl, PC.at _ hPc hDc hK hN⟩ rfl rfl hl.1 rfl (lv_room (Nat.le_of_ble_eq_true rfl)) d_Asm_assemble_4 ⟨show _ ≤ 0 by omega, show _ ≤ 0 by omega⟩) hS (fun q _ h => hFc q h) hFc (fun  u t H1 locs ht hvm hw hB hz1 hk1 hS => ?_)
  obtain ⟨hP1, hD1⟩ := hB
  rw [ht] at hP1
  obtain ⟨hP, hD⟩ := va_join (wr := [(h, .inr (11, F)), (c0, .inr (6, C))]) (w1 := [(f, .inr (1, (S.set 1 (.int 0)).set 2 (.int 0)))]) hP hD [1] [0, 2] rfl rfl (by decide) (by decide) hk1 hFc hP1 hD1
  generalize H1 = H at hP hS ⊢
  have hP : va_P (dC, dI) CL [(h, .inr (11, F)), (c0, .inr (6, C)), (f, .inr (1, (S.set 1 (.int 0)).set 2 (.int 0)))] H := hP
  have hD : va_D A [(h, .inr (11, F)), (c0, .inr (6, C)), (f, .inr (1, (S.set 1 (.int 0)).set 2 (.int 0)))] := hD
  refine lv_aload_n hx hb d_Asm_assemble_7 rfl (lv_at hl 0 rfl) ?_
  refine f_get (D := (dC, dI)) (ci := 11) (v := .ref c0) (C := R_Asm) (T := F_Asm) (N := 4) hx hb hT in_Asm hown hK hP 0 rfl rfl 1 (by decide) fr_Asm_1 w_3_223 gF_1 d_Asm_assemble_8 ?_
  refine f_get (D := (dC, dI)) (ci := 6) (v := .int 0) (C := R_Vlt) (T := F_Vlt) (N := 20) hx hb hT in_Vlt hown hK hP 1 rfl rfl 0 (by decide) fr_Vlt_0 w_2_121 gC_0 d_Asm_assemble_11 ?_
  refine lv_if_eq (tgt := 32) hx hb d_Asm_assemble_14 (by decide) (fun c1 => ?_) (fun c1 => by first | exact absurd c1 (by decide) | exact absurd (by decide) c1)
  refine lv_iconst (v := (-1)) hx hb d_Asm_assemble_32 (by decide) ?_
  exact W.iret (v := (-1)) hx hb hr (fun t ht hW => ⟨⟨(-1), (), rfl, rfl, by rw [ht]; exact hP, hD⟩, hS.F ht⟩) hS.2.2 d_Asm_assemble_33
end
