theorem fr_Opn_3 : F_Opn 3 = (R_Opn, "opens", "I", false) := rfl
theorem w_3_164 : (Jvm.Cond.fieldLink "StripedVault" (210 : Nat) "StripedVault$Answer" "wanted" "[Z") ∈ TG := tw_3 164 (by decide +kernel) (by decide +kernel)
theorem w_3_18 : (Jvm.Cond.fieldLink "StripedVault$Opener" (51 : Nat) "StripedVault$Opener" "opens" "I") ∈ TG := tw_3 18 (by decide +kernel) (by decide +kernel)
theorem w_6_74 : (Jvm.Cond.methodLink "StripedVault" (169 : Nat) ({ cls := "StripedVault$Opener", name := "lookAtFrame", desc := "([BI)I" } : Jvm.MethodName)) ∈ TG := tw_6 74 (by decide +kernel) (by decide +kernel)
theorem w_6_75 : (Jvm.Cond.instanceMethod ({ cls := "StripedVault$Opener", name := "lookAtFrame", desc := "([BI)I" } : Jvm.MethodName)) ∈ TG := tw_6 75 (by decide +kernel) (by decide +kernel)
theorem w_6_76 : (Jvm.Cond.selects "StripedVault$Opener" ({ cls := "StripedVault$Opener", name := "lookAtFrame", desc := "([BI)I" } : Jvm.MethodName) ({ cls := "StripedVault$Opener", name := "lookAtFrame", desc := "([BI)I" } : Jvm.MethodName)) ∈ TG := tw_6 76 (by decide +kernel) (by decide +kernel)
theorem w_6_77 : (Jvm.Cond.code ({ cls := "StripedVault$Opener", name := "lookAtFrame", desc := "([BI)I" } : Jvm.MethodName) prog_4_method_3_code (7 : Nat) (Option.some Jvm.ClassFile.FieldType.int)) ∈ TG := tw_6 77 (by decide +kernel) (by decide +kernel)
theorem w_6_78 : (Jvm.Cond.methodLink "StripedVault$Opener" (47 : Nat) ({ cls := "StripedVault$Opener", name := "lookAt", desc := "(III)V" } : Jvm.MethodName)) ∈ TG := tw_6 78 (by decide +kernel) (by decide +kernel)
theorem w_6_80 : (Jvm.Cond.instanceMethod ({ cls := "StripedVault$Opener", name := "lookAt", desc := "(III)V" } : Jvm.MethodName)) ∈ TG := tw_6 80 (by decide +kernel) (by decide +kernel)
theorem w_6_81 : (Jvm.Cond.code ({ cls := "StripedVault$Opener", name := "lookAt", desc := "(III)V" } : Jvm.MethodName) prog_4_method_2_code (4 : Nat) (Option.none : Option Jvm.ClassFile.FieldType)) ∈ TG := tw_6 81 (by decide +kernel) (by decide +kernel)
theorem ws_33 : Cond.selects R_Opn y_Opn_lookAt y_Opn_lookAt ∈ TG := tw_s 33 (by decide +kernel) (by decide +kernel)
theorem d_Opn_lookAt_0 : decode b_Opn_lookAt 0 = .ok (.aload_n 0, 1) := by decide +kernel
theorem d_Opn_lookAt_1 : decode b_Opn_lookAt 1 = .ok (.getfield 9, 3) := by decide +kernel
theorem d_Opn_lookAt_4 : decode b_Opn_lookAt 4 = .ok (.iconst 0, 1) := by decide +kernel
theorem d_Opn_lookAt_5 : decode b_Opn_lookAt 5 = .ok (.iload_n 1, 1) := by decide +kernel
theorem d_Opn_lookAt_6 : decode b_Opn_lookAt 6 = .ok (.iastore, 1) := by decide +kernel
theorem d_Opn_lookAt_7 : decode b_Opn_lookAt 7 = .ok (.aload_n 0, 1) := by decide +kernel
theorem d_Opn_lookAt_8 : decode b_Opn_lookAt 8 = .ok (.getfield 9, 3) := by decide +kernel
theorem d_Opn_lookAt_11 : decode b_Opn_lookAt 11 = .ok (.iconst 1, 1) := by decide +kernel
theorem d_Opn_lookAt_12 : decode b_Opn_lookAt 12 = .ok (.iload_n 2, 1) := by decide +kernel
theorem d_Opn_lookAt_13 : decode b_Opn_lookAt 13 = .ok (.iastore, 1) := by decide +kernel
theorem d_Opn_lookAt_14 : decode b_Opn_lookAt 14 = .ok (.aload_n 0, 1) := by decide +kernel
theorem d_Opn_lookAt_15 : decode b_Opn_lookAt 15 = .ok (.getfield 9, 3) := by decide +kernel
theorem d_Opn_lookAt_18 : decode b_Opn_lookAt 18 = .ok (.iconst 2, 1) := by decide +kernel
theorem d_Opn_lookAt_19 : decode b_Opn_lookAt 19 = .ok (.iload_n 3, 1) := by decide +kernel
theorem d_Opn_lookAt_20 : decode b_Opn_lookAt 20 = .ok (.iastore, 1) := by decide +kernel
theorem d_Opn_lookAt_21 : decode b_Opn_lookAt 21 = .ok (.return_, 1) := by decide +kernel
theorem d_Opn_lookAtFrame_0 : decode b_Opn_lookAtFrame 0 = .ok (.aload_n 0, 1) := by decide +kernel
theorem d_Opn_lookAtFrame_1 : decode b_Opn_lookAtFrame 1 = .ok (.iconst (-1), 1) := by decide +kernel
theorem d_Opn_lookAtFrame_2 : decode b_Opn_lookAtFrame 2 = .ok (.iconst (-1), 1) := by decide +kernel
theorem d_Opn_lookAtFrame_3 : decode b_Opn_lookAtFrame 3 = .ok (.iconst (-1), 1) := by decide +kernel
theorem d_Opn_lookAtFrame_4 : decode b_Opn_lookAtFrame 4 = .ok (.invokevirtual 47, 3) := by decide +kernel
theorem d_Opn_lookAtFrame_7 : decode b_Opn_lookAtFrame 7 = .ok (.aload_n 0, 1) := by decide +kernel
theorem d_Opn_lookAtFrame_8 : decode b_Opn_lookAtFrame 8 = .ok (.getfield 51, 3) := by decide +kernel
theorem d_Opn_lookAtFrame_11 : decode b_Opn_lookAtFrame 11 = .ok (.bipush 100, 2) := by decide +kernel
theorem d_Opn_lookAtFrame_13 : decode b_Opn_lookAtFrame 13 = .ok (.if_icmp .lt 6, 3) := by decide +kernel
theorem d_Opn_lookAtFrame_19 : decode b_Opn_lookAtFrame 19 = .ok (.aload_n 0, 1) := by decide +kernel
theorem d_Opn_lookAtFrame_20 : decode b_Opn_lookAtFrame 20 = .ok (.dup, 1) := by decide +kernel
theorem d_Opn_lookAtFrame_21 : decode b_Opn_lookAtFrame 21 = .ok (.getfield 51, 3) := by decide +kernel
theorem d_Opn_lookAtFrame_24 : decode b_Opn_lookAtFrame 24 = .ok (.iconst 1, 1) := by decide +kernel
theorem d_Opn_lookAtFrame_25 : decode b_Opn_lookAtFrame 25 = .ok (.iadd, 1) := by decide +kernel
theorem d_Opn_lookAtFrame_26 : decode b_Opn_lookAtFrame 26 = .ok (.putfield 51, 3) := by decide +kernel
theorem d_Opn_lookAtFrame_29 : decode b_Opn_lookAtFrame 29 = .ok (.iload_n 2, 1) := by decide +kernel
theorem d_Opn_lookAtFrame_30 : decode b_Opn_lookAtFrame 30 = .ok (.bipush 16, 2) := by decide +kernel
theorem d_Opn_lookAtFrame_32 : decode b_Opn_lookAtFrame 32 = .ok (.if_icmp .lt 9, 3) := by decide +kernel
theorem d_Opn_lookAtFrame_41 : decode b_Opn_lookAtFrame 41 = .ok (.bipush 13, 2) := by decide +kernel
theorem d_Opn_lookAtFrame_43 : decode b_Opn_lookAtFrame 43 = .ok (.ireturn, 1) := by decide +kernel
theorem d_V_open_0 : decode b_V_open 0 = .ok (.aload_n 0, 1) := by decide +kernel
theorem d_V_open_1 : decode b_V_open 1 = .ok (.getfield 59, 3) := by decide +kernel
theorem d_V_open_4 : decode b_V_open 4 = .ok (.iconst 0, 1) := by decide +kernel
theorem d_V_open_5 : decode b_V_open 5 = .ok (.putfield 163, 3) := by decide +kernel
theorem d_V_open_8 : decode b_V_open 8 = .ok (.aload_n 0, 1) := by decide +kernel
theorem d_V_open_9 : decode b_V_open 9 = .ok (.getfield 75, 3) := by decide +kernel
theorem d_V_open_12 : decode b_V_open 12 = .ok (.iconst 0, 1) := by decide +kernel
theorem d_V_open_13 : decode b_V_open 13 = .ok (.putfield 167, 3) := by decide +kernel
theorem d_V_open_16 : decode b_V_open 16 = .ok (.aload_n 0, 1) := by decide +kernel
theorem d_V_open_17 : decode b_V_open 17 = .ok (.getfield 85, 3) := by decide +kernel
theorem d_V_open_20 : decode b_V_open 20 = .ok (.iconst 0, 1) := by decide +kernel
theorem d_V_open_21 : decode b_V_open 21 = .ok (.putfield 168, 3) := by decide +kernel
theorem d_V_open_24 : decode b_V_open 24 = .ok (.aload_n 0, 1) := by decide +kernel
theorem d_V_open_25 : decode b_V_open 25 = .ok (.getfield 68, 3) := by decide +kernel
theorem d_V_open_28 : decode b_V_open 28 = .ok (.aload_n 0, 1) := by decide +kernel
theorem d_V_open_29 : decode b_V_open 29 = .ok (.getfield 22, 3) := by decide +kernel
theorem d_V_open_32 : decode b_V_open 32 = .ok (.getfield 116, 3) := by decide +kernel
theorem d_V_open_35 : decode b_V_open 35 = .ok (.aload_n 0, 1) := by decide +kernel
theorem d_V_open_36 : decode b_V_open 36 = .ok (.getfield 22, 3) := by decide +kernel
theorem d_V_open_39 : decode b_V_open 39 = .ok (.getfield 99, 3) := by decide +kernel
theorem d_V_open_42 : decode b_V_open 42 = .ok (.invokevirtual 169, 3) := by decide +kernel
theorem d_V_open_45 : decode b_V_open 45 = .ok (.istore_n 1, 1) := by decide +kernel
theorem d_V_open_46 : decode b_V_open 46 = .ok (.iload_n 1, 1) := by decide +kernel
theorem d_V_open_47 : decode b_V_open 47 = .ok (.ifCond .ne 11, 3) := by decide +kernel
theorem d_V_open_58 : decode b_V_open 58 = .ok (.iload_n 1, 1) := by decide +kernel
theorem d_V_open_59 : decode b_V_open 59 = .ok (.ifCond .ne 11, 3) := by decide +kernel
theorem d_V_open_70 : decode b_V_open 70 = .ok (.aload_n 0, 1) := by decide +kernel
theorem d_V_open_71 : decode b_V_open 71 = .ok (.getfield 59, 3) := by decide +kernel
theorem d_V_open_74 : decode b_V_open 74 = .ok (.iload_n 1, 1) := by decide +kernel
theorem d_V_open_75 : decode b_V_open 75 = .ok (.ifCond .ne 7, 3) := by decide +kernel
theorem d_V_open_82 : decode b_V_open 82 = .ok (.iconst 0, 1) := by decide +kernel
theorem d_V_open_83 : decode b_V_open 83 = .ok (.putfield 163, 3) := by decide +kernel
theorem d_V_open_86 : decode b_V_open 86 = .ok (.iload_n 1, 1) := by decide +kernel
theorem d_V_open_87 : decode b_V_open 87 = .ok (.ireturn, 1) := by decide +kernel
theorem d_V_answer_0 : decode b_V_answer 0 = .ok (.aload_n 0, 1) := by decide +kernel
theorem d_V_answer_1 : decode b_V_answer 1 = .ok (.getfield 95, 3) := by decide +kernel
theorem d_V_answer_4 : decode b_V_answer 4 = .ok (.aload_n 0, 1) := by decide +kernel
theorem d_V_answer_5 : decode b_V_answer 5 = .ok (.getfield 85, 3) := by decide +kernel
theorem d_V_answer_8 : decode b_V_answer 8 = .ok (.iload_n 1, 1) := by decide +kernel
theorem d_V_answer_9 : decode b_V_answer 9 = .ok (.invokevirtual 206, 3) := by decide +kernel
theorem d_V_answer_12 : decode b_V_answer 12 = .ok (.aload_n 0, 1) := by decide +kernel
theorem d_V_answer_13 : decode b_V_answer 13 = .ok (.getfield 85, 3) := by decide +kernel
theorem d_V_answer_16 : decode b_V_answer 16 = .ok (.getfield 210, 3) := by decide +kernel
theorem d_V_answer_19 : decode b_V_answer 19 = .ok (.invokevirtual 193, 3) := by decide +kernel
theorem d_V_answer_22 : decode b_V_answer 22 = .ok (.ireturn, 1) := by decide +kernel
theorem d_V_letter_0 : decode b_V_letter 0 = .ok (.aload_n 0, 1) := by decide +kernel
theorem d_V_letter_1 : decode b_V_letter 1 = .ok (.getfield 85, 3) := by decide +kernel
theorem d_V_letter_4 : decode b_V_letter 4 = .ok (.iload_n 1, 1) := by decide +kernel
theorem d_V_letter_5 : decode b_V_letter 5 = .ok (.iload_n 2, 1) := by decide +kernel
theorem d_V_letter_6 : decode b_V_letter 6 = .ok (.invokevirtual 214, 3) := by decide +kernel
theorem d_V_letter_9 : decode b_V_letter 9 = .ok (.istore 4, 2) := by decide +kernel
theorem d_V_letter_11 : decode b_V_letter 11 = .ok (.iload 4, 2) := by decide +kernel
theorem d_V_letter_13 : decode b_V_letter 13 = .ok (.iconst (-1), 1) := by decide +kernel
theorem d_V_letter_14 : decode b_V_letter 14 = .ok (.if_icmp .eq 38, 3) := by decide +kernel
theorem d_V_letter_52 : decode b_V_letter 52 = .ok (.iconst (-1), 1) := by decide +kernel
theorem d_V_letter_53 : decode b_V_letter 53 = .ok (.ireturn, 1) := by decide +kernel
section
variable (l : Launch) (dC : Nat → ClassId) (dI : Nat → Nat → Nat) (cI cB cJ cZ : ClassId)
set_option maxHeartbeats 4000000 in
set_option maxRecDepth 100000 in
/-- lookAt(k, i, j) -/
theorem c_Opn_lookAt (sz : Nat) (h : Nat) (F : List Value) (a : Nat) (g : Nat → Int32) (k i j : Int32) (nF : F.length = 17) (gF_4 : F[4]? = some (.ref a)) : Met l y_Opn_lookAt (wsOf y_Opn_lookAt b_Opn_lookAt 4 none) ({ frames := 0, cells := 0, slots := 0, locals := 0 }) (va_Pc [.ref h, .int k, .int i, .int j] (PC dC dI cI cB cJ cZ sz [(h, .inr (7, F)), (a, .inl (cI, 3, .inl g))])) (va_Qv (fun _ : Unit => True) (fun _ t => va_P (dC, dI) CL [(h, .inr (7, F)), (a, .inl (cI, 3, .inl (upd (upd (upd (g) (0 : Int32).toNatClampNeg k) (1 : Int32).toNatClampNeg i) (2 : Int32).toNatClampNeg j)))] t.heap ∧ va_D (va_A [(h, .inr (7, F)), (a, .inl (cI, 3, .inl g))] sz) [(h, .inr (7, F)), (a, .inl (cI, 3, .inl (upd (upd (upd (g) (0 : Int32).toNatClampNeg k) (1 : Int32).toNatClampNeg i) (2 : Int32).toNatClampNeg j)))]) (va_A [(h, .inr (7, F)), (a, .inl (cI, 3, .inl g))] sz)) 0 0 (va_A [(h, .inr (7, F)), (a, .inl (cI, 3, .inl g))] sz) := by
  refine Met.ofW (cc := b_Opn_lookAt) (maxL := 4) (ret := none) (by decide) rfl ?_
  intro p e s m args below meth c s₁ B hml hv
  obtain ⟨rfl, hsz, hP, hK, hD0, hN⟩ := hv
  have hx := B.exec
  have hb := B.bytes
  have hr := B.returns
  have hts := atoms_spec B.pre
  have hT : ∀ w ∈ TG, w.before _ s = true := fun w h => hts w (List.mem_cons_of_mem _ h)
  have hown : s.vm.findClass R_Opn = some m.cls := findClass_of_methodNamed B.named
  have hlocks := B.notSynchronized
  subst hsz
  have hD := hD0.self (sz := s.heap.size)
  generalize hAe : va_A [(h, .inr (7, F)), (a, .inl (cI, 3, .inl g))] s.heap.size = A at hD ⊢
  have hA : ∀ q : Nat, s.heap.size ≤ q → A q := fun q h => by rw [← hAe]; exact Or.inr h
  have hS : va_S A s.heap s.heap [] := va_S.rf
  have hl := lv_entry ([.ref h, .int k, .int i, .int j]) (n := 4) (Nat.le_of_ble_eq_true rfl)
  rw [lg_entry_eq]
  generalize (lg_sl ([.ref h, .int k, .int i, .int j]) ++ List.replicate (4 - (lg_sl ([.ref h, .int k, .int i, .int j])).length) Slot.unset).toArray = ls at hl ⊢
  have hl : lv_has ls 4 [(0, .ref h), (1, .int k), (2, .int i), (3, .int j)] := hl
  refine lv_aload_n hx hb d_Opn_lookAt_0 rfl (lv_at hl 0 rfl) ?_
  refine f_get (D := (dC, dI)) (ci := 7) (v := .ref a) (C := R_Opn) (T := F_Opn) (N := 17) hx hb hT in_Opn hown hK hP 0 rfl rfl 4 (by decide) fr_Opn_4 w_3_19 gF_4 d_Opn_lookAt_1 ?_
  refine lv_iconst (v := 0) hx hb d_Opn_lookAt_4 (by decide) ?_
  refine lv_iload_n hx hb d_Opn_lookAt_5 rfl (lv_at hl 1 rfl) ?_
  refine va_iast hx hb hK hP hD hS 1 0 rfl rfl (vp_lit (by decide)) d_Opn_lookAt_6 (fun H locs hP hD hS => ?_)
  have hP : va_P (dC, dI) CL [(h, .inr (7, F)), (a, .inl (cI, 3, .inl (upd (g) (0 : Int32).toNatClampNeg k)))] H := hP
  have hD : va_D A [(h, .inr (7, F)), (a, .inl (cI, 3, .inl (upd (g) (0 : Int32).toNatClampNeg k)))] := hD
  refine lv_aload_n hx hb d_Opn_lookAt_7 rfl (lv_at hl 0 rfl) ?_
  refine f_get (D := (dC, dI)) (ci := 7) (v := .ref a) (C := R_Opn) (T := F_Opn) (N := 17) hx hb hT in_Opn hown hK hP 0 rfl rfl 4 (by decide) fr_Opn_4 w_3_19 gF_4 d_Opn_lookAt_8 ?_
  refine lv_iconst (v := 1) hx hb d_Opn_lookAt_11 (by decide) ?_
  refine lv_iload_n hx hb d_Opn_lookAt_12 rfl (lv_at hl 2 rfl) ?_
  refine va_iast hx hb hK hP hD hS 1 0 rfl rfl (vp_lit (by decide)) d_Opn_lookAt_13 (fun H locs hP hD hS => ?_)
  have hP : va_P (dC, dI) CL [(h, .inr (7, F)), (a, .inl (cI, 3, .inl (upd (upd (g) (0 : Int32).toNatClampNeg k) (1 : Int32).toNatClampNeg i)))] H := hP
  have hD : va_D A [(h, .inr (7, F)), (a, .inl (cI, 3, .inl (upd (upd (g) (0 : Int32).toNatClampNeg k) (1 : Int32).toNatClampNeg i)))] := hD
  refine lv_aload_n hx hb d_Opn_lookAt_14 rfl (lv_at hl 0 rfl) ?_
  refine f_get (D := (dC, dI)) (ci := 7) (v := .ref a) (C := R_Opn) (T := F_Opn) (N := 17) hx hb hT in_Opn hown hK hP 0 rfl rfl 4 (by decide) fr_Opn_4 w_3_19 gF_4 d_Opn_lookAt_15 ?_
  refine lv_iconst (v := 2) hx hb d_Opn_lookAt_18 (by decide) ?_
  refine lv_iload_n hx hb d_Opn_lookAt_19 rfl (lv_at hl 3 rfl) ?_
  refine va_iast hx hb hK hP hD hS 1 0 rfl rfl (vp_lit (by decide)) d_Opn_lookAt_20 (fun H locs hP hD hS => ?_)
  have hP : va_P (dC, dI) CL [(h, .inr (7, F)), (a, .inl (cI, 3, .inl (upd (upd (upd (g) (0 : Int32).toNatClampNeg k) (1 : Int32).toNatClampNeg i) (2 : Int32).toNatClampNeg j)))] H := hP
  have hD : va_D A [(h, .inr (7, F)), (a, .inl (cI, 3, .inl (upd (upd (upd (g) (0 : Int32).toNatClampNeg k) (1 : Int32).toNatClampNeg i) (2 : Int32).toNatClampNeg j)))] := hD
  exact W.vret hx hb hr (fun t ht hW => ⟨⟨(), rfl, trivial, by rw [ht]; exact hP, hD⟩, hS.F ht⟩) hS.2.2 d_Opn_lookAt_21
set_option maxHeartbeats 4000000 in
set_option maxRecDepth 100000 in
/-- lookAtFrame of no bytes, the first time -/
theorem c_Opn_lookAtFrame_none (sz : Nat) (h : Nat) (F : List Value) (a y : Nat) (g : Nat → Int32) (nF : F.length = 17) (gF_4 : F[4]? = some (.ref a)) (gF_3 : F[3]? = some (.int 0)) : Met l y_Opn_lookAtFrame (wsOf y_Opn_lookAtFrame b_Opn_lookAtFrame 7 (some (.int))) ({ frames := 1, cells := 0, slots := 0, locals := 23 }) (va_Pc [.ref h, .ref y, .int 0] (PC dC dI cI cB cJ cZ sz [(h, .inr (7, F)), (a, .inl (cI, 3, .inl g))])) (va_Qi (fun (r : Int32) (_ : Unit) => r = 13) (fun _ t => va_P (dC, dI) CL [(h, .inr (7, F.set 3 (.int (0 + 1)))), (a, .inl (cI, 3, .inl (upd (upd (upd (g) (0 : Int32).toNatClampNeg (-1)) (1 : Int32).toNatClampNeg (-1)) (2 : Int32).toNatClampNeg (-1))))] t.heap ∧ va_D (va_A [(h, .inr (7, F)), (a, .inl (cI, 3, .inl g))] sz) [(h, .inr (7, F.set 3 (.int (0 + 1)))), (a, .inl (cI, 3, .inl (upd (upd (upd (g) (0 : Int32).toNatClampNeg (-1)) (1 : Int32).toNatClampNeg (-1)) (2 : Int32).toNatClampNeg (-1))))]) (va_A [(h, .inr (7, F)), (a, .inl (cI, 3, .inl g))] sz)) 0 0 (va_A [(h, .inr (7, F)), (a, .inl (cI, 3, .inl g))] sz) := by
  refine Met.ofW (cc := b_Opn_lookAtFrame) (maxL := 7) (ret := some (.int)) (by decide) rfl ?_
  intro p e s m args below meth c s₁ B hml hv
  obtain ⟨rfl, hsz, hP, hK, hD0, hN⟩ := hv
  have hx := B.exec
  have hb := B.bytes
  have hr := B.returns
  have hts := atoms_spec B.pre
  have hT : ∀ w ∈ TG, w.before _ s = true := fun w h => hts w (List.mem_cons_of_mem _ h)
  have hown : s.vm.findClass R_Opn = some m.cls := findClass_of_methodNamed B.named
  have hlocks := B.notSynchronized
  subst hsz
  have hD := hD0.self (sz := s.heap.size)
  generalize hAe : va_A [(h, .inr (7, F)), (a, .inl (cI, 3, .inl g))] s.heap.size = A at hD ⊢
  have hA : ∀ q : Nat, s.heap.size ≤ q → A q := fun q h => by rw [← hAe]; exact Or.inr h
  have hS : va_S A s.heap s.heap [] := va_S.rf
  have hl := lv_entry ([.ref h, .ref y, .int 0]) (n := 7) (Nat.le_of_ble_eq_true rfl)
  rw [lg_entry_eq]
  generalize (lg_sl ([.ref h, .ref y, .int 0]) ++ List.replicate (7 - (lg_sl ([.ref h, .ref y, .int 0])).length) Slot.unset).toArray = ls at hl ⊢
  have hl : lv_has ls 7 [(0, .ref h), (1, .ref y), (2, .int 0)] := hl
  refine lv_aload_n hx hb d_Opn_lookAtFrame_0 rfl (lv_at hl 0 rfl) ?_
  refine lv_iconst (v := (-1)) hx hb d_Opn_lookAtFrame_1 (by decide) ?_
  refine lv_iconst (v := (-1)) hx hb d_Opn_lookAtFrame_2 (by decide) ?_
  refine lv_iconst (v := (-1)) hx hb d_Opn_lookAtFrame_3 (by decide) ?_
  have hPc := hP.sub (ws' := [(h, .inr (7, F)), (a, .inl (cI, 3, .inl g))]) [0, 1] rfl
  have hDc := hD.sub (ws' := [(h, .inr (7, F)), (a, .inl (cI, 3, .inl g))]) [0, 1] (by decide) rfl
  have hFc := va_free (wc := [(h, .inr (7, F)), (a, .inl (cI, 3, .inl g))]) hD hS hA [0, 1] rfl
  refine va_callv (va_runV (C := R_Opn) (As := [.int (-1), .int (-1), .int (-1)]) (rest := []) ⟨hx, hb, hml, hown, hT⟩ (c_Opn_lookAt l dC dI cI cB cJ cZ s.heap.size h F a g (-1) (-1) (-1) nF gF_4) ⟨callB_of 3 hT (gw_in w_6_81) rfl rfl rfl (hT _ w_1_10) (hT _ w_6_78) (by decide +kernel) ⟨Nat.le_of_ble_eq_true rfl, Nat.le_of_ble_eq_true rfl⟩, hT _ w_6_80, hT _ ws_33⟩ ⟨PC.blind, va_recv hK hPc (ci := 7) (q0 := 0) rfl rfl, PC.at _ hPc hDc hK hN⟩ rfl rfl hl.1 rfl (lv_room (Nat.le_of_ble_eq_true rfl)) d_Opn_lookAtFrame_4 ⟨show _ ≤ 0 by omega, show _ ≤ 0 by omega⟩) hS (fun q _ h => hFc q h) hFc (fun  u t H1 locs ht hvm hw hB hz1 hk1 hS => ?_)
  obtain ⟨hP1, hD1⟩ := hB
  rw [ht] at hP1
  obtain ⟨hP, hD⟩ := va_join (wr := []) (w1 := [(h, .inr (7, F)), (a, .inl (cI, 3, .inl (upd (upd (upd (g) (0 : Int32).toNatClampNeg (-1)) (1 : Int32).toNatClampNeg (-1)) (2 : Int32).toNatClampNeg (-1))))]) hP hD [0, 1] [] rfl rfl (by decide) (by decide) hk1 hFc hP1 hD1
  generalize H1 = H at hP hS ⊢
  have hP : va_P (dC, dI) CL [(h, .inr (7, F)), (a, .inl (cI, 3, .inl (upd (upd (upd (g) (0 : Int32).toNatClampNeg (-1)) (1 : Int32).toNatClampNeg (-1)) (2 : Int32).toNatClampNeg (-1))))] H := hP
  have hD : va_D A [(h, .inr (7, F)), (a, .inl (cI, 3, .inl (upd (upd (upd (g) (0 : Int32).toNatClampNeg (-1)) (1 : Int32).toNatClampNeg (-1)) (2 : Int32).toNatClampNeg (-1))))] := hD
  refine lv_aload_n hx hb d_Opn_lookAtFrame_7 rfl (lv_at hl 0 rfl) ?_
  refine f_get (D := (dC, dI)) (ci := 7) (v := .int 0) (C := R_Opn) (T := F_Opn) (N := 17) hx hb hT in_Opn hown hK hP 0 rfl rfl 3 (by decide) fr_Opn_3 w_3_18 gF_3 d_Opn_lookAtFrame_8 ?_
  refine lv_bipush (v := 100) hx hb d_Opn_lookAtFrame_11 (by decide) ?_
  refine lv_icmp_lt (tgt := 19) hx hb d_Opn_lookAtFrame_13 (by decide) (fun c1 => ?_) (fun c1 => by first | exact absurd c1 (by decide) | exact absurd (by decide) c1)
  refine lv_aload_n hx hb d_Opn_lookAtFrame_19 rfl (lv_at hl 0 rfl) ?_
  refine lv_dup hx hb d_Opn_lookAtFrame_20 rfl ?_
  refine f_get (D := (dC, dI)) (ci := 7) (v := .int 0) (C := R_Opn) (T := F_Opn) (N := 17) hx hb hT in_Opn hown hK hP 0 rfl rfl 3 (by decide) fr_Opn_3 w_3_18 gF_3 d_Opn_lookAtFrame_21 ?_
  refine lv_iconst (v := 1) hx hb d_Opn_lookAtFrame_24 (by decide) ?_
  refine lv_iadd hx hb d_Opn_lookAtFrame_25 ?_
  refine f_put (D := (dC, dI)) (ci := 7) (v := .int (0 + 1)) (ty := .int) (C := R_Opn) (T := F_Opn) (N := 17) hx hb hT in_Opn t_Opn t_Opn_ok n_Opn hown hK hP hD hS 0 rfl rfl 3 (by decide) fr_Opn_3 w_3_18 (by decide +kernel) rfl rfl (by rw [nF]; decide) d_Opn_lookAtFrame_26 (fun H locs hP hD hS => ?_)
  have hP : va_P (dC, dI) CL [(h, .inr (7, F.set 3 (.int (0 + 1)))), (a, .inl (cI, 3, .inl (upd (upd (upd (g) (0 : Int32).toNatClampNeg (-1)) (1 : Int32).toNatClampNeg (-1)) (2 : Int32).toNatClampNeg (-1))))] H := hP
  have hD : va_D A [(h, .inr (7, F.set 3 (.int (0 + 1)))), (a, .inl (cI, 3, .inl (upd (upd (upd (g) (0 : Int32).toNatClampNeg (-1)) (1 : Int32).toNatClampNeg (-1)) (2 : Int32).toNatClampNeg (-1))))] := hD
  refine lv_iload_n hx hb d_Opn_lookAtFrame_29 rfl (lv_at hl 2 rfl) ?_
  refine lv_bipush (v := 16) hx hb d_Opn_lookAtFrame_30 (by decide) ?_
  refine lv_icmp_lt (tgt := 41) hx hb d_Opn_lookAtFrame_32 (by decide) (fun c1 => ?_) (fun c1 => by first | exact absurd c1 (by decide) | exact absurd (by decide) c1)
  refine lv_bipush (v := 13) hx hb d_Opn_lookAtFrame_41 (by decide) ?_
  exact W.iret (v := 13) hx hb hr (fun t ht hW => ⟨⟨13, (), rfl, rfl, by rw [ht]; exact hP, hD⟩, hS.F ht⟩) hS.2.2 d_Opn_lookAtFrame_43
set_option maxHeartbeats 4000000 in
set_option maxRecDepth 100000 in
/-- open() of an empty file, the first time -/
theorem c_V_open_none (sz : Nat) (h : Nat) (F : List Value) (v0 : Nat) (Vv : List Value) (q0 : Nat) (Qq : List Value) (a0 : Nat) (Aa : List Value) (o0 : Nat) (Oo : List Value) (f0 : Nat) (Ff : List Value) (a y : Nat) (g : Nat → Int32) (nF : F.length = 15) (gF_8 : F[8]? = some (.ref v0)) (gF_10 : F[10]? = some (.ref q0)) (gF_12 : F[12]? = some (.ref a0)) (gF_9 : F[9]? = some (.ref o0)) (gF_2 : F[2]? = some (.ref f0)) (nVv : Vv.length = 20) (nQq : Qq.length = 20) (nAa : Aa.length = 16) (nOo : Oo.length = 17) (gOo_4 : Oo[4]? = some (.ref a)) (gOo_3 : Oo[3]? = some (.int 0)) (nFf : Ff.length = 7) (gFf_0 : Ff[0]? = some (.ref y)) (gFf_1 : Ff[1]? = some (.int 0)) : Met l y_V_open (wsOf y_V_open b_V_open 2 (some (.int))) ({ frames := 2, cells := 0, slots := 0, locals := 49 }) (va_Pc [.ref h] (PC dC dI cI cB cJ cZ sz [(h, .inr (0, F)), (v0, .inr (6, Vv)), (q0, .inr (9, Qq)), (a0, .inr (10, Aa)), (o0, .inr (7, Oo)), (f0, .inr (1, Ff)), (a, .inl (cI, 3, .inl g))])) (va_Qi (fun (r : Int32) (_ : Unit) => r = 13) (fun _ t => va_P (dC, dI) CL [(h, .inr (0, F)), (v0, .inr (6, (Vv.set 0 (.int 0)).set 0 (.int 0))), (q0, .inr (9, Qq.set 0 (.int 0))), (a0, .inr (10, Aa.set 0 (.int 0))), (f0, .inr (1, Ff)), (o0, .inr (7, Oo.set 3 (.int (0 + 1)))), (a, .inl (cI, 3, .inl (upd (upd (upd (g) (0 : Int32).toNatClampNeg (-1)) (1 : Int32).toNatClampNeg (-1)) (2 : Int32).toNatClampNeg (-1))))] t.heap ∧ va_D (va_A [(h, .inr (0, F)), (v0, .inr (6, Vv)), (q0, .inr (9, Qq)), (a0, .inr (10, Aa)), (o0, .inr (7, Oo)), (f0, .inr (1, Ff)), (a, .inl (cI, 3, .inl g))] sz) [(h, .inr (0, F)), (v0, .inr (6, (Vv.set 0 (.int 0)).set 0 (.int 0))), (q0, .inr (9, Qq.set 0 (.int 0))), (a0, .inr (10, Aa.set 0 (.int 0))), (f0, .inr (1, Ff)), (o0, .inr (7, Oo.set 3 (.int (0 + 1)))), (a, .inl (cI, 3, .inl (upd (upd (upd (g) (0 : Int32).toNatClampNeg (-1)) (1 : Int32).toNatClampNeg (-1)) (2 : Int32).toNatClampNeg (-1))))]) (va_A [(h, .inr (0, F)), (v0, .inr (6, Vv)), (q0, .inr (9, Qq)), (a0, .inr (10, Aa)), (o0, .inr (7, Oo)), (f0, .inr (1, Ff)), (a, .inl (cI, 3, .inl g))] sz)) 0 0 (va_A [(h, .inr (0, F)), (v0, .inr (6, Vv)), (q0, .inr (9, Qq)), (a0, .inr (10, Aa)), (o0, .inr (7, Oo)), (f0, .inr (1, Ff)), (a, .inl (cI, 3, .inl g))] sz) := by
  refine Met.ofW (cc := b_V_open) (maxL := 2) (ret := some (.int)) (by decide) rfl ?_
  intro p e s m args below meth c s₁ B hml hv
  obtain ⟨rfl, hsz, hP, hK, hD0, hN⟩ := hv
  have hx := B.exec
  have hb := B.bytes
  have hr := B.returns
  have hts := atoms_spec B.pre
  have hT : ∀ w ∈ TG, w.before _ s = true := fun w h => hts w (List.mem_cons_of_mem _ h)
  have hown : s.vm.findClass R_V = some m.cls := findClass_of_methodNamed B.named
  have hlocks := B.notSynchronized
  subst hsz
  have hD := hD0.self (sz := s.heap.size)
  generalize hAe : va_A [(h, .inr (0, F)), (v0, .inr (6, Vv)), (q0, .inr (9, Qq)), (a0, .inr (10, Aa)), (o0, .inr (7, Oo)), (f0, .inr (1, Ff)), (a, .inl (cI, 3, .inl g))] s.heap.size = A at hD ⊢
  have hA : ∀ q : Nat, s.heap.size ≤ q → A q := fun q h => by rw [← hAe]; exact Or.inr h
  have hS : va_S A s.heap s.heap [] := va_S.rf
  have hl := lv_entry ([.ref h]) (n := 2) (Nat.le_of_ble_eq_true rfl)
  rw [lg_entry_eq]
  generalize (lg_sl ([.ref h]) ++ List.replicate (2 - (lg_sl ([.ref h])).length) Slot.unset).toArray = ls at hl ⊢
  have hl : lv_has ls 2 [(0, .ref h)] := hl
  refine lv_aload_n hx hb d_V_open_0 rfl (lv_at hl 0 rfl) ?_
  refine f_get (D := (dC, dI)) (ci := 0) (v := .ref v0) (C := R_V) (T := F_V) (N := 15) hx hb hT in_V hown hK hP 0 rfl rfl 8 (by decide) fr_V_8 w_4_3 gF_8 d_V_open_1 ?_
  refine lv_iconst (v := 0) hx hb d_V_open_4 (by decide) ?_
  refine f_put (D := (dC, dI)) (ci := 6) (v := .int 0) (ty := .boolean) (C := R_Vlt) (T := F_Vlt) (N := 20) hx hb hT in_Vlt t_Vlt t_Vlt_ok n_Vlt hown hK hP hD hS 1 rfl rfl 0 (by decide) fr_Vlt_0 w_2_122 (by decide +kernel) rfl rfl (by rw [nVv]; decide) d_V_open_5 (fun H locs hP hD hS => ?_)
  have hP : va_P (dC, dI) CL [(h, .inr (0, F)), (v0, .inr (6, Vv.set 0 (.int 0))), (q0, .inr (9, Qq)), (a0, .inr (10, Aa)), (o0, .inr (7, Oo)), (f0, .inr (1, Ff)), (a, .inl (cI, 3, .inl g))] H := hP
  have hD : va_D A [(h, .inr (0, F)), (v0, .inr (6, Vv.set 0 (.int 0))), (q0, .inr (9, Qq)), (a0, .inr (10, Aa)), (o0, .inr (7, Oo)), (f0, .inr (1, Ff)), (a, .inl (cI, 3, .inl g))] := hD
  refine lv_aload_n hx hb d_V_open_8 rfl (lv_at hl 0 rfl) ?_
  refine f_get (D := (dC, dI)) (ci := 0) (v := .ref q0) (C := R_V) (T := F_V) (N := 15) hx hb hT in_V hown hK hP 0 rfl rfl 10 (by decide) fr_V_10 w_4_5 gF_10 d_V_open_9 ?_
  refine lv_iconst (v := 0) hx hb d_V_open_12 (by decide) ?_
  refine f_put (D := (dC, dI)) (ci := 9) (v := .int 0) (ty := .boolean) (C := R_Qry) (T := F_Qry) (N := 20) hx hb hT in_Qry t_Qry t_Qry_ok n_Qry hown hK hP hD hS 2 rfl rfl 0 (by decide) fr_Qry_0 w_3_75 (by decide +kernel) rfl rfl (by rw [nQq]; decide) d_V_open_13 (fun H locs hP hD hS => ?_)
  have hP : va_P (dC, dI) CL [(h, .inr (0, F)), (v0, .inr (6, Vv.set 0 (.int 0))), (q0, .inr (9, Qq.set 0 (.int 0))), (a0, .inr (10, Aa)), (o0, .inr (7, Oo)), (f0, .inr (1, Ff)), (a, .inl (cI, 3, .inl g))] H := hP
  have hD : va_D A [(h, .inr (0, F)), (v0, .inr (6, Vv.set 0 (.int 0))), (q0, .inr (9, Qq.set 0 (.int 0))), (a0, .inr (10, Aa)), (o0, .inr (7, Oo)), (f0, .inr (1, Ff)), (a, .inl (cI, 3, .inl g))] := hD
  refine lv_aload_n hx hb d_V_open_16 rfl (lv_at hl 0 rfl) ?_
  refine f_get (D := (dC, dI)) (ci := 0) (v := .ref a0) (C := R_V) (T := F_V) (N := 15) hx hb hT in_V hown hK hP 0 rfl rfl 12 (by decide) fr_V_12 w_4_7 gF_12 d_V_open_17 ?_
  refine lv_iconst (v := 0) hx hb d_V_open_20 (by decide) ?_
  refine f_put (D := (dC, dI)) (ci := 10) (v := .int 0) (ty := .boolean) (C := R_Ans) (T := F_Ans) (N := 16) hx hb hT in_Ans t_Ans t_Ans_ok n_Ans hown hK hP hD hS 3 rfl rfl 0 (by decide) fr_Ans_0 w_3_156 (by decide +kernel) rfl rfl (by rw [nAa]; decide) d_V_open_21 (fun H locs hP hD hS => ?_)
  have hP : va_P (dC, dI) CL [(h, .inr (0, F)), (v0, .inr (6, Vv.set 0 (.int 0))), (q0, .inr (9, Qq.set 0 (.int 0))), (a0, .inr (10, Aa.set 0 (.int 0))), (o0, .inr (7, Oo)), (f0, .inr (1, Ff)), (a, .inl (cI, 3, .inl g))] H := hP
  have hD : va_D A [(h, .inr (0, F)), (v0, .inr (6, Vv.set 0 (.int 0))), (q0, .inr (9, Qq.set 0 (.int 0))), (a0, .inr (10, Aa.set 0 (.int 0))), (o0, .inr (7, Oo)), (f0, .inr (1, Ff)), (a, .inl (cI, 3, .inl g))] := hD
  refine lv_aload_n hx hb d_V_open_24 rfl (lv_at hl 0 rfl) ?_
  refine f_get (D := (dC, dI)) (ci := 0) (v := .ref o0) (C := R_V) (T := F_V) (N := 15) hx hb hT in_V hown hK hP 0 rfl rfl 9 (by decide) fr_V_9 w_4_4 gF_9 d_V_open_25 ?_
  refine lv_aload_n hx hb d_V_open_28 rfl (lv_at hl 0 rfl) ?_
  refine f_get (D := (dC, dI)) (ci := 0) (v := .ref f0) (C := R_V) (T := F_V) (N := 15) hx hb hT in_V hown hK hP 0 rfl rfl 2 (by decide) fr_V_2 w_3_237 gF_2 d_V_open_29 ?_
  refine f_get (D := (dC, dI)) (ci := 1) (v := .ref y) (C := R_Snk) (T := F_Snk) (N := 7) hx hb hT in_Snk hown hK hP 5 rfl rfl 0 (by decide) fr_Snk_0 w_1_42 gFf_0 d_V_open_32 ?_
  refine lv_aload_n hx hb d_V_open_35 rfl (lv_at hl 0 rfl) ?_
  refine f_get (D := (dC, dI)) (ci := 0) (v := .ref f0) (C := R_V) (T := F_V) (N := 15) hx hb hT in_V hown hK hP 0 rfl rfl 2 (by decide) fr_V_2 w_3_237 gF_2 d_V_open_36 ?_
  refine f_get (D := (dC, dI)) (ci := 1) (v := .int 0) (C := R_Snk) (T := F_Snk) (N := 7) hx hb hT in_Snk hown hK hP 5 rfl rfl 1 (by decide) fr_Snk_1 w_1_44 gFf_1 d_V_open_39 ?_
  have hPc := hP.sub (ws' := [(o0, .inr (7, Oo)), (a, .inl (cI, 3, .inl g))]) [4, 6] rfl
  have hDc := hD.sub (ws' := [(o0, .inr (7, Oo)), (a, .inl (cI, 3, .inl g))]) [4, 6] (by decide) rfl
  have hFc := va_free (wc := [(o0, .inr (7, Oo)), (a, .inl (cI, 3, .inl g))]) hD hS hA [4, 6] rfl
  refine va_calli (va_runV (C := R_Opn) (As := [.ref y, .int 0]) (rest := []) ⟨hx, hb, hml, hown, hT⟩ (c_Opn_lookAtFrame_none l dC dI cI cB cJ cZ H.size o0 Oo a y g nOo gOo_4 gOo_3) ⟨callB_of 2 hT (gw_in w_6_77) rfl rfl rfl (hT _ w_1_10) (hT _ w_6_74) (by decide +kernel) ⟨Nat.le_of_ble_eq_true rfl, Nat.le_of_ble_eq_true rfl⟩, hT _ w_6_75, hT _ w_6_76⟩ ⟨PC.blind, va_recv hK hPc (ci := 7) (q0 := 0) rfl rfl, PC.at _ hPc hDc hK hN⟩ rfl rfl hl.1 rfl (lv_room (Nat.le_of_ble_eq_true rfl)) d_V_open_42 ⟨show _ ≤ 0 by omega, show _ ≤ 0 by omega⟩) hS (fun q _ h => hFc q h) hFc (fun r1 u t H1 locs ht hvm hw hB hz1 hk1 hS => ?_)
  obtain ⟨hP1, hD1⟩ := hB
  have hw : 13 = r1 := Eq.symm hw
  subst hw
  rw [ht] at hP1
  obtain ⟨hP, hD⟩ := va_join (wr := [(h, .inr (0, F)), (v0, .inr (6, Vv.set 0 (.int 0))), (q0, .inr (9, Qq.set 0 (.int 0))), (a0, .inr (10, Aa.set 0 (.int 0))), (f0, .inr (1, Ff))]) (w1 := [(o0, .inr (7, Oo.set 3 (.int (0 + 1)))), (a, .inl (cI, 3, .inl (upd (upd (upd (g) (0 : Int32).toNatClampNeg (-1)) (1 : Int32).toNatClampNeg (-1)) (2 : Int32).toNatClampNeg (-1))))]) hP hD [4, 6] [0, 1, 2, 3, 5] rfl rfl (by decide) (by decide) hk1 hFc hP1 hD1
  generalize H1 = H at hP hS ⊢
  have hP : va_P (dC, dI) CL [(h, .inr (0, F)), (v0, .inr (6, Vv.set 0 (.int 0))), (q0, .inr (9, Qq.set 0 (.int 0))), (a0, .inr (10, Aa.set 0 (.int 0))), (f0, .inr (1, Ff)), (o0, .inr (7, Oo.set 3 (.int (0 + 1)))), (a, .inl (cI, 3, .inl (upd (upd (upd (g) (0 : Int32).toNatClampNeg (-1)) (1 : Int32).toNatClampNeg (-1)) (2 : Int32).toNatClampNeg (-1))))] H := hP
  have hD : va_D A [(h, .inr (0, F)), (v0, .inr (6, Vv.set 0 (.int 0))), (q0, .inr (9, Qq.set 0 (.int 0))), (a0, .inr (10, Aa.set 0 (.int 0))), (f0, .inr (1, Ff)), (o0, .inr (7, Oo.set 3 (.int (0 + 1)))), (a, .inl (cI, 3, .inl (upd (upd (upd (g) (0 : Int32).toNatClampNeg (-1)) (1 : Int32).toNatClampNeg (-1)) (2 : Int32).toNatClampNeg (-1))))] := hD
  refine lv_istore_n (lv' := [(1, .int 13), (0, .ref h)]) hx hb d_V_open_45 rfl hl (by decide) rfl (fun ls hl => ?_)
  refine lv_iload_n hx hb d_V_open_46 rfl (lv_at hl 0 rfl) ?_
  refine lv_if_ne (tgt := 58) hx hb d_V_open_47 (by decide) (fun c1 => ?_) (fun c1 => by first | exact absurd c1 (by decide) | exact absurd (by decide) c1)
  refine lv_iload_n hx hb d_V_open_58 rfl (lv_at hl 0 rfl) ?_
  refine lv_if_ne (tgt := 70) hx hb d_V_open_59 (by decide) (fun c1 => ?_) (fun c1 => by first | exact absurd c1 (by decide) | exact absurd (by decide) c1)
  refine lv_aload_n hx hb d_V_open_70 rfl (lv_at hl 1 rfl) ?_
  refine f_get (D := (dC, dI)) (ci := 0) (v := .ref v0) (C := R_V) (T := F_V) (N := 15) hx hb hT in_V hown hK hP 0 rfl rfl 8 (by decide) fr_V_8 w_4_3 gF_8 d_V_open_71 ?_
  refine lv_iload_n hx hb d_V_open_74 rfl (lv_at hl 0 rfl) ?_
  refine lv_if_ne (tgt := 82) hx hb d_V_open_75 (by decide) (fun c1 => ?_) (fun c1 => by first | exact absurd c1 (by decide) | exact absurd (by decide) c1)
  refine lv_iconst (v := 0) hx hb d_V_open_82 (by decide) ?_
  refine f_put (D := (dC, dI)) (ci := 6) (v := .int 0) (ty := .boolean) (C := R_Vlt) (T := F_Vlt) (N := 20) hx hb hT in_Vlt t_Vlt t_Vlt_ok n_Vlt hown hK hP hD hS 1 rfl rfl 0 (by decide) fr_Vlt_0 w_2_122 (by decide +kernel) rfl rfl (by rw [List.length_set]; exact (by rw [nVv]; decide)) d_V_open_83 (fun H locs hP hD hS => ?_)
  have hP : va_P (dC, dI) CL [(h, .inr (0, F)), (v0, .inr (6, (Vv.set 0 (.int 0)).set 0 (.int 0))), (q0, .inr (9, Qq.set 0 (.int 0))), (a0, .inr (10, Aa.set 0 (.int 0))), (f0, .inr (1, Ff)), (o0, .inr (7, Oo.set 3 (.int (0 + 1)))), (a, .inl (cI, 3, .inl (upd (upd (upd (g) (0 : Int32).toNatClampNeg (-1)) (1 : Int32).toNatClampNeg (-1)) (2 : Int32).toNatClampNeg (-1))))] H := hP
  have hD : va_D A [(h, .inr (0, F)), (v0, .inr (6, (Vv.set 0 (.int 0)).set 0 (.int 0))), (q0, .inr (9, Qq.set 0 (.int 0))), (a0, .inr (10, Aa.set 0 (.int 0))), (f0, .inr (1, Ff)), (o0, .inr (7, Oo.set 3 (.int (0 + 1)))), (a, .inl (cI, 3, .inl (upd (upd (upd (g) (0 : Int32).toNatClampNeg (-1)) (1 : Int32).toNatClampNeg (-1)) (2 : Int32).toNatClampNeg (-1))))] := hD
  refine lv_iload_n hx hb d_V_open_86 rfl (lv_at hl 0 rfl) ?_
  exact W.iret (v := 13) hx hb hr (fun t ht hW => ⟨⟨13, (), rfl, rfl, by rw [ht]; exact hP, hD⟩, hS.F ht⟩) hS.2.2 d_V_open_87
set_option maxHeartbeats 4000000 in
set_option maxRecDepth 100000 in
/-- answer(k) with nothing open -/
theorem c_V_answer_none (sz : Nat) (h : Nat) (F : List Value) (b0 : Nat) (Bb : List Value) (f0 : Nat) (S : List Value) (v0 : Nat) (C : List Value) (a0 : Nat) (Aa : List Value) (a y z : Nat) (g : Nat → Int32) (rd cl n k : Int32) (nF : F.length = 15) (gF_14 : F[14]? = some (.ref b0)) (gF_12 : F[12]? = some (.ref a0)) (nBb : Bb.length = 4) (gBb_0 : Bb[0]? = some (.ref f0)) (gBb_1 : Bb[1]? = some (.ref v0)) (nS : S.length = 7) (nC : C.length = 20) (gC_0 : C[0]? = some (.int 0)) (nAa : Aa.length = 16) (gAa_0 : Aa[0]? = some (.int rd)) (gAa_6 : Aa[6]? = some (.int cl)) (gAa_1 : Aa[1]? = some (.int n)) (gAa_5 : Aa[5]? = some (.ref a)) (gAa_4 : Aa[4]? = some (.ref y)) (hn : n.toInt ≤ z) : Met l y_V_answer (wsOf y_V_answer b_V_answer 2 (some (.int))) ({ frames := 2, cells := 0, slots := 0, locals := 47 }) (va_Pc [.ref h, .int k] (PC dC dI cI cB cJ cZ sz [(h, .inr (0, F)), (b0, .inr (11, Bb)), (f0, .inr (1, S)), (v0, .inr (6, C)), (a0, .inr (10, Aa)), (a, .inl (cI, z, .inl g))])) (va_Qi (fun (r : Int32) (_ : Unit) => r = (-1)) (fun _ t => va_P (dC, dI) CL [(h, .inr (0, F)), (a0, .inr (10, Aa)), (a, .inl (cI, z, .inl g)), (b0, .inr (11, Bb)), (v0, .inr (6, C)), (f0, .inr (1, (S.set 1 (.int 0)).set 2 (.int 0)))] t.heap ∧ va_D (va_A [(h, .inr (0, F)), (b0, .inr (11, Bb)), (f0, .inr (1, S)), (v0, .inr (6, C)), (a0, .inr (10, Aa)), (a, .inl (cI, z, .inl g))] sz) [(h, .inr (0, F)), (a0, .inr (10, Aa)), (a, .inl (cI, z, .inl g)), (b0, .inr (11, Bb)), (v0, .inr (6, C)), (f0, .inr (1, (S.set 1 (.int 0)).set 2 (.int 0)))]) (va_A [(h, .inr (0, F)), (b0, .inr (11, Bb)), (f0, .inr (1, S)), (v0, .inr (6, C)), (a0, .inr (10, Aa)), (a, .inl (cI, z, .inl g))] sz)) 0 0 (va_A [(h, .inr (0, F)), (b0, .inr (11, Bb)), (f0, .inr (1, S)), (v0, .inr (6, C)), (a0, .inr (10, Aa)), (a, .inl (cI, z, .inl g))] sz) := by
  refine Met.ofW (cc := b_V_answer) (maxL := 2) (ret := some (.int)) (by decide) rfl ?_
  intro p e s m args below meth c s₁ B hml hv
  obtain ⟨rfl, hsz, hP, hK, hD0, hN⟩ := hv
  have hx := B.exec
  have hb := B.bytes
  have hr := B.returns
  have hts := atoms_spec B.pre
  have hT : ∀ w ∈ TG, w.before _ s = true := fun w h => hts w (List.mem_cons_of_mem _ h)
  have hown : s.vm.findClass R_V = some m.cls := findClass_of_methodNamed B.named
  have hlocks := B.notSynchronized
  subst hsz
  have hD := hD0.self (sz := s.heap.size)
  generalize hAe : va_A [(h, .inr (0, F)), (b0, .inr (11, Bb)), (f0, .inr (1, S)), (v0, .inr (6, C)), (a0, .inr (10, Aa)), (a, .inl (cI, z, .inl g))] s.heap.size = A at hD ⊢
  have hA : ∀ q : Nat, s.heap.size ≤ q → A q := fun q h => by rw [← hAe]; exact Or.inr h
  have hS : va_S A s.heap s.heap [] := va_S.rf
  have hl := lv_entry ([.ref h, .int k]) (n := 2) (Nat.le_of_ble_eq_true rfl)
  rw [lg_entry_eq]
  generalize (lg_sl ([.ref h, .int k]) ++ List.replicate (2 - (lg_sl ([.ref h, .int k])).length) Slot.unset).toArray = ls at hl ⊢
  have hl : lv_has ls 2 [(0, .ref h), (1, .int k)] := hl
  refine lv_aload_n hx hb d_V_answer_0 rfl (lv_at hl 0 rfl) ?_
  refine f_get (D := (dC, dI)) (ci := 0) (v := .ref b0) (C := R_V) (T := F_V) (N := 15) hx hb hT in_V hown hK hP 0 rfl rfl 14 (by decide) fr_V_14 w_4_9 gF_14 d_V_answer_1 ?_
  refine lv_aload_n hx hb d_V_answer_4 rfl (lv_at hl 0 rfl) ?_
  refine f_get (D := (dC, dI)) (ci := 0) (v := .ref a0) (C := R_V) (T := F_V) (N := 15) hx hb hT in_V hown hK hP 0 rfl rfl 12 (by decide) fr_V_12 w_4_7 gF_12 d_V_answer_5 ?_
  refine lv_iload_n hx hb d_V_answer_8 rfl (lv_at hl 1 rfl) ?_
  have hPc := hP.sub (ws' := [(a0, .inr (10, Aa)), (a, .inl (cI, z, .inl g))]) [4, 5] rfl
  have hDc := hD.sub (ws' := [(a0, .inr (10, Aa)), (a, .inl (cI, z, .inl g))]) [4, 5] (by decide) rfl
  have hFc := va_free (wc := [(a0, .inr (10, Aa)), (a, .inl (cI, z, .inl g))]) hD hS hA [4, 5] rfl
  refine va_calli (va_runV (C := R_Ans) (As := [.int k]) (rest := [.ref b0]) ⟨hx, hb, hml, hown, hT⟩ (c_Ans_rowAt l dC dI cI cB cJ cZ s.heap.size a0 Aa a z g rd cl k n nAa gAa_0 gAa_6 gAa_1 gAa_5 hn) ⟨callB_of 1 hT (gw_in w_8_138) rfl rfl rfl (hT _ w_1_13) (hT _ w_8_135) (by decide +kernel) ⟨Nat.le_of_ble_eq_true rfl, Nat.le_of_ble_eq_true rfl⟩, hT _ w_8_136, hT _ w_8_137⟩ ⟨PC.blind, va_recv hK hPc (ci := 10) (q0 := 0) rfl rfl, PC.at _ hPc hDc hK hN⟩ rfl rfl hl.1 rfl (lv_room (Nat.le_of_ble_eq_true rfl)) d_V_answer_9 ⟨show _ ≤ 0 by omega, show _ ≤ 0 by omega⟩) hS (fun q _ h => hFc q h) hFc (fun r1 u t H1 locs ht hvm hw hB hz1 hk1 hS => ?_)
  obtain ⟨hP1, hD1⟩ := hB
  have hw : sp_rowAt rd cl k n (g k.toNatClampNeg) = r1 := Eq.symm hw
  subst hw
  rw [ht] at hP1
  obtain ⟨hP, hD⟩ := va_join (wr := [(h, .inr (0, F)), (b0, .inr (11, Bb)), (f0, .inr (1, S)), (v0, .inr (6, C))]) (w1 := [(a0, .inr (10, Aa)), (a, .inl (cI, z, .inl g))]) hP hD [4, 5] [0, 1, 2, 3] rfl rfl (by decide) (by decide) hk1 hFc hP1 hD1
  generalize H1 = H at hP hS ⊢
  have hP : va_P (dC, dI) CL [(h, .inr (0, F)), (b0, .inr (11, Bb)), (f0, .inr (1, S)), (v0, .inr (6, C)), (a0, .inr (10, Aa)), (a, .inl (cI, z, .inl g))] H := hP
  have hD : va_D A [(h, .inr (0, F)), (b0, .inr (11, Bb)), (f0, .inr (1, S)), (v0, .inr (6, C)), (a0, .inr (10, Aa)), (a, .inl (cI, z, .inl g))] := hD
  refine lv_aload_n hx hb d_V_answer_12 rfl (lv_at hl 0 rfl) ?_
  refine f_get (D := (dC, dI)) (ci := 0) (v := .ref a0) (C := R_V) (T := F_V) (N := 15) hx hb hT in_V hown hK hP 0 rfl rfl 12 (by decide) fr_V_12 w_4_7 gF_12 d_V_answer_13 ?_
  refine f_get (D := (dC, dI)) (ci := 10) (v := .ref y) (C := R_Ans) (T := F_Ans) (N := 16) hx hb hT in_Ans hown hK hP 4 rfl rfl 4 (by decide) fr_Ans_4 w_3_164 gAa_4 d_V_answer_16 ?_
  have hPc := hP.sub (ws' := [(b0, .inr (11, Bb)), (f0, .inr (1, S)), (v0, .inr (6, C))]) [1, 2, 3] rfl
  have hDc := hD.sub (ws' := [(b0, .inr (11, Bb)), (f0, .inr (1, S)), (v0, .inr (6, C))]) [1, 2, 3] (by decide) rfl
  have hFc := va_free (wc := [(b0, .inr (11, Bb)), (f0, .inr (1, S)), (v0, .inr (6, C))]) hD hS hA [1, 2, 3] rfl
  refine va_calli (va_runV (C := R_Asm) (As := [.int (sp_rowAt rd cl k n (g k.toNatClampNeg)), .ref y]) (rest := []) ⟨hx, hb, hml, hown, hT⟩ (c_Asm_assemble_noneW l dC dI cI cB cJ cZ H.size b0 Bb f0 S v0 C (sp_rowAt rd cl k n (g k.toNatClampNeg)) y nBb gBb_0 gBb_1 nS nC gC_0) ⟨callB_of 2 hT (gw_in w_7_79) rfl rfl rfl (hT _ w_1_14) (hT _ w_7_76) (by decide +kernel) ⟨Nat.le_of_ble_eq_true rfl, Nat.le_of_ble_eq_true rfl⟩, hT _ w_7_77, hT _ w_7_78⟩ ⟨PC.blind, va_recv hK hPc (ci := 11) (q0 := 0) rfl rfl, PC.at _ hPc hDc hK hN⟩ rfl rfl hl.1 rfl (lv_room (Nat.le_of_ble_eq_true rfl)) d_V_answer_19 ⟨show _ ≤ 0 by omega, show _ ≤ 0 by omega⟩) hS (fun q _ h => hFc q h) hFc (fun r2 u t H1 locs ht hvm hw hB hz1 hk1 hS => ?_)
  obtain ⟨hP1, hD1⟩ := hB
  have hw : (-1) = r2 := Eq.symm hw
  subst hw
  rw [ht] at hP1
  obtain ⟨hP, hD⟩ := va_join (wr := [(h, .inr (0, F)), (a0, .inr (10, Aa)), (a, .inl (cI, z, .inl g))]) (w1 := [(b0, .inr (11, Bb)), (v0, .inr (6, C)), (f0, .inr (1, (S.set 1 (.int 0)).set 2 (.int 0)))]) hP hD [1, 2, 3] [0, 4, 5] rfl rfl (by decide) (by decide) hk1 hFc hP1 hD1
  generalize H1 = H at hP hS ⊢
  have hP : va_P (dC, dI) CL [(h, .inr (0, F)), (a0, .inr (10, Aa)), (a, .inl (cI, z, .inl g)), (b0, .inr (11, Bb)), (v0, .inr (6, C)), (f0, .inr (1, (S.set 1 (.int 0)).set 2 (.int 0)))] H := hP
  have hD : va_D A [(h, .inr (0, F)), (a0, .inr (10, Aa)), (a, .inl (cI, z, .inl g)), (b0, .inr (11, Bb)), (v0, .inr (6, C)), (f0, .inr (1, (S.set 1 (.int 0)).set 2 (.int 0)))] := hD
  exact W.iret (v := (-1)) hx hb hr (fun t ht hW => ⟨⟨(-1), (), rfl, rfl, by rw [ht]; exact hP, hD⟩, hS.F ht⟩) hS.2.2 d_V_answer_22
set_option maxHeartbeats 4000000 in
set_option maxRecDepth 100000 in
/-- letter(k, i, j) without an answer -/
theorem c_V_letter_none (sz : Nat) (h : Nat) (F : List Value) (a0 : Nat) (Aa : List Value) (cl n w k i j : Int32) (nF : F.length = 15) (gF_12 : F[12]? = some (.ref a0)) (nAa : Aa.length = 16) (gAa_0 : Aa[0]? = some (.int 0)) (gAa_6 : Aa[6]? = some (.int cl)) (gAa_1 : Aa[1]? = some (.int n)) (gAa_7 : Aa[7]? = some (.int w)) : Met l y_V_letter (wsOf y_V_letter b_V_letter 5 (some (.int))) ({ frames := 1, cells := 0, slots := 0, locals := 23 }) (va_Pc [.ref h, .int k, .int i, .int j] (PC dC dI cI cB cJ cZ sz [(h, .inr (0, F)), (a0, .inr (10, Aa))])) (va_Qi (fun (r : Int32) (_ : Unit) => r = (-1)) (fun _ t => va_P (dC, dI) CL [(h, .inr (0, F)), (a0, .inr (10, Aa))] t.heap ∧ va_D (va_A [(h, .inr (0, F)), (a0, .inr (10, Aa))] sz) [(h, .inr (0, F)), (a0, .inr (10, Aa))]) (va_A [(h, .inr (0, F)), (a0, .inr (10, Aa))] sz)) 0 0 (va_A [(h, .inr (0, F)), (a0, .inr (10, Aa))] sz) := by
  refine Met.ofW (cc := b_V_letter) (maxL := 5) (ret := some (.int)) (by decide) rfl ?_
  intro p e s m args below meth c s₁ B hml hv
  obtain ⟨rfl, hsz, hP, hK, hD0, hN⟩ := hv
  have hx := B.exec
  have hb := B.bytes
  have hr := B.returns
  have hts := atoms_spec B.pre
  have hT : ∀ w ∈ TG, w.before _ s = true := fun w h => hts w (List.mem_cons_of_mem _ h)
  have hown : s.vm.findClass R_V = some m.cls := findClass_of_methodNamed B.named
  have hlocks := B.notSynchronized
  subst hsz
  have hD := hD0.self (sz := s.heap.size)
  generalize hAe : va_A [(h, .inr (0, F)), (a0, .inr (10, Aa))] s.heap.size = A at hD ⊢
  have hA : ∀ q : Nat, s.heap.size ≤ q → A q := fun q h => by rw [← hAe]; exact Or.inr h
  have hS : va_S A s.heap s.heap [] := va_S.rf
  have hl := lv_entry ([.ref h, .int k, .int i, .int j]) (n := 5) (Nat.le_of_ble_eq_true rfl)
  rw [lg_entry_eq]
  generalize (lg_sl ([.ref h, .int k, .int i, .int j]) ++ List.replicate (5 - (lg_sl ([.ref h, .int k, .int i, .int j])).length) Slot.unset).toArray = ls at hl ⊢
  have hl : lv_has ls 5 [(0, .ref h), (1, .int k), (2, .int i), (3, .int j)] := hl
  refine lv_aload_n hx hb d_V_letter_0 rfl (lv_at hl 0 rfl) ?_
  refine f_get (D := (dC, dI)) (ci := 0) (v := .ref a0) (C := R_V) (T := F_V) (N := 15) hx hb hT in_V hown hK hP 0 rfl rfl 12 (by decide) fr_V_12 w_4_7 gF_12 d_V_letter_1 ?_
  refine lv_iload_n hx hb d_V_letter_4 rfl (lv_at hl 1 rfl) ?_
  refine lv_iload_n hx hb d_V_letter_5 rfl (lv_at hl 2 rfl) ?_
  have hPc := hP.sub (ws' := [(a0, .inr (10, Aa))]) [1] rfl
  have hDc := hD.sub (ws' := [(a0, .inr (10, Aa))]) [1] (by decide) rfl
  have hFc := va_free (wc := [(a0, .inr (10, Aa))]) hD hS hA [1] rfl
  refine va_calli (va_runV (C := R_Ans) (As := [.int k, .int i]) (rest := []) ⟨hx, hb, hml, hown, hT⟩ (c_Ans_placeOf l dC dI cI cB cJ cZ s.heap.size a0 Aa 0 cl k n i w nAa gAa_0 gAa_6 gAa_1 gAa_7) ⟨callB_of 2 hT (gw_in w_8_150) rfl rfl rfl (hT _ w_1_13) (hT _ w_8_147) (by decide +kernel) ⟨Nat.le_of_ble_eq_true rfl, Nat.le_of_ble_eq_true rfl⟩, hT _ w_8_148, hT _ w_8_149⟩ ⟨PC.blind, va_recv hK hPc (ci := 10) (q0 := 0) rfl rfl, PC.at _ hPc hDc hK hN⟩ rfl rfl hl.1 rfl (lv_room (Nat.le_of_ble_eq_true rfl)) d_V_letter_6 ⟨show _ ≤ 0 by omega, show _ ≤ 0 by omega⟩) hS (fun q _ h => hFc q h) hFc (fun r1 u t H1 locs ht hvm hw hB hz1 hk1 hS => ?_)
  obtain ⟨hP1, hD1⟩ := hB
  have hw : sp_place 0 cl k n i w = r1 := Eq.symm hw
  subst hw
  rw [ht] at hP1
  obtain ⟨hP, hD⟩ := va_join (wr := [(h, .inr (0, F))]) (w1 := [(a0, .inr (10, Aa))]) hP hD [1] [0] rfl rfl (by decide) (by decide) hk1 hFc hP1 hD1
  generalize H1 = H at hP hS ⊢
  have hP : va_P (dC, dI) CL [(h, .inr (0, F)), (a0, .inr (10, Aa))] H := hP
  have hD : va_D A [(h, .inr (0, F)), (a0, .inr (10, Aa))] := hD
  refine lv_istore (lv' := [(4, .int (sp_place 0 cl k n i w)), (0, .ref h), (1, .int k), (2, .int i), (3, .int j)]) hx hb d_V_letter_9 hl (by decide) rfl (fun ls hl => ?_)
  refine lv_iload hx hb d_V_letter_11 (lv_at hl 0 rfl) ?_
  refine lv_iconst (v := (-1)) hx hb d_V_letter_13 (by decide) ?_
  refine lv_icmp_eq (tgt := 52) hx hb d_V_letter_14 (by decide) (fun c1 => ?_) (fun c1 => absurd (by simp [sp_place]) c1)
  refine lv_iconst (v := (-1)) hx hb d_V_letter_52 (by decide) ?_
  exact W.iret (v := (-1)) hx hb hr (fun t ht hW => ⟨⟨(-1), (), rfl, rfl, by rw [ht]; exact hP, hD⟩, hS.F ht⟩) hS.2.2 d_V_letter_53
end
