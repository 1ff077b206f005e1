theorem w_1_28 : (Jvm.Cond.instanceMethod ({ cls := "java/lang/Object", name := "<init>", desc := "()V" } : Jvm.MethodName)) ∈ TG := tw_1 28 (by decide +kernel) (by decide +kernel)
theorem w_1_3 : (Jvm.Cond.initialized "java/lang/Math") ∈ TG := tw_1 3 (by decide +kernel) (by decide +kernel)
theorem w_1_36 : (Jvm.Cond.methodLink "StripedVault$Sink" (3 : Nat) ({ cls := "java/lang/Object", name := "<init>", desc := "()V" } : Jvm.MethodName)) ∈ TG := tw_1 36 (by decide +kernel) (by decide +kernel)
theorem w_1_37 : (Jvm.Cond.methodLink "StripedVault$Sink" (19 : Nat) ({ cls := "java/lang/Math", name := "min", desc := "(II)I" } : Jvm.MethodName)) ∈ TG := tw_1 37 (by decide +kernel) (by decide +kernel)
theorem w_1_38 : (Jvm.Cond.static ({ cls := "java/lang/Math", name := "min", desc := "(II)I" } : Jvm.MethodName)) ∈ TG := tw_1 38 (by decide +kernel) (by decide +kernel)
theorem w_1_39 : (Jvm.Cond.code ({ cls := "java/lang/Math", name := "min", desc := "(II)I" } : Jvm.MethodName) prog_17_method_69_code (2 : Nat) (Option.some Jvm.ClassFile.FieldType.int)) ∈ TG := tw_1 39 (by decide +kernel) (by decide +kernel)
theorem w_1_40 : (Jvm.Cond.fieldLink "StripedVault$Sink" (25 : Nat) "StripedVault$Sink" "bytes" "[B") ∈ TG := tw_1 40 (by decide +kernel) (by decide +kernel)
theorem w_1_50 : (Jvm.Cond.fieldLink "StripedVault$Sink" (15 : Nat) "StripedVault$Sink" "room" "I") ∈ TG := tw_1 50 (by decide +kernel) (by decide +kernel)
theorem w_1_51 : (Jvm.Cond.fieldLink "StripedVault$Sink" (9 : Nat) "StripedVault$Sink" "widths" "[I") ∈ TG := tw_1 51 (by decide +kernel) (by decide +kernel)
theorem w_1_69 : (Jvm.Cond.arrayClass Jvm.ClassFile.FieldType.int) ∈ TG := tw_1 69 (by decide +kernel) (by decide +kernel)
theorem w_1_70 : (Jvm.Cond.arrayClass Jvm.ClassFile.FieldType.byte) ∈ TG := tw_1 70 (by decide +kernel) (by decide +kernel)
theorem w_obj : Cond.code objectInit ⟨#[0xb1]⟩ 1 none ∈ TG := tw_1 29 (by decide +kernel) (by decide +kernel)
theorem d_Snk_init_0 : decode b_Snk_init 0 = .ok (.aload_n 0, 1) := by decide +kernel
theorem d_Snk_init_1 : decode b_Snk_init 1 = .ok (.invokespecial 3, 3) := by decide +kernel
theorem d_Snk_init_4 : decode b_Snk_init 4 = .ok (.aload_n 0, 1) := by decide +kernel
theorem d_Snk_init_5 : decode b_Snk_init 5 = .ok (.iconst 4, 1) := by decide +kernel
theorem d_Snk_init_6 : decode b_Snk_init 6 = .ok (.newarray .int, 2) := by decide +kernel
theorem d_Snk_init_8 : decode b_Snk_init 8 = .ok (.putfield 9, 3) := by decide +kernel
theorem d_Snk_init_11 : decode b_Snk_init 11 = .ok (.aload_n 0, 1) := by decide +kernel
theorem d_Snk_init_12 : decode b_Snk_init 12 = .ok (.iload_n 1, 1) := by decide +kernel
theorem d_Snk_init_13 : decode b_Snk_init 13 = .ok (.putfield 15, 3) := by decide +kernel
theorem d_Snk_init_16 : decode b_Snk_init 16 = .ok (.aload_n 0, 1) := by decide +kernel
theorem d_Snk_init_17 : decode b_Snk_init 17 = .ok (.iload_n 1, 1) := by decide +kernel
theorem d_Snk_init_18 : decode b_Snk_init 18 = .ok (.sipush 512, 3) := by decide +kernel
theorem d_Snk_init_21 : decode b_Snk_init 21 = .ok (.invokestatic 19, 3) := by decide +kernel
theorem d_Snk_init_24 : decode b_Snk_init 24 = .ok (.newarray .byte, 2) := by decide +kernel
theorem d_Snk_init_26 : decode b_Snk_init 26 = .ok (.putfield 25, 3) := by decide +kernel
theorem d_Snk_init_29 : decode b_Snk_init 29 = .ok (.return_, 1) := by decide +kernel
section Ctors
variable (l : Launch) (dC : Nat → ClassId) (dI : Nat → Nat → Nat) (cI cB cJ cZ : ClassId)
set_option maxHeartbeats 4000000 in
set_option maxRecDepth 100000 in
/-- Sink(r): a row of k bytes, four widths -/
theorem c_Snk_init (h0 sz k : Nat) (r : Int32) (hk : ¬ (if (512 : Int32) < r then 512 else r) < 0 ∧ (if (512 : Int32) < r then 512 else r).toNatClampNeg = k ∧ k ≤ 512) : Met l y_Snk_init (wsOf y_Snk_init b_Snk_init 2 none) ({ frames := 1, cells := 2, slots := 516, locals := 15 }) (va_Pc [.ref h0, .int r] (PC dC dI cI cB cJ cZ sz [(h0, .inr (1, [.null, .int 0, .int 0, .int 0, .null, .int 0, .int 0]))])) (va_Qv (fun _ : Unit => True) (fun _ t => ∃ q1 q2 : Nat, va_P (dC, dI) CL [(h0, .inr (1, [.ref q2, .int 0, .int 0, .int r, .ref q1, .int 0, .int 0])), (q1, .inl (cI, 4, .inl (fun _ => 0))), (q2, .inl (cB, k, .inl (fun _ => 0)))] t.heap ∧ va_D (va_A [(h0, .inr (1, [.null, .int 0, .int 0, .int 0, .null, .int 0, .int 0]))] sz) [(h0, .inr (1, [.ref q2, .int 0, .int 0, .int r, .ref q1, .int 0, .int 0])), (q1, .inl (cI, 4, .inl (fun _ => 0))), (q2, .inl (cB, k, .inl (fun _ => 0)))]) (va_A [(h0, .inr (1, [.null, .int 0, .int 0, .int 0, .null, .int 0, .int 0]))] sz)) 2 516 (va_A [(h0, .inr (1, [.null, .int 0, .int 0, .int 0, .null, .int 0, .int 0]))] sz) := by
  refine Met.ofW (cc := b_Snk_init) (maxL := 2) (ret := none) (by decide) rfl ?_
  intro p e s m args below meth c s₁ B hml hv
  obtain ⟨rfl, hsz, hP, hK, hD0, hN⟩ := hv
  have hx := B.exec
  have hb := B.bytes
  have hr := B.returns
  have hts := atoms_spec B.pre
  have hT : ∀ w ∈ TG, w.before _ s = true := fun w h => hts w (List.mem_cons_of_mem _ h)
  have hown : s.vm.findClass R_Snk = some m.cls := findClass_of_methodNamed B.named
  have hlocks := B.notSynchronized
  have hin : meth.name = "<init>" := (name_of_methodNamed B.named B.method).1
  subst hsz
  have hD := hD0.self (sz := s.heap.size)
  generalize hAe : va_A [(h0, .inr (1, [.null, .int 0, .int 0, .int 0, .null, .int 0, .int 0]))] s.heap.size = A at hD ⊢
  have hA : ∀ q : Nat, s.heap.size ≤ q → A q := fun q h => by rw [← hAe]; exact Or.inr h
  have hS : va_S A s.heap s.heap [] := va_S.rf
  have hl := lv_entry ([.ref h0, .int r]) (n := 2) (Nat.le_of_ble_eq_true rfl)
  rw [lg_entry_eq]
  generalize (lg_sl ([.ref h0, .int r]) ++ List.replicate (2 - (lg_sl ([.ref h0, .int r])).length) Slot.unset).toArray = ls at hl ⊢
  have hl : lv_has ls 2 [(0, .ref h0), (1, .int r)] := hl
  have h1 : ¬ (if (512 : Int32) < r then 512 else r) < 0 := hk.1
  have h2 : (if (512 : Int32) < r then 512 else r).toNatClampNeg = k := hk.2.1
  have hk3 : k ≤ 512 := hk.2.2
  have h3 : k * componentBytes .byte ≤ 536870912 := by show k * 1 ≤ 536870912; omega
  refine lv_aload_n hx hb d_Snk_init_0 rfl (lv_at hl 0 rfl) ?_
  refine W.objInit hx hb hown (hT _ w_1_36) (hT _ w_1_28) (hT _ w_obj) rfl (by rw [hml]; exact hl.1) rfl d_Snk_init_1 (Nat.le_of_ble_eq_true rfl) (Nat.le_of_ble_eq_true rfl) ?_
  refine W.eq (g2 := F0 m 4 ls []) rfl ?_
  refine lv_aload_n hx hb d_Snk_init_4 rfl (lv_at hl 0 rfl) ?_
  refine lv_iconst (v := 4) hx hb d_Snk_init_5 (by decide) ?_
  refine nw_int (N' := 4) hx hb hT w_1_69 hK hP hD hS hA (by decide) (by decide) (by decide) (show _ ≤ 2 by omega) (show _ ≤ 516 by omega) d_Snk_init_6 (fun q1 H hP hD hS => ?_)
  have hP : va_P (dC, dI) CL [(h0, .inr (1, [.null, .int 0, .int 0, .int 0, .null, .int 0, .int 0])), (q1, .inl (cI, 4, .inl (fun _ => 0)))] H := hP
  have hD : va_D A [(h0, .inr (1, [.null, .int 0, .int 0, .int 0, .null, .int 0, .int 0])), (q1, .inl (cI, 4, .inl (fun _ => 0)))] := hD
  refine W.widen (k := 1) (n := 4) (by omega) (by omega) ?_
  refine va_putF (D := (dC, dI)) (ci := 1) (v := .ref q1) (ty := .array .int) (C := R_Snk) (T := F_Snk) (N := 7) hx hb hT in_Snk t_Snk t_Snk_ok n_Snk hown hK hP hD hS 0 rfl rfl 4 (by decide) (hT _ w_1_51) (fun _ h9 => h9) rfl hin rfl (by decide +kernel) rfl rfl (Nat.le_of_ble_eq_true rfl) d_Snk_init_8 (fun H locs hP hD hS => ?_)
  have hP : va_P (dC, dI) CL [(h0, .inr (1, [.null, .int 0, .int 0, .int 0, .ref q1, .int 0, .int 0])), (q1, .inl (cI, 4, .inl (fun _ => 0)))] H := hP
  have hD : va_D A [(h0, .inr (1, [.null, .int 0, .int 0, .int 0, .ref q1, .int 0, .int 0])), (q1, .inl (cI, 4, .inl (fun _ => 0)))] := hD
  refine lv_aload_n hx hb d_Snk_init_11 rfl (lv_at hl 0 rfl) ?_
  refine lv_iload_n hx hb d_Snk_init_12 rfl (lv_at hl 1 rfl) ?_
  refine va_putF (D := (dC, dI)) (ci := 1) (v := .int r) (ty := .int) (C := R_Snk) (T := F_Snk) (N := 7) hx hb hT in_Snk t_Snk t_Snk_ok n_Snk hown hK hP hD hS 0 rfl rfl 3 (by decide) (hT _ w_1_50) (fun _ h9 => h9) rfl hin rfl (by decide +kernel) rfl rfl (Nat.le_of_ble_eq_true rfl) d_Snk_init_13 (fun H locs hP hD hS => ?_)
  have hP : va_P (dC, dI) CL [(h0, .inr (1, [.null, .int 0, .int 0, .int r, .ref q1, .int 0, .int 0])), (q1, .inl (cI, 4, .inl (fun _ => 0)))] H := hP
  have hD : va_D A [(h0, .inr (1, [.null, .int 0, .int 0, .int r, .ref q1, .int 0, .int 0])), (q1, .inl (cI, 4, .inl (fun _ => 0)))] := hD
  refine lv_aload_n hx hb d_Snk_init_16 rfl (lv_at hl 0 rfl) ?_
  refine lv_iload_n hx hb d_Snk_init_17 rfl (lv_at hl 1 rfl) ?_
  refine lv_sipush (v := 512) hx hb d_Snk_init_18 (by decide) ?_
  refine va_mmin hx hb (hml.trans hl.1.symm) hown (hT _ w_1_37) (hT _ w_1_38) (hT _ w_1_3) (hT _ w_1_39) (Nat.le_of_ble_eq_true rfl) (Nat.le_of_ble_eq_true rfl) (show _ ≤ 2 by omega) (show _ ≤ 516 by omega) d_Snk_init_21 ?_
  refine nw_byte (N' := k) hx hb hT w_1_70 hK hP hD hS hA h1 h2 h3 (show _ ≤ 2 by omega) (show _ ≤ 516 by omega) d_Snk_init_24 (fun q2 H hP hD hS => ?_)
  have hP : va_P (dC, dI) CL [(h0, .inr (1, [.null, .int 0, .int 0, .int r, .ref q1, .int 0, .int 0])), (q1, .inl (cI, 4, .inl (fun _ => 0))), (q2, .inl (cB, k, .inl (fun _ => 0)))] H := hP
  have hD : va_D A [(h0, .inr (1, [.null, .int 0, .int 0, .int r, .ref q1, .int 0, .int 0])), (q1, .inl (cI, 4, .inl (fun _ => 0))), (q2, .inl (cB, k, .inl (fun _ => 0)))] := hD
  refine W.widen (k := 2) (n := 4 + k) (by omega) (by omega) ?_
  refine va_put (D := (dC, dI)) (ci := 1) (v := .ref q2) (ty := .array .byte) (C := R_Snk) (T := F_Snk) (N := 7) hx hb hT in_Snk t_Snk t_Snk_ok n_Snk hown hK hP hD hS 0 rfl rfl 0 (by decide) (hT _ w_1_40) (fun _ h9 => h9) rfl (by decide +kernel) rfl rfl (Nat.le_of_ble_eq_true rfl) d_Snk_init_26 (fun H locs hP hD hS => ?_)
  have hP : va_P (dC, dI) CL [(h0, .inr (1, [.ref q2, .int 0, .int 0, .int r, .ref q1, .int 0, .int 0])), (q1, .inl (cI, 4, .inl (fun _ => 0))), (q2, .inl (cB, k, .inl (fun _ => 0)))] H := hP
  have hD : va_D A [(h0, .inr (1, [.ref q2, .int 0, .int 0, .int r, .ref q1, .int 0, .int 0])), (q1, .inl (cI, 4, .inl (fun _ => 0))), (q2, .inl (cB, k, .inl (fun _ => 0)))] := hD
  refine W.widen (k := 2) (n := 516) (by omega) (by omega) ?_
  exact W.vret hx hb hr (fun t ht hW => ⟨⟨(), rfl, trivial, ⟨q1, q2, by rw [ht]; exact hP, hD⟩⟩, hS.F ht⟩) hS.2.2 d_Snk_init_29
end Ctors
