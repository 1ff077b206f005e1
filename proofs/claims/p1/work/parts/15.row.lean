theorem w_8_135 : (Jvm.Cond.methodLink "StripedVault" (206 : Nat) ({ cls := "StripedVault$Answer", name := "rowAt", desc := "(I)I" } : Jvm.MethodName)) ∈ TG := tw_8 135 (by decide +kernel) (by decide +kernel)
theorem w_8_136 : (Jvm.Cond.instanceMethod ({ cls := "StripedVault$Answer", name := "rowAt", desc := "(I)I" } : Jvm.MethodName)) ∈ TG := tw_8 136 (by decide +kernel) (by decide +kernel)
theorem w_8_137 : (Jvm.Cond.selects "StripedVault$Answer" ({ cls := "StripedVault$Answer", name := "rowAt", desc := "(I)I" } : Jvm.MethodName) ({ cls := "StripedVault$Answer", name := "rowAt", desc := "(I)I" } : Jvm.MethodName)) ∈ TG := tw_8 137 (by decide +kernel) (by decide +kernel)
theorem w_8_138 : (Jvm.Cond.code ({ cls := "StripedVault$Answer", name := "rowAt", desc := "(I)I" } : Jvm.MethodName) prog_2_method_2_code (2 : Nat) (Option.some Jvm.ClassFile.FieldType.int)) ∈ TG := tw_8 138 (by decide +kernel) (by decide +kernel)
theorem d_V_row_0 : decode b_V_row 0 = .ok (.aload_n 0, 1) := by decide +kernel
theorem d_V_row_1 : decode b_V_row 1 = .ok (.getfield 85, 3) := by decide +kernel
theorem d_V_row_4 : decode b_V_row 4 = .ok (.iload_n 1, 1) := by decide +kernel
theorem d_V_row_5 : decode b_V_row 5 = .ok (.invokevirtual 206, 3) := by decide +kernel
theorem d_V_row_8 : decode b_V_row 8 = .ok (.ireturn, 1) := by decide +kernel
section
variable (l : Launch) (dC : Nat → ClassId) (dI : Nat → Nat → Nat) (cI cB cJ cZ : ClassId)
set_option maxHeartbeats 4000000 in
set_option maxRecDepth 100000 in
/-- row(k) -/
theorem c_V_row (sz : Nat) (h : Nat) (F : List Value) (f : Nat) (S : List Value) (a z : Nat) (g : Nat → Int32) (rd cl k n : Int32) (nF : F.length = 15) (gF_12 : F[12]? = some (.ref f)) (nS : S.length = 16) (gS_0 : S[0]? = some (.int rd)) (gS_6 : S[6]? = some (.int cl)) (gS_1 : S[1]? = some (.int n)) (gS_5 : S[5]? = some (.ref a)) (hn : n.toInt ≤ z) : Met l y_V_row (wsOf y_V_row b_V_row 2 (some (.int))) ({ frames := 1, cells := 0, slots := 0, locals := 21 }) (va_Pc [.ref h, .int k] (PC dC dI cI cB cJ cZ sz [(h, .inr (0, F)), (f, .inr (10, S)), (a, .inl (cI, z, .inl g))])) (va_Qi (fun (r : Int32) (_ : Unit) => r = sp_rowAt rd cl k n (g k.toNatClampNeg)) (fun _ t => va_P (dC, dI) CL [(h, .inr (0, F)), (f, .inr (10, S)), (a, .inl (cI, z, .inl g))] t.heap ∧ va_D (va_A [(h, .inr (0, F)), (f, .inr (10, S)), (a, .inl (cI, z, .inl g))] sz) [(h, .inr (0, F)), (f, .inr (10, S)), (a, .inl (cI, z, .inl g))]) (va_A [(h, .inr (0, F)), (f, .inr (10, S)), (a, .inl (cI, z, .inl g))] sz)) 0 0 (va_A [(h, .inr (0, F)), (f, .inr (10, S)), (a, .inl (cI, z, .inl g))] sz) := by
  refine Met.ofW (cc := b_V_row) (maxL := 2) (ret := some (.int)) (by decide) rfl ?_
  intro p e s m args below meth c s₁ B hml hv
  obtain ⟨rfl, hsz, hP, hK, hD0, hN⟩ := hv
  have hx := B.exec
  have hb := B.bytes
  have hr := B.returns
  have hts := atoms_spec B.pre
  have hT : ∀ w ∈ TG, w.before _ s = true := fun w h => hts w (List.mem_cons_of_mem _ h)
  have hown : s.vm.findClass R_V = some m.cls := findClass_of_methodNamed B.named
  have hlocks := B.notSynchronized
  subst hsz
  have hD := hD0.self (sz := s.heap.size)
  generalize hAe : va_A [(h, .inr (0, F)), (f, .inr (10, S)), (a, .inl (cI, z, .inl g))] s.heap.size = A at hD ⊢
  have hA : ∀ q : Nat, s.heap.size ≤ q → A q := fun q h => by rw [← hAe]; exact Or.inr h
  have hS : va_S A s.heap s.heap [] := va_S.rf
  have hl := lv_entry ([.ref h, .int k]) (n := 2) (Nat.le_of_ble_eq_true rfl)
  rw [lg_entry_eq]
  generalize (lg_sl ([.ref h, .int k]) ++ List.replicate (2 - (lg_sl ([.ref h, .int k])).length) Slot.unset).toArray = ls at hl ⊢
  have hl : lv_has ls 2 [(0, .ref h), (1, .int k)] := hl
  refine lv_aload_n hx hb d_V_row_0 rfl (lv_at hl 0 rfl) ?_
  refine f_get (D := (dC, dI)) (ci := 0) (v := .ref f) (C := R_V) (T := F_V) (N := 15) hx hb hT in_V hown hK hP 0 rfl rfl 12 (by decide) fr_V_12 w_4_7 gF_12 d_V_row_1 ?_
  refine lv_iload_n hx hb d_V_row_4 rfl (lv_at hl 1 rfl) ?_
  have hPc := hP.sub (ws' := [(f, .inr (10, S)), (a, .inl (cI, z, .inl g))]) [1, 2] rfl
  have hDc := hD.sub (ws' := [(f, .inr (10, S)), (a, .inl (cI, z, .inl g))]) [1, 2] (by decide) rfl
  have hFc := va_free (wc := [(f, .inr (10, S)), (a, .inl (cI, z, .inl g))]) hD hS hA [1, 2] rfl
  refine va_calli (va_runV (C := R_Ans) (As := [.int k]) (rest := []) ⟨hx, hb, hml, hown, hT⟩ (c_Ans_rowAt l dC dI cI cB cJ cZ s.heap.size f S a z g rd cl k n nS gS_0 gS_6 gS_1 gS_5 hn) ⟨callB_of 1 hT (gw_in w_8_138) rfl rfl rfl (hT _ w_1_13) (hT _ w_8_135) (by decide +kernel) ⟨Nat.le_of_ble_eq_true rfl, Nat.le_of_ble_eq_true rfl⟩, hT _ w_8_136, hT _ w_8_137⟩ ⟨PC.blind, va_recv hK hPc (ci := 10) (q0 := 0) rfl rfl, PC.at _ hPc hDc hK hN⟩ rfl rfl hl.1 rfl (lv_room (Nat.le_of_ble_eq_true rfl)) d_V_row_5 ⟨show _ ≤ 0 by omega, show _ ≤ 0 by omega⟩) hS (fun q _ h => hFc q h) hFc (fun r1 u t H1 locs ht hvm hw hB hz1 hk1 hS => ?_)
  obtain ⟨hP1, hD1⟩ := hB
  have hw : sp_rowAt rd cl k n (g k.toNatClampNeg) = r1 := Eq.symm hw
  subst hw
  rw [ht] at hP1
  obtain ⟨hP, hD⟩ := va_join (wr := [(h, .inr (0, F))]) (w1 := [(f, .inr (10, S)), (a, .inl (cI, z, .inl g))]) hP hD [1, 2] [0] rfl rfl (by decide) (by decide) hk1 hFc hP1 hD1
  generalize H1 = H at hP hS ⊢
  have hP : va_P (dC, dI) CL [(h, .inr (0, F)), (f, .inr (10, S)), (a, .inl (cI, z, .inl g))] H := hP
  have hD : va_D A [(h, .inr (0, F)), (f, .inr (10, S)), (a, .inl (cI, z, .inl g))] := hD
  exact W.iret (v := (sp_rowAt rd cl k n (g k.toNatClampNeg))) hx hb hr (fun t ht hW => ⟨⟨(sp_rowAt rd cl k n (g k.toNatClampNeg)), (), rfl, rfl, by rw [ht]; exact hP, hD⟩, hS.F ht⟩) hS.2.2 d_V_row_8
end
