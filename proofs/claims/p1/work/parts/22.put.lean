theorem w_4_53 : (Jvm.Cond.methodLink "StripedVault$Sink" (45 : Nat) ({ cls := "StripedVault$Sink", name := "hasRoom", desc := "(I)Z" } : Jvm.MethodName)) ∈ TG := tw_4 53 (by decide +kernel) (by decide +kernel)
theorem w_4_55 : (Jvm.Cond.instanceMethod ({ cls := "StripedVault$Sink", name := "hasRoom", desc := "(I)Z" } : Jvm.MethodName)) ∈ TG := tw_4 55 (by decide +kernel) (by decide +kernel)
theorem w_4_56 : (Jvm.Cond.code ({ cls := "StripedVault$Sink", name := "hasRoom", desc := "(I)Z" } : Jvm.MethodName) prog_9_method_3_code (2 : Nat) (Option.some Jvm.ClassFile.FieldType.boolean)) ∈ TG := tw_4 56 (by decide +kernel) (by decide +kernel)
theorem ws_1 : Cond.selects R_Snk y_Snk_hasRoom y_Snk_hasRoom ∈ TG := tw_s 1 (by decide +kernel) (by decide +kernel)
theorem d_Snk_put_0 : decode b_Snk_put 0 = .ok (.aload_n 0, 1) := by decide +kernel
theorem d_Snk_put_1 : decode b_Snk_put 1 = .ok (.iconst 1, 1) := by decide +kernel
theorem d_Snk_put_2 : decode b_Snk_put 2 = .ok (.invokevirtual 45, 3) := by decide +kernel
theorem d_Snk_put_5 : decode b_Snk_put 5 = .ok (.ifCond .eq 24, 3) := by decide +kernel
theorem d_Snk_put_8 : decode b_Snk_put 8 = .ok (.aload_n 0, 1) := by decide +kernel
theorem d_Snk_put_9 : decode b_Snk_put 9 = .ok (.getfield 25, 3) := by decide +kernel
theorem d_Snk_put_12 : decode b_Snk_put 12 = .ok (.aload_n 0, 1) := by decide +kernel
theorem d_Snk_put_13 : decode b_Snk_put 13 = .ok (.getfield 29, 3) := by decide +kernel
theorem d_Snk_put_16 : decode b_Snk_put 16 = .ok (.iload_n 1, 1) := by decide +kernel
theorem d_Snk_put_17 : decode b_Snk_put 17 = .ok (.i2b, 1) := by decide +kernel
theorem d_Snk_put_18 : decode b_Snk_put 18 = .ok (.bastore, 1) := by decide +kernel
theorem d_Snk_put_19 : decode b_Snk_put 19 = .ok (.aload_n 0, 1) := by decide +kernel
theorem d_Snk_put_20 : decode b_Snk_put 20 = .ok (.dup, 1) := by decide +kernel
theorem d_Snk_put_21 : decode b_Snk_put 21 = .ok (.getfield 29, 3) := by decide +kernel
theorem d_Snk_put_24 : decode b_Snk_put 24 = .ok (.iconst 1, 1) := by decide +kernel
theorem d_Snk_put_25 : decode b_Snk_put 25 = .ok (.iadd, 1) := by decide +kernel
theorem d_Snk_put_26 : decode b_Snk_put 26 = .ok (.putfield 29, 3) := by decide +kernel
theorem d_Snk_put_29 : decode b_Snk_put 29 = .ok (.return_, 1) := by decide +kernel
section
variable (l : Launch) (dC : Nat → ClassId) (dI : Nat → Nat → Nat) (cI cB cJ cZ : ClassId)
set_option maxHeartbeats 4000000 in
set_option maxRecDepth 100000 in
/-- Sink.put(v), where there is room -/
theorem c_Snk_put_fit (sz : Nat) (h : Nat) (F : List Value) (a z rm x : Nat) (g : Nat → Int32) (v : Int32) (nF : F.length = 7) (gF_2 : F[2]? = some (.int 0)) (gF_3 : F[3]? = some (.int (nI rm))) (gF_1 : F[1]? = some (.int (nI x))) (gF_0 : F[0]? = some (.ref a)) (hr1 : x + 1 ≤ rm) (hr2 : rm < 2 ^ 31) (hz1 : x + 1 ≤ z) (hz2 : z < 2 ^ 31) : Met l y_Snk_put (wsOf y_Snk_put b_Snk_put 2 none) ({ frames := 1, cells := 0, slots := 0, locals := 21 }) (va_Pc [.ref h, .int v] (PC dC dI cI cB cJ cZ sz [(h, .inr (1, F)), (a, .inl (cB, z, .inl g))])) (va_Qv (fun _ : Unit => True) (fun _ t => va_P (dC, dI) CL [(h, .inr (1, F.set 1 (.int (nI (x + 1))))), (a, .inl (cB, z, .inl (upd g ((nI x) : Int32).toNatClampNeg (vp_nar .byte (v.toInt8.toInt32)))))] t.heap ∧ va_D (va_A [(h, .inr (1, F)), (a, .inl (cB, z, .inl g))] sz) [(h, .inr (1, F.set 1 (.int (nI (x + 1))))), (a, .inl (cB, z, .inl (upd g ((nI x) : Int32).toNatClampNeg (vp_nar .byte (v.toInt8.toInt32)))))]) (va_A [(h, .inr (1, F)), (a, .inl (cB, z, .inl g))] sz)) 0 0 (va_A [(h, .inr (1, F)), (a, .inl (cB, z, .inl g))] sz) := by
  refine Met.ofW (cc := b_Snk_put) (maxL := 2) (ret := none) (by decide) rfl ?_
  intro p e s m args below meth c s₁ B hml hv
  obtain ⟨rfl, hsz, hP, hK, hD0, hN⟩ := hv
  have hx := B.exec
  have hb := B.bytes
  have hr := B.returns
  have hts := atoms_spec B.pre
  have hT : ∀ w ∈ TG, w.before _ s = true := fun w h => hts w (List.mem_cons_of_mem _ h)
  have hown : s.vm.findClass R_Snk = some m.cls := findClass_of_methodNamed B.named
  have hlocks := B.notSynchronized
  subst hsz
  have hD := hD0.self (sz := s.heap.size)
  generalize hAe : va_A [(h, .inr (1, F)), (a, .inl (cB, z, .inl g))] s.heap.size = A at hD ⊢
  have hA : ∀ q : Nat, s.heap.size ≤ q → A q := fun q h => by rw [← hAe]; exact Or.inr h
  have hS : va_S A s.heap s.heap [] := va_S.rf
  have hl := lv_entry ([.ref h, .int v]) (n := 2) (Nat.le_of_ble_eq_true rfl)
  rw [lg_entry_eq]
  generalize (lg_sl ([.ref h, .int v]) ++ List.replicate (2 - (lg_sl ([.ref h, .int v])).length) Slot.unset).toArray = ls at hl ⊢
  have hl : lv_has ls 2 [(0, .ref h), (1, .int v)] := hl
  refine lv_aload_n hx hb d_Snk_put_0 rfl (lv_at hl 0 rfl) ?_
  refine lv_iconst (v := 1) hx hb d_Snk_put_1 (by decide) ?_
  have hPc := hP.sub (ws' := [(h, .inr (1, F)), (a, .inl (cB, z, .inl g))]) [0, 1] rfl
  have hDc := hD.sub (ws' := [(h, .inr (1, F)), (a, .inl (cB, z, .inl g))]) [0, 1] (by decide) rfl
  have hFc := va_free (wc := [(h, .inr (1, F)), (a, .inl (cB, z, .inl g))]) hD hS hA [0, 1] rfl
  refine va_calli (va_runV (C := R_Snk) (As := [.int 1]) (rest := []) ⟨hx, hb, hml, hown, hT⟩ (c_Snk_hasRoom_fit l dC dI cI cB cJ cZ s.heap.size h F a z rm x g nF gF_2 gF_3 gF_1 gF_0 (by omega) (by omega) (by omega) (by omega)) ⟨callB_of 1 hT (gw_in w_4_56) rfl rfl rfl (hT _ w_1_2) (hT _ w_4_53) (by decide +kernel) ⟨Nat.le_of_ble_eq_true rfl, Nat.le_of_ble_eq_true rfl⟩, hT _ w_4_55, hT _ ws_1⟩ ⟨PC.blind, va_recv hK hPc (ci := 1) (q0 := 0) rfl rfl, PC.at _ hPc hDc hK hN⟩ rfl rfl hl.1 rfl (lv_room (Nat.le_of_ble_eq_true rfl)) d_Snk_put_2 ⟨show _ ≤ 0 by omega, show _ ≤ 0 by omega⟩) hS (fun q _ h => hFc q h) hFc (fun r1 u t H1 locs ht hvm hw hB hz1 hk1 hS => ?_)
  obtain ⟨hP1, hD1⟩ := hB
  have hw : 1 = r1 := Eq.symm hw
  subst hw
  rw [ht] at hP1
  obtain ⟨hP, hD⟩ := va_join (wr := []) (w1 := [(h, .inr (1, F)), (a, .inl (cB, z, .inl g))]) hP hD [0, 1] [] rfl rfl (by decide) (by decide) hk1 hFc hP1 hD1
  generalize H1 = H at hP hS ⊢
  have hP : va_P (dC, dI) CL [(h, .inr (1, F)), (a, .inl (cB, z, .inl g))] H := hP
  have hD : va_D A [(h, .inr (1, F)), (a, .inl (cB, z, .inl g))] := hD
  refine lv_if_eq (tgt := 29) hx hb d_Snk_put_5 (by decide) (fun c1 => by first | exact absurd c1 (by decide) | exact absurd (by decide) c1) (fun c1 => ?_)
  refine lv_aload_n hx hb d_Snk_put_8 rfl (lv_at hl 0 rfl) ?_
  refine f_get (D := (dC, dI)) (ci := 1) (v := .ref a) (C := R_Snk) (T := F_Snk) (N := 7) hx hb hT in_Snk hown hK hP 0 rfl rfl 0 (by decide) fr_Snk_0 w_1_40 gF_0 d_Snk_put_9 ?_
  refine lv_aload_n hx hb d_Snk_put_12 rfl (lv_at hl 0 rfl) ?_
  refine f_get (D := (dC, dI)) (ci := 1) (v := .int (nI x)) (C := R_Snk) (T := F_Snk) (N := 7) hx hb hT in_Snk hown hK hP 0 rfl rfl 1 (by decide) fr_Snk_1 w_1_43 gF_1 d_Snk_put_13 ?_
  refine lv_iload_n hx hb d_Snk_put_16 rfl (lv_at hl 1 rfl) ?_
  refine lv_i2b hx hb d_Snk_put_17 rfl ?_
  refine va_bast hx hb hK hP hD hS 1 1 rfl rfl (vp_in_nI (by omega) (by omega)) d_Snk_put_18 (fun H locs hP hD hS => ?_)
  have hP : va_P (dC, dI) CL [(h, .inr (1, F)), (a, .inl (cB, z, .inl (upd g ((nI x) : Int32).toNatClampNeg (vp_nar .byte (v.toInt8.toInt32)))))] H := hP
  have hD : va_D A [(h, .inr (1, F)), (a, .inl (cB, z, .inl (upd g ((nI x) : Int32).toNatClampNeg (vp_nar .byte (v.toInt8.toInt32)))))] := hD
  refine lv_aload_n hx hb d_Snk_put_19 rfl (lv_at hl 0 rfl) ?_
  refine lv_dup hx hb d_Snk_put_20 rfl ?_
  refine f_get (D := (dC, dI)) (ci := 1) (v := .int (nI x)) (C := R_Snk) (T := F_Snk) (N := 7) hx hb hT in_Snk hown hK hP 0 rfl rfl 1 (by decide) fr_Snk_1 w_1_43 gF_1 d_Snk_put_21 ?_
  refine lv_iconst (v := 1) hx hb d_Snk_put_24 (by decide) ?_
  refine lv_iadd hx hb d_Snk_put_25 ?_
  refine f_put (D := (dC, dI)) (ci := 1) (v := .int ((nI x) + 1)) (ty := .int) (C := R_Snk) (T := F_Snk) (N := 7) hx hb hT in_Snk t_Snk t_Snk_ok n_Snk hown hK hP hD hS 0 rfl rfl 1 (by decide) fr_Snk_1 w_1_43 (by decide +kernel) rfl rfl (by rw [nF]; decide) d_Snk_put_26 (fun H locs hP hD hS => ?_)
  have hP : va_P (dC, dI) CL [(h, .inr (1, F.set 1 (.int ((nI x) + 1)))), (a, .inl (cB, z, .inl (upd g ((nI x) : Int32).toNatClampNeg (vp_nar .byte (v.toInt8.toInt32)))))] H := hP
  have hD : va_D A [(h, .inr (1, F.set 1 (.int ((nI x) + 1)))), (a, .inl (cB, z, .inl (upd g ((nI x) : Int32).toNatClampNeg (vp_nar .byte (v.toInt8.toInt32)))))] := hD
  rw [nI_1] at hP hD
  exact W.vret hx hb hr (fun t ht hW => ⟨⟨(), rfl, trivial, by rw [ht]; exact hP, hD⟩, hS.F ht⟩) hS.2.2 d_Snk_put_29
end
