theorem w_4_70 : (Jvm.Cond.methodLink "java/util/Arrays" (304 : Nat) ({ cls := "java/lang/Math", name := "min", desc := "(II)I" } : Jvm.MethodName)) ∈ TG := tw_4 70 (by decide +kernel) (by decide +kernel)
theorem w_4_71 : (Jvm.Cond.methodLink "java/util/Arrays" (150 : Nat) ({ cls := "java/lang/System", name := "arraycopy", desc := "(Ljava/lang/Object;ILjava/lang/Object;II)V" } : Jvm.MethodName)) ∈ TG := tw_4 71 (by decide +kernel) (by decide +kernel)
theorem d_JArr_copyOf_0 : decode b_JArr_copyOf 0 = .ok (.iload_n 1, 1) := by decide +kernel
theorem d_JArr_copyOf_1 : decode b_JArr_copyOf 1 = .ok (.aload_n 0, 1) := by decide +kernel
theorem d_JArr_copyOf_2 : decode b_JArr_copyOf 2 = .ok (.arraylength, 1) := by decide +kernel
theorem d_JArr_copyOf_3 : decode b_JArr_copyOf 3 = .ok (.if_icmp .ne 11, 3) := by decide +kernel
theorem d_JArr_copyOf_14 : decode b_JArr_copyOf 14 = .ok (.iload_n 1, 1) := by decide +kernel
theorem d_JArr_copyOf_15 : decode b_JArr_copyOf 15 = .ok (.newarray .byte, 2) := by decide +kernel
theorem d_JArr_copyOf_17 : decode b_JArr_copyOf 17 = .ok (.astore_n 2, 1) := by decide +kernel
theorem d_JArr_copyOf_18 : decode b_JArr_copyOf 18 = .ok (.aload_n 0, 1) := by decide +kernel
theorem d_JArr_copyOf_19 : decode b_JArr_copyOf 19 = .ok (.iconst 0, 1) := by decide +kernel
theorem d_JArr_copyOf_20 : decode b_JArr_copyOf 20 = .ok (.aload_n 2, 1) := by decide +kernel
theorem d_JArr_copyOf_21 : decode b_JArr_copyOf 21 = .ok (.iconst 0, 1) := by decide +kernel
theorem d_JArr_copyOf_22 : decode b_JArr_copyOf 22 = .ok (.aload_n 0, 1) := by decide +kernel
theorem d_JArr_copyOf_23 : decode b_JArr_copyOf 23 = .ok (.arraylength, 1) := by decide +kernel
theorem d_JArr_copyOf_24 : decode b_JArr_copyOf 24 = .ok (.iload_n 1, 1) := by decide +kernel
theorem d_JArr_copyOf_25 : decode b_JArr_copyOf 25 = .ok (.invokestatic 304, 3) := by decide +kernel
theorem d_JArr_copyOf_28 : decode b_JArr_copyOf 28 = .ok (.invokestatic 150, 3) := by decide +kernel
theorem d_JArr_copyOf_31 : decode b_JArr_copyOf 31 = .ok (.aload_n 2, 1) := by decide +kernel
theorem d_JArr_copyOf_32 : decode b_JArr_copyOf 32 = .ok (.areturn, 1) := by decide +kernel
section
variable (l : Launch) (dC : Nat → ClassId) (dI : Nat → Nat → Nat) (cI cB cJ cZ : ClassId)
set_option maxHeartbeats 4000000 in
set_option maxRecDepth 100000 in
/-- Arrays.copyOf to a longer row -/
theorem c_JArr_copyOf (sz a z N : Nat) (g : Nat → Int32) (hz : z < N) (hN : N ≤ 536870912) (hg : ∀ i, i < z → fits .byte (.int (g i)) = true) : Met l y_JArr_copyOf (wsOf y_JArr_copyOf b_JArr_copyOf 3 (some (.array .byte))) ({ frames := 1, cells := 1, slots := N, locals := 120 }) (va_Pc [.ref a, .int (nI N)] (PC dC dI cI cB cJ cZ sz [(a, .inl (cB, z, .inl g))])) (va_Qr (fun _ : Unit => True) (fun _ q1 t => va_P (dC, dI) CL [(a, .inl (cB, z, .inl g)), (q1, .inl (cB, N, .inl (va_cpy g (fun _ => 0) 0 0 z)))] t.heap ∧ va_D (va_A [(a, .inl (cB, z, .inl g))] sz) [(a, .inl (cB, z, .inl g)), (q1, .inl (cB, N, .inl (va_cpy g (fun _ => 0) 0 0 z)))]) (va_A [(a, .inl (cB, z, .inl g))] sz)) 1 N (va_A [(a, .inl (cB, z, .inl g))] sz) := by
  refine Met.ofW (cc := b_JArr_copyOf) (maxL := 3) (ret := some (.array .byte)) (by decide) rfl ?_
  intro p e s m args below meth c s₁ B hml hv
  obtain ⟨rfl, hsz, hP, hK, hD0, hN⟩ := hv
  have hx := B.exec
  have hb := B.bytes
  have hr := B.returns
  have hts := atoms_spec B.pre
  have hT : ∀ w ∈ TG, w.before _ s = true := fun w h => hts w (List.mem_cons_of_mem _ h)
  have hown : s.vm.findClass R_JArr = some m.cls := findClass_of_methodNamed B.named
  have hlocks := B.notSynchronized
  subst hsz
  have hD := hD0.self (sz := s.heap.size)
  generalize hAe : va_A [(a, .inl (cB, z, .inl g))] s.heap.size = A at hD ⊢
  have hA : ∀ q : Nat, s.heap.size ≤ q → A q := fun q h => by rw [← hAe]; exact Or.inr h
  have hS : va_S A s.heap s.heap [] := va_S.rf
  have hl := lv_entry ([.ref a, .int (nI N)]) (n := 3) (Nat.le_of_ble_eq_true rfl)
  rw [lg_entry_eq]
  generalize (lg_sl ([.ref a, .int (nI N)]) ++ List.replicate (3 - (lg_sl ([.ref a, .int (nI N)])).length) Slot.unset).toArray = ls at hl ⊢
  have hl : lv_has ls 3 [(0, .ref a), (1, .int (nI N))] := hl
  have hne : ¬ nI N = nI z := fun e9 => absurd (nI_lt hz (by omega)) (by rw [e9]; exact Int32.lt_irrefl)
  have hNb : N * componentBytes .byte ≤ 536870912 := by show N * 1 ≤ 536870912; omega
  refine lv_iload_n hx hb d_JArr_copyOf_0 rfl (lv_at hl 1 rfl) ?_
  refine lv_aload_n hx hb d_JArr_copyOf_1 rfl (lv_at hl 0 rfl) ?_
  refine va_alen hx hb hK hP 0 1 rfl rfl (v := nI z) rfl d_JArr_copyOf_2 ?_
  refine lv_icmp_ne (tgt := 14) hx hb d_JArr_copyOf_3 (by decide) (fun c1 => ?_) (fun c1 => absurd c1 hne)
  refine lv_iload_n hx hb d_JArr_copyOf_14 rfl (lv_at hl 1 rfl) ?_
  refine nw_byte (N' := N) hx hb hT w_1_70 hK hP hD hS hA (nI_pos (by omega)) (nI_clamp (by omega)) hNb (show _ ≤ 1 by omega) (show _ ≤ N by omega) d_JArr_copyOf_15 (fun q1 H hP hD hS => ?_)
  have hP : va_P (dC, dI) CL [(a, .inl (cB, z, .inl g)), (q1, .inl (cB, N, .inl (fun _ => 0)))] H := hP
  have hD : va_D A [(a, .inl (cB, z, .inl g)), (q1, .inl (cB, N, .inl (fun _ => 0)))] := hD
  refine W.widen (k := 1) (n := 0 + N) (by omega) (by omega) ?_
  refine lv_astore_n (lv' := [(2, .ref q1), (0, .ref a), (1, .int (nI N))]) hx hb d_JArr_copyOf_17 rfl hl (by decide) rfl (fun ls hl => ?_)
  refine lv_aload_n hx hb d_JArr_copyOf_18 rfl (lv_at hl 1 rfl) ?_
  refine lv_iconst (v := 0) hx hb d_JArr_copyOf_19 (by decide) ?_
  refine lv_aload_n hx hb d_JArr_copyOf_20 rfl (lv_at hl 0 rfl) ?_
  refine lv_iconst (v := 0) hx hb d_JArr_copyOf_21 (by decide) ?_
  refine lv_aload_n hx hb d_JArr_copyOf_22 rfl (lv_at hl 1 rfl) ?_
  refine va_alen hx hb hK hP 0 1 rfl rfl (v := nI z) rfl d_JArr_copyOf_23 ?_
  refine lv_iload_n hx hb d_JArr_copyOf_24 rfl (lv_at hl 2 rfl) ?_
  refine va_mmin hx hb (hml.trans hl.1.symm) hown (hT _ w_4_70) (hT _ w_1_38) (hT _ w_1_3) (hT _ w_1_39) (Nat.le_of_ble_eq_true rfl) (Nat.le_of_ble_eq_true rfl) (show _ ≤ 1 by omega) (show _ ≤ N by omega) d_JArr_copyOf_25 ?_
  rw [if_neg (nI_nlt (show z ≤ N by omega) (by omega))]
  refine va_copyi hx hb (hml.trans hl.1.symm) hown (hT _ w_4_71) (hT _ w_4_73) (hT _ w_4_72) (hT _ w_1_16) hK hP hD hS 0 1 1 1 rfl rfl rfl rfl rfl (by decide) (by decide) (nI_pos (by omega)) (by rw [nI_clamp (by omega)]; show 0 + z ≤ z; omega) (by rw [nI_clamp (by omega)]; show 0 + z ≤ N; omega) (fun i hi => hg _ (by rw [nI_clamp (by omega)] at hi; show 0 + i < z; omega)) (Nat.le_of_ble_eq_true rfl) (Nat.le_of_ble_eq_true rfl) d_JArr_copyOf_28 (fun H locs hP hD hS => ?_)
  have hP : va_P (dC, dI) CL [(a, .inl (cB, z, .inl g)), (q1, .inl (cB, N, .inl (va_cpy g (fun _ => 0) (0 : Int32).toNatClampNeg (0 : Int32).toNatClampNeg (nI z).toNatClampNeg)))] H := hP
  have hD : va_D A [(a, .inl (cB, z, .inl g)), (q1, .inl (cB, N, .inl (va_cpy g (fun _ => 0) (0 : Int32).toNatClampNeg (0 : Int32).toNatClampNeg (nI z).toNatClampNeg)))] := hD
  rw [nI_clamp (show z < 2 ^ 31 by omega)] at hP hD
  have hP : va_P (dC, dI) CL [(a, .inl (cB, z, .inl g)), (q1, .inl (cB, N, .inl (va_cpy g (fun _ => 0) 0 0 z)))] H := hP
  have hD : va_D A [(a, .inl (cB, z, .inl g)), (q1, .inl (cB, N, .inl (va_cpy g (fun _ => 0) 0 0 z)))] := hD
  refine lv_aload_n hx hb d_JArr_copyOf_31 rfl (lv_at hl 0 rfl) ?_
  refine W.widen (k := 1) (n := N) (by omega) (by omega) ?_
  exact W.aret (v := .ref q1) (rt := .array .byte) hx hb hr (Or.inr ⟨_, rfl⟩) (Or.inr ⟨_, rfl⟩) (fun t ht hM => ⟨⟨(), q1, rfl, trivial, by rw [ht]; exact hP, hD⟩, hS.F ht⟩) hS.2.2 d_JArr_copyOf_32 hlocks
end
