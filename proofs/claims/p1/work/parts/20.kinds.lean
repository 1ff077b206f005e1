theorem w_3_169 : (Jvm.Cond.fieldLink "StripedVault" (217 : Nat) "StripedVault$Answer" "forms" "[B") ∈ TG := tw_3 169 (by decide +kernel) (by decide +kernel)
theorem w_3_171 : (Jvm.Cond.fieldLink "StripedVault" (220 : Nat) "StripedVault$Answer" "results" "[J") ∈ TG := tw_3 171 (by decide +kernel) (by decide +kernel)
theorem w_8_147 : (Jvm.Cond.methodLink "StripedVault" (214 : Nat) ({ cls := "StripedVault$Answer", name := "placeOf", desc := "(II)I" } : Jvm.MethodName)) ∈ TG := tw_8 147 (by decide +kernel) (by decide +kernel)
theorem w_8_148 : (Jvm.Cond.instanceMethod ({ cls := "StripedVault$Answer", name := "placeOf", desc := "(II)I" } : Jvm.MethodName)) ∈ TG := tw_8 148 (by decide +kernel) (by decide +kernel)
theorem w_8_149 : (Jvm.Cond.selects "StripedVault$Answer" ({ cls := "StripedVault$Answer", name := "placeOf", desc := "(II)I" } : Jvm.MethodName) ({ cls := "StripedVault$Answer", name := "placeOf", desc := "(II)I" } : Jvm.MethodName)) ∈ TG := tw_8 149 (by decide +kernel) (by decide +kernel)
theorem w_8_150 : (Jvm.Cond.code ({ cls := "StripedVault$Answer", name := "placeOf", desc := "(II)I" } : Jvm.MethodName) prog_2_method_3_code (4 : Nat) (Option.some Jvm.ClassFile.FieldType.int)) ∈ TG := tw_8 150 (by decide +kernel) (by decide +kernel)
theorem d_V_kind_0 : decode b_V_kind 0 = .ok (.aload_n 0, 1) := by decide +kernel
theorem d_V_kind_1 : decode b_V_kind 1 = .ok (.getfield 85, 3) := by decide +kernel
theorem d_V_kind_4 : decode b_V_kind 4 = .ok (.iload_n 1, 1) := by decide +kernel
theorem d_V_kind_5 : decode b_V_kind 5 = .ok (.iload_n 2, 1) := by decide +kernel
theorem d_V_kind_6 : decode b_V_kind 6 = .ok (.invokevirtual 214, 3) := by decide +kernel
theorem d_V_kind_9 : decode b_V_kind 9 = .ok (.istore_n 3, 1) := by decide +kernel
theorem d_V_kind_10 : decode b_V_kind 10 = .ok (.iload_n 3, 1) := by decide +kernel
theorem d_V_kind_11 : decode b_V_kind 11 = .ok (.iconst (-1), 1) := by decide +kernel
theorem d_V_kind_12 : decode b_V_kind 12 = .ok (.if_icmp .ne 7, 3) := by decide +kernel
theorem d_V_kind_19 : decode b_V_kind 19 = .ok (.aload_n 0, 1) := by decide +kernel
theorem d_V_kind_20 : decode b_V_kind 20 = .ok (.getfield 85, 3) := by decide +kernel
theorem d_V_kind_23 : decode b_V_kind 23 = .ok (.getfield 217, 3) := by decide +kernel
theorem d_V_kind_26 : decode b_V_kind 26 = .ok (.iload_n 3, 1) := by decide +kernel
theorem d_V_kind_27 : decode b_V_kind 27 = .ok (.baload, 1) := by decide +kernel
theorem d_V_kind_28 : decode b_V_kind 28 = .ok (.ireturn, 1) := by decide +kernel
theorem d_V_kind_15 : decode b_V_kind 15 = .ok (.iconst (-1), 1) := by decide +kernel
theorem d_V_kind_16 : decode b_V_kind 16 = .ok (.goto 12, 3) := by decide +kernel
theorem d_V_value_0 : decode b_V_value 0 = .ok (.aload_n 0, 1) := by decide +kernel
theorem d_V_value_1 : decode b_V_value 1 = .ok (.getfield 85, 3) := by decide +kernel
theorem d_V_value_4 : decode b_V_value 4 = .ok (.iload_n 1, 1) := by decide +kernel
theorem d_V_value_5 : decode b_V_value 5 = .ok (.iload_n 2, 1) := by decide +kernel
theorem d_V_value_6 : decode b_V_value 6 = .ok (.invokevirtual 214, 3) := by decide +kernel
theorem d_V_value_9 : decode b_V_value 9 = .ok (.istore_n 3, 1) := by decide +kernel
theorem d_V_value_10 : decode b_V_value 10 = .ok (.iload_n 3, 1) := by decide +kernel
theorem d_V_value_11 : decode b_V_value 11 = .ok (.iconst (-1), 1) := by decide +kernel
theorem d_V_value_12 : decode b_V_value 12 = .ok (.if_icmp .eq 28, 3) := by decide +kernel
theorem d_V_value_40 : decode b_V_value 40 = .ok (.lconst 0, 1) := by decide +kernel
theorem d_V_value_41 : decode b_V_value 41 = .ok (.goto 12, 3) := by decide +kernel
theorem d_V_value_53 : decode b_V_value 53 = .ok (.lreturn, 1) := by decide +kernel
theorem d_V_value_15 : decode b_V_value 15 = .ok (.aload_n 0, 1) := by decide +kernel
theorem d_V_value_16 : decode b_V_value 16 = .ok (.getfield 85, 3) := by decide +kernel
theorem d_V_value_19 : decode b_V_value 19 = .ok (.getfield 217, 3) := by decide +kernel
theorem d_V_value_22 : decode b_V_value 22 = .ok (.iload_n 3, 1) := by decide +kernel
theorem d_V_value_23 : decode b_V_value 23 = .ok (.baload, 1) := by decide +kernel
theorem d_V_value_24 : decode b_V_value 24 = .ok (.ifCond .eq 16, 3) := by decide +kernel
theorem d_V_value_27 : decode b_V_value 27 = .ok (.aload_n 0, 1) := by decide +kernel
theorem d_V_value_28 : decode b_V_value 28 = .ok (.getfield 85, 3) := by decide +kernel
theorem d_V_value_31 : decode b_V_value 31 = .ok (.getfield 217, 3) := by decide +kernel
theorem d_V_value_34 : decode b_V_value 34 = .ok (.iload_n 3, 1) := by decide +kernel
theorem d_V_value_35 : decode b_V_value 35 = .ok (.baload, 1) := by decide +kernel
theorem d_V_value_36 : decode b_V_value 36 = .ok (.iconst 3, 1) := by decide +kernel
theorem d_V_value_37 : decode b_V_value 37 = .ok (.if_icmp .ne 7, 3) := by decide +kernel
theorem d_V_value_44 : decode b_V_value 44 = .ok (.aload_n 0, 1) := by decide +kernel
theorem d_V_value_45 : decode b_V_value 45 = .ok (.getfield 85, 3) := by decide +kernel
theorem d_V_value_48 : decode b_V_value 48 = .ok (.getfield 220, 3) := by decide +kernel
theorem d_V_value_51 : decode b_V_value 51 = .ok (.iload_n 3, 1) := by decide +kernel
theorem d_V_value_52 : decode b_V_value 52 = .ok (.laload, 1) := by decide +kernel
theorem place_in {rd cl k n i w : Int32} (h : ¬ sp_place rd cl k n i w = -1) (hn : n.toInt ≤ 500) (hw : w.toInt ≤ 16) : vp_in (sp_place rd cl k n i w) 8000 := by
  unfold sp_place at h ⊢
  by_cases h1 : rd = 0
  · simp [h1] at h
  by_cases h2 : cl = 0
  · simp [h1, h2] at h
  by_cases h3 : k < 0
  · simp [h1, h2, h3] at h
  by_cases h4 : n ≤ k
  · simp [h1, h2, h3, h4] at h
  by_cases h5 : i < 0
  · simp [h1, h2, h3, h4, h5] at h
  by_cases h6 : w ≤ i
  · simp [h1, h2, h3, h4, h5, h6] at h
  rw [if_neg h1, if_neg h2, if_neg h3, if_neg h4, if_neg h5, if_neg h6]
  obtain ⟨K, hK, rfl⟩ := nI_of h3
  obtain ⟨I, hI, rfl⟩ := nI_of h5
  have a1 : K < 500 := by
    rw [Int32.le_iff_toInt_le, nI_toInt hK] at h4
    omega
  have a2 : I < 16 := by
    rw [Int32.le_iff_toInt_le, nI_toInt hI] at h6
    omega
  have e : nI K * 16 + nI I = nI (K * 16 + I) := by rw [show (16 : Int32) = nI 16 from rfl, pk_mul, nI_add]
  rw [e]
  exact vp_in_nI (by omega) (by decide)
section
variable (l : Launch) (dC : Nat → ClassId) (dI : Nat → Nat → Nat) (cI cB cJ cZ : ClassId)
set_option maxHeartbeats 4000000 in
set_option maxRecDepth 100000 in
/-- kind(k, i) -/
theorem c_V_kind (sz : Nat) (h : Nat) (F : List Value) (f : Nat) (S : List Value) (a : Nat) (g : Nat → Int32) (rd cl k n i w : Int32) (nF : F.length = 15) (gF_12 : F[12]? = some (.ref f)) (nS : S.length = 16) (gS_0 : S[0]? = some (.int rd)) (gS_6 : S[6]? = some (.int cl)) (gS_1 : S[1]? = some (.int n)) (gS_7 : S[7]? = some (.int w)) (gS_8 : S[8]? = some (.ref a)) (hn : n.toInt ≤ 500) (hwi : w.toInt ≤ 16) : Met l y_V_kind (wsOf y_V_kind b_V_kind 4 (some (.int))) ({ frames := 1, cells := 0, slots := 0, locals := 23 }) (va_Pc [.ref h, .int k, .int i] (PC dC dI cI cB cJ cZ sz [(h, .inr (0, F)), (f, .inr (10, S)), (a, .inl (cB, 8000, .inl g))])) (va_Qi (fun (r : Int32) (_ : Unit) => r = if sp_place rd cl k n i w = -1 then -1 else g (sp_place rd cl k n i w).toNatClampNeg) (fun _ t => va_P (dC, dI) CL [(h, .inr (0, F)), (a, .inl (cB, 8000, .inl g)), (f, .inr (10, S))] t.heap ∧ va_D (va_A [(h, .inr (0, F)), (f, .inr (10, S)), (a, .inl (cB, 8000, .inl g))] sz) [(h, .inr (0, F)), (a, .inl (cB, 8000, .inl g)), (f, .inr (10, S))]) (va_A [(h, .inr (0, F)), (f, .inr (10, S)), (a, .inl (cB, 8000, .inl g))] sz)) 0 0 (va_A [(h, .inr (0, F)), (f, .inr (10, S)), (a, .inl (cB, 8000, .inl g))] sz) := by
  refine Met.ofW (cc := b_V_kind) (maxL := 4) (ret := some (.int)) (by decide) rfl ?_
  intro p e s m args below meth c s₁ B hml hv
  obtain ⟨rfl, hsz, hP, hK, hD0, hN⟩ := hv
  have hx := B.exec
  have hb := B.bytes
  have hr := B.returns
  have hts := atoms_spec B.pre
  have hT : ∀ w ∈ TG, w.before _ s = true := fun w h => hts w (List.mem_cons_of_mem _ h)
  have hown : s.vm.findClass R_V = some m.cls := findClass_of_methodNamed B.named
  have hlocks := B.notSynchronized
  subst hsz
  have hD := hD0.self (sz := s.heap.size)
  generalize hAe : va_A [(h, .inr (0, F)), (f, .inr (10, S)), (a, .inl (cB, 8000, .inl g))] s.heap.size = A at hD ⊢
  have hA : ∀ q : Nat, s.heap.size ≤ q → A q := fun q h => by rw [← hAe]; exact Or.inr h
  have hS : va_S A s.heap s.heap [] := va_S.rf
  have hl := lv_entry ([.ref h, .int k, .int i]) (n := 4) (Nat.le_of_ble_eq_true rfl)
  rw [lg_entry_eq]
  generalize (lg_sl ([.ref h, .int k, .int i]) ++ List.replicate (4 - (lg_sl ([.ref h, .int k, .int i])).length) Slot.unset).toArray = ls at hl ⊢
  have hl : lv_has ls 4 [(0, .ref h), (1, .int k), (2, .int i)] := hl
  refine lv_aload_n hx hb d_V_kind_0 rfl (lv_at hl 0 rfl) ?_
  refine f_get (D := (dC, dI)) (ci := 0) (v := .ref f) (C := R_V) (T := F_V) (N := 15) hx hb hT in_V hown hK hP 0 rfl rfl 12 (by decide) fr_V_12 w_4_7 gF_12 d_V_kind_1 ?_
  refine lv_iload_n hx hb d_V_kind_4 rfl (lv_at hl 1 rfl) ?_
  refine lv_iload_n hx hb d_V_kind_5 rfl (lv_at hl 2 rfl) ?_
  have hPc := hP.sub (ws' := [(f, .inr (10, S))]) [1] rfl
  have hDc := hD.sub (ws' := [(f, .inr (10, S))]) [1] (by decide) rfl
  have hFc := va_free (wc := [(f, .inr (10, S))]) hD hS hA [1] rfl
  refine va_calli (va_runV (C := R_Ans) (As := [.int k, .int i]) (rest := []) ⟨hx, hb, hml, hown, hT⟩ (c_Ans_placeOf l dC dI cI cB cJ cZ s.heap.size f S rd cl k n i w nS gS_0 gS_6 gS_1 gS_7) ⟨callB_of 2 hT (gw_in w_8_150) rfl rfl rfl (hT _ w_1_13) (hT _ w_8_147) (by decide +kernel) ⟨Nat.le_of_ble_eq_true rfl, Nat.le_of_ble_eq_true rfl⟩, hT _ w_8_148, hT _ w_8_149⟩ ⟨PC.blind, va_recv hK hPc (ci := 10) (q0 := 0) rfl rfl, PC.at _ hPc hDc hK hN⟩ rfl rfl hl.1 rfl (lv_room (Nat.le_of_ble_eq_true rfl)) d_V_kind_6 ⟨show _ ≤ 0 by omega, show _ ≤ 0 by omega⟩) hS (fun q _ h => hFc q h) hFc (fun r1 u t H1 locs ht hvm hw hB hz1 hk1 hS => ?_)
  obtain ⟨hP1, hD1⟩ := hB
  have hw : sp_place rd cl k n i w = r1 := Eq.symm hw
  subst hw
  rw [ht] at hP1
  obtain ⟨hP, hD⟩ := va_join (wr := [(h, .inr (0, F)), (a, .inl (cB, 8000, .inl g))]) (w1 := [(f, .inr (10, S))]) hP hD [1] [0, 2] rfl rfl (by decide) (by decide) hk1 hFc hP1 hD1
  generalize H1 = H at hP hS ⊢
  have hP : va_P (dC, dI) CL [(h, .inr (0, F)), (a, .inl (cB, 8000, .inl g)), (f, .inr (10, S))] H := hP
  have hD : va_D A [(h, .inr (0, F)), (a, .inl (cB, 8000, .inl g)), (f, .inr (10, S))] := hD
  refine lv_istore_n (lv' := [(3, .int (sp_place rd cl k n i w)), (0, .ref h), (1, .int k), (2, .int i)]) hx hb d_V_kind_9 rfl hl (by decide) rfl (fun ls hl => ?_)
  refine lv_iload_n hx hb d_V_kind_10 rfl (lv_at hl 0 rfl) ?_
  refine lv_iconst (v := (-1)) hx hb d_V_kind_11 (by decide) ?_
  refine lv_icmp_ne (tgt := 19) hx hb d_V_kind_12 (by decide) (fun c_1 => ?_) (fun c_1 => ?_)
  · refine lv_aload_n hx hb d_V_kind_19 rfl (lv_at hl 1 rfl) ?_
    refine f_get (D := (dC, dI)) (ci := 0) (v := .ref f) (C := R_V) (T := F_V) (N := 15) hx hb hT in_V hown hK hP 0 rfl rfl 12 (by decide) fr_V_12 w_4_7 gF_12 d_V_kind_20 ?_
    refine f_get (D := (dC, dI)) (ci := 10) (v := .ref a) (C := R_Ans) (T := F_Ans) (N := 16) hx hb hT in_Ans hown hK hP 2 rfl rfl 8 (by decide) fr_Ans_8 w_3_169 gS_8 d_V_kind_23 ?_
    refine lv_iload_n hx hb d_V_kind_26 rfl (lv_at hl 0 rfl) ?_
    refine va_bald hx hb hK hP 1 1 rfl rfl (place_in c_1 hn hwi) d_V_kind_27 ?_
    exact W.iret (v := (g ((sp_place rd cl k n i w) : Int32).toNatClampNeg)) hx hb hr (fun t ht hW => ⟨⟨(g ((sp_place rd cl k n i w) : Int32).toNatClampNeg), (), rfl, by rw [if_neg c_1], by rw [ht]; exact hP, hD⟩, hS.F ht⟩) hS.2.2 d_V_kind_28
  · refine lv_iconst (v := (-1)) hx hb d_V_kind_15 (by decide) ?_
    refine lv_goto (tgt := 28) hx hb d_V_kind_16 (by decide) ?_
    exact W.iret (v := (-1)) hx hb hr (fun t ht hW => ⟨⟨(-1), (), rfl, by rw [if_pos c_1], by rw [ht]; exact hP, hD⟩, hS.F ht⟩) hS.2.2 d_V_kind_28
set_option maxHeartbeats 4000000 in
set_option maxRecDepth 100000 in
/-- value(k, i) -/
theorem c_V_value (sz : Nat) (h : Nat) (F : List Value) (f : Nat) (S : List Value) (a b : Nat) (g : Nat → Int32) (uj : Nat → Int64) (rd cl k n i w : Int32) (nF : F.length = 15) (gF_12 : F[12]? = some (.ref f)) (nS : S.length = 16) (gS_0 : S[0]? = some (.int rd)) (gS_6 : S[6]? = some (.int cl)) (gS_1 : S[1]? = some (.int n)) (gS_7 : S[7]? = some (.int w)) (gS_8 : S[8]? = some (.ref a)) (gS_9 : S[9]? = some (.ref b)) (hn : n.toInt ≤ 500) (hwi : w.toInt ≤ 16) : Met l y_V_value (wsOf y_V_value b_V_value 4 (some (.long))) ({ frames := 1, cells := 0, slots := 0, locals := 23 }) (va_Pc [.ref h, .int k, .int i] (PC dC dI cI cB cJ cZ sz [(h, .inr (0, F)), (f, .inr (10, S)), (a, .inl (cB, 8000, .inl g)), (b, .inl (cJ, 8000, .inr (.inl uj)))])) (va_Ql (fun (r : Int64) (_ : Unit) => r = if sp_place rd cl k n i w = -1 then 0 else if g (sp_place rd cl k n i w).toNatClampNeg = 0 then 0 else if g (sp_place rd cl k n i w).toNatClampNeg = 3 then 0 else uj (sp_place rd cl k n i w).toNatClampNeg) (fun _ t => va_P (dC, dI) CL [(h, .inr (0, F)), (a, .inl (cB, 8000, .inl g)), (b, .inl (cJ, 8000, .inr (.inl uj))), (f, .inr (10, S))] t.heap ∧ va_D (va_A [(h, .inr (0, F)), (f, .inr (10, S)), (a, .inl (cB, 8000, .inl g)), (b, .inl (cJ, 8000, .inr (.inl uj)))] sz) [(h, .inr (0, F)), (a, .inl (cB, 8000, .inl g)), (b, .inl (cJ, 8000, .inr (.inl uj))), (f, .inr (10, S))]) (va_A [(h, .inr (0, F)), (f, .inr (10, S)), (a, .inl (cB, 8000, .inl g)), (b, .inl (cJ, 8000, .inr (.inl uj)))] sz)) 0 0 (va_A [(h, .inr (0, F)), (f, .inr (10, S)), (a, .inl (cB, 8000, .inl g)), (b, .inl (cJ, 8000, .inr (.inl uj)))] sz) := by
  refine Met.ofW (cc := b_V_value) (maxL := 4) (ret := some (.long)) (by decide) rfl ?_
  intro p e s m args below meth c s₁ B hml hv
  obtain ⟨rfl, hsz, hP, hK, hD0, hN⟩ := hv
  have hx := B.exec
  have hb := B.bytes
  have hr := B.returns
  have hts := atoms_spec B.pre
  have hT : ∀ w ∈ TG, w.before _ s = true := fun w h => hts w (List.mem_cons_of_mem _ h)
  have hown : s.vm.findClass R_V = some m.cls := findClass_of_methodNamed B.named
  have hlocks := B.notSynchronized
  subst hsz
  have hD := hD0.self (sz := s.heap.size)
  generalize hAe : va_A [(h, .inr (0, F)), (f, .inr (10, S)), (a, .inl (cB, 8000, .inl g)), (b, .inl (cJ, 8000, .inr (.inl uj)))] s.heap.size = A at hD ⊢
  have hA : ∀ q : Nat, s.heap.size ≤ q → A q := fun q h => by rw [← hAe]; exact Or.inr h
  have hS : va_S A s.heap s.heap [] := va_S.rf
  have hl := lv_entry ([.ref h, .int k, .int i]) (n := 4) (Nat.le_of_ble_eq_true rfl)
  rw [lg_entry_eq]
  generalize (lg_sl ([.ref h, .int k, .int i]) ++ List.replicate (4 - (lg_sl ([.ref h, .int k, .int i])).length) Slot.unset).toArray = ls at hl ⊢
  have hl : lv_has ls 4 [(0, .ref h), (1, .int k), (2, .int i)] := hl
  refine lv_aload_n hx hb d_V_value_0 rfl (lv_at hl 0 rfl) ?_
  refine f_get (D := (dC, dI)) (ci := 0) (v := .ref f) (C := R_V) (T := F_V) (N := 15) hx hb hT in_V hown hK hP 0 rfl rfl 12 (by decide) fr_V_12 w_4_7 gF_12 d_V_value_1 ?_
  refine lv_iload_n hx hb d_V_value_4 rfl (lv_at hl 1 rfl) ?_
  refine lv_iload_n hx hb d_V_value_5 rfl (lv_at hl 2 rfl) ?_
  have hPc := hP.sub (ws' := [(f, .inr (10, S))]) [1] rfl
  have hDc := hD.sub (ws' := [(f, .inr (10, S))]) [1] (by decide) rfl
  have hFc := va_free (wc := [(f, .inr (10, S))]) hD hS hA [1] rfl
  refine va_calli (va_runV (C := R_Ans) (As := [.int k, .int i]) (rest := []) ⟨hx, hb, hml, hown, hT⟩ (c_Ans_placeOf l dC dI cI cB cJ cZ s.heap.size f S rd cl k n i w nS gS_0 gS_6 gS_1 gS_7) ⟨callB_of 2 hT (gw_in w_8_150) rfl rfl rfl (hT _ w_1_13) (hT _ w_8_147) (by decide +kernel) ⟨Nat.le_of_ble_eq_true rfl, Nat.le_of_ble_eq_true rfl⟩, hT _ w_8_148, hT _ w_8_149⟩ ⟨PC.blind, va_recv hK hPc (ci := 10) (q0 := 0) rfl rfl, PC.at _ hPc hDc hK hN⟩ rfl rfl hl.1 rfl (lv_room (Nat.le_of_ble_eq_true rfl)) d_V_value_6 ⟨show _ ≤ 0 by omega, show _ ≤ 0 by omega⟩) hS (fun q _ h => hFc q h) hFc (fun r1 u t H1 locs ht hvm hw hB hz1 hk1 hS => ?_)
  obtain ⟨hP1, hD1⟩ := hB
  have hw : sp_place rd cl k n i w = r1 := Eq.symm hw
  subst hw
  rw [ht] at hP1
  obtain ⟨hP, hD⟩ := va_join (wr := [(h, .inr (0, F)), (a, .inl (cB, 8000, .inl g)), (b, .inl (cJ, 8000, .inr (.inl uj)))]) (w1 := [(f, .inr (10, S))]) hP hD [1] [0, 2, 3] rfl rfl (by decide) (by decide) hk1 hFc hP1 hD1
  generalize H1 = H at hP hS ⊢
  have hP : va_P (dC, dI) CL [(h, .inr (0, F)), (a, .inl (cB, 8000, .inl g)), (b, .inl (cJ, 8000, .inr (.inl uj))), (f, .inr (10, S))] H := hP
  have hD : va_D A [(h, .inr (0, F)), (a, .inl (cB, 8000, .inl g)), (b, .inl (cJ, 8000, .inr (.inl uj))), (f, .inr (10, S))] := hD
  refine lv_istore_n (lv' := [(3, .int (sp_place rd cl k n i w)), (0, .ref h), (1, .int k), (2, .int i)]) hx hb d_V_value_9 rfl hl (by decide) rfl (fun ls hl => ?_)
  refine lv_iload_n hx hb d_V_value_10 rfl (lv_at hl 0 rfl) ?_
  refine lv_iconst (v := (-1)) hx hb d_V_value_11 (by decide) ?_
  refine lv_icmp_eq (tgt := 40) hx hb d_V_value_12 (by decide) (fun c_1 => ?_) (fun c_1 => ?_)
  · refine lv_lconst (v := 0) hx hb d_V_value_40 (by decide) ?_
    refine lv_goto (tgt := 53) hx hb d_V_value_41 (by decide) ?_
    exact W.lret (v := 0) hx hb hr (fun t ht hW => ⟨⟨0, (), rfl, by simp [c_1], by rw [ht]; exact hP, hD⟩, hS.F ht⟩) hS.2.2 d_V_value_53
  · refine lv_aload_n hx hb d_V_value_15 rfl (lv_at hl 1 rfl) ?_
    refine f_get (D := (dC, dI)) (ci := 0) (v := .ref f) (C := R_V) (T := F_V) (N := 15) hx hb hT in_V hown hK hP 0 rfl rfl 12 (by decide) fr_V_12 w_4_7 gF_12 d_V_value_16 ?_
    refine f_get (D := (dC, dI)) (ci := 10) (v := .ref a) (C := R_Ans) (T := F_Ans) (N := 16) hx hb hT in_Ans hown hK hP 3 rfl rfl 8 (by decide) fr_Ans_8 w_3_169 gS_8 d_V_value_19 ?_
    refine lv_iload_n hx hb d_V_value_22 rfl (lv_at hl 0 rfl) ?_
    refine va_bald hx hb hK hP 1 1 rfl rfl (place_in c_1 hn hwi) d_V_value_23 ?_
    refine lv_if_eq (tgt := 40) hx hb d_V_value_24 (by decide) (fun c_2 => ?_) (fun c_2 => ?_)
    · refine lv_lconst (v := 0) hx hb d_V_value_40 (by decide) ?_
      refine lv_goto (tgt := 53) hx hb d_V_value_41 (by decide) ?_
      exact W.lret (v := 0) hx hb hr (fun t ht hW => ⟨⟨0, (), rfl, by simp [c_1, c_2], by rw [ht]; exact hP, hD⟩, hS.F ht⟩) hS.2.2 d_V_value_53
    · refine lv_aload_n hx hb d_V_value_27 rfl (lv_at hl 1 rfl) ?_
      refine f_get (D := (dC, dI)) (ci := 0) (v := .ref f) (C := R_V) (T := F_V) (N := 15) hx hb hT in_V hown hK hP 0 rfl rfl 12 (by decide) fr_V_12 w_4_7 gF_12 d_V_value_28 ?_
      refine f_get (D := (dC, dI)) (ci := 10) (v := .ref a) (C := R_Ans) (T := F_Ans) (N := 16) hx hb hT in_Ans hown hK hP 3 rfl rfl 8 (by decide) fr_Ans_8 w_3_169 gS_8 d_V_value_31 ?_
      refine lv_iload_n hx hb d_V_value_34 rfl (lv_at hl 0 rfl) ?_
      refine va_bald hx hb hK hP 1 1 rfl rfl (place_in c_1 hn hwi) d_V_value_35 ?_
      refine lv_iconst (v := 3) hx hb d_V_value_36 (by decide) ?_
      refine lv_icmp_ne (tgt := 44) hx hb d_V_value_37 (by decide) (fun c_3 => ?_) (fun c_3 => ?_)
      · refine lv_aload_n hx hb d_V_value_44 rfl (lv_at hl 1 rfl) ?_
        refine f_get (D := (dC, dI)) (ci := 0) (v := .ref f) (C := R_V) (T := F_V) (N := 15) hx hb hT in_V hown hK hP 0 rfl rfl 12 (by decide) fr_V_12 w_4_7 gF_12 d_V_value_45 ?_
        refine f_get (D := (dC, dI)) (ci := 10) (v := .ref b) (C := R_Ans) (T := F_Ans) (N := 16) hx hb hT in_Ans hown hK hP 3 rfl rfl 9 (by decide) fr_Ans_9 w_3_171 gS_9 d_V_value_48 ?_
        refine lv_iload_n hx hb d_V_value_51 rfl (lv_at hl 0 rfl) ?_
        refine va_lald hx hb hK hP 2 2 rfl rfl (place_in c_1 hn hwi) d_V_value_52 ?_
        exact W.lret (v := (uj ((sp_place rd cl k n i w) : Int32).toNatClampNeg)) hx hb hr (fun t ht hW => ⟨⟨(uj ((sp_place rd cl k n i w) : Int32).toNatClampNeg), (), rfl, by simp [c_1, c_2, c_3], by rw [ht]; exact hP, hD⟩, hS.F ht⟩) hS.2.2 d_V_value_53
      · refine lv_lconst (v := 0) hx hb d_V_value_40 (by decide) ?_
        refine lv_goto (tgt := 53) hx hb d_V_value_41 (by decide) ?_
        exact W.lret (v := 0) hx hb hr (fun t ht hW => ⟨⟨0, (), rfl, by simp [c_1, c_2, c_3], by rw [ht]; exact hP, hD⟩, hS.F ht⟩) hS.2.2 d_V_value_53
end
