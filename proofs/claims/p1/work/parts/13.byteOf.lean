theorem w_1_42 : (Jvm.Cond.fieldLink "StripedVault" (116 : Nat) "StripedVault$Sink" "bytes" "[B") ∈ TG := tw_1 42 (by decide +kernel) (by decide +kernel)
theorem d_V_byteOf_0 : decode b_V_byteOf 0 = .ok (.iload_n 1, 1) := by decide +kernel
theorem d_V_byteOf_1 : decode b_V_byteOf 1 = .ok (.ifCond .lt 14, 3) := by decide +kernel
theorem d_V_byteOf_15 : decode b_V_byteOf 15 = .ok (.iconst (-1), 1) := by decide +kernel
theorem d_V_byteOf_16 : decode b_V_byteOf 16 = .ok (.goto 16, 3) := by decide +kernel
theorem d_V_byteOf_32 : decode b_V_byteOf 32 = .ok (.ireturn, 1) := by decide +kernel
theorem d_V_byteOf_4 : decode b_V_byteOf 4 = .ok (.iload_n 1, 1) := by decide +kernel
theorem d_V_byteOf_5 : decode b_V_byteOf 5 = .ok (.aload_n 0, 1) := by decide +kernel
theorem d_V_byteOf_6 : decode b_V_byteOf 6 = .ok (.getfield 22, 3) := by decide +kernel
theorem d_V_byteOf_9 : decode b_V_byteOf 9 = .ok (.getfield 99, 3) := by decide +kernel
theorem d_V_byteOf_12 : decode b_V_byteOf 12 = .ok (.if_icmp .lt 7, 3) := by decide +kernel
theorem d_V_byteOf_19 : decode b_V_byteOf 19 = .ok (.aload_n 0, 1) := by decide +kernel
theorem d_V_byteOf_20 : decode b_V_byteOf 20 = .ok (.getfield 22, 3) := by decide +kernel
theorem d_V_byteOf_23 : decode b_V_byteOf 23 = .ok (.getfield 116, 3) := by decide +kernel
theorem d_V_byteOf_26 : decode b_V_byteOf 26 = .ok (.iload_n 1, 1) := by decide +kernel
theorem d_V_byteOf_27 : decode b_V_byteOf 27 = .ok (.baload, 1) := by decide +kernel
theorem d_V_byteOf_28 : decode b_V_byteOf 28 = .ok (.sipush 255, 3) := by decide +kernel
theorem d_V_byteOf_31 : decode b_V_byteOf 31 = .ok (.iand, 1) := by decide +kernel
theorem d_Mod_byteOf_0 : decode b_Mod_byteOf 0 = .ok (.aload_n 0, 1) := by decide +kernel
theorem d_Mod_byteOf_1 : decode b_Mod_byteOf 1 = .ok (.iconst 0, 1) := by decide +kernel
theorem d_Mod_byteOf_2 : decode b_Mod_byteOf 2 = .ok (.putfield 360, 3) := by decide +kernel
theorem d_Mod_byteOf_5 : decode b_Mod_byteOf 5 = .ok (.iload_n 1, 1) := by decide +kernel
theorem d_Mod_byteOf_6 : decode b_Mod_byteOf 6 = .ok (.ifCond .lt 11, 3) := by decide +kernel
theorem d_Mod_byteOf_17 : decode b_Mod_byteOf 17 = .ok (.iconst (-1), 1) := by decide +kernel
theorem d_Mod_byteOf_18 : decode b_Mod_byteOf 18 = .ok (.goto 9, 3) := by decide +kernel
theorem d_Mod_byteOf_27 : decode b_Mod_byteOf 27 = .ok (.ireturn, 1) := by decide +kernel
theorem d_Mod_byteOf_9 : decode b_Mod_byteOf 9 = .ok (.iload_n 1, 1) := by decide +kernel
theorem d_Mod_byteOf_10 : decode b_Mod_byteOf 10 = .ok (.aload_n 0, 1) := by decide +kernel
theorem d_Mod_byteOf_11 : decode b_Mod_byteOf 11 = .ok (.getfield 832, 3) := by decide +kernel
theorem d_Mod_byteOf_14 : decode b_Mod_byteOf 14 = .ok (.if_icmp .lt 7, 3) := by decide +kernel
theorem d_Mod_byteOf_21 : decode b_Mod_byteOf 21 = .ok (.aload_n 0, 1) := by decide +kernel
theorem d_Mod_byteOf_22 : decode b_Mod_byteOf 22 = .ok (.getfield 133, 3) := by decide +kernel
theorem d_Mod_byteOf_25 : decode b_Mod_byteOf 25 = .ok (.iload_n 1, 1) := by decide +kernel
theorem d_Mod_byteOf_26 : decode b_Mod_byteOf 26 = .ok (.iaload, 1) := by decide +kernel
/-- a place below a count that is not above a row's length is a place of the row -/
theorem in_row {k n : Int32} {m : Nat} (h0 : ¬ k < 0) (h : k < n) (hn : n.toInt ≤ m) : vp_in k m := by
  rw [vp_in_iff]
  rw [Int32.lt_iff_toInt_lt] at h h0
  rw [Int32.toInt_zero] at h0
  omega
def sp_at (k n x : Int32) : Int32 := if k < 0 then -1 else if k < n then x else -1
section
variable (l : Launch) (dC : Nat → ClassId) (dI : Nat → Nat → Nat) (cI cB cJ cZ : ClassId)
set_option maxHeartbeats 4000000 in
set_option maxRecDepth 100000 in
/-- byteOf(k) -/
theorem c_V_byteOf (sz : Nat) (h : Nat) (F : List Value) (f : Nat) (S : List Value) (a z : Nat) (g : Nat → Int32) (k n : Int32) (nF : F.length = 15) (gF_2 : F[2]? = some (.ref f)) (nS : S.length = 7) (gS_1 : S[1]? = some (.int n)) (gS_0 : S[0]? = some (.ref a)) (hn : n.toInt ≤ z) : Met l y_V_byteOf (wsOf y_V_byteOf b_V_byteOf 2 (some (.int))) ({ frames := 0, cells := 0, slots := 0, locals := 0 }) (va_Pc [.ref h, .int k] (PC dC dI cI cB cJ cZ sz [(h, .inr (0, F)), (f, .inr (1, S)), (a, .inl (cB, z, .inl g))])) (va_Qi (fun (r : Int32) (_ : Unit) => r = sp_at k n (g k.toNatClampNeg &&& 255)) (fun _ t => va_P (dC, dI) CL [(h, .inr (0, F)), (f, .inr (1, S)), (a, .inl (cB, z, .inl g))] t.heap ∧ va_D (va_A [(h, .inr (0, F)), (f, .inr (1, S)), (a, .inl (cB, z, .inl g))] sz) [(h, .inr (0, F)), (f, .inr (1, S)), (a, .inl (cB, z, .inl g))]) (va_A [(h, .inr (0, F)), (f, .inr (1, S)), (a, .inl (cB, z, .inl g))] sz)) 0 0 (va_A [(h, .inr (0, F)), (f, .inr (1, S)), (a, .inl (cB, z, .inl g))] sz) := by
  refine Met.ofW (cc := b_V_byteOf) (maxL := 2) (ret := some (.int)) (by decide) rfl ?_
  intro p e s m args below meth c s₁ B hml hv
  obtain ⟨rfl, hsz, hP, hK, hD0, hN⟩ := hv
  have hx := B.exec
  have hb := B.bytes
  have hr := B.returns
  have hts := atoms_spec B.pre
  have hT : ∀ w ∈ TG, w.before _ s = true := fun w h => hts w (List.mem_cons_of_mem _ h)
  have hown : s.vm.findClass R_V = some m.cls := findClass_of_methodNamed B.named
  have hlocks := B.notSynchronized
  subst hsz
  have hD := hD0.self (sz := s.heap.size)
  generalize hAe : va_A [(h, .inr (0, F)), (f, .inr (1, S)), (a, .inl (cB, z, .inl g))] s.heap.size = A at hD ⊢
  have hA : ∀ q : Nat, s.heap.size ≤ q → A q := fun q h => by rw [← hAe]; exact Or.inr h
  have hS : va_S A s.heap s.heap [] := va_S.rf
  have hl := lv_entry ([.ref h, .int k]) (n := 2) (Nat.le_of_ble_eq_true rfl)
  rw [lg_entry_eq]
  generalize (lg_sl ([.ref h, .int k]) ++ List.replicate (2 - (lg_sl ([.ref h, .int k])).length) Slot.unset).toArray = ls at hl ⊢
  have hl : lv_has ls 2 [(0, .ref h), (1, .int k)] := hl
  refine lv_iload_n hx hb d_V_byteOf_0 rfl (lv_at hl 1 rfl) ?_
  refine lv_if_lt (tgt := 15) hx hb d_V_byteOf_1 (by decide) (fun c_1 => ?_) (fun c_1 => ?_)
  · refine lv_iconst (v := (-1)) hx hb d_V_byteOf_15 (by decide) ?_
    refine lv_goto (tgt := 32) hx hb d_V_byteOf_16 (by decide) ?_
    exact W.iret (v := (-1)) hx hb hr (fun t ht hW => ⟨⟨(-1), (), rfl, by simp [sp_at, c_1], by rw [ht]; exact hP, hD⟩, hS.F ht⟩) hS.2.2 d_V_byteOf_32
  · refine lv_iload_n hx hb d_V_byteOf_4 rfl (lv_at hl 1 rfl) ?_
    refine lv_aload_n hx hb d_V_byteOf_5 rfl (lv_at hl 0 rfl) ?_
    refine f_get (D := (dC, dI)) (ci := 0) (v := .ref f) (C := R_V) (T := F_V) (N := 15) hx hb hT in_V hown hK hP 0 rfl rfl 2 (by decide) fr_V_2 w_3_237 gF_2 d_V_byteOf_6 ?_
    refine f_get (D := (dC, dI)) (ci := 1) (v := .int n) (C := R_Snk) (T := F_Snk) (N := 7) hx hb hT in_Snk hown hK hP 1 rfl rfl 1 (by decide) fr_Snk_1 w_1_44 gS_1 d_V_byteOf_9 ?_
    refine lv_icmp_lt (tgt := 19) hx hb d_V_byteOf_12 (by decide) (fun c_2 => ?_) (fun c_2 => ?_)
    · refine lv_aload_n hx hb d_V_byteOf_19 rfl (lv_at hl 0 rfl) ?_
      refine f_get (D := (dC, dI)) (ci := 0) (v := .ref f) (C := R_V) (T := F_V) (N := 15) hx hb hT in_V hown hK hP 0 rfl rfl 2 (by decide) fr_V_2 w_3_237 gF_2 d_V_byteOf_20 ?_
      refine f_get (D := (dC, dI)) (ci := 1) (v := .ref a) (C := R_Snk) (T := F_Snk) (N := 7) hx hb hT in_Snk hown hK hP 1 rfl rfl 0 (by decide) fr_Snk_0 w_1_42 gS_0 d_V_byteOf_23 ?_
      refine lv_iload_n hx hb d_V_byteOf_26 rfl (lv_at hl 1 rfl) ?_
      refine va_bald hx hb hK hP 2 1 rfl rfl (in_row c_1 c_2 hn) d_V_byteOf_27 ?_
      refine lv_sipush (v := 255) hx hb d_V_byteOf_28 (by decide) ?_
      refine lv_iand hx hb d_V_byteOf_31 ?_
      exact W.iret (v := ((g (k : Int32).toNatClampNeg) &&& 255)) hx hb hr (fun t ht hW => ⟨⟨((g (k : Int32).toNatClampNeg) &&& 255), (), rfl, by simp [sp_at, c_1, c_2], by rw [ht]; exact hP, hD⟩, hS.F ht⟩) hS.2.2 d_V_byteOf_32
    · refine lv_iconst (v := (-1)) hx hb d_V_byteOf_15 (by decide) ?_
      refine lv_goto (tgt := 32) hx hb d_V_byteOf_16 (by decide) ?_
      exact W.iret (v := (-1)) hx hb hr (fun t ht hW => ⟨⟨(-1), (), rfl, by simp [sp_at, c_1, c_2], by rw [ht]; exact hP, hD⟩, hS.F ht⟩) hS.2.2 d_V_byteOf_32
set_option maxHeartbeats 4000000 in
set_option maxRecDepth 100000 in
/-- the model's byteOf(k) -/
theorem c_Mod_byteOf (sz : Nat) (h : Nat) (F : List Value) (a z : Nat) (g : Nat → Int32) (k n : Int32) (nF : F.length = 167) (gF_65 : F[65]? = some (.int n)) (gF_62 : F[62]? = some (.ref a)) (hn : n.toInt ≤ z) : Met l y_Mod_byteOf (wsOf y_Mod_byteOf b_Mod_byteOf 2 (some (.int))) ({ frames := 0, cells := 0, slots := 0, locals := 0 }) (va_Pc [.ref h, .int k] (PC dC dI cI cB cJ cZ sz [(h, .inr (12, F)), (a, .inl (cI, z, .inl g))])) (va_Qi (fun (r : Int32) (_ : Unit) => r = sp_at k n (g k.toNatClampNeg)) (fun _ t => va_P (dC, dI) CL [(h, .inr (12, F.set 0 (.int 0))), (a, .inl (cI, z, .inl g))] t.heap ∧ va_D (va_A [(h, .inr (12, F)), (a, .inl (cI, z, .inl g))] sz) [(h, .inr (12, F.set 0 (.int 0))), (a, .inl (cI, z, .inl g))]) (va_A [(h, .inr (12, F)), (a, .inl (cI, z, .inl g))] sz)) 0 0 (va_A [(h, .inr (12, F)), (a, .inl (cI, z, .inl g))] sz) := by
  refine Met.ofW (cc := b_Mod_byteOf) (maxL := 2) (ret := some (.int)) (by decide) rfl ?_
  intro p e s m args below meth c s₁ B hml hv
  obtain ⟨rfl, hsz, hP, hK, hD0, hN⟩ := hv
  have hx := B.exec
  have hb := B.bytes
  have hr := B.returns
  have hts := atoms_spec B.pre
  have hT : ∀ w ∈ TG, w.before _ s = true := fun w h => hts w (List.mem_cons_of_mem _ h)
  have hown : s.vm.findClass R_Mod = some m.cls := findClass_of_methodNamed B.named
  have hlocks := B.notSynchronized
  subst hsz
  have hD := hD0.self (sz := s.heap.size)
  generalize hAe : va_A [(h, .inr (12, F)), (a, .inl (cI, z, .inl g))] s.heap.size = A at hD ⊢
  have hA : ∀ q : Nat, s.heap.size ≤ q → A q := fun q h => by rw [← hAe]; exact Or.inr h
  have hS : va_S A s.heap s.heap [] := va_S.rf
  have hl := lv_entry ([.ref h, .int k]) (n := 2) (Nat.le_of_ble_eq_true rfl)
  rw [lg_entry_eq]
  generalize (lg_sl ([.ref h, .int k]) ++ List.replicate (2 - (lg_sl ([.ref h, .int k])).length) Slot.unset).toArray = ls at hl ⊢
  have hl : lv_has ls 2 [(0, .ref h), (1, .int k)] := hl
  refine lv_aload_n hx hb d_Mod_byteOf_0 rfl (lv_at hl 0 rfl) ?_
  refine lv_iconst (v := 0) hx hb d_Mod_byteOf_1 (by decide) ?_
  refine f_put (D := (dC, dI)) (ci := 12) (v := .int 0) (ty := .int) (C := R_Mod) (T := F_Mod) (N := 167) hx hb hT in_Mod t_Mod t_Mod_ok n_Mod hown hK hP hD hS 0 rfl rfl 0 (by decide) fr_Mod_0 w_8_180 (by decide +kernel) rfl rfl (by rw [nF]; decide) d_Mod_byteOf_2 (fun H locs hP hD hS => ?_)
  have hP : va_P (dC, dI) CL [(h, .inr (12, F.set 0 (.int 0))), (a, .inl (cI, z, .inl g))] H := hP
  have hD : va_D A [(h, .inr (12, F.set 0 (.int 0))), (a, .inl (cI, z, .inl g))] := hD
  refine lv_iload_n hx hb d_Mod_byteOf_5 rfl (lv_at hl 1 rfl) ?_
  refine lv_if_lt (tgt := 17) hx hb d_Mod_byteOf_6 (by decide) (fun c_1 => ?_) (fun c_1 => ?_)
  · refine lv_iconst (v := (-1)) hx hb d_Mod_byteOf_17 (by decide) ?_
    refine lv_goto (tgt := 27) hx hb d_Mod_byteOf_18 (by decide) ?_
    exact W.iret (v := (-1)) hx hb hr (fun t ht hW => ⟨⟨(-1), (), rfl, by simp [sp_at, c_1], by rw [ht]; exact hP, hD⟩, hS.F ht⟩) hS.2.2 d_Mod_byteOf_27
  · refine lv_iload_n hx hb d_Mod_byteOf_9 rfl (lv_at hl 1 rfl) ?_
    refine lv_aload_n hx hb d_Mod_byteOf_10 rfl (lv_at hl 0 rfl) ?_
    refine f_get (D := (dC, dI)) (ci := 12) (v := .int n) (C := R_Mod) (T := F_Mod) (N := 167) hx hb hT in_Mod hown hK hP 0 rfl rfl 65 (by decide) fr_Mod_65 w_9_5 ((List.getElem?_set_ne (by decide)).trans gF_65) d_Mod_byteOf_11 ?_
    refine lv_icmp_lt (tgt := 21) hx hb d_Mod_byteOf_14 (by decide) (fun c_2 => ?_) (fun c_2 => ?_)
    · refine lv_aload_n hx hb d_Mod_byteOf_21 rfl (lv_at hl 0 rfl) ?_
      refine f_get (D := (dC, dI)) (ci := 12) (v := .ref a) (C := R_Mod) (T := F_Mod) (N := 167) hx hb hT in_Mod hown hK hP 0 rfl rfl 62 (by decide) fr_Mod_62 w_9_2 ((List.getElem?_set_ne (by decide)).trans gF_62) d_Mod_byteOf_22 ?_
      refine lv_iload_n hx hb d_Mod_byteOf_25 rfl (lv_at hl 1 rfl) ?_
      refine va_iald hx hb hK hP 1 0 rfl rfl (in_row c_1 c_2 hn) d_Mod_byteOf_26 ?_
      exact W.iret (v := (g (k : Int32).toNatClampNeg)) hx hb hr (fun t ht hW => ⟨⟨(g (k : Int32).toNatClampNeg), (), rfl, by simp [sp_at, c_1, c_2], by rw [ht]; exact hP, hD⟩, hS.F ht⟩) hS.2.2 d_Mod_byteOf_27
    · refine lv_iconst (v := (-1)) hx hb d_Mod_byteOf_17 (by decide) ?_
      refine lv_goto (tgt := 27) hx hb d_Mod_byteOf_18 (by decide) ?_
      exact W.iret (v := (-1)) hx hb hr (fun t ht hW => ⟨⟨(-1), (), rfl, by simp [sp_at, c_1, c_2], by rw [ht]; exact hP, hD⟩, hS.F ht⟩) hS.2.2 d_Mod_byteOf_27
end
