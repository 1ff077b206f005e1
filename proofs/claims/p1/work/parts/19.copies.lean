theorem fr_Mod_3 : F_Mod 3 = (R_Mod, "taped", "I", false) := rfl
theorem w_8_183 : (Jvm.Cond.fieldLink "StripedVaultModel" (364 : Nat) "StripedVaultModel" "taped" "I") ∈ TG := tw_8 183 (by decide +kernel) (by decide +kernel)
theorem d_Mod_take_0 : decode b_Mod_take 0 = .ok (.aload_n 0, 1) := by decide +kernel
theorem d_Mod_take_1 : decode b_Mod_take 1 = .ok (.iconst 0, 1) := by decide +kernel
theorem d_Mod_take_2 : decode b_Mod_take 2 = .ok (.putfield 360, 3) := by decide +kernel
theorem d_Mod_take_5 : decode b_Mod_take 5 = .ok (.iconst 0, 1) := by decide +kernel
theorem d_Mod_take_6 : decode b_Mod_take 6 = .ok (.istore_n 1, 1) := by decide +kernel
theorem d_Mod_take_33 : decode b_Mod_take 33 = .ok (.aload_n 0, 1) := by decide +kernel
theorem d_Mod_take_34 : decode b_Mod_take 34 = .ok (.aload_n 0, 1) := by decide +kernel
theorem d_Mod_take_35 : decode b_Mod_take 35 = .ok (.getfield 367, 3) := by decide +kernel
theorem d_Mod_take_38 : decode b_Mod_take 38 = .ok (.putfield 832, 3) := by decide +kernel
theorem d_Mod_take_41 : decode b_Mod_take 41 = .ok (.aload_n 0, 1) := by decide +kernel
theorem d_Mod_take_42 : decode b_Mod_take 42 = .ok (.iconst 0, 1) := by decide +kernel
theorem d_Mod_take_43 : decode b_Mod_take 43 = .ok (.putfield 367, 3) := by decide +kernel
theorem d_Mod_take_46 : decode b_Mod_take 46 = .ok (.return_, 1) := by decide +kernel
theorem d_Mod_end_0 : decode b_Mod_end 0 = .ok (.aload_n 0, 1) := by decide +kernel
theorem d_Mod_end_1 : decode b_Mod_end 1 = .ok (.iconst 0, 1) := by decide +kernel
theorem d_Mod_end_2 : decode b_Mod_end 2 = .ok (.putfield 360, 3) := by decide +kernel
theorem d_Mod_end_5 : decode b_Mod_end 5 = .ok (.iload_n 1, 1) := by decide +kernel
theorem d_Mod_end_6 : decode b_Mod_end 6 = .ok (.ifCond .lt 11, 3) := by decide +kernel
theorem d_Mod_end_17 : decode b_Mod_end 17 = .ok (.iconst 0, 1) := by decide +kernel
theorem d_Mod_end_18 : decode b_Mod_end 18 = .ok (.ireturn, 1) := by decide +kernel
theorem d_Mod_end_9 : decode b_Mod_end 9 = .ok (.iload_n 1, 1) := by decide +kernel
theorem d_Mod_end_10 : decode b_Mod_end 10 = .ok (.aload_n 0, 1) := by decide +kernel
theorem d_Mod_end_11 : decode b_Mod_end 11 = .ok (.getfield 364, 3) := by decide +kernel
theorem d_Mod_end_14 : decode b_Mod_end 14 = .ok (.if_icmp .le 5, 3) := by decide +kernel
theorem d_Mod_end_19 : decode b_Mod_end 19 = .ok (.iconst 0, 1) := by decide +kernel
theorem d_Mod_end_20 : decode b_Mod_end 20 = .ok (.istore_n 2, 1) := by decide +kernel
theorem d_Mod_end_44 : decode b_Mod_end 44 = .ok (.aload_n 0, 1) := by decide +kernel
theorem d_Mod_end_45 : decode b_Mod_end 45 = .ok (.iload_n 1, 1) := by decide +kernel
theorem d_Mod_end_46 : decode b_Mod_end 46 = .ok (.putfield 367, 3) := by decide +kernel
theorem d_Mod_end_49 : decode b_Mod_end 49 = .ok (.aload_n 0, 1) := by decide +kernel
theorem d_Mod_end_50 : decode b_Mod_end 50 = .ok (.iconst 0, 1) := by decide +kernel
theorem d_Mod_end_51 : decode b_Mod_end 51 = .ok (.putfield 364, 3) := by decide +kernel
theorem d_Mod_end_54 : decode b_Mod_end 54 = .ok (.iconst 1, 1) := by decide +kernel
theorem d_Mod_end_55 : decode b_Mod_end 55 = .ok (.ireturn, 1) := by decide +kernel
section
variable (l : Launch) (dC : Nat → ClassId) (dI : Nat → Nat → Nat) (cI cB cJ cZ : ClassId)
set_option maxHeartbeats 4000000 in
set_option maxRecDepth 100000 in
/-- the model's take() -/
theorem c_Mod_take (sz : Nat) (h : Nat) (F : List Value) (a b N : Nat) (t g : Nat → Int32) (hN0 : N ≤ 40000) (hN1 : N < 2 ^ 31) (nF : F.length = 167) (gF_62 : F[62]? = some (.ref b)) (gF_2 : F[2]? = some (.ref a)) (gF_4 : F[4]? = some (.int (nI N))) : Met l y_Mod_take (wsOf y_Mod_take b_Mod_take 2 none) ({ frames := 0, cells := 0, slots := 0, locals := 0 }) (va_Pc [.ref h] (PC dC dI cI cB cJ cZ sz [(h, .inr (12, F)), (a, .inl (cI, 40000, .inl t)), (b, .inl (cI, 40000, .inl g))])) (va_Qv (fun _ : Unit => True) (fun _ t1 => va_P (dC, dI) CL [(h, .inr (12, ((F.set 0 (.int 0)).set 65 (.int (nI N))).set 4 (.int 0))), (a, .inl (cI, 40000, .inl t)), (b, .inl (cI, 40000, .inl (cpyN g t N)))] t1.heap ∧ va_D (va_A [(h, .inr (12, F)), (a, .inl (cI, 40000, .inl t)), (b, .inl (cI, 40000, .inl g))] sz) [(h, .inr (12, ((F.set 0 (.int 0)).set 65 (.int (nI N))).set 4 (.int 0))), (a, .inl (cI, 40000, .inl t)), (b, .inl (cI, 40000, .inl (cpyN g t N)))]) (va_A [(h, .inr (12, F)), (a, .inl (cI, 40000, .inl t)), (b, .inl (cI, 40000, .inl g))] sz)) 0 0 (va_A [(h, .inr (12, F)), (a, .inl (cI, 40000, .inl t)), (b, .inl (cI, 40000, .inl g))] sz) := by
  refine Met.ofW (cc := b_Mod_take) (maxL := 2) (ret := none) (by decide) rfl ?_
  intro p e s m args below meth c s₁ B hml hv
  obtain ⟨rfl, hsz, hP, hK, hD0, hN⟩ := hv
  have hx := B.exec
  have hb := B.bytes
  have hr := B.returns
  have hts := atoms_spec B.pre
  have hT : ∀ w ∈ TG, w.before _ s = true := fun w h => hts w (List.mem_cons_of_mem _ h)
  have hown : s.vm.findClass R_Mod = some m.cls := findClass_of_methodNamed B.named
  have hlocks := B.notSynchronized
  subst hsz
  have hD := hD0.self (sz := s.heap.size)
  generalize hAe : va_A [(h, .inr (12, F)), (a, .inl (cI, 40000, .inl t)), (b, .inl (cI, 40000, .inl g))] s.heap.size = A at hD ⊢
  have hA : ∀ q : Nat, s.heap.size ≤ q → A q := fun q h => by rw [← hAe]; exact Or.inr h
  have hS : va_S A s.heap s.heap [] := va_S.rf
  have hl := lv_entry ([.ref h]) (n := 2) (Nat.le_of_ble_eq_true rfl)
  rw [lg_entry_eq]
  generalize (lg_sl ([.ref h]) ++ List.replicate (2 - (lg_sl ([.ref h])).length) Slot.unset).toArray = ls at hl ⊢
  have hl : lv_has ls 2 [(0, .ref h)] := hl
  refine lv_aload_n hx hb d_Mod_take_0 rfl (lv_at hl 0 rfl) ?_
  refine lv_iconst (v := 0) hx hb d_Mod_take_1 (by decide) ?_
  refine f_put (D := (dC, dI)) (ci := 12) (v := .int 0) (ty := .int) (C := R_Mod) (T := F_Mod) (N := 167) hx hb hT in_Mod t_Mod t_Mod_ok n_Mod hown hK hP hD hS 0 rfl rfl 0 (by decide) fr_Mod_0 w_8_180 (by decide +kernel) rfl rfl (by rw [nF]; decide) d_Mod_take_2 (fun H locs hP hD hS => ?_)
  have hP : va_P (dC, dI) CL [(h, .inr (12, F.set 0 (.int 0))), (a, .inl (cI, 40000, .inl t)), (b, .inl (cI, 40000, .inl g))] H := hP
  have hD : va_D A [(h, .inr (12, F.set 0 (.int 0))), (a, .inl (cI, 40000, .inl t)), (b, .inl (cI, 40000, .inl g))] := hD
  refine lv_iconst (v := 0) hx hb d_Mod_take_5 (by decide) ?_
  refine lv_istore_n (lv' := [(1, .int 0), (0, .ref h)]) hx hb d_Mod_take_6 rfl hl (by decide) rfl (fun ls hl => ?_)
  refine lp_Mod_take (F := F.set 0 (.int 0)) (t := t) (g := g) hx hb hT hown hK hN0 hN1 (by rw [List.length_set]; exact nF) ((List.getElem?_set_ne (by decide)).trans gF_62) ((List.getElem?_set_ne (by decide)).trans gF_2) ((List.getElem?_set_ne (by decide)).trans gF_4) (fun H locs ls hP hD hS hl => ?_) (N + 1) 0 _ _ ls (Nat.zero_le _) (by omega) (by rw [cpy_0]; exact hP) (by rw [cpy_0]; exact hD) hS (lv_sub hl [0, 1] rfl)
  refine lv_aload_n hx hb d_Mod_take_33 rfl (lv_at hl 1 rfl) ?_
  refine lv_aload_n hx hb d_Mod_take_34 rfl (lv_at hl 1 rfl) ?_
  refine f_get (D := (dC, dI)) (ci := 12) (v := .int (nI N)) (C := R_Mod) (T := F_Mod) (N := 167) hx hb hT in_Mod hown hK hP 0 rfl rfl 4 (by decide) fr_Mod_4 w_8_184 ((List.getElem?_set_ne (by decide)).trans gF_4) d_Mod_take_35 ?_
  refine f_put (D := (dC, dI)) (ci := 12) (v := .int (nI N)) (ty := .int) (C := R_Mod) (T := F_Mod) (N := 167) hx hb hT in_Mod t_Mod t_Mod_ok n_Mod hown hK hP hD hS 0 rfl rfl 65 (by decide) fr_Mod_65 w_9_5 (by decide +kernel) rfl rfl (by rw [List.length_set]; exact (by rw [nF]; decide)) d_Mod_take_38 (fun H locs hP hD hS => ?_)
  have hP : va_P (dC, dI) CL [(h, .inr (12, (F.set 0 (.int 0)).set 65 (.int (nI N)))), (a, .inl (cI, 40000, .inl t)), (b, .inl (cI, 40000, .inl (cpyN g t N)))] H := hP
  have hD : va_D A [(h, .inr (12, (F.set 0 (.int 0)).set 65 (.int (nI N)))), (a, .inl (cI, 40000, .inl t)), (b, .inl (cI, 40000, .inl (cpyN g t N)))] := hD
  refine lv_aload_n hx hb d_Mod_take_41 rfl (lv_at hl 1 rfl) ?_
  refine lv_iconst (v := 0) hx hb d_Mod_take_42 (by decide) ?_
  refine f_put (D := (dC, dI)) (ci := 12) (v := .int 0) (ty := .int) (C := R_Mod) (T := F_Mod) (N := 167) hx hb hT in_Mod t_Mod t_Mod_ok n_Mod hown hK hP hD hS 0 rfl rfl 4 (by decide) fr_Mod_4 w_8_184 (by decide +kernel) rfl rfl (by rw [List.length_set]; exact (by rw [List.length_set]; exact (by rw [nF]; decide))) d_Mod_take_43 (fun H locs hP hD hS => ?_)
  have hP : va_P (dC, dI) CL [(h, .inr (12, ((F.set 0 (.int 0)).set 65 (.int (nI N))).set 4 (.int 0))), (a, .inl (cI, 40000, .inl t)), (b, .inl (cI, 40000, .inl (cpyN g t N)))] H := hP
  have hD : va_D A [(h, .inr (12, ((F.set 0 (.int 0)).set 65 (.int (nI N))).set 4 (.int 0))), (a, .inl (cI, 40000, .inl t)), (b, .inl (cI, 40000, .inl (cpyN g t N)))] := hD
  exact W.vret hx hb hr (fun t ht hW => ⟨⟨(), rfl, trivial, by rw [ht]; exact hP, hD⟩, hS.F ht⟩) hS.2.2 d_Mod_take_46
set_option maxHeartbeats 4000000 in
set_option maxRecDepth 100000 in
/-- the model's end(k) -/
theorem c_Mod_end (sz : Nat) (h : Nat) (F : List Value) (a b : Nat) (t g : Nat → Int32) (k n : Int32) (hn : n.toInt ≤ (40000 : Nat)) (nF : F.length = 167) (gF_2 : F[2]? = some (.ref b)) (gF_1 : F[1]? = some (.ref a)) (gF_3 : F[3]? = some (.int n)) : Met l y_Mod_end (wsOf y_Mod_end b_Mod_end 3 (some (.boolean))) ({ frames := 0, cells := 0, slots := 0, locals := 0 }) (va_Pc [.ref h, .int k] (PC dC dI cI cB cJ cZ sz [(h, .inr (12, F)), (a, .inl (cI, 40000, .inl t)), (b, .inl (cI, 40000, .inl g))])) (va_Qi (fun (r : Int32) (_ : Unit) => r = if ¬ k < 0 ∧ k ≤ n then 1 else 0) (fun _ t1 => (¬ k < 0 ∧ k ≤ n → va_P (dC, dI) CL [(h, .inr (12, ((F.set 0 (.int 0)).set 4 (.int (k))).set 3 (.int 0))), (a, .inl (cI, 40000, .inl t)), (b, .inl (cI, 40000, .inl (cpyN g t k.toNatClampNeg)))] t1.heap ∧ va_D (va_A [(h, .inr (12, F)), (a, .inl (cI, 40000, .inl t)), (b, .inl (cI, 40000, .inl g))] sz) [(h, .inr (12, ((F.set 0 (.int 0)).set 4 (.int (k))).set 3 (.int 0))), (a, .inl (cI, 40000, .inl t)), (b, .inl (cI, 40000, .inl (cpyN g t k.toNatClampNeg)))]) ∧ (¬ (¬ k < 0 ∧ k ≤ n) → va_P (dC, dI) CL [(h, .inr (12, F.set 0 (.int 0))), (a, .inl (cI, 40000, .inl t)), (b, .inl (cI, 40000, .inl g))] t1.heap ∧ va_D (va_A [(h, .inr (12, F)), (a, .inl (cI, 40000, .inl t)), (b, .inl (cI, 40000, .inl g))] sz) [(h, .inr (12, F.set 0 (.int 0))), (a, .inl (cI, 40000, .inl t)), (b, .inl (cI, 40000, .inl g))])) (va_A [(h, .inr (12, F)), (a, .inl (cI, 40000, .inl t)), (b, .inl (cI, 40000, .inl g))] sz)) 0 0 (va_A [(h, .inr (12, F)), (a, .inl (cI, 40000, .inl t)), (b, .inl (cI, 40000, .inl g))] sz) := by
  refine Met.ofW (cc := b_Mod_end) (maxL := 3) (ret := some (.boolean)) (by decide) rfl ?_
  intro p e s m args below meth c s₁ B hml hv
  obtain ⟨rfl, hsz, hP, hK, hD0, hN⟩ := hv
  have hx := B.exec
  have hb := B.bytes
  have hr := B.returns
  have hts := atoms_spec B.pre
  have hT : ∀ w ∈ TG, w.before _ s = true := fun w h => hts w (List.mem_cons_of_mem _ h)
  have hown : s.vm.findClass R_Mod = some m.cls := findClass_of_methodNamed B.named
  have hlocks := B.notSynchronized
  subst hsz
  have hD := hD0.self (sz := s.heap.size)
  generalize hAe : va_A [(h, .inr (12, F)), (a, .inl (cI, 40000, .inl t)), (b, .inl (cI, 40000, .inl g))] s.heap.size = A at hD ⊢
  have hA : ∀ q : Nat, s.heap.size ≤ q → A q := fun q h => by rw [← hAe]; exact Or.inr h
  have hS : va_S A s.heap s.heap [] := va_S.rf
  have hl := lv_entry ([.ref h, .int k]) (n := 3) (Nat.le_of_ble_eq_true rfl)
  rw [lg_entry_eq]
  generalize (lg_sl ([.ref h, .int k]) ++ List.replicate (3 - (lg_sl ([.ref h, .int k])).length) Slot.unset).toArray = ls at hl ⊢
  have hl : lv_has ls 3 [(0, .ref h), (1, .int k)] := hl
  refine lv_aload_n hx hb d_Mod_end_0 rfl (lv_at hl 0 rfl) ?_
  refine lv_iconst (v := 0) hx hb d_Mod_end_1 (by decide) ?_
  refine f_put (D := (dC, dI)) (ci := 12) (v := .int 0) (ty := .int) (C := R_Mod) (T := F_Mod) (N := 167) hx hb hT in_Mod t_Mod t_Mod_ok n_Mod hown hK hP hD hS 0 rfl rfl 0 (by decide) fr_Mod_0 w_8_180 (by decide +kernel) rfl rfl (by rw [nF]; decide) d_Mod_end_2 (fun H locs hP hD hS => ?_)
  have hP : va_P (dC, dI) CL [(h, .inr (12, F.set 0 (.int 0))), (a, .inl (cI, 40000, .inl t)), (b, .inl (cI, 40000, .inl g))] H := hP
  have hD : va_D A [(h, .inr (12, F.set 0 (.int 0))), (a, .inl (cI, 40000, .inl t)), (b, .inl (cI, 40000, .inl g))] := hD
  refine lv_iload_n hx hb d_Mod_end_5 rfl (lv_at hl 1 rfl) ?_
  refine lv_if_lt (tgt := 17) hx hb d_Mod_end_6 (by decide) (fun c_1 => ?_) (fun c_1 => ?_)
  · refine lv_iconst (v := 0) hx hb d_Mod_end_17 (by decide) ?_
    exact W.zret (v := 0) (ty := .boolean) hx hb hr rfl (fun t1 ht hW => ⟨⟨0, (), rfl, by rw [if_neg (fun z => z.1 c_1)], ⟨fun z => absurd z (fun z => z.1 c_1), fun _ => ⟨by rw [ht]; exact hP, hD⟩⟩⟩, hS.F ht⟩) hS.2.2 d_Mod_end_18
  · refine lv_iload_n hx hb d_Mod_end_9 rfl (lv_at hl 1 rfl) ?_
    refine lv_aload_n hx hb d_Mod_end_10 rfl (lv_at hl 0 rfl) ?_
    refine f_get (D := (dC, dI)) (ci := 12) (v := .int n) (C := R_Mod) (T := F_Mod) (N := 167) hx hb hT in_Mod hown hK hP 0 rfl rfl 3 (by decide) fr_Mod_3 w_8_183 ((List.getElem?_set_ne (by decide)).trans gF_3) d_Mod_end_11 ?_
    refine lv_icmp_le (tgt := 19) hx hb d_Mod_end_14 (by decide) (fun c_2 => ?_) (fun c_2 => ?_)
    · obtain ⟨N, hN0, hN1, ek⟩ := nat_of c_1 c_2 hn
      subst ek
      refine lv_iconst (v := 0) hx hb d_Mod_end_19 (by decide) ?_
      refine lv_istore_n (lv' := [(2, .int 0), (0, .ref h), (1, .int (nI N))]) hx hb d_Mod_end_20 rfl hl (by decide) rfl (fun ls hl => ?_)
      refine lp_Mod_end (F := F.set 0 (.int 0)) (t := t) (g := g) hx hb hT hown hK hN0 hN1 (by rw [List.length_set]; exact nF) ((List.getElem?_set_ne (by decide)).trans gF_2) ((List.getElem?_set_ne (by decide)).trans gF_1) (fun H locs ls hP hD hS hl => ?_) (N + 1) 0 _ _ ls (Nat.zero_le _) (by omega) (by rw [cpy_0]; exact hP) (by rw [cpy_0]; exact hD) hS (lv_sub hl [0, 2, 1] rfl)
      refine lv_aload_n hx hb d_Mod_end_44 rfl (lv_at hl 2 rfl) ?_
      refine lv_iload_n hx hb d_Mod_end_45 rfl (lv_at hl 1 rfl) ?_
      refine f_put (D := (dC, dI)) (ci := 12) (v := .int (nI N)) (ty := .int) (C := R_Mod) (T := F_Mod) (N := 167) hx hb hT in_Mod t_Mod t_Mod_ok n_Mod hown hK hP hD hS 0 rfl rfl 4 (by decide) fr_Mod_4 w_8_184 (by decide +kernel) rfl rfl (by rw [List.length_set]; exact (by rw [nF]; decide)) d_Mod_end_46 (fun H locs hP hD hS => ?_)
      have hP : va_P (dC, dI) CL [(h, .inr (12, (F.set 0 (.int 0)).set 4 (.int (nI N)))), (a, .inl (cI, 40000, .inl t)), (b, .inl (cI, 40000, .inl (cpyN g t N)))] H := hP
      have hD : va_D A [(h, .inr (12, (F.set 0 (.int 0)).set 4 (.int (nI N)))), (a, .inl (cI, 40000, .inl t)), (b, .inl (cI, 40000, .inl (cpyN g t N)))] := hD
      refine lv_aload_n hx hb d_Mod_end_49 rfl (lv_at hl 2 rfl) ?_
      refine lv_iconst (v := 0) hx hb d_Mod_end_50 (by decide) ?_
      refine f_put (D := (dC, dI)) (ci := 12) (v := .int 0) (ty := .int) (C := R_Mod) (T := F_Mod) (N := 167) hx hb hT in_Mod t_Mod t_Mod_ok n_Mod hown hK hP hD hS 0 rfl rfl 3 (by decide) fr_Mod_3 w_8_183 (by decide +kernel) rfl rfl (by rw [List.length_set]; exact (by rw [List.length_set]; exact (by rw [nF]; decide))) d_Mod_end_51 (fun H locs hP hD hS => ?_)
      have hP : va_P (dC, dI) CL [(h, .inr (12, ((F.set 0 (.int 0)).set 4 (.int (nI N))).set 3 (.int 0))), (a, .inl (cI, 40000, .inl t)), (b, .inl (cI, 40000, .inl (cpyN g t N)))] H := hP
      have hD : va_D A [(h, .inr (12, ((F.set 0 (.int 0)).set 4 (.int (nI N))).set 3 (.int 0))), (a, .inl (cI, 40000, .inl t)), (b, .inl (cI, 40000, .inl (cpyN g t N)))] := hD
      refine lv_iconst (v := 1) hx hb d_Mod_end_54 (by decide) ?_
      exact W.zret (v := 1) (ty := .boolean) hx hb hr rfl (fun t1 ht hW => ⟨⟨1, (), rfl, by rw [if_pos (show _ ∧ _ from ⟨c_1, c_2⟩)], ⟨fun _ => ⟨by rw [ht, nI_clamp hN1]; exact hP, by rw [nI_clamp hN1]; exact hD⟩, fun z => absurd ⟨c_1, c_2⟩ z⟩⟩, hS.F ht⟩) hS.2.2 d_Mod_end_55
    · refine lv_iconst (v := 0) hx hb d_Mod_end_17 (by decide) ?_
      exact W.zret (v := 0) (ty := .boolean) hx hb hr rfl (fun t1 ht hW => ⟨⟨0, (), rfl, by rw [if_neg (fun z => c_2 z.2)], ⟨fun z => absurd z (fun z => c_2 z.2), fun _ => ⟨by rw [ht]; exact hP, hD⟩⟩⟩, hS.F ht⟩) hS.2.2 d_Mod_end_18
end
