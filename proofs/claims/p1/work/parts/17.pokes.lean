
theorem d_V_end_0 : decode b_V_end 0 = .ok (.iload_n 1, 1) := by decide +kernel
theorem d_V_end_1 : decode b_V_end 1 = .ok (.ifCond .lt 14, 3) := by decide +kernel
theorem d_V_end_15 : decode b_V_end 15 = .ok (.iconst 0, 1) := by decide +kernel
theorem d_V_end_16 : decode b_V_end 16 = .ok (.ireturn, 1) := by decide +kernel
theorem d_V_end_4 : decode b_V_end 4 = .ok (.iload_n 1, 1) := by decide +kernel
theorem d_V_end_5 : decode b_V_end 5 = .ok (.aload_n 0, 1) := by decide +kernel
theorem d_V_end_6 : decode b_V_end 6 = .ok (.getfield 15, 3) := by decide +kernel
theorem d_V_end_9 : decode b_V_end 9 = .ok (.getfield 99, 3) := by decide +kernel
theorem d_V_end_12 : decode b_V_end 12 = .ok (.if_icmp .le 5, 3) := by decide +kernel
theorem d_V_end_17 : decode b_V_end 17 = .ok (.aload_n 0, 1) := by decide +kernel
theorem d_V_end_18 : decode b_V_end 18 = .ok (.getfield 19, 3) := by decide +kernel
theorem d_V_end_21 : decode b_V_end 21 = .ok (.astore_n 2, 1) := by decide +kernel
theorem d_V_end_22 : decode b_V_end 22 = .ok (.aload_n 0, 1) := by decide +kernel
theorem d_V_end_23 : decode b_V_end 23 = .ok (.aload_n 0, 1) := by decide +kernel
theorem d_V_end_24 : decode b_V_end 24 = .ok (.getfield 15, 3) := by decide +kernel
theorem d_V_end_27 : decode b_V_end 27 = .ok (.putfield 19, 3) := by decide +kernel
theorem d_V_end_30 : decode b_V_end 30 = .ok (.aload_n 0, 1) := by decide +kernel
theorem d_V_end_31 : decode b_V_end 31 = .ok (.getfield 19, 3) := by decide +kernel
theorem d_V_end_34 : decode b_V_end 34 = .ok (.iload_n 1, 1) := by decide +kernel
theorem d_V_end_35 : decode b_V_end 35 = .ok (.putfield 99, 3) := by decide +kernel
theorem d_V_end_38 : decode b_V_end 38 = .ok (.aload_n 0, 1) := by decide +kernel
theorem d_V_end_39 : decode b_V_end 39 = .ok (.aload_n 2, 1) := by decide +kernel
theorem d_V_end_40 : decode b_V_end 40 = .ok (.putfield 15, 3) := by decide +kernel
theorem d_V_end_43 : decode b_V_end 43 = .ok (.aload_n 0, 1) := by decide +kernel
theorem d_V_end_44 : decode b_V_end 44 = .ok (.getfield 15, 3) := by decide +kernel
theorem d_V_end_47 : decode b_V_end 47 = .ok (.invokevirtual 109, 3) := by decide +kernel
theorem d_V_end_50 : decode b_V_end 50 = .ok (.iconst 1, 1) := by decide +kernel
theorem d_V_end_51 : decode b_V_end 51 = .ok (.ireturn, 1) := by decide +kernel
theorem d_V_poke_0 : decode b_V_poke 0 = .ok (.iload_n 1, 1) := by decide +kernel
theorem d_V_poke_1 : decode b_V_poke 1 = .ok (.ifCond .lt 14, 3) := by decide +kernel
theorem d_V_poke_15 : decode b_V_poke 15 = .ok (.iconst 0, 1) := by decide +kernel
theorem d_V_poke_16 : decode b_V_poke 16 = .ok (.ireturn, 1) := by decide +kernel
theorem d_V_poke_4 : decode b_V_poke 4 = .ok (.iload_n 1, 1) := by decide +kernel
theorem d_V_poke_5 : decode b_V_poke 5 = .ok (.aload_n 0, 1) := by decide +kernel
theorem d_V_poke_6 : decode b_V_poke 6 = .ok (.getfield 22, 3) := by decide +kernel
theorem d_V_poke_9 : decode b_V_poke 9 = .ok (.getfield 99, 3) := by decide +kernel
theorem d_V_poke_12 : decode b_V_poke 12 = .ok (.if_icmp .lt 5, 3) := by decide +kernel
theorem d_V_poke_17 : decode b_V_poke 17 = .ok (.aload_n 0, 1) := by decide +kernel
theorem d_V_poke_18 : decode b_V_poke 18 = .ok (.getfield 22, 3) := by decide +kernel
theorem d_V_poke_21 : decode b_V_poke 21 = .ok (.getfield 116, 3) := by decide +kernel
theorem d_V_poke_24 : decode b_V_poke 24 = .ok (.iload_n 1, 1) := by decide +kernel
theorem d_V_poke_25 : decode b_V_poke 25 = .ok (.iload_n 2, 1) := by decide +kernel
theorem d_V_poke_26 : decode b_V_poke 26 = .ok (.i2b, 1) := by decide +kernel
theorem d_V_poke_27 : decode b_V_poke 27 = .ok (.bastore, 1) := by decide +kernel
theorem d_V_poke_28 : decode b_V_poke 28 = .ok (.iconst 1, 1) := by decide +kernel
theorem d_V_poke_29 : decode b_V_poke 29 = .ok (.ireturn, 1) := by decide +kernel
theorem d_Mod_poke_0 : decode b_Mod_poke 0 = .ok (.aload_n 0, 1) := by decide +kernel
theorem d_Mod_poke_1 : decode b_Mod_poke 1 = .ok (.iconst 0, 1) := by decide +kernel
theorem d_Mod_poke_2 : decode b_Mod_poke 2 = .ok (.putfield 360, 3) := by decide +kernel
theorem d_Mod_poke_5 : decode b_Mod_poke 5 = .ok (.iload_n 1, 1) := by decide +kernel
theorem d_Mod_poke_6 : decode b_Mod_poke 6 = .ok (.ifCond .lt 11, 3) := by decide +kernel
theorem d_Mod_poke_17 : decode b_Mod_poke 17 = .ok (.iconst 0, 1) := by decide +kernel
theorem d_Mod_poke_18 : decode b_Mod_poke 18 = .ok (.ireturn, 1) := by decide +kernel
theorem d_Mod_poke_9 : decode b_Mod_poke 9 = .ok (.iload_n 1, 1) := by decide +kernel
theorem d_Mod_poke_10 : decode b_Mod_poke 10 = .ok (.aload_n 0, 1) := by decide +kernel
theorem d_Mod_poke_11 : decode b_Mod_poke 11 = .ok (.getfield 832, 3) := by decide +kernel
theorem d_Mod_poke_14 : decode b_Mod_poke 14 = .ok (.if_icmp .lt 5, 3) := by decide +kernel
theorem d_Mod_poke_19 : decode b_Mod_poke 19 = .ok (.aload_n 0, 1) := by decide +kernel
theorem d_Mod_poke_20 : decode b_Mod_poke 20 = .ok (.getfield 133, 3) := by decide +kernel
theorem d_Mod_poke_23 : decode b_Mod_poke 23 = .ok (.iload_n 1, 1) := by decide +kernel
theorem d_Mod_poke_24 : decode b_Mod_poke 24 = .ok (.iload_n 2, 1) := by decide +kernel
theorem d_Mod_poke_25 : decode b_Mod_poke 25 = .ok (.sipush 255, 3) := by decide +kernel
theorem d_Mod_poke_28 : decode b_Mod_poke 28 = .ok (.iand, 1) := by decide +kernel
theorem d_Mod_poke_29 : decode b_Mod_poke 29 = .ok (.iastore, 1) := by decide +kernel
theorem d_Mod_poke_30 : decode b_Mod_poke 30 = .ok (.iconst 1, 1) := by decide +kernel
theorem d_Mod_poke_31 : decode b_Mod_poke 31 = .ok (.ireturn, 1) := by decide +kernel
section
variable (l : Launch) (dC : Nat → ClassId) (dI : Nat → Nat → Nat) (cI cB cJ cZ : ClassId)
set_option maxHeartbeats 4000000 in
set_option maxRecDepth 100000 in
/-- end(k) -/
theorem c_V_end (sz : Nat) (h : Nat) (F : List Value) (f : Nat) (S : List Value) (i : Nat) (I : List Value) (k n : Int32) (nF : F.length = 15) (gF_0 : F[0]? = some (.ref f)) (gF_1 : F[1]? = some (.ref i)) (nS : S.length = 7) (gS_1 : S[1]? = some (.int n)) (nI : I.length = 7) : Met l y_V_end (wsOf y_V_end b_V_end 3 (some (.boolean))) ({ frames := 1, cells := 0, slots := 0, locals := 20 }) (va_Pc [.ref h, .int k] (PC dC dI cI cB cJ cZ sz [(h, .inr (0, F)), (f, .inr (1, S)), (i, .inr (1, I))])) (va_Qi (fun (r : Int32) (_ : Unit) => r = if ¬ k < 0 ∧ k ≤ n then 1 else 0) (fun _ t => (¬ k < 0 ∧ k ≤ n → va_P (dC, dI) CL [(h, .inr (0, (F.set 1 (.ref f)).set 0 (.ref i))), (f, .inr (1, S.set 1 (.int k))), (i, .inr (1, (I.set 1 (.int 0)).set 2 (.int 0)))] t.heap ∧ va_D (va_A [(h, .inr (0, F)), (f, .inr (1, S)), (i, .inr (1, I))] sz) [(h, .inr (0, (F.set 1 (.ref f)).set 0 (.ref i))), (f, .inr (1, S.set 1 (.int k))), (i, .inr (1, (I.set 1 (.int 0)).set 2 (.int 0)))]) ∧ (¬ (¬ k < 0 ∧ k ≤ n) → va_P (dC, dI) CL [(h, .inr (0, F)), (f, .inr (1, S)), (i, .inr (1, I))] t.heap ∧ va_D (va_A [(h, .inr (0, F)), (f, .inr (1, S)), (i, .inr (1, I))] sz) [(h, .inr (0, F)), (f, .inr (1, S)), (i, .inr (1, I))])) (va_A [(h, .inr (0, F)), (f, .inr (1, S)), (i, .inr (1, I))] sz)) 0 0 (va_A [(h, .inr (0, F)), (f, .inr (1, S)), (i, .inr (1, I))] sz) := by
  refine Met.ofW (cc := b_V_end) (maxL := 3) (ret := some (.boolean)) (by decide) rfl ?_
  intro p e s m args below meth c s₁ B hml hv
  obtain ⟨rfl, hsz, hP, hK, hD0, hN⟩ := hv
  have hx := B.exec
  have hb := B.bytes
  have hr := B.returns
  have hts := atoms_spec B.pre
  have hT : ∀ w ∈ TG, w.before _ s = true := fun w h => hts w (List.mem_cons_of_mem _ h)
  have hown : s.vm.findClass R_V = some m.cls := findClass_of_methodNamed B.named
  have hlocks := B.notSynchronized
  subst hsz
  have hD := hD0.self (sz := s.heap.size)
  generalize hAe : va_A [(h, .inr (0, F)), (f, .inr (1, S)), (i, .inr (1, I))] s.heap.size = A at hD ⊢
  have hA : ∀ q : Nat, s.heap.size ≤ q → A q := fun q h => by rw [← hAe]; exact Or.inr h
  have hS : va_S A s.heap s.heap [] := va_S.rf
  have hl := lv_entry ([.ref h, .int k]) (n := 3) (Nat.le_of_ble_eq_true rfl)
  rw [lg_entry_eq]
  generalize (lg_sl ([.ref h, .int k]) ++ List.replicate (3 - (lg_sl ([.ref h, .int k])).length) Slot.unset).toArray = ls at hl ⊢
  have hl : lv_has ls 3 [(0, .ref h), (1, .int k)] := hl
  refine lv_iload_n hx hb d_V_end_0 rfl (lv_at hl 1 rfl) ?_
  refine lv_if_lt (tgt := 15) hx hb d_V_end_1 (by decide) (fun c_1 => ?_) (fun c_1 => ?_)
  · refine lv_iconst (v := 0) hx hb d_V_end_15 (by decide) ?_
    exact W.zret (v := 0) (ty := .boolean) hx hb hr rfl (fun t ht hW => ⟨⟨0, (), rfl, by rw [if_neg (fun z => z.1 c_1)], ⟨fun z => absurd z (fun z => z.1 c_1), fun _ => ⟨by rw [ht]; exact hP, hD⟩⟩⟩, hS.F ht⟩) hS.2.2 d_V_end_16
  · refine lv_iload_n hx hb d_V_end_4 rfl (lv_at hl 1 rfl) ?_
    refine lv_aload_n hx hb d_V_end_5 rfl (lv_at hl 0 rfl) ?_
    refine f_get (D := (dC, dI)) (ci := 0) (v := .ref f) (C := R_V) (T := F_V) (N := 15) hx hb hT in_V hown hK hP 0 rfl rfl 0 (by decide) fr_V_0 w_3_235 gF_0 d_V_end_6 ?_
    refine f_get (D := (dC, dI)) (ci := 1) (v := .int n) (C := R_Snk) (T := F_Snk) (N := 7) hx hb hT in_Snk hown hK hP 1 rfl rfl 1 (by decide) fr_Snk_1 w_1_44 gS_1 d_V_end_9 ?_
    refine lv_icmp_le (tgt := 17) hx hb d_V_end_12 (by decide) (fun c_2 => ?_) (fun c_2 => ?_)
    · refine lv_aload_n hx hb d_V_end_17 rfl (lv_at hl 0 rfl) ?_
      refine f_get (D := (dC, dI)) (ci := 0) (v := .ref i) (C := R_V) (T := F_V) (N := 15) hx hb hT in_V hown hK hP 0 rfl rfl 1 (by decide) fr_V_1 w_3_236 gF_1 d_V_end_18 ?_
      refine lv_astore_n (lv' := [(2, .ref i), (0, .ref h), (1, .int k)]) hx hb d_V_end_21 rfl hl (by decide) rfl (fun ls hl => ?_)
      refine lv_aload_n hx hb d_V_end_22 rfl (lv_at hl 1 rfl) ?_
      refine lv_aload_n hx hb d_V_end_23 rfl (lv_at hl 1 rfl) ?_
      refine f_get (D := (dC, dI)) (ci := 0) (v := .ref f) (C := R_V) (T := F_V) (N := 15) hx hb hT in_V hown hK hP 0 rfl rfl 0 (by decide) fr_V_0 w_3_235 gF_0 d_V_end_24 ?_
      refine f_put (D := (dC, dI)) (ci := 0) (v := .ref f) (ty := .object "StripedVault$Sink") (C := R_V) (T := F_V) (N := 15) hx hb hT in_V t_V t_V_ok n_V hown hK hP hD hS 0 rfl rfl 1 (by decide) fr_V_1 w_3_236 (by decide +kernel) rfl rfl (by rw [nF]; decide) d_V_end_27 (fun H locs hP hD hS => ?_)
      have hP : va_P (dC, dI) CL [(h, .inr (0, F.set 1 (.ref f))), (f, .inr (1, S)), (i, .inr (1, I))] H := hP
      have hD : va_D A [(h, .inr (0, F.set 1 (.ref f))), (f, .inr (1, S)), (i, .inr (1, I))] := hD
      refine lv_aload_n hx hb d_V_end_30 rfl (lv_at hl 1 rfl) ?_
      refine f_get (D := (dC, dI)) (ci := 0) (v := .ref f) (C := R_V) (T := F_V) (N := 15) hx hb hT in_V hown hK hP 0 rfl rfl 1 (by decide) fr_V_1 w_3_236 (List.getElem?_set_self (by rw [nF]; decide)) d_V_end_31 ?_
      refine lv_iload_n hx hb d_V_end_34 rfl (lv_at hl 2 rfl) ?_
      refine f_put (D := (dC, dI)) (ci := 1) (v := .int k) (ty := .int) (C := R_Snk) (T := F_Snk) (N := 7) hx hb hT in_Snk t_Snk t_Snk_ok n_Snk hown hK hP hD hS 1 rfl rfl 1 (by decide) fr_Snk_1 w_1_44 (by decide +kernel) rfl rfl (by rw [nS]; decide) d_V_end_35 (fun H locs hP hD hS => ?_)
      have hP : va_P (dC, dI) CL [(h, .inr (0, F.set 1 (.ref f))), (f, .inr (1, S.set 1 (.int k))), (i, .inr (1, I))] H := hP
      have hD : va_D A [(h, .inr (0, F.set 1 (.ref f))), (f, .inr (1, S.set 1 (.int k))), (i, .inr (1, I))] := hD
      refine lv_aload_n hx hb d_V_end_38 rfl (lv_at hl 1 rfl) ?_
      refine lv_aload_n hx hb d_V_end_39 rfl (lv_at hl 0 rfl) ?_
      refine f_put (D := (dC, dI)) (ci := 0) (v := .ref i) (ty := .object "StripedVault$Sink") (C := R_V) (T := F_V) (N := 15) hx hb hT in_V t_V t_V_ok n_V hown hK hP hD hS 0 rfl rfl 0 (by decide) fr_V_0 w_3_235 (by decide +kernel) rfl rfl (by rw [List.length_set]; exact (by rw [nF]; decide)) d_V_end_40 (fun H locs hP hD hS => ?_)
      have hP : va_P (dC, dI) CL [(h, .inr (0, (F.set 1 (.ref f)).set 0 (.ref i))), (f, .inr (1, S.set 1 (.int k))), (i, .inr (1, I))] H := hP
      have hD : va_D A [(h, .inr (0, (F.set 1 (.ref f)).set 0 (.ref i))), (f, .inr (1, S.set 1 (.int k))), (i, .inr (1, I))] := hD
      refine lv_aload_n hx hb d_V_end_43 rfl (lv_at hl 1 rfl) ?_
      refine f_get (D := (dC, dI)) (ci := 0) (v := .ref i) (C := R_V) (T := F_V) (N := 15) hx hb hT in_V hown hK hP 0 rfl rfl 0 (by decide) fr_V_0 w_3_235 (List.getElem?_set_self (by rw [List.length_set]; exact (by rw [nF]; decide))) d_V_end_44 ?_
      have hPc := hP.sub (ws' := [(i, .inr (1, I))]) [2] rfl
      have hDc := hD.sub (ws' := [(i, .inr (1, I))]) [2] (by decide) rfl
      have hFc := va_free (wc := [(i, .inr (1, I))]) hD hS hA [2] rfl
      refine va_callv (va_runV (C := R_Snk) (As := []) (rest := []) ⟨hx, hb, hml, hown, hT⟩ (c_Snk_forget l dC dI cI cB cJ cZ H.size i I  nI) ⟨callB_of 0 hT (gw_in w_4_81) rfl rfl rfl (hT _ w_1_2) (hT _ w_4_78) (by decide +kernel) ⟨Nat.le_of_ble_eq_true rfl, Nat.le_of_ble_eq_true rfl⟩, hT _ w_4_79, hT _ w_4_80⟩ ⟨PC.blind, va_recv hK hPc (ci := 1) (q0 := 0) rfl rfl, PC.at _ hPc hDc hK hN⟩ rfl rfl hl.1 rfl (lv_room (Nat.le_of_ble_eq_true rfl)) d_V_end_47 ⟨show _ ≤ 0 by omega, show _ ≤ 0 by omega⟩) hS (fun q _ h => hFc q h) hFc (fun  u t H1 locs ht hvm hw hB hz1 hk1 hS => ?_)
      obtain ⟨hP1, hD1⟩ := hB
      rw [ht] at hP1
      obtain ⟨hP, hD⟩ := va_join (wr := [(h, .inr (0, (F.set 1 (.ref f)).set 0 (.ref i))), (f, .inr (1, S.set 1 (.int k)))]) (w1 := [(i, .inr (1, (I.set 1 (.int 0)).set 2 (.int 0)))]) hP hD [2] [0, 1] rfl rfl (by decide) (by decide) hk1 hFc hP1 hD1
      generalize H1 = H at hP hS ⊢
      have hP : va_P (dC, dI) CL [(h, .inr (0, (F.set 1 (.ref f)).set 0 (.ref i))), (f, .inr (1, S.set 1 (.int k))), (i, .inr (1, (I.set 1 (.int 0)).set 2 (.int 0)))] H := hP
      have hD : va_D A [(h, .inr (0, (F.set 1 (.ref f)).set 0 (.ref i))), (f, .inr (1, S.set 1 (.int k))), (i, .inr (1, (I.set 1 (.int 0)).set 2 (.int 0)))] := hD
      refine lv_iconst (v := 1) hx hb d_V_end_50 (by decide) ?_
      exact W.zret (v := 1) (ty := .boolean) hx hb hr rfl (fun t ht hW => ⟨⟨1, (), rfl, by rw [if_pos (show _ ∧ _ from ⟨c_1, c_2⟩)], ⟨fun _ => ⟨by rw [ht]; exact hP, hD⟩, fun z => absurd (⟨c_1, c_2⟩) z⟩⟩, hS.F ht⟩) hS.2.2 d_V_end_51
    · refine lv_iconst (v := 0) hx hb d_V_end_15 (by decide) ?_
      exact W.zret (v := 0) (ty := .boolean) hx hb hr rfl (fun t ht hW => ⟨⟨0, (), rfl, by rw [if_neg (fun z => c_2 z.2)], ⟨fun z => absurd z (fun z => c_2 z.2), fun _ => ⟨by rw [ht]; exact hP, hD⟩⟩⟩, hS.F ht⟩) hS.2.2 d_V_end_16
set_option maxHeartbeats 4000000 in
set_option maxRecDepth 100000 in
/-- poke(k, v) -/
theorem c_V_poke (sz : Nat) (h : Nat) (F : List Value) (f : Nat) (S : List Value) (a z : Nat) (g : Nat → Int32) (k v n : Int32) (nF : F.length = 15) (gF_2 : F[2]? = some (.ref f)) (nS : S.length = 7) (gS_1 : S[1]? = some (.int n)) (gS_0 : S[0]? = some (.ref a)) (hn : n.toInt ≤ z) : Met l y_V_poke (wsOf y_V_poke b_V_poke 3 (some (.boolean))) ({ frames := 0, cells := 0, slots := 0, locals := 0 }) (va_Pc [.ref h, .int k, .int v] (PC dC dI cI cB cJ cZ sz [(h, .inr (0, F)), (f, .inr (1, S)), (a, .inl (cB, z, .inl g))])) (va_Qi (fun (r : Int32) (_ : Unit) => r = if ¬ k < 0 ∧ k < n then 1 else 0) (fun _ t => (¬ k < 0 ∧ k < n → va_P (dC, dI) CL [(h, .inr (0, F)), (f, .inr (1, S)), (a, .inl (cB, z, .inl (upd g (k : Int32).toNatClampNeg (vp_nar .byte (v.toInt8.toInt32)))))] t.heap ∧ va_D (va_A [(h, .inr (0, F)), (f, .inr (1, S)), (a, .inl (cB, z, .inl g))] sz) [(h, .inr (0, F)), (f, .inr (1, S)), (a, .inl (cB, z, .inl (upd g (k : Int32).toNatClampNeg (vp_nar .byte (v.toInt8.toInt32)))))]) ∧ (¬ (¬ k < 0 ∧ k < n) → va_P (dC, dI) CL [(h, .inr (0, F)), (f, .inr (1, S)), (a, .inl (cB, z, .inl g))] t.heap ∧ va_D (va_A [(h, .inr (0, F)), (f, .inr (1, S)), (a, .inl (cB, z, .inl g))] sz) [(h, .inr (0, F)), (f, .inr (1, S)), (a, .inl (cB, z, .inl g))])) (va_A [(h, .inr (0, F)), (f, .inr (1, S)), (a, .inl (cB, z, .inl g))] sz)) 0 0 (va_A [(h, .inr (0, F)), (f, .inr (1, S)), (a, .inl (cB, z, .inl g))] sz) := by
  refine Met.ofW (cc := b_V_poke) (maxL := 3) (ret := some (.boolean)) (by decide) rfl ?_
  intro p e s m args below meth c s₁ B hml hv
  obtain ⟨rfl, hsz, hP, hK, hD0, hN⟩ := hv
  have hx := B.exec
  have hb := B.bytes
  have hr := B.returns
  have hts := atoms_spec B.pre
  have hT : ∀ w ∈ TG, w.before _ s = true := fun w h => hts w (List.mem_cons_of_mem _ h)
  have hown : s.vm.findClass R_V = some m.cls := findClass_of_methodNamed B.named
  have hlocks := B.notSynchronized
  subst hsz
  have hD := hD0.self (sz := s.heap.size)
  generalize hAe : va_A [(h, .inr (0, F)), (f, .inr (1, S)), (a, .inl (cB, z, .inl g))] s.heap.size = A at hD ⊢
  have hA : ∀ q : Nat, s.heap.size ≤ q → A q := fun q h => by rw [← hAe]; exact Or.inr h
  have hS : va_S A s.heap s.heap [] := va_S.rf
  have hl := lv_entry ([.ref h, .int k, .int v]) (n := 3) (Nat.le_of_ble_eq_true rfl)
  rw [lg_entry_eq]
  generalize (lg_sl ([.ref h, .int k, .int v]) ++ List.replicate (3 - (lg_sl ([.ref h, .int k, .int v])).length) Slot.unset).toArray = ls at hl ⊢
  have hl : lv_has ls 3 [(0, .ref h), (1, .int k), (2, .int v)] := hl
  refine lv_iload_n hx hb d_V_poke_0 rfl (lv_at hl 1 rfl) ?_
  refine lv_if_lt (tgt := 15) hx hb d_V_poke_1 (by decide) (fun c_1 => ?_) (fun c_1 => ?_)
  · refine lv_iconst (v := 0) hx hb d_V_poke_15 (by decide) ?_
    exact W.zret (v := 0) (ty := .boolean) hx hb hr rfl (fun t ht hW => ⟨⟨0, (), rfl, by rw [if_neg (fun z => z.1 c_1)], ⟨fun z => absurd z (fun z => z.1 c_1), fun _ => ⟨by rw [ht]; exact hP, hD⟩⟩⟩, hS.F ht⟩) hS.2.2 d_V_poke_16
  · refine lv_iload_n hx hb d_V_poke_4 rfl (lv_at hl 1 rfl) ?_
    refine lv_aload_n hx hb d_V_poke_5 rfl (lv_at hl 0 rfl) ?_
    refine f_get (D := (dC, dI)) (ci := 0) (v := .ref f) (C := R_V) (T := F_V) (N := 15) hx hb hT in_V hown hK hP 0 rfl rfl 2 (by decide) fr_V_2 w_3_237 gF_2 d_V_poke_6 ?_
    refine f_get (D := (dC, dI)) (ci := 1) (v := .int n) (C := R_Snk) (T := F_Snk) (N := 7) hx hb hT in_Snk hown hK hP 1 rfl rfl 1 (by decide) fr_Snk_1 w_1_44 gS_1 d_V_poke_9 ?_
    refine lv_icmp_lt (tgt := 17) hx hb d_V_poke_12 (by decide) (fun c_2 => ?_) (fun c_2 => ?_)
    · refine lv_aload_n hx hb d_V_poke_17 rfl (lv_at hl 0 rfl) ?_
      refine f_get (D := (dC, dI)) (ci := 0) (v := .ref f) (C := R_V) (T := F_V) (N := 15) hx hb hT in_V hown hK hP 0 rfl rfl 2 (by decide) fr_V_2 w_3_237 gF_2 d_V_poke_18 ?_
      refine f_get (D := (dC, dI)) (ci := 1) (v := .ref a) (C := R_Snk) (T := F_Snk) (N := 7) hx hb hT in_Snk hown hK hP 1 rfl rfl 0 (by decide) fr_Snk_0 w_1_42 gS_0 d_V_poke_21 ?_
      refine lv_iload_n hx hb d_V_poke_24 rfl (lv_at hl 1 rfl) ?_
      refine lv_iload_n hx hb d_V_poke_25 rfl (lv_at hl 2 rfl) ?_
      refine lv_i2b hx hb d_V_poke_26 rfl ?_
      refine va_bast hx hb hK hP hD hS 2 1 rfl rfl (in_row c_1 c_2 hn) d_V_poke_27 (fun H locs hP hD hS => ?_)
      have hP : va_P (dC, dI) CL [(h, .inr (0, F)), (f, .inr (1, S)), (a, .inl (cB, z, .inl (upd g (k : Int32).toNatClampNeg (vp_nar .byte (v.toInt8.toInt32)))))] H := hP
      have hD : va_D A [(h, .inr (0, F)), (f, .inr (1, S)), (a, .inl (cB, z, .inl (upd g (k : Int32).toNatClampNeg (vp_nar .byte (v.toInt8.toInt32)))))] := hD
      refine lv_iconst (v := 1) hx hb d_V_poke_28 (by decide) ?_
      exact W.zret (v := 1) (ty := .boolean) hx hb hr rfl (fun t ht hW => ⟨⟨1, (), rfl, by rw [if_pos (show _ ∧ _ from ⟨c_1, c_2⟩)], ⟨fun _ => ⟨by rw [ht]; exact hP, hD⟩, fun z => absurd (⟨c_1, c_2⟩) z⟩⟩, hS.F ht⟩) hS.2.2 d_V_poke_29
    · refine lv_iconst (v := 0) hx hb d_V_poke_15 (by decide) ?_
      exact W.zret (v := 0) (ty := .boolean) hx hb hr rfl (fun t ht hW => ⟨⟨0, (), rfl, by rw [if_neg (fun z => c_2 z.2)], ⟨fun z => absurd z (fun z => c_2 z.2), fun _ => ⟨by rw [ht]; exact hP, hD⟩⟩⟩, hS.F ht⟩) hS.2.2 d_V_poke_16
set_option maxHeartbeats 4000000 in
set_option maxRecDepth 100000 in
/-- the model's poke(k, v) -/
theorem c_Mod_poke (sz : Nat) (h : Nat) (F : List Value) (a z : Nat) (g : Nat → Int32) (k v n : Int32) (nF : F.length = 167) (gF_65 : F[65]? = some (.int n)) (gF_62 : F[62]? = some (.ref a)) (hn : n.toInt ≤ z) : Met l y_Mod_poke (wsOf y_Mod_poke b_Mod_poke 3 (some (.boolean))) ({ frames := 0, cells := 0, slots := 0, locals := 0 }) (va_Pc [.ref h, .int k, .int v] (PC dC dI cI cB cJ cZ sz [(h, .inr (12, F)), (a, .inl (cI, z, .inl g))])) (va_Qi (fun (r : Int32) (_ : Unit) => r = if ¬ k < 0 ∧ k < n then 1 else 0) (fun _ t => (¬ k < 0 ∧ k < n → va_P (dC, dI) CL [(h, .inr (12, F.set 0 (.int 0))), (a, .inl (cI, z, .inl (upd (g) (k : Int32).toNatClampNeg (v &&& 255))))] t.heap ∧ va_D (va_A [(h, .inr (12, F)), (a, .inl (cI, z, .inl g))] sz) [(h, .inr (12, F.set 0 (.int 0))), (a, .inl (cI, z, .inl (upd (g) (k : Int32).toNatClampNeg (v &&& 255))))]) ∧ (¬ (¬ k < 0 ∧ k < n) → va_P (dC, dI) CL [(h, .inr (12, F.set 0 (.int 0))), (a, .inl (cI, z, .inl g))] t.heap ∧ va_D (va_A [(h, .inr (12, F)), (a, .inl (cI, z, .inl g))] sz) [(h, .inr (12, F.set 0 (.int 0))), (a, .inl (cI, z, .inl g))])) (va_A [(h, .inr (12, F)), (a, .inl (cI, z, .inl g))] sz)) 0 0 (va_A [(h, .inr (12, F)), (a, .inl (cI, z, .inl g))] sz) := by
  refine Met.ofW (cc := b_Mod_poke) (maxL := 3) (ret := some (.boolean)) (by decide) rfl ?_
  intro p e s m args below meth c s₁ B hml hv
  obtain ⟨rfl, hsz, hP, hK, hD0, hN⟩ := hv
  have hx := B.exec
  have hb := B.bytes
  have hr := B.returns
  have hts := atoms_spec B.pre
  have hT : ∀ w ∈ TG, w.before _ s = true := fun w h => hts w (List.mem_cons_of_mem _ h)
  have hown : s.vm.findClass R_Mod = some m.cls := findClass_of_methodNamed B.named
  have hlocks := B.notSynchronized
  subst hsz
  have hD := hD0.self (sz := s.heap.size)
  generalize hAe : va_A [(h, .inr (12, F)), (a, .inl (cI, z, .inl g))] s.heap.size = A at hD ⊢
  have hA : ∀ q : Nat, s.heap.size ≤ q → A q := fun q h => by rw [← hAe]; exact Or.inr h
  have hS : va_S A s.heap s.heap [] := va_S.rf
  have hl := lv_entry ([.ref h, .int k, .int v]) (n := 3) (Nat.le_of_ble_eq_true rfl)
  rw [lg_entry_eq]
  generalize (lg_sl ([.ref h, .int k, .int v]) ++ List.replicate (3 - (lg_sl ([.ref h, .int k, .int v])).length) Slot.unset).toArray = ls at hl ⊢
  have hl : lv_has ls 3 [(0, .ref h), (1, .int k), (2, .int v)] := hl
  refine lv_aload_n hx hb d_Mod_poke_0 rfl (lv_at hl 0 rfl) ?_
  refine lv_iconst (v := 0) hx hb d_Mod_poke_1 (by decide) ?_
  refine f_put (D := (dC, dI)) (ci := 12) (v := .int 0) (ty := .int) (C := R_Mod) (T := F_Mod) (N := 167) hx hb hT in_Mod t_Mod t_Mod_ok n_Mod hown hK hP hD hS 0 rfl rfl 0 (by decide) fr_Mod_0 w_8_180 (by decide +kernel) rfl rfl (by rw [nF]; decide) d_Mod_poke_2 (fun H locs hP hD hS => ?_)
  have hP : va_P (dC, dI) CL [(h, .inr (12, F.set 0 (.int 0))), (a, .inl (cI, z, .inl g))] H := hP
  have hD : va_D A [(h, .inr (12, F.set 0 (.int 0))), (a, .inl (cI, z, .inl g))] := hD
  refine lv_iload_n hx hb d_Mod_poke_5 rfl (lv_at hl 1 rfl) ?_
  refine lv_if_lt (tgt := 17) hx hb d_Mod_poke_6 (by decide) (fun c_1 => ?_) (fun c_1 => ?_)
  · refine lv_iconst (v := 0) hx hb d_Mod_poke_17 (by decide) ?_
    exact W.zret (v := 0) (ty := .boolean) hx hb hr rfl (fun t ht hW => ⟨⟨0, (), rfl, by rw [if_neg (fun z => z.1 c_1)], ⟨fun z => absurd z (fun z => z.1 c_1), fun _ => ⟨by rw [ht]; exact hP, hD⟩⟩⟩, hS.F ht⟩) hS.2.2 d_Mod_poke_18
  · refine lv_iload_n hx hb d_Mod_poke_9 rfl (lv_at hl 1 rfl) ?_
    refine lv_aload_n hx hb d_Mod_poke_10 rfl (lv_at hl 0 rfl) ?_
    refine f_get (D := (dC, dI)) (ci := 12) (v := .int n) (C := R_Mod) (T := F_Mod) (N := 167) hx hb hT in_Mod hown hK hP 0 rfl rfl 65 (by decide) fr_Mod_65 w_9_5 ((List.getElem?_set_ne (by decide)).trans gF_65) d_Mod_poke_11 ?_
    refine lv_icmp_lt (tgt := 19) hx hb d_Mod_poke_14 (by decide) (fun c_2 => ?_) (fun c_2 => ?_)
    · refine lv_aload_n hx hb d_Mod_poke_19 rfl (lv_at hl 0 rfl) ?_
      refine f_get (D := (dC, dI)) (ci := 12) (v := .ref a) (C := R_Mod) (T := F_Mod) (N := 167) hx hb hT in_Mod hown hK hP 0 rfl rfl 62 (by decide) fr_Mod_62 w_9_2 ((List.getElem?_set_ne (by decide)).trans gF_62) d_Mod_poke_20 ?_
      refine lv_iload_n hx hb d_Mod_poke_23 rfl (lv_at hl 1 rfl) ?_
      refine lv_iload_n hx hb d_Mod_poke_24 rfl (lv_at hl 2 rfl) ?_
      refine lv_sipush (v := 255) hx hb d_Mod_poke_25 (by decide) ?_
      refine lv_iand hx hb d_Mod_poke_28 ?_
      refine va_iast hx hb hK hP hD hS 1 0 rfl rfl (in_row c_1 c_2 hn) d_Mod_poke_29 (fun H locs hP hD hS => ?_)
      have hP : va_P (dC, dI) CL [(h, .inr (12, F.set 0 (.int 0))), (a, .inl (cI, z, .inl (upd (g) (k : Int32).toNatClampNeg (v &&& 255))))] H := hP
      have hD : va_D A [(h, .inr (12, F.set 0 (.int 0))), (a, .inl (cI, z, .inl (upd (g) (k : Int32).toNatClampNeg (v &&& 255))))] := hD
      refine lv_iconst (v := 1) hx hb d_Mod_poke_30 (by decide) ?_
      exact W.zret (v := 1) (ty := .boolean) hx hb hr rfl (fun t ht hW => ⟨⟨1, (), rfl, by rw [if_pos (show _ ∧ _ from ⟨c_1, c_2⟩)], ⟨fun _ => ⟨by rw [ht]; exact hP, hD⟩, fun z => absurd (⟨c_1, c_2⟩) z⟩⟩, hS.F ht⟩) hS.2.2 d_Mod_poke_31
    · refine lv_iconst (v := 0) hx hb d_Mod_poke_17 (by decide) ?_
      exact W.zret (v := 0) (ty := .boolean) hx hb hr rfl (fun t ht hW => ⟨⟨0, (), rfl, by rw [if_neg (fun z => c_2 z.2)], ⟨fun z => absurd z (fun z => c_2 z.2), fun _ => ⟨by rw [ht]; exact hP, hD⟩⟩⟩, hS.F ht⟩) hS.2.2 d_Mod_poke_18
end
