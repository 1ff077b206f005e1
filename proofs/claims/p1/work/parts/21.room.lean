
theorem d_Snk_hasRoom_0 : decode b_Snk_hasRoom 0 = .ok (.aload_n 0, 1) := by decide +kernel
theorem d_Snk_hasRoom_1 : decode b_Snk_hasRoom 1 = .ok (.getfield 32, 3) := by decide +kernel
theorem d_Snk_hasRoom_4 : decode b_Snk_hasRoom 4 = .ok (.ifCond .ne 16, 3) := by decide +kernel
theorem d_Snk_hasRoom_7 : decode b_Snk_hasRoom 7 = .ok (.iload_n 1, 1) := by decide +kernel
theorem d_Snk_hasRoom_8 : decode b_Snk_hasRoom 8 = .ok (.aload_n 0, 1) := by decide +kernel
theorem d_Snk_hasRoom_9 : decode b_Snk_hasRoom 9 = .ok (.getfield 15, 3) := by decide +kernel
theorem d_Snk_hasRoom_12 : decode b_Snk_hasRoom 12 = .ok (.aload_n 0, 1) := by decide +kernel
theorem d_Snk_hasRoom_13 : decode b_Snk_hasRoom 13 = .ok (.getfield 29, 3) := by decide +kernel
theorem d_Snk_hasRoom_16 : decode b_Snk_hasRoom 16 = .ok (.isub, 1) := by decide +kernel
theorem d_Snk_hasRoom_17 : decode b_Snk_hasRoom 17 = .ok (.if_icmp .le 10, 3) := by decide +kernel
theorem d_Snk_hasRoom_27 : decode b_Snk_hasRoom 27 = .ok (.iload_n 1, 1) := by decide +kernel
theorem d_Snk_hasRoom_28 : decode b_Snk_hasRoom 28 = .ok (.aload_n 0, 1) := by decide +kernel
theorem d_Snk_hasRoom_29 : decode b_Snk_hasRoom 29 = .ok (.getfield 25, 3) := by decide +kernel
theorem d_Snk_hasRoom_32 : decode b_Snk_hasRoom 32 = .ok (.arraylength, 1) := by decide +kernel
theorem d_Snk_hasRoom_33 : decode b_Snk_hasRoom 33 = .ok (.aload_n 0, 1) := by decide +kernel
theorem d_Snk_hasRoom_34 : decode b_Snk_hasRoom 34 = .ok (.getfield 29, 3) := by decide +kernel
theorem d_Snk_hasRoom_37 : decode b_Snk_hasRoom 37 = .ok (.isub, 1) := by decide +kernel
theorem d_Snk_hasRoom_38 : decode b_Snk_hasRoom 38 = .ok (.if_icmp .le 37, 3) := by decide +kernel
theorem d_Snk_hasRoom_75 : decode b_Snk_hasRoom 75 = .ok (.iconst 1, 1) := by decide +kernel
theorem d_Snk_hasRoom_76 : decode b_Snk_hasRoom 76 = .ok (.ireturn, 1) := by decide +kernel
section
variable (l : Launch) (dC : Nat → ClassId) (dI : Nat → Nat → Nat) (cI cB cJ cZ : ClassId)
set_option maxHeartbeats 4000000 in
set_option maxRecDepth 100000 in
/-- Sink.hasRoom(1), where there is room -/
theorem c_Snk_hasRoom_fit (sz : Nat) (h : Nat) (F : List Value) (a z rm x : Nat) (g : Nat → Int32) (nF : F.length = 7) (gF_2 : F[2]? = some (.int 0)) (gF_3 : F[3]? = some (.int (nI rm))) (gF_1 : F[1]? = some (.int (nI x))) (gF_0 : F[0]? = some (.ref a)) (hr1 : x + 1 ≤ rm) (hr2 : rm < 2 ^ 31) (hz1 : x + 1 ≤ z) (hz2 : z < 2 ^ 31) : Met l y_Snk_hasRoom (wsOf y_Snk_hasRoom b_Snk_hasRoom 2 (some (.boolean))) ({ frames := 0, cells := 0, slots := 0, locals := 0 }) (va_Pc [.ref h, .int 1] (PC dC dI cI cB cJ cZ sz [(h, .inr (1, F)), (a, .inl (cB, z, .inl g))])) (va_Qi (fun (r : Int32) (_ : Unit) => r = 1) (fun _ t => va_P (dC, dI) CL [(h, .inr (1, F)), (a, .inl (cB, z, .inl g))] t.heap ∧ va_D (va_A [(h, .inr (1, F)), (a, .inl (cB, z, .inl g))] sz) [(h, .inr (1, F)), (a, .inl (cB, z, .inl g))]) (va_A [(h, .inr (1, F)), (a, .inl (cB, z, .inl g))] sz)) 0 0 (va_A [(h, .inr (1, F)), (a, .inl (cB, z, .inl g))] sz) := by
  refine Met.ofW (cc := b_Snk_hasRoom) (maxL := 2) (ret := some (.boolean)) (by decide) rfl ?_
  intro p e s m args below meth c s₁ B hml hv
  obtain ⟨rfl, hsz, hP, hK, hD0, hN⟩ := hv
  have hx := B.exec
  have hb := B.bytes
  have hr := B.returns
  have hts := atoms_spec B.pre
  have hT : ∀ w ∈ TG, w.before _ s = true := fun w h => hts w (List.mem_cons_of_mem _ h)
  have hown : s.vm.findClass R_Snk = some m.cls := findClass_of_methodNamed B.named
  have hlocks := B.notSynchronized
  subst hsz
  have hD := hD0.self (sz := s.heap.size)
  generalize hAe : va_A [(h, .inr (1, F)), (a, .inl (cB, z, .inl g))] s.heap.size = A at hD ⊢
  have hA : ∀ q : Nat, s.heap.size ≤ q → A q := fun q h => by rw [← hAe]; exact Or.inr h
  have hS : va_S A s.heap s.heap [] := va_S.rf
  have hl := lv_entry ([.ref h, .int 1]) (n := 2) (Nat.le_of_ble_eq_true rfl)
  rw [lg_entry_eq]
  generalize (lg_sl ([.ref h, .int 1]) ++ List.replicate (2 - (lg_sl ([.ref h, .int 1])).length) Slot.unset).toArray = ls at hl ⊢
  have hl : lv_has ls 2 [(0, .ref h), (1, .int 1)] := hl
  have h1 : (1 : Int32) ≤ nI rm - nI x := by rw [pk_sub (by omega)]; exact nI_le (a := 1) (by omega) (by omega)
  have h2 : (1 : Int32) ≤ nI z - nI x := by rw [pk_sub (by omega)]; exact nI_le (a := 1) (by omega) (by omega)
  refine lv_aload_n hx hb d_Snk_hasRoom_0 rfl (lv_at hl 0 rfl) ?_
  refine f_get (D := (dC, dI)) (ci := 1) (v := .int 0) (C := R_Snk) (T := F_Snk) (N := 7) hx hb hT in_Snk hown hK hP 0 rfl rfl 2 (by decide) fr_Snk_2 w_1_47 gF_2 d_Snk_hasRoom_1 ?_
  refine lv_if_ne (tgt := 20) hx hb d_Snk_hasRoom_4 (by decide) (fun c1 => by first | exact absurd c1 (by decide) | exact absurd (by decide) c1) (fun c1 => ?_)
  refine lv_iload_n hx hb d_Snk_hasRoom_7 rfl (lv_at hl 1 rfl) ?_
  refine lv_aload_n hx hb d_Snk_hasRoom_8 rfl (lv_at hl 0 rfl) ?_
  refine f_get (D := (dC, dI)) (ci := 1) (v := .int (nI rm)) (C := R_Snk) (T := F_Snk) (N := 7) hx hb hT in_Snk hown hK hP 0 rfl rfl 3 (by decide) fr_Snk_3 w_1_50 gF_3 d_Snk_hasRoom_9 ?_
  refine lv_aload_n hx hb d_Snk_hasRoom_12 rfl (lv_at hl 0 rfl) ?_
  refine f_get (D := (dC, dI)) (ci := 1) (v := .int (nI x)) (C := R_Snk) (T := F_Snk) (N := 7) hx hb hT in_Snk hown hK hP 0 rfl rfl 1 (by decide) fr_Snk_1 w_1_43 gF_1 d_Snk_hasRoom_13 ?_
  refine lv_isub hx hb d_Snk_hasRoom_16 ?_
  refine lv_icmp_le (tgt := 27) hx hb d_Snk_hasRoom_17 (by decide) (fun c1 => ?_) (fun c1 => absurd h1 c1)
  refine lv_iload_n hx hb d_Snk_hasRoom_27 rfl (lv_at hl 1 rfl) ?_
  refine lv_aload_n hx hb d_Snk_hasRoom_28 rfl (lv_at hl 0 rfl) ?_
  refine f_get (D := (dC, dI)) (ci := 1) (v := .ref a) (C := R_Snk) (T := F_Snk) (N := 7) hx hb hT in_Snk hown hK hP 0 rfl rfl 0 (by decide) fr_Snk_0 w_1_40 gF_0 d_Snk_hasRoom_29 ?_
  refine va_alen hx hb hK hP 1 1 rfl rfl (v := nI z) rfl d_Snk_hasRoom_32 ?_
  refine lv_aload_n hx hb d_Snk_hasRoom_33 rfl (lv_at hl 0 rfl) ?_
  refine f_get (D := (dC, dI)) (ci := 1) (v := .int (nI x)) (C := R_Snk) (T := F_Snk) (N := 7) hx hb hT in_Snk hown hK hP 0 rfl rfl 1 (by decide) fr_Snk_1 w_1_43 gF_1 d_Snk_hasRoom_34 ?_
  refine lv_isub hx hb d_Snk_hasRoom_37 ?_
  refine lv_icmp_le (tgt := 75) hx hb d_Snk_hasRoom_38 (by decide) (fun c1 => ?_) (fun c1 => absurd h2 c1)
  refine lv_iconst (v := 1) hx hb d_Snk_hasRoom_75 (by decide) ?_
  exact W.zret (v := 1) (ty := .boolean) hx hb hr rfl (fun t ht hW => ⟨⟨1, (), rfl, rfl, by rw [ht]; exact hP, hD⟩, hS.F ht⟩) hS.2.2 d_Snk_hasRoom_76
end
