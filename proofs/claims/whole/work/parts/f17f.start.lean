set_option maxHeartbeats 4000000 in
set_option maxRecDepth 100000 in
/-- the law, from its entry -/
theorem whole_start {p : Program} {e : Env} {s : State} {m : MethodId} {below : List Frame} {meth : Method} {c : Code} (l : Launch) {b L : Nat} {xs : Nat → Int32} (hL : L ≤ 3072) (C0 : lw_At p s m meth c b L xs) : W p l e room_1 s m #[Value.ref b] below meth c s.heap [] 0 0 (lw_Z below #[Value.ref b] s) (entryFrame m ([Value.ref b] : List Value).toArray 4) := by
  obtain ⟨hx, hb, hr, hml, hown0, hts, hX, hbl, hlocks, hgv⟩ := id C0
  have hown : s.vm.findClass R_Law = some m.cls := hown0
  have hT : ∀ w ∈ TG, w.before #[Value.ref b] s = true := fun w h => hts w (TG_lw w h)
  have hN : NW s := NW.of hts
  obtain ⟨A, eA⟩ : ∃ A : Nat → Prop, A = fun q => s.heap.size ≤ q := ⟨_, rfl⟩
  have hA : ∀ q : Nat, s.heap.size ≤ q → A q := by rw [eA]; exact fun _ h => h
  have hA2 : ∀ q : Nat, A q → s.heap.size ≤ q := by rw [eA]; exact fun _ h => h
  have hbA : ¬ A b := fun z => absurd (hA2 b z) (Nat.not_le.mpr hbl)
  obtain ⟨dC, dI, hKc⟩ := known hT
  obtain ⟨cI, cB, cJ, cZ, hK⟩ := arrs hT hKc
  obtain ⟨tM, tC, kK, kV, hCK⟩ := ck_of C0
  have hE : CE s.heap tM tC kK kV A s := ⟨hA2, Nat.le_refl _, fun _ _ => rfl, hCK⟩
  have hS : va_S A s.heap s.heap [] := va_S.rf
  have hl := lv_entry ([.ref b]) (n := 4) (Nat.le_of_ble_eq_true rfl)
  rw [lg_entry_eq]
  generalize (lg_sl ([.ref b]) ++ List.replicate (4 - (lg_sl ([.ref b])).length) Slot.unset).toArray = ls at hl ⊢
  have hl : lv_has ls 4 [(0, .ref b)] := hl
  refine va_new (ci := 0) (fs := [.null, .null, .null, .null, .null, .null, .null, .null, .null, .null, .null, .null, .null, .null, .null]) (C := R_V) (T := F_V) (N := 15) (ws := []) hx hb hT in_V t_V t_V_ok hown (hT _ w_1_22) (hT _ w_1_23) (hT _ w_1_1) hK nilP nilD hS hA rfl (by decide +kernel) (show _ ≤ 600000 by omega) (show _ ≤ 7302250 by omega) d_law_0 (fun q0 H hP hD hS => ?_)
  have hPc : va_P (dC, dI) CL [(q0, .inr (0, [.null, .null, .null, .null, .null, .null, .null, .null, .null, .null, .null, .null, .null, .null, .null]))] H := hP
  have hDc : va_D A [(q0, .inr (0, [.null, .null, .null, .null, .null, .null, .null, .null, .null, .null, .null, .null, .null, .null, .null]))] := hD
  refine lv_dup hx hb d_law_3 rfl ?_
  have hFc := va_free (wc := [(q0, .inr (0, [.null, .null, .null, .null, .null, .null, .null, .null, .null, .null, .null, .null, .null, .null, .null]))]) hDc hS hA [0] rfl
  obtain ⟨x0, ex⟩ : ∃ x0, x0 = x0C := ⟨_, rfl⟩
  have hM := c_V_initF l dC dI cI cB cJ cZ ex q0 H.size
  refine va_callv (va_runI (As := []) (rest := [.ref q0]) ⟨hx, hb, hml, hown, hT⟩ hM (cwI 0 hT (gwt_in w_1_26) rfl rfl rfl (hT _ w_1_1) (hT _ w_1_24) (hT _ w_1_25) rfl (by decide +kernel) ⟨Nat.le_of_ble_eq_true rfl, Nat.le_of_ble_eq_true rfl⟩) ⟨PC.blind, PC.at _ hPc hDc hK hN⟩ rfl rfl hl.1 rfl (lv_room (Nat.le_of_ble_eq_true rfl)) d_law_4 ⟨show _ ≤ 600000 by omega, show _ ≤ 7302250 by omega⟩) hS (fun q _ h => hFc q h) hFc (fun u t H1 locs ht hvm hw hB hz1 hk1 hS => ?_)
  rw [ht] at hB
  obtain ⟨ad, ea, hB⟩ := hB
  have hW : Wd dC dI cI cB cJ cZ ad stC kcC 152 A x0 H1 := hB.back rfl hFc
  clear hB hP hD hPc hDc hFc hk1 hz1
  subst ea
  refine lv_astore_n (lv' := [(1, .ref (ad 0)), (0, .ref b)]) hx hb d_law_7 rfl hl (by decide) rfl (fun ls hl => ?_)
  exact ws2 l hL C0 hA hA2 hbA hK hE ex hW hS hl (Nat.le_of_ble_eq_true rfl) (Nat.le_of_ble_eq_true rfl)
