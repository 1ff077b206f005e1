set_option maxHeartbeats 4000000 in
set_option maxRecDepth 100000 in
/-- the turn of case 6 -/
theorem lwt_6 {p : Program} {l : Launch} {e : Env} {s : State} {m : MethodId} {below : List Frame} {meth : Method} {c : Code} {b L : Nat} {xs : Nat → Int32} {A : Nat → Prop} {dC : Nat → ClassId} {dI : Nat → Nat → Nat} {cI cB cJ cZ : ClassId} {tM tC : Nat} {kK kV : Nat → Nat} (C0 : lw_At p s m meth c b L xs) (hL : L ≤ 3072) (hA : ∀ q : Nat, s.heap.size ≤ q → A q) (hA2 : ∀ q : Nat, A q → s.heap.size ≤ q) (hbA : ¬ A b) (hK : va_K (dC, dI) CL (TY cI cB cJ cZ) s) (hE : CE s.heap tM tC kK kV A s) {i : Nat} (hi : i + 6 ≤ L) {ad ad' : Nat → Nat} {NN : Nat} {κ : Nat → Nat} {x y : St} {H : Heap} {locs : List Loc} {cells slots : Nat} {ls : Array Slot} (h : LB dC dI cI cB cJ cZ A ad ad' NN κ x y H) (hS : va_S A s.heap H locs) (hl : lv_has ls 4 [(3, .int (nI i)), (2, .ref (ad' 0)), (1, .ref (ad 0)), (0, .ref b)]) (hc : cells + KP κ ≤ 600000) (hs : slots + NP κ ≤ 7302250) (kk : ∀ {ad1 : Nat → Nat} {NN1 : Nat} {κ1 : Nat → Nat} {x1 y1 : St} {H1 : Heap} {locs1 : List Loc} {cells1 slots1 : Nat}, LB dC dI cI cB cJ cZ A ad1 ad' NN1 κ1 x1 y1 H1 → ad1 0 = ad 0 → va_S A s.heap H1 locs1 → cells1 + KP κ1 ≤ 600000 → slots1 + NP κ1 ≤ 7302250 → W p l e room_1 s m #[Value.ref b] below meth c H1 locs1 cells1 slots1 (lw_Z below #[Value.ref b] s) (F0 m 703 ls [])) : W p l e room_1 s m #[Value.ref b] below meth c H locs cells slots (lw_Z below #[Value.ref b] s) (F0 m 280 ls []) := by
  obtain ⟨hx, hb, hr, hml, hown0, hts, hX, hbl, hlocks, hgv⟩ := id C0
  have hown : s.vm.findClass R_Law = some m.cls := hown0
  have hT : ∀ w ∈ TG, w.before #[Value.ref b] s = true := fun w h => hts w (TG_lw w h)
  have hN : NW s := NW.of hts
  obtain ⟨hNN, hW, hV, hSep, hI⟩ := h
  have hF := hW.free hS hA
  refine lv_aload_n hx hb d_law_280 rfl (lv_at hl 2 rfl) ?_
  refine lv_aload_n hx hb d_law_281 rfl (lv_at hl 3 rfl) ?_
  refine lv_iload_n hx hb d_law_282 rfl (lv_at hl 0 rfl) ?_
  refine lv_iconst (v := 1) hx hb d_law_283 (by decide) ?_
  refine lv_iadd hx hb d_law_284 ?_
  refine va_sld hx hb hX hbl hbA hS (ix_in (t := 1) rfl (by omega) hL) d_law_285 ?_
  refine lv_aload_n hx hb d_law_286 rfl (lv_at hl 3 rfl) ?_
  refine lv_iload_n hx hb d_law_287 rfl (lv_at hl 0 rfl) ?_
  refine lv_iconst (v := 2) hx hb d_law_288 (by decide) ?_
  refine lv_iadd hx hb d_law_289 ?_
  refine va_sld hx hb hX hbl hbA hS (ix_in (t := 2) rfl (by omega) hL) d_law_290 ?_
  obtain ⟨κ1, hKl, hJ⟩ := J_write (l1 := (xs (nI i + 1).toNatClampNeg)) (l2 := (xs (nI i + 2).toNatClampNeg)) hI
  have hKN := KP_le hKl
  refine va_calli (va_runV (C := R_V) (As := [.int (xs (nI i + 1).toNatClampNeg), .int (xs (nI i + 2).toNatClampNeg)]) (rest := []) ⟨hx, hb, hml, hown, hT⟩ (k_V_write l dC dI cI cB cJ cZ ad NN s.heap tM tC kK kV hNN H.size 0 (xs (nI i + 1).toNatClampNeg) (xs (nI i + 2).toNatClampNeg) (KP κ - KP κ1) (NP κ - NP κ1) x ⟨by omega, rfl⟩ (hJ _ _ (by omega) (by omega))) ⟨callB_of 2 hT (gwt_in w_5_126) rfl rfl rfl (hT _ w_1_1) (hT _ w_5_123) (by decide +kernel) ⟨Nat.le_of_ble_eq_true rfl, Nat.le_of_ble_eq_true rfl⟩, hT _ w_5_124, hT _ w_5_125⟩ ⟨PVc.blind, va_recv hK hW.1 (ci := 0) (q0 := 0) rfl (pic_obj (by omega) rfl (by decide)), PVc.at _ hW hK hN hE hS hF⟩ rfl rfl hl.1 rfl (lv_room (Nat.le_of_ble_eq_true rfl)) d_law_291 ⟨show _ ≤ 600000 by omega, show _ ≤ 7302250 by omega⟩) hS (fun q _ h => hF q h) hF (fun r u t H1 locs ht hvm hw hB hz1 hk1 hS => ?_)
  obtain ⟨hB, hN1, hAd⟩ := hB
  rw [ht] at hB
  have hV1 := hV.away hk1 hSep.hd
  have hSep1 : Sep u.2.1 u.2.2 ad' 115 := hB.sep (fun j hj => hV.lt hj) hSep.hd
  have hW1 : Wd dC dI cI cB cJ cZ u.2.1 stC kcC u.2.2 A u.1 H1 := hB.back rfl hF
  have hF2 := hV1.free hS hA
  have hw : wp_Mod_write (fun r' y' => r = r' ∧ Inv κ1 u.1 y') (xs (nI i + 1).toNatClampNeg) (xs (nI i + 2).toNatClampNeg) y := hw
  refine lv_aload_n hx hb d_law_294 rfl (lv_at hl 1 rfl) ?_
  refine lv_aload_n hx hb d_law_295 rfl (lv_at hl 3 rfl) ?_
  refine lv_iload_n hx hb d_law_296 rfl (lv_at hl 0 rfl) ?_
  refine lv_iconst (v := 1) hx hb d_law_297 (by decide) ?_
  refine lv_iadd hx hb d_law_298 ?_
  refine va_sld hx hb hX hbl hbA hS (ix_in (t := 1) rfl (by omega) hL) d_law_299 ?_
  refine lv_aload_n hx hb d_law_300 rfl (lv_at hl 3 rfl) ?_
  refine lv_iload_n hx hb d_law_301 rfl (lv_at hl 0 rfl) ?_
  refine lv_iconst (v := 2) hx hb d_law_302 (by decide) ?_
  refine lv_iadd hx hb d_law_303 ?_
  refine va_sld hx hb hX hbl hbA hS (ix_in (t := 2) rfl (by omega) hL) d_law_304 ?_
  refine va_calli (va_runV (C := R_Mod) (As := [.int (xs (nI i + 1).toNatClampNeg), .int (xs (nI i + 2).toNatClampNeg)]) (rest := [.int r]) ⟨hx, hb, hml, hown, hT⟩ (k_Mod_write l dC dI cI cB cJ cZ ad' H1.size (xs (nI i + 1).toNatClampNeg) (xs (nI i + 2).toNatClampNeg) y hw) ⟨callB_of 2 hT (gwt_in w_11_130) rfl rfl rfl (hT _ w_1_15) (hT _ w_11_127) (by decide +kernel) ⟨Nat.le_of_ble_eq_true rfl, Nat.le_of_ble_eq_true rfl⟩, hT _ w_11_128, hT _ w_11_129⟩ ⟨PW.blind, va_recv hK hV1.1 (ci := 12) (q0 := 0) rfl (pic_obj (by decide) rfl (by decide)), PW.at _ hV1 hK hN⟩ rfl rfl hl.1 rfl (lv_room (Nat.le_of_ble_eq_true rfl)) d_law_305 ⟨show _ ≤ 600000 by omega, show _ ≤ 7302250 by omega⟩) hS (fun q _ h => hF2 q h) hF2 (fun r2 u2 t2 H2 locs ht2 hvm2 hw2 hB2 hz2 hk2 hS => ?_)
  rw [ht2] at hB2
  have hV2 : Wd dC dI cI cB cJ cZ ad' stM kcM 115 A u2 H2 := hB2.back rfl hF2
  have hW2 := hW1.away hk2 hSep1.hd'
  have hw2 : r = r2 ∧ Inv κ1 u.1 u2 := hw2
  have hI2 := hw2.2
  refine lv_icmp_eq (tgt := 703) hx hb d_law_308 (by decide) (fun c1 => ?_) (fun c1 => absurd hw2.1 c1)
  exact kk ⟨Nat.le_trans hNN hN1, hW2, hV2, hSep1, hI2⟩ (hAd 0 (by omega)) hS (by omega) (by omega)
set_option maxHeartbeats 4000000 in
set_option maxRecDepth 100000 in
/-- the turn of case 7 -/
theorem lwt_7 {p : Program} {l : Launch} {e : Env} {s : State} {m : MethodId} {below : List Frame} {meth : Method} {c : Code} {b L : Nat} {xs : Nat → Int32} {A : Nat → Prop} {dC : Nat → ClassId} {dI : Nat → Nat → Nat} {cI cB cJ cZ : ClassId} {tM tC : Nat} {kK kV : Nat → Nat} (C0 : lw_At p s m meth c b L xs) (hL : L ≤ 3072) (hA : ∀ q : Nat, s.heap.size ≤ q → A q) (hA2 : ∀ q : Nat, A q → s.heap.size ≤ q) (hbA : ¬ A b) (hK : va_K (dC, dI) CL (TY cI cB cJ cZ) s) (hE : CE s.heap tM tC kK kV A s) {i : Nat} (hi : i + 6 ≤ L) {ad ad' : Nat → Nat} {NN : Nat} {κ : Nat → Nat} {x y : St} {H : Heap} {locs : List Loc} {cells slots : Nat} {ls : Array Slot} (h : LB dC dI cI cB cJ cZ A ad ad' NN κ x y H) (hS : va_S A s.heap H locs) (hl : lv_has ls 4 [(3, .int (nI i)), (2, .ref (ad' 0)), (1, .ref (ad 0)), (0, .ref b)]) (hc : cells + KP κ ≤ 600000) (hs : slots + NP κ ≤ 7302250) (kk : ∀ {ad1 : Nat → Nat} {NN1 : Nat} {κ1 : Nat → Nat} {x1 y1 : St} {H1 : Heap} {locs1 : List Loc} {cells1 slots1 : Nat}, LB dC dI cI cB cJ cZ A ad1 ad' NN1 κ1 x1 y1 H1 → ad1 0 = ad 0 → va_S A s.heap H1 locs1 → cells1 + KP κ1 ≤ 600000 → slots1 + NP κ1 ≤ 7302250 → W p l e room_1 s m #[Value.ref b] below meth c H1 locs1 cells1 slots1 (lw_Z below #[Value.ref b] s) (F0 m 703 ls [])) : W p l e room_1 s m #[Value.ref b] below meth c H locs cells slots (lw_Z below #[Value.ref b] s) (F0 m 313 ls []) := by
  obtain ⟨hx, hb, hr, hml, hown0, hts, hX, hbl, hlocks, hgv⟩ := id C0
  have hown : s.vm.findClass R_Law = some m.cls := hown0
  have hT : ∀ w ∈ TG, w.before #[Value.ref b] s = true := fun w h => hts w (TG_lw w h)
  have hN : NW s := NW.of hts
  obtain ⟨hNN, hW, hV, hSep, hI⟩ := h
  have hF := hW.free hS hA
  refine lv_aload_n hx hb d_law_313 rfl (lv_at hl 2 rfl) ?_
  have hJ := J_take  hI
  refine va_callv (va_runV (C := R_V) (As := []) (rest := []) ⟨hx, hb, hml, hown, hT⟩ (k_V_take l dC dI cI cB cJ cZ ad NN s.heap tM tC kK kV hNN H.size 0  x ⟨by omega, rfl⟩ hJ) ⟨callB_of 0 hT (gwt_in w_6_57) rfl rfl rfl (hT _ w_1_1) (hT _ w_6_54) (by decide +kernel) ⟨Nat.le_of_ble_eq_true rfl, Nat.le_of_ble_eq_true rfl⟩, hT _ w_6_55, hT _ w_6_56⟩ ⟨PVc.blind, va_recv hK hW.1 (ci := 0) (q0 := 0) rfl (pic_obj (by omega) rfl (by decide)), PVc.at _ hW hK hN hE hS hF⟩ rfl rfl hl.1 rfl (lv_room (Nat.le_of_ble_eq_true rfl)) d_law_314 ⟨show _ ≤ 600000 by omega, show _ ≤ 7302250 by omega⟩) hS (fun q _ h => hF q h) hF (fun u t H1 locs ht hvm hw hB hz1 hk1 hS => ?_)
  rw [ht] at hB
  have hV1 := hV.away hk1 hSep.hd
  have hSep1 := hSep
  have hW1 : Wd dC dI cI cB cJ cZ ad stC kcC NN A u H1 := hB.back rfl hF
  have hF2 := hV1.free hS hA
  have hw : wp_Mod_take (fun y' => Inv κ u y')  y := hw
  refine lv_aload_n hx hb d_law_317 rfl (lv_at hl 1 rfl) ?_
  refine va_callv (va_runV (C := R_Mod) (As := []) (rest := []) ⟨hx, hb, hml, hown, hT⟩ (k_Mod_take l dC dI cI cB cJ cZ ad' H1.size  y hw) ⟨callB_of 0 hT (gwt_in w_12_79) rfl rfl rfl (hT _ w_1_15) (hT _ w_12_76) (by decide +kernel) ⟨Nat.le_of_ble_eq_true rfl, Nat.le_of_ble_eq_true rfl⟩, hT _ w_12_77, hT _ w_12_78⟩ ⟨PW.blind, va_recv hK hV1.1 (ci := 12) (q0 := 0) rfl (pic_obj (by decide) rfl (by decide)), PW.at _ hV1 hK hN⟩ rfl rfl hl.1 rfl (lv_room (Nat.le_of_ble_eq_true rfl)) d_law_318 ⟨show _ ≤ 600000 by omega, show _ ≤ 7302250 by omega⟩) hS (fun q _ h => hF2 q h) hF2 (fun u2 t2 H2 locs ht2 hvm2 hw2 hB2 hz2 hk2 hS => ?_)
  rw [ht2] at hB2
  have hV2 : Wd dC dI cI cB cJ cZ ad' stM kcM 115 A u2 H2 := hB2.back rfl hF2
  have hW2 := hW1.away hk2 hSep1.hd'
  have hI2 : Inv κ u u2 := hw2
  refine lv_goto (tgt := 703) hx hb d_law_321 (by decide) ?_
  exact kk ⟨hNN, hW2, hV2, hSep1, hI2⟩ rfl hS (by omega) (by omega)
set_option maxHeartbeats 4000000 in
set_option maxRecDepth 100000 in
/-- the turn of case 8 -/
theorem lwt_8 {p : Program} {l : Launch} {e : Env} {s : State} {m : MethodId} {below : List Frame} {meth : Method} {c : Code} {b L : Nat} {xs : Nat → Int32} {A : Nat → Prop} {dC : Nat → ClassId} {dI : Nat → Nat → Nat} {cI cB cJ cZ : ClassId} {tM tC : Nat} {kK kV : Nat → Nat} (C0 : lw_At p s m meth c b L xs) (hL : L ≤ 3072) (hA : ∀ q : Nat, s.heap.size ≤ q → A q) (hA2 : ∀ q : Nat, A q → s.heap.size ≤ q) (hbA : ¬ A b) (hK : va_K (dC, dI) CL (TY cI cB cJ cZ) s) (hE : CE s.heap tM tC kK kV A s) {i : Nat} (hi : i + 6 ≤ L) {ad ad' : Nat → Nat} {NN : Nat} {κ : Nat → Nat} {x y : St} {H : Heap} {locs : List Loc} {cells slots : Nat} {ls : Array Slot} (h : LB dC dI cI cB cJ cZ A ad ad' NN κ x y H) (hS : va_S A s.heap H locs) (hl : lv_has ls 4 [(3, .int (nI i)), (2, .ref (ad' 0)), (1, .ref (ad 0)), (0, .ref b)]) (hc : cells + KP κ ≤ 600000) (hs : slots + NP κ ≤ 7302250) (kk : ∀ {ad1 : Nat → Nat} {NN1 : Nat} {κ1 : Nat → Nat} {x1 y1 : St} {H1 : Heap} {locs1 : List Loc} {cells1 slots1 : Nat}, LB dC dI cI cB cJ cZ A ad1 ad' NN1 κ1 x1 y1 H1 → ad1 0 = ad 0 → va_S A s.heap H1 locs1 → cells1 + KP κ1 ≤ 600000 → slots1 + NP κ1 ≤ 7302250 → W p l e room_1 s m #[Value.ref b] below meth c H1 locs1 cells1 slots1 (lw_Z below #[Value.ref b] s) (F0 m 703 ls [])) : W p l e room_1 s m #[Value.ref b] below meth c H locs cells slots (lw_Z below #[Value.ref b] s) (F0 m 324 ls []) := by
  obtain ⟨hx, hb, hr, hml, hown0, hts, hX, hbl, hlocks, hgv⟩ := id C0
  have hown : s.vm.findClass R_Law = some m.cls := hown0
  have hT : ∀ w ∈ TG, w.before #[Value.ref b] s = true := fun w h => hts w (TG_lw w h)
  have hN : NW s := NW.of hts
  obtain ⟨hNN, hW, hV, hSep, hI⟩ := h
  have hF := hW.free hS hA
  refine lv_aload_n hx hb d_law_324 rfl (lv_at hl 2 rfl) ?_
  have hJ := J_size  hI
  refine va_calli (va_runV (C := R_V) (As := []) (rest := []) ⟨hx, hb, hml, hown, hT⟩ (k_V_size l dC dI cI cB cJ cZ ad NN s.heap tM tC kK kV hNN H.size 0  x ⟨by omega, rfl⟩ hJ) ⟨callB_of 0 hT (gwt_in w_6_61) rfl rfl rfl (hT _ w_1_1) (hT _ w_6_58) (by decide +kernel) ⟨Nat.le_of_ble_eq_true rfl, Nat.le_of_ble_eq_true rfl⟩, hT _ w_6_59, hT _ w_6_60⟩ ⟨PVc.blind, va_recv hK hW.1 (ci := 0) (q0 := 0) rfl (pic_obj (by omega) rfl (by decide)), PVc.at _ hW hK hN hE hS hF⟩ rfl rfl hl.1 rfl (lv_room (Nat.le_of_ble_eq_true rfl)) d_law_325 ⟨show _ ≤ 600000 by omega, show _ ≤ 7302250 by omega⟩) hS (fun q _ h => hF q h) hF (fun r u t H1 locs ht hvm hw hB hz1 hk1 hS => ?_)
  rw [ht] at hB
  have hV1 := hV.away hk1 hSep.hd
  have hSep1 := hSep
  have hW1 : Wd dC dI cI cB cJ cZ ad stC kcC NN A u H1 := hB.back rfl hF
  have hF2 := hV1.free hS hA
  have hw : wp_Mod_size (fun r' y' => r = r' ∧ Inv κ u y')  y := hw
  refine lv_aload_n hx hb d_law_328 rfl (lv_at hl 1 rfl) ?_
  refine va_calli (va_runV (C := R_Mod) (As := []) (rest := [.int r]) ⟨hx, hb, hml, hown, hT⟩ (k_Mod_size l dC dI cI cB cJ cZ ad' H1.size  y hw) ⟨callB_of 0 hT (gwt_in w_12_83) rfl rfl rfl (hT _ w_1_15) (hT _ w_12_80) (by decide +kernel) ⟨Nat.le_of_ble_eq_true rfl, Nat.le_of_ble_eq_true rfl⟩, hT _ w_12_81, hT _ w_12_82⟩ ⟨PW.blind, va_recv hK hV1.1 (ci := 12) (q0 := 0) rfl (pic_obj (by decide) rfl (by decide)), PW.at _ hV1 hK hN⟩ rfl rfl hl.1 rfl (lv_room (Nat.le_of_ble_eq_true rfl)) d_law_329 ⟨show _ ≤ 600000 by omega, show _ ≤ 7302250 by omega⟩) hS (fun q _ h => hF2 q h) hF2 (fun r2 u2 t2 H2 locs ht2 hvm2 hw2 hB2 hz2 hk2 hS => ?_)
  rw [ht2] at hB2
  have hV2 : Wd dC dI cI cB cJ cZ ad' stM kcM 115 A u2 H2 := hB2.back rfl hF2
  have hW2 := hW1.away hk2 hSep1.hd'
  have hw2 : r = r2 ∧ Inv κ u u2 := hw2
  have hI2 := hw2.2
  refine lv_icmp_eq (tgt := 703) hx hb d_law_332 (by decide) (fun c1 => ?_) (fun c1 => absurd hw2.1 c1)
  exact kk ⟨hNN, hW2, hV2, hSep1, hI2⟩ rfl hS (by omega) (by omega)
set_option maxHeartbeats 4000000 in
set_option maxRecDepth 100000 in
/-- the turn of case 9 -/
theorem lwt_9 {p : Program} {l : Launch} {e : Env} {s : State} {m : MethodId} {below : List Frame} {meth : Method} {c : Code} {b L : Nat} {xs : Nat → Int32} {A : Nat → Prop} {dC : Nat → ClassId} {dI : Nat → Nat → Nat} {cI cB cJ cZ : ClassId} {tM tC : Nat} {kK kV : Nat → Nat} (C0 : lw_At p s m meth c b L xs) (hL : L ≤ 3072) (hA : ∀ q : Nat, s.heap.size ≤ q → A q) (hA2 : ∀ q : Nat, A q → s.heap.size ≤ q) (hbA : ¬ A b) (hK : va_K (dC, dI) CL (TY cI cB cJ cZ) s) (hE : CE s.heap tM tC kK kV A s) {i : Nat} (hi : i + 6 ≤ L) {ad ad' : Nat → Nat} {NN : Nat} {κ : Nat → Nat} {x y : St} {H : Heap} {locs : List Loc} {cells slots : Nat} {ls : Array Slot} (h : LB dC dI cI cB cJ cZ A ad ad' NN κ x y H) (hS : va_S A s.heap H locs) (hl : lv_has ls 4 [(3, .int (nI i)), (2, .ref (ad' 0)), (1, .ref (ad 0)), (0, .ref b)]) (hc : cells + KP κ ≤ 600000) (hs : slots + NP κ ≤ 7302250) (kk : ∀ {ad1 : Nat → Nat} {NN1 : Nat} {κ1 : Nat → Nat} {x1 y1 : St} {H1 : Heap} {locs1 : List Loc} {cells1 slots1 : Nat}, LB dC dI cI cB cJ cZ A ad1 ad' NN1 κ1 x1 y1 H1 → ad1 0 = ad 0 → va_S A s.heap H1 locs1 → cells1 + KP κ1 ≤ 600000 → slots1 + NP κ1 ≤ 7302250 → W p l e room_1 s m #[Value.ref b] below meth c H1 locs1 cells1 slots1 (lw_Z below #[Value.ref b] s) (F0 m 703 ls [])) : W p l e room_1 s m #[Value.ref b] below meth c H locs cells slots (lw_Z below #[Value.ref b] s) (F0 m 337 ls []) := by
  obtain ⟨hx, hb, hr, hml, hown0, hts, hX, hbl, hlocks, hgv⟩ := id C0
  have hown : s.vm.findClass R_Law = some m.cls := hown0
  have hT : ∀ w ∈ TG, w.before #[Value.ref b] s = true := fun w h => hts w (TG_lw w h)
  have hN : NW s := NW.of hts
  obtain ⟨hNN, hW, hV, hSep, hI⟩ := h
  have hF := hW.free hS hA
  refine lv_aload_n hx hb d_law_337 rfl (lv_at hl 2 rfl) ?_
  refine lv_aload_n hx hb d_law_338 rfl (lv_at hl 3 rfl) ?_
  refine lv_iload_n hx hb d_law_339 rfl (lv_at hl 0 rfl) ?_
  refine lv_iconst (v := 1) hx hb d_law_340 (by decide) ?_
  refine lv_iadd hx hb d_law_341 ?_
  refine va_sld hx hb hX hbl hbA hS (ix_in (t := 1) rfl (by omega) hL) d_law_342 ?_
  have hJ := J_byteOf (l1 := (xs (nI i + 1).toNatClampNeg)) hI
  refine va_calli (va_runV (C := R_V) (As := [.int (xs (nI i + 1).toNatClampNeg)]) (rest := []) ⟨hx, hb, hml, hown, hT⟩ (k_V_byteOf l dC dI cI cB cJ cZ ad NN s.heap tM tC kK kV hNN H.size 0 (xs (nI i + 1).toNatClampNeg) x ⟨by omega, rfl⟩ hJ) ⟨callB_of 1 hT (gwt_in w_6_65) rfl rfl rfl (hT _ w_1_1) (hT _ w_6_62) (by decide +kernel) ⟨Nat.le_of_ble_eq_true rfl, Nat.le_of_ble_eq_true rfl⟩, hT _ w_6_63, hT _ w_6_64⟩ ⟨PVc.blind, va_recv hK hW.1 (ci := 0) (q0 := 0) rfl (pic_obj (by omega) rfl (by decide)), PVc.at _ hW hK hN hE hS hF⟩ rfl rfl hl.1 rfl (lv_room (Nat.le_of_ble_eq_true rfl)) d_law_343 ⟨show _ ≤ 600000 by omega, show _ ≤ 7302250 by omega⟩) hS (fun q _ h => hF q h) hF (fun r u t H1 locs ht hvm hw hB hz1 hk1 hS => ?_)
  rw [ht] at hB
  have hV1 := hV.away hk1 hSep.hd
  have hSep1 := hSep
  have hW1 : Wd dC dI cI cB cJ cZ ad stC kcC NN A u H1 := hB.back rfl hF
  have hF2 := hV1.free hS hA
  have hw : wp_Mod_byteOf (fun r' y' => r = r' ∧ Inv κ u y') (xs (nI i + 1).toNatClampNeg) y := hw
  refine lv_aload_n hx hb d_law_346 rfl (lv_at hl 1 rfl) ?_
  refine lv_aload_n hx hb d_law_347 rfl (lv_at hl 3 rfl) ?_
  refine lv_iload_n hx hb d_law_348 rfl (lv_at hl 0 rfl) ?_
  refine lv_iconst (v := 1) hx hb d_law_349 (by decide) ?_
  refine lv_iadd hx hb d_law_350 ?_
  refine va_sld hx hb hX hbl hbA hS (ix_in (t := 1) rfl (by omega) hL) d_law_351 ?_
  refine va_calli (va_runV (C := R_Mod) (As := [.int (xs (nI i + 1).toNatClampNeg)]) (rest := [.int r]) ⟨hx, hb, hml, hown, hT⟩ (k_Mod_byteOf l dC dI cI cB cJ cZ ad' H1.size (xs (nI i + 1).toNatClampNeg) y hw) ⟨callB_of 1 hT (gwt_in w_12_87) rfl rfl rfl (hT _ w_1_15) (hT _ w_12_84) (by decide +kernel) ⟨Nat.le_of_ble_eq_true rfl, Nat.le_of_ble_eq_true rfl⟩, hT _ w_12_85, hT _ w_12_86⟩ ⟨PW.blind, va_recv hK hV1.1 (ci := 12) (q0 := 0) rfl (pic_obj (by decide) rfl (by decide)), PW.at _ hV1 hK hN⟩ rfl rfl hl.1 rfl (lv_room (Nat.le_of_ble_eq_true rfl)) d_law_352 ⟨show _ ≤ 600000 by omega, show _ ≤ 7302250 by omega⟩) hS (fun q _ h => hF2 q h) hF2 (fun r2 u2 t2 H2 locs ht2 hvm2 hw2 hB2 hz2 hk2 hS => ?_)
  rw [ht2] at hB2
  have hV2 : Wd dC dI cI cB cJ cZ ad' stM kcM 115 A u2 H2 := hB2.back rfl hF2
  have hW2 := hW1.away hk2 hSep1.hd'
  have hw2 : r = r2 ∧ Inv κ u u2 := hw2
  have hI2 := hw2.2
  refine lv_icmp_eq (tgt := 703) hx hb d_law_355 (by decide) (fun c1 => ?_) (fun c1 => absurd hw2.1 c1)
  exact kk ⟨hNN, hW2, hV2, hSep1, hI2⟩ rfl hS (by omega) (by omega)
set_option maxHeartbeats 4000000 in
set_option maxRecDepth 100000 in
/-- the turn of case 10 -/
theorem lwt_10 {p : Program} {l : Launch} {e : Env} {s : State} {m : MethodId} {below : List Frame} {meth : Method} {c : Code} {b L : Nat} {xs : Nat → Int32} {A : Nat → Prop} {dC : Nat → ClassId} {dI : Nat → Nat → Nat} {cI cB cJ cZ : ClassId} {tM tC : Nat} {kK kV : Nat → Nat} (C0 : lw_At p s m meth c b L xs) (hL : L ≤ 3072) (hA : ∀ q : Nat, s.heap.size ≤ q → A q) (hA2 : ∀ q : Nat, A q → s.heap.size ≤ q) (hbA : ¬ A b) (hK : va_K (dC, dI) CL (TY cI cB cJ cZ) s) (hE : CE s.heap tM tC kK kV A s) {i : Nat} (hi : i + 6 ≤ L) {ad ad' : Nat → Nat} {NN : Nat} {κ : Nat → Nat} {x y : St} {H : Heap} {locs : List Loc} {cells slots : Nat} {ls : Array Slot} (h : LB dC dI cI cB cJ cZ A ad ad' NN κ x y H) (hS : va_S A s.heap H locs) (hl : lv_has ls 4 [(3, .int (nI i)), (2, .ref (ad' 0)), (1, .ref (ad 0)), (0, .ref b)]) (hc : cells + KP κ ≤ 600000) (hs : slots + NP κ ≤ 7302250) (kk : ∀ {ad1 : Nat → Nat} {NN1 : Nat} {κ1 : Nat → Nat} {x1 y1 : St} {H1 : Heap} {locs1 : List Loc} {cells1 slots1 : Nat}, LB dC dI cI cB cJ cZ A ad1 ad' NN1 κ1 x1 y1 H1 → ad1 0 = ad 0 → va_S A s.heap H1 locs1 → cells1 + KP κ1 ≤ 600000 → slots1 + NP κ1 ≤ 7302250 → W p l e room_1 s m #[Value.ref b] below meth c H1 locs1 cells1 slots1 (lw_Z below #[Value.ref b] s) (F0 m 703 ls [])) : W p l e room_1 s m #[Value.ref b] below meth c H locs cells slots (lw_Z below #[Value.ref b] s) (F0 m 360 ls []) := by
  obtain ⟨hx, hb, hr, hml, hown0, hts, hX, hbl, hlocks, hgv⟩ := id C0
  have hown : s.vm.findClass R_Law = some m.cls := hown0
  have hT : ∀ w ∈ TG, w.before #[Value.ref b] s = true := fun w h => hts w (TG_lw w h)
  have hN : NW s := NW.of hts
  obtain ⟨hNN, hW, hV, hSep, hI⟩ := h
  have hF := hW.free hS hA
  refine lv_aload_n hx hb d_law_360 rfl (lv_at hl 2 rfl) ?_
  refine lv_aload_n hx hb d_law_361 rfl (lv_at hl 3 rfl) ?_
  refine lv_iload_n hx hb d_law_362 rfl (lv_at hl 0 rfl) ?_
  refine lv_iconst (v := 1) hx hb d_law_363 (by decide) ?_
  refine lv_iadd hx hb d_law_364 ?_
  refine va_sld hx hb hX hbl hbA hS (ix_in (t := 1) rfl (by omega) hL) d_law_365 ?_
  refine lv_aload_n hx hb d_law_366 rfl (lv_at hl 3 rfl) ?_
  refine lv_iload_n hx hb d_law_367 rfl (lv_at hl 0 rfl) ?_
  refine lv_iconst (v := 2) hx hb d_law_368 (by decide) ?_
  refine lv_iadd hx hb d_law_369 ?_
  refine va_sld hx hb hX hbl hbA hS (ix_in (t := 2) rfl (by omega) hL) d_law_370 ?_
  have hJ := J_poke (l1 := (xs (nI i + 1).toNatClampNeg)) (l2 := (xs (nI i + 2).toNatClampNeg)) hI
  refine va_calli (va_runV (C := R_V) (As := [.int (xs (nI i + 1).toNatClampNeg), .int (xs (nI i + 2).toNatClampNeg)]) (rest := []) ⟨hx, hb, hml, hown, hT⟩ (k_V_poke l dC dI cI cB cJ cZ ad NN s.heap tM tC kK kV hNN H.size 0 (xs (nI i + 1).toNatClampNeg) (xs (nI i + 2).toNatClampNeg) x ⟨by omega, rfl⟩ hJ) ⟨callB_of 2 hT (gwt_in w_6_69) rfl rfl rfl (hT _ w_1_1) (hT _ w_6_66) (by decide +kernel) ⟨Nat.le_of_ble_eq_true rfl, Nat.le_of_ble_eq_true rfl⟩, hT _ w_6_67, hT _ w_6_68⟩ ⟨PVc.blind, va_recv hK hW.1 (ci := 0) (q0 := 0) rfl (pic_obj (by omega) rfl (by decide)), PVc.at _ hW hK hN hE hS hF⟩ rfl rfl hl.1 rfl (lv_room (Nat.le_of_ble_eq_true rfl)) d_law_371 ⟨show _ ≤ 600000 by omega, show _ ≤ 7302250 by omega⟩) hS (fun q _ h => hF q h) hF (fun r u t H1 locs ht hvm hw hB hz1 hk1 hS => ?_)
  rw [ht] at hB
  have hV1 := hV.away hk1 hSep.hd
  have hSep1 := hSep
  have hW1 : Wd dC dI cI cB cJ cZ ad stC kcC NN A u H1 := hB.back rfl hF
  have hF2 := hV1.free hS hA
  have hw : wp_Mod_poke (fun r' y' => r = r' ∧ Inv κ u y') (xs (nI i + 1).toNatClampNeg) (xs (nI i + 2).toNatClampNeg) y := hw
  refine lv_aload_n hx hb d_law_374 rfl (lv_at hl 1 rfl) ?_
  refine lv_aload_n hx hb d_law_375 rfl (lv_at hl 3 rfl) ?_
  refine lv_iload_n hx hb d_law_376 rfl (lv_at hl 0 rfl) ?_
  refine lv_iconst (v := 1) hx hb d_law_377 (by decide) ?_
  refine lv_iadd hx hb d_law_378 ?_
  refine va_sld hx hb hX hbl hbA hS (ix_in (t := 1) rfl (by omega) hL) d_law_379 ?_
  refine lv_aload_n hx hb d_law_380 rfl (lv_at hl 3 rfl) ?_
  refine lv_iload_n hx hb d_law_381 rfl (lv_at hl 0 rfl) ?_
  refine lv_iconst (v := 2) hx hb d_law_382 (by decide) ?_
  refine lv_iadd hx hb d_law_383 ?_
  refine va_sld hx hb hX hbl hbA hS (ix_in (t := 2) rfl (by omega) hL) d_law_384 ?_
  refine va_calli (va_runV (C := R_Mod) (As := [.int (xs (nI i + 1).toNatClampNeg), .int (xs (nI i + 2).toNatClampNeg)]) (rest := [.int r]) ⟨hx, hb, hml, hown, hT⟩ (k_Mod_poke l dC dI cI cB cJ cZ ad' H1.size (xs (nI i + 1).toNatClampNeg) (xs (nI i + 2).toNatClampNeg) y hw) ⟨callB_of 2 hT (gwt_in w_12_91) rfl rfl rfl (hT _ w_1_15) (hT _ w_12_88) (by decide +kernel) ⟨Nat.le_of_ble_eq_true rfl, Nat.le_of_ble_eq_true rfl⟩, hT _ w_12_89, hT _ w_12_90⟩ ⟨PW.blind, va_recv hK hV1.1 (ci := 12) (q0 := 0) rfl (pic_obj (by decide) rfl (by decide)), PW.at _ hV1 hK hN⟩ rfl rfl hl.1 rfl (lv_room (Nat.le_of_ble_eq_true rfl)) d_law_385 ⟨show _ ≤ 600000 by omega, show _ ≤ 7302250 by omega⟩) hS (fun q _ h => hF2 q h) hF2 (fun r2 u2 t2 H2 locs ht2 hvm2 hw2 hB2 hz2 hk2 hS => ?_)
  rw [ht2] at hB2
  have hV2 : Wd dC dI cI cB cJ cZ ad' stM kcM 115 A u2 H2 := hB2.back rfl hF2
  have hW2 := hW1.away hk2 hSep1.hd'
  have hw2 : r = r2 ∧ Inv κ u u2 := hw2
  have hI2 := hw2.2
  refine lv_icmp_eq (tgt := 703) hx hb d_law_388 (by decide) (fun c1 => ?_) (fun c1 => absurd hw2.1 c1)
  exact kk ⟨hNN, hW2, hV2, hSep1, hI2⟩ rfl hS (by omega) (by omega)
set_option maxHeartbeats 4000000 in
set_option maxRecDepth 100000 in
/-- the turn of case 11 -/
theorem lwt_11 {p : Program} {l : Launch} {e : Env} {s : State} {m : MethodId} {below : List Frame} {meth : Method} {c : Code} {b L : Nat} {xs : Nat → Int32} {A : Nat → Prop} {dC : Nat → ClassId} {dI : Nat → Nat → Nat} {cI cB cJ cZ : ClassId} {tM tC : Nat} {kK kV : Nat → Nat} (C0 : lw_At p s m meth c b L xs) (hL : L ≤ 3072) (hA : ∀ q : Nat, s.heap.size ≤ q → A q) (hA2 : ∀ q : Nat, A q → s.heap.size ≤ q) (hbA : ¬ A b) (hK : va_K (dC, dI) CL (TY cI cB cJ cZ) s) (hE : CE s.heap tM tC kK kV A s) {i : Nat} (hi : i + 6 ≤ L) {ad ad' : Nat → Nat} {NN : Nat} {κ : Nat → Nat} {x y : St} {H : Heap} {locs : List Loc} {cells slots : Nat} {ls : Array Slot} (h : LB dC dI cI cB cJ cZ A ad ad' NN κ x y H) (hS : va_S A s.heap H locs) (hl : lv_has ls 4 [(3, .int (nI i)), (2, .ref (ad' 0)), (1, .ref (ad 0)), (0, .ref b)]) (hc : cells + KP κ ≤ 600000) (hs : slots + NP κ ≤ 7302250) (kk : ∀ {ad1 : Nat → Nat} {NN1 : Nat} {κ1 : Nat → Nat} {x1 y1 : St} {H1 : Heap} {locs1 : List Loc} {cells1 slots1 : Nat}, LB dC dI cI cB cJ cZ A ad1 ad' NN1 κ1 x1 y1 H1 → ad1 0 = ad 0 → va_S A s.heap H1 locs1 → cells1 + KP κ1 ≤ 600000 → slots1 + NP κ1 ≤ 7302250 → W p l e room_1 s m #[Value.ref b] below meth c H1 locs1 cells1 slots1 (lw_Z below #[Value.ref b] s) (F0 m 703 ls [])) : W p l e room_1 s m #[Value.ref b] below meth c H locs cells slots (lw_Z below #[Value.ref b] s) (F0 m 393 ls []) := by
  obtain ⟨hx, hb, hr, hml, hown0, hts, hX, hbl, hlocks, hgv⟩ := id C0
  have hown : s.vm.findClass R_Law = some m.cls := hown0
  have hT : ∀ w ∈ TG, w.before #[Value.ref b] s = true := fun w h => hts w (TG_lw w h)
  have hN : NW s := NW.of hts
  obtain ⟨hNN, hW, hV, hSep, hI⟩ := h
  have hF := hW.free hS hA
  refine lv_aload_n hx hb d_law_393 rfl (lv_at hl 2 rfl) ?_
  have hJ := J_open  hI
  refine va_calli (va_runV (C := R_V) (As := []) (rest := []) ⟨hx, hb, hml, hown, hT⟩ (k_V_open l dC dI cI cB cJ cZ ad NN s.heap tM tC kK kV hNN H.size 0  x ⟨by omega, rfl⟩ hJ) ⟨callB_of 0 hT (gwt_in w_6_73) rfl rfl rfl (hT _ w_1_1) (hT _ w_6_70) (by decide +kernel) ⟨Nat.le_of_ble_eq_true rfl, Nat.le_of_ble_eq_true rfl⟩, hT _ w_6_71, hT _ w_6_72⟩ ⟨PVc.blind, va_recv hK hW.1 (ci := 0) (q0 := 0) rfl (pic_obj (by omega) rfl (by decide)), PVc.at _ hW hK hN hE hS hF⟩ rfl rfl hl.1 rfl (lv_room (Nat.le_of_ble_eq_true rfl)) d_law_394 ⟨show _ ≤ 600000 by omega, show _ ≤ 7302250 by omega⟩) hS (fun q _ h => hF q h) hF (fun r u t H1 locs ht hvm hw hB hz1 hk1 hS => ?_)
  rw [ht] at hB
  have hV1 := hV.away hk1 hSep.hd
  have hSep1 := hSep
  have hW1 : Wd dC dI cI cB cJ cZ ad stC kcC NN A u H1 := hB.back rfl hF
  have hF2 := hV1.free hS hA
  have hw : wp_Mod_open (fun r' y' => r = r' ∧ Inv κ u y')  y := hw
  refine lv_aload_n hx hb d_law_397 rfl (lv_at hl 1 rfl) ?_
  refine va_calli (va_runV (C := R_Mod) (As := []) (rest := [.int r]) ⟨hx, hb, hml, hown, hT⟩ (k_Mod_open l dC dI cI cB cJ cZ ad' H1.size  y hw) ⟨callB_of 0 hT (gwt_in w_12_95) rfl rfl rfl (hT _ w_1_15) (hT _ w_12_92) (by decide +kernel) ⟨Nat.le_of_ble_eq_true rfl, Nat.le_of_ble_eq_true rfl⟩, hT _ w_12_93, hT _ w_12_94⟩ ⟨PW.blind, va_recv hK hV1.1 (ci := 12) (q0 := 0) rfl (pic_obj (by decide) rfl (by decide)), PW.at _ hV1 hK hN⟩ rfl rfl hl.1 rfl (lv_room (Nat.le_of_ble_eq_true rfl)) d_law_398 ⟨show _ ≤ 600000 by omega, show _ ≤ 7302250 by omega⟩) hS (fun q _ h => hF2 q h) hF2 (fun r2 u2 t2 H2 locs ht2 hvm2 hw2 hB2 hz2 hk2 hS => ?_)
  rw [ht2] at hB2
  have hV2 : Wd dC dI cI cB cJ cZ ad' stM kcM 115 A u2 H2 := hB2.back rfl hF2
  have hW2 := hW1.away hk2 hSep1.hd'
  have hw2 : r = r2 ∧ Inv κ u u2 := hw2
  have hI2 := hw2.2
  refine lv_icmp_eq (tgt := 703) hx hb d_law_401 (by decide) (fun c1 => ?_) (fun c1 => absurd hw2.1 c1)
  exact kk ⟨hNN, hW2, hV2, hSep1, hI2⟩ rfl hS (by omega) (by omega)
