set_option maxHeartbeats 4000000 in
set_option maxRecDepth 100000 in
/-- the turn of case 12 -/
theorem lwt_12 {p : Program} {l : Launch} {e : Env} {s : State} {m : MethodId} {below : List Frame} {meth : Method} {c : Code} {b L : Nat} {xs : Nat → Int32} {A : Nat → Prop} {dC : Nat → ClassId} {dI : Nat → Nat → Nat} {cI cB cJ cZ : ClassId} {tM tC : Nat} {kK kV : Nat → Nat} (C0 : lw_At p s m meth c b L xs) (hL : L ≤ 3072) (hA : ∀ q : Nat, s.heap.size ≤ q → A q) (hA2 : ∀ q : Nat, A q → s.heap.size ≤ q) (hbA : ¬ A b) (hK : va_K (dC, dI) CL (TY cI cB cJ cZ) s) (hE : CE s.heap tM tC kK kV A s) {i : Nat} (hi : i + 6 ≤ L) {ad ad' : Nat → Nat} {NN : Nat} {κ : Nat → Nat} {x y : St} {H : Heap} {locs : List Loc} {cells slots : Nat} {ls : Array Slot} (h : LB dC dI cI cB cJ cZ A ad ad' NN κ x y H) (hS : va_S A s.heap H locs) (hl : lv_has ls 4 [(3, .int (nI i)), (2, .ref (ad' 0)), (1, .ref (ad 0)), (0, .ref b)]) (hc : cells + KP κ ≤ 600000) (hs : slots + NP κ ≤ 7302250) (kk : ∀ {ad1 : Nat → Nat} {NN1 : Nat} {κ1 : Nat → Nat} {x1 y1 : St} {H1 : Heap} {locs1 : List Loc} {cells1 slots1 : Nat}, LB dC dI cI cB cJ cZ A ad1 ad' NN1 κ1 x1 y1 H1 → ad1 0 = ad 0 → va_S A s.heap H1 locs1 → cells1 + KP κ1 ≤ 600000 → slots1 + NP κ1 ≤ 7302250 → W p l e room_1 s m #[Value.ref b] below meth c H1 locs1 cells1 slots1 (lw_Z below #[Value.ref b] s) (F0 m 703 ls [])) : W p l e room_1 s m #[Value.ref b] below meth c H locs cells slots (lw_Z below #[Value.ref b] s) (F0 m 406 ls []) := by
  obtain ⟨hx, hb, hr, hml, hown0, hts, hX, hbl, hlocks, hgv⟩ := id C0
  have hown : s.vm.findClass R_Law = some m.cls := hown0
  have hT : ∀ w ∈ TG, w.before #[Value.ref b] s = true := fun w h => hts w (TG_lw w h)
  have hN : NW s := NW.of hts
  obtain ⟨hNN, hW, hV, hSep, hI⟩ := h
  have hF := hW.free hS hA
  refine lv_aload_n hx hb d_law_406 rfl (lv_at hl 2 rfl) ?_
  refine lv_aload_n hx hb d_law_407 rfl (lv_at hl 3 rfl) ?_
  refine lv_iload_n hx hb d_law_408 rfl (lv_at hl 0 rfl) ?_
  refine lv_iconst (v := 1) hx hb d_law_409 (by decide) ?_
  refine lv_iadd hx hb d_law_410 ?_
  refine va_sld hx hb hX hbl hbA hS (ix_in (t := 1) rfl (by omega) hL) d_law_411 ?_
  have hJ := J_fault (l1 := (xs (nI i + 1).toNatClampNeg)) hI
  refine va_calli (va_runV (C := R_V) (As := [.int (xs (nI i + 1).toNatClampNeg)]) (rest := []) ⟨hx, hb, hml, hown, hT⟩ (k_V_fault l dC dI cI cB cJ cZ ad NN s.heap tM tC kK kV hNN H.size 0 (xs (nI i + 1).toNatClampNeg) x ⟨by omega, rfl⟩ hJ) ⟨callB_of 1 hT (gwt_in w_7_67) rfl rfl rfl (hT _ w_1_1) (hT _ w_7_64) (by decide +kernel) ⟨Nat.le_of_ble_eq_true rfl, Nat.le_of_ble_eq_true rfl⟩, hT _ w_7_65, hT _ w_7_66⟩ ⟨PVc.blind, va_recv hK hW.1 (ci := 0) (q0 := 0) rfl (pic_obj (by omega) rfl (by decide)), PVc.at _ hW hK hN hE hS hF⟩ rfl rfl hl.1 rfl (lv_room (Nat.le_of_ble_eq_true rfl)) d_law_412 ⟨show _ ≤ 600000 by omega, show _ ≤ 7302250 by omega⟩) hS (fun q _ h => hF q h) hF (fun r u t H1 locs ht hvm hw hB hz1 hk1 hS => ?_)
  rw [ht] at hB
  have hV1 := hV.away hk1 hSep.hd
  have hSep1 := hSep
  have hW1 : Wd dC dI cI cB cJ cZ ad stC kcC NN A u H1 := hB.back rfl hF
  have hF2 := hV1.free hS hA
  have hw : wp_Mod_fault (fun r' y' => r = r' ∧ Inv κ u y') (xs (nI i + 1).toNatClampNeg) y := hw
  refine lv_aload_n hx hb d_law_415 rfl (lv_at hl 1 rfl) ?_
  refine lv_aload_n hx hb d_law_416 rfl (lv_at hl 3 rfl) ?_
  refine lv_iload_n hx hb d_law_417 rfl (lv_at hl 0 rfl) ?_
  refine lv_iconst (v := 1) hx hb d_law_418 (by decide) ?_
  refine lv_iadd hx hb d_law_419 ?_
  refine va_sld hx hb hX hbl hbA hS (ix_in (t := 1) rfl (by omega) hL) d_law_420 ?_
  refine va_calli (va_runV (C := R_Mod) (As := [.int (xs (nI i + 1).toNatClampNeg)]) (rest := [.int r]) ⟨hx, hb, hml, hown, hT⟩ (k_Mod_fault l dC dI cI cB cJ cZ ad' H1.size (xs (nI i + 1).toNatClampNeg) y hw) ⟨callB_of 1 hT (gwt_in w_13_38) rfl rfl rfl (hT _ w_1_15) (hT _ w_13_35) (by decide +kernel) ⟨Nat.le_of_ble_eq_true rfl, Nat.le_of_ble_eq_true rfl⟩, hT _ w_13_36, hT _ w_13_37⟩ ⟨PW.blind, va_recv hK hV1.1 (ci := 12) (q0 := 0) rfl (pic_obj (by decide) rfl (by decide)), PW.at _ hV1 hK hN⟩ rfl rfl hl.1 rfl (lv_room (Nat.le_of_ble_eq_true rfl)) d_law_421 ⟨show _ ≤ 600000 by omega, show _ ≤ 7302250 by omega⟩) hS (fun q _ h => hF2 q h) hF2 (fun r2 u2 t2 H2 locs ht2 hvm2 hw2 hB2 hz2 hk2 hS => ?_)
  rw [ht2] at hB2
  have hV2 : Wd dC dI cI cB cJ cZ ad' stM kcM 115 A u2 H2 := hB2.back rfl hF2
  have hW2 := hW1.away hk2 hSep1.hd'
  have hw2 : r = r2 ∧ Inv κ u u2 := hw2
  have hI2 := hw2.2
  refine lv_icmp_eq (tgt := 703) hx hb d_law_424 (by decide) (fun c1 => ?_) (fun c1 => absurd hw2.1 c1)
  exact kk ⟨hNN, hW2, hV2, hSep1, hI2⟩ rfl hS (by omega) (by omega)
set_option maxHeartbeats 4000000 in
set_option maxRecDepth 100000 in
/-- the turn of case 13 -/
theorem lwt_13 {p : Program} {l : Launch} {e : Env} {s : State} {m : MethodId} {below : List Frame} {meth : Method} {c : Code} {b L : Nat} {xs : Nat → Int32} {A : Nat → Prop} {dC : Nat → ClassId} {dI : Nat → Nat → Nat} {cI cB cJ cZ : ClassId} {tM tC : Nat} {kK kV : Nat → Nat} (C0 : lw_At p s m meth c b L xs) (hL : L ≤ 3072) (hA : ∀ q : Nat, s.heap.size ≤ q → A q) (hA2 : ∀ q : Nat, A q → s.heap.size ≤ q) (hbA : ¬ A b) (hK : va_K (dC, dI) CL (TY cI cB cJ cZ) s) (hE : CE s.heap tM tC kK kV A s) {i : Nat} (hi : i + 6 ≤ L) {ad ad' : Nat → Nat} {NN : Nat} {κ : Nat → Nat} {x y : St} {H : Heap} {locs : List Loc} {cells slots : Nat} {ls : Array Slot} (h : LB dC dI cI cB cJ cZ A ad ad' NN κ x y H) (hS : va_S A s.heap H locs) (hl : lv_has ls 4 [(3, .int (nI i)), (2, .ref (ad' 0)), (1, .ref (ad 0)), (0, .ref b)]) (hc : cells + KP κ ≤ 600000) (hs : slots + NP κ ≤ 7302250) (kk : ∀ {ad1 : Nat → Nat} {NN1 : Nat} {κ1 : Nat → Nat} {x1 y1 : St} {H1 : Heap} {locs1 : List Loc} {cells1 slots1 : Nat}, LB dC dI cI cB cJ cZ A ad1 ad' NN1 κ1 x1 y1 H1 → ad1 0 = ad 0 → va_S A s.heap H1 locs1 → cells1 + KP κ1 ≤ 600000 → slots1 + NP κ1 ≤ 7302250 → W p l e room_1 s m #[Value.ref b] below meth c H1 locs1 cells1 slots1 (lw_Z below #[Value.ref b] s) (F0 m 703 ls [])) : W p l e room_1 s m #[Value.ref b] below meth c H locs cells slots (lw_Z below #[Value.ref b] s) (F0 m 429 ls []) := by
  obtain ⟨hx, hb, hr, hml, hown0, hts, hX, hbl, hlocks, hgv⟩ := id C0
  have hown : s.vm.findClass R_Law = some m.cls := hown0
  have hT : ∀ w ∈ TG, w.before #[Value.ref b] s = true := fun w h => hts w (TG_lw w h)
  have hN : NW s := NW.of hts
  obtain ⟨hNN, hW, hV, hSep, hI⟩ := h
  have hF := hW.free hS hA
  refine lv_aload_n hx hb d_law_429 rfl (lv_at hl 2 rfl) ?_
  refine lv_aload_n hx hb d_law_430 rfl (lv_at hl 3 rfl) ?_
  refine lv_iload_n hx hb d_law_431 rfl (lv_at hl 0 rfl) ?_
  refine lv_iconst (v := 1) hx hb d_law_432 (by decide) ?_
  refine lv_iadd hx hb d_law_433 ?_
  refine va_sld hx hb hX hbl hbA hS (ix_in (t := 1) rfl (by omega) hL) d_law_434 ?_
  have hJ := J_opened (l1 := (xs (nI i + 1).toNatClampNeg)) hI
  refine va_calli (va_runV (C := R_V) (As := [.int (xs (nI i + 1).toNatClampNeg)]) (rest := []) ⟨hx, hb, hml, hown, hT⟩ (k_V_opened l dC dI cI cB cJ cZ ad NN s.heap tM tC kK kV hNN H.size 0 (xs (nI i + 1).toNatClampNeg) x ⟨by omega, rfl⟩ hJ) ⟨callB_of 1 hT (gwt_in w_7_71) rfl rfl rfl (hT _ w_1_1) (hT _ w_7_68) (by decide +kernel) ⟨Nat.le_of_ble_eq_true rfl, Nat.le_of_ble_eq_true rfl⟩, hT _ w_7_69, hT _ w_7_70⟩ ⟨PVc.blind, va_recv hK hW.1 (ci := 0) (q0 := 0) rfl (pic_obj (by omega) rfl (by decide)), PVc.at _ hW hK hN hE hS hF⟩ rfl rfl hl.1 rfl (lv_room (Nat.le_of_ble_eq_true rfl)) d_law_435 ⟨show _ ≤ 600000 by omega, show _ ≤ 7302250 by omega⟩) hS (fun q _ h => hF q h) hF (fun r u t H1 locs ht hvm hw hB hz1 hk1 hS => ?_)
  rw [ht] at hB
  have hV1 := hV.away hk1 hSep.hd
  have hSep1 := hSep
  have hW1 : Wd dC dI cI cB cJ cZ ad stC kcC NN A u H1 := hB.back rfl hF
  have hF2 := hV1.free hS hA
  have hw : wp_Mod_opened (fun r' y' => r = r' ∧ Inv κ u y') (xs (nI i + 1).toNatClampNeg) y := hw
  refine lv_aload_n hx hb d_law_438 rfl (lv_at hl 1 rfl) ?_
  refine lv_aload_n hx hb d_law_439 rfl (lv_at hl 3 rfl) ?_
  refine lv_iload_n hx hb d_law_440 rfl (lv_at hl 0 rfl) ?_
  refine lv_iconst (v := 1) hx hb d_law_441 (by decide) ?_
  refine lv_iadd hx hb d_law_442 ?_
  refine va_sld hx hb hX hbl hbA hS (ix_in (t := 1) rfl (by omega) hL) d_law_443 ?_
  refine va_calli (va_runV (C := R_Mod) (As := [.int (xs (nI i + 1).toNatClampNeg)]) (rest := [.int r]) ⟨hx, hb, hml, hown, hT⟩ (k_Mod_opened l dC dI cI cB cJ cZ ad' H1.size (xs (nI i + 1).toNatClampNeg) y hw) ⟨callB_of 1 hT (gwt_in w_13_42) rfl rfl rfl (hT _ w_1_15) (hT _ w_13_39) (by decide +kernel) ⟨Nat.le_of_ble_eq_true rfl, Nat.le_of_ble_eq_true rfl⟩, hT _ w_13_40, hT _ w_13_41⟩ ⟨PW.blind, va_recv hK hV1.1 (ci := 12) (q0 := 0) rfl (pic_obj (by decide) rfl (by decide)), PW.at _ hV1 hK hN⟩ rfl rfl hl.1 rfl (lv_room (Nat.le_of_ble_eq_true rfl)) d_law_444 ⟨show _ ≤ 600000 by omega, show _ ≤ 7302250 by omega⟩) hS (fun q _ h => hF2 q h) hF2 (fun r2 u2 t2 H2 locs ht2 hvm2 hw2 hB2 hz2 hk2 hS => ?_)
  rw [ht2] at hB2
  have hV2 : Wd dC dI cI cB cJ cZ ad' stM kcM 115 A u2 H2 := hB2.back rfl hF2
  have hW2 := hW1.away hk2 hSep1.hd'
  have hw2 : r = r2 ∧ Inv κ u u2 := hw2
  have hI2 := hw2.2
  refine lv_icmp_eq (tgt := 703) hx hb d_law_447 (by decide) (fun c1 => ?_) (fun c1 => absurd hw2.1 c1)
  exact kk ⟨hNN, hW2, hV2, hSep1, hI2⟩ rfl hS (by omega) (by omega)
set_option maxHeartbeats 4000000 in
set_option maxRecDepth 100000 in
/-- the turn of case 14 -/
theorem lwt_14 {p : Program} {l : Launch} {e : Env} {s : State} {m : MethodId} {below : List Frame} {meth : Method} {c : Code} {b L : Nat} {xs : Nat → Int32} {A : Nat → Prop} {dC : Nat → ClassId} {dI : Nat → Nat → Nat} {cI cB cJ cZ : ClassId} {tM tC : Nat} {kK kV : Nat → Nat} (C0 : lw_At p s m meth c b L xs) (hL : L ≤ 3072) (hA : ∀ q : Nat, s.heap.size ≤ q → A q) (hA2 : ∀ q : Nat, A q → s.heap.size ≤ q) (hbA : ¬ A b) (hK : va_K (dC, dI) CL (TY cI cB cJ cZ) s) (hE : CE s.heap tM tC kK kV A s) {i : Nat} (hi : i + 6 ≤ L) {ad ad' : Nat → Nat} {NN : Nat} {κ : Nat → Nat} {x y : St} {H : Heap} {locs : List Loc} {cells slots : Nat} {ls : Array Slot} (h : LB dC dI cI cB cJ cZ A ad ad' NN κ x y H) (hS : va_S A s.heap H locs) (hl : lv_has ls 4 [(3, .int (nI i)), (2, .ref (ad' 0)), (1, .ref (ad 0)), (0, .ref b)]) (hc : cells + KP κ ≤ 600000) (hs : slots + NP κ ≤ 7302250) (kk : ∀ {ad1 : Nat → Nat} {NN1 : Nat} {κ1 : Nat → Nat} {x1 y1 : St} {H1 : Heap} {locs1 : List Loc} {cells1 slots1 : Nat}, LB dC dI cI cB cJ cZ A ad1 ad' NN1 κ1 x1 y1 H1 → ad1 0 = ad 0 → va_S A s.heap H1 locs1 → cells1 + KP κ1 ≤ 600000 → slots1 + NP κ1 ≤ 7302250 → W p l e room_1 s m #[Value.ref b] below meth c H1 locs1 cells1 slots1 (lw_Z below #[Value.ref b] s) (F0 m 703 ls [])) : W p l e room_1 s m #[Value.ref b] below meth c H locs cells slots (lw_Z below #[Value.ref b] s) (F0 m 452 ls []) := by
  obtain ⟨hx, hb, hr, hml, hown0, hts, hX, hbl, hlocks, hgv⟩ := id C0
  have hown : s.vm.findClass R_Law = some m.cls := hown0
  have hT : ∀ w ∈ TG, w.before #[Value.ref b] s = true := fun w h => hts w (TG_lw w h)
  have hN : NW s := NW.of hts
  obtain ⟨hNN, hW, hV, hSep, hI⟩ := h
  have hF := hW.free hS hA
  refine lv_aload_n hx hb d_law_452 rfl (lv_at hl 2 rfl) ?_
  refine lv_aload_n hx hb d_law_453 rfl (lv_at hl 3 rfl) ?_
  refine lv_iload_n hx hb d_law_454 rfl (lv_at hl 0 rfl) ?_
  refine lv_iconst (v := 1) hx hb d_law_455 (by decide) ?_
  refine lv_iadd hx hb d_law_456 ?_
  refine va_sld hx hb hX hbl hbA hS (ix_in (t := 1) rfl (by omega) hL) d_law_457 ?_
  obtain ⟨κ1, hKl, hJ⟩ := J_show (l1 := (xs (nI i + 1).toNatClampNeg)) hI
  have hKN := KP_le hKl
  refine va_calli (va_runV (C := R_V) (As := [.int (xs (nI i + 1).toNatClampNeg)]) (rest := []) ⟨hx, hb, hml, hown, hT⟩ (k_V_show l dC dI cI cB cJ cZ ad NN s.heap tM tC kK kV hNN H.size 0 (xs (nI i + 1).toNatClampNeg) (KP κ - KP κ1) (NP κ - NP κ1) x ⟨by omega, rfl⟩ (hJ _ _ (by omega) (by omega))) ⟨callB_of 1 hT (gwt_in w_7_75) rfl rfl rfl (hT _ w_1_1) (hT _ w_7_72) (by decide +kernel) ⟨Nat.le_of_ble_eq_true rfl, Nat.le_of_ble_eq_true rfl⟩, hT _ w_7_73, hT _ w_7_74⟩ ⟨PVc.blind, va_recv hK hW.1 (ci := 0) (q0 := 0) rfl (pic_obj (by omega) rfl (by decide)), PVc.at _ hW hK hN hE hS hF⟩ rfl rfl hl.1 rfl (lv_room (Nat.le_of_ble_eq_true rfl)) d_law_458 ⟨show _ ≤ 600000 by omega, show _ ≤ 7302250 by omega⟩) hS (fun q _ h => hF q h) hF (fun r u t H1 locs ht hvm hw hB hz1 hk1 hS => ?_)
  obtain ⟨hB, hN1, hAd⟩ := hB
  rw [ht] at hB
  have hV1 := hV.away hk1 hSep.hd
  have hSep1 : Sep u.2.1 u.2.2 ad' 115 := hB.sep (fun j hj => hV.lt hj) hSep.hd
  have hW1 : Wd dC dI cI cB cJ cZ u.2.1 stC kcC u.2.2 A u.1 H1 := hB.back rfl hF
  have hF2 := hV1.free hS hA
  have hw : wp_Mod_show (fun r' y' => r = r' ∧ Inv κ1 u.1 y') (xs (nI i + 1).toNatClampNeg) y := hw
  refine lv_aload_n hx hb d_law_461 rfl (lv_at hl 1 rfl) ?_
  refine lv_aload_n hx hb d_law_462 rfl (lv_at hl 3 rfl) ?_
  refine lv_iload_n hx hb d_law_463 rfl (lv_at hl 0 rfl) ?_
  refine lv_iconst (v := 1) hx hb d_law_464 (by decide) ?_
  refine lv_iadd hx hb d_law_465 ?_
  refine va_sld hx hb hX hbl hbA hS (ix_in (t := 1) rfl (by omega) hL) d_law_466 ?_
  refine va_calli (va_runV (C := R_Mod) (As := [.int (xs (nI i + 1).toNatClampNeg)]) (rest := [.int r]) ⟨hx, hb, hml, hown, hT⟩ (k_Mod_show l dC dI cI cB cJ cZ ad' H1.size (xs (nI i + 1).toNatClampNeg) y hw) ⟨callB_of 1 hT (gwt_in w_13_46) rfl rfl rfl (hT _ w_1_15) (hT _ w_13_43) (by decide +kernel) ⟨Nat.le_of_ble_eq_true rfl, Nat.le_of_ble_eq_true rfl⟩, hT _ w_13_44, hT _ w_13_45⟩ ⟨PW.blind, va_recv hK hV1.1 (ci := 12) (q0 := 0) rfl (pic_obj (by decide) rfl (by decide)), PW.at _ hV1 hK hN⟩ rfl rfl hl.1 rfl (lv_room (Nat.le_of_ble_eq_true rfl)) d_law_467 ⟨show _ ≤ 600000 by omega, show _ ≤ 7302250 by omega⟩) hS (fun q _ h => hF2 q h) hF2 (fun r2 u2 t2 H2 locs ht2 hvm2 hw2 hB2 hz2 hk2 hS => ?_)
  rw [ht2] at hB2
  have hV2 : Wd dC dI cI cB cJ cZ ad' stM kcM 115 A u2 H2 := hB2.back rfl hF2
  have hW2 := hW1.away hk2 hSep1.hd'
  have hw2 : r = r2 ∧ Inv κ1 u.1 u2 := hw2
  have hI2 := hw2.2
  refine lv_icmp_eq (tgt := 703) hx hb d_law_470 (by decide) (fun c1 => ?_) (fun c1 => absurd hw2.1 c1)
  exact kk ⟨Nat.le_trans hNN hN1, hW2, hV2, hSep1, hI2⟩ (hAd 0 (by omega)) hS (by omega) (by omega)
set_option maxHeartbeats 4000000 in
set_option maxRecDepth 100000 in
/-- the turn of case 15 -/
theorem lwt_15 {p : Program} {l : Launch} {e : Env} {s : State} {m : MethodId} {below : List Frame} {meth : Method} {c : Code} {b L : Nat} {xs : Nat → Int32} {A : Nat → Prop} {dC : Nat → ClassId} {dI : Nat → Nat → Nat} {cI cB cJ cZ : ClassId} {tM tC : Nat} {kK kV : Nat → Nat} (C0 : lw_At p s m meth c b L xs) (hL : L ≤ 3072) (hA : ∀ q : Nat, s.heap.size ≤ q → A q) (hA2 : ∀ q : Nat, A q → s.heap.size ≤ q) (hbA : ¬ A b) (hK : va_K (dC, dI) CL (TY cI cB cJ cZ) s) (hE : CE s.heap tM tC kK kV A s) {i : Nat} (hi : i + 6 ≤ L) {ad ad' : Nat → Nat} {NN : Nat} {κ : Nat → Nat} {x y : St} {H : Heap} {locs : List Loc} {cells slots : Nat} {ls : Array Slot} (h : LB dC dI cI cB cJ cZ A ad ad' NN κ x y H) (hS : va_S A s.heap H locs) (hl : lv_has ls 4 [(3, .int (nI i)), (2, .ref (ad' 0)), (1, .ref (ad 0)), (0, .ref b)]) (hc : cells + KP κ ≤ 600000) (hs : slots + NP κ ≤ 7302250) (kk : ∀ {ad1 : Nat → Nat} {NN1 : Nat} {κ1 : Nat → Nat} {x1 y1 : St} {H1 : Heap} {locs1 : List Loc} {cells1 slots1 : Nat}, LB dC dI cI cB cJ cZ A ad1 ad' NN1 κ1 x1 y1 H1 → ad1 0 = ad 0 → va_S A s.heap H1 locs1 → cells1 + KP κ1 ≤ 600000 → slots1 + NP κ1 ≤ 7302250 → W p l e room_1 s m #[Value.ref b] below meth c H1 locs1 cells1 slots1 (lw_Z below #[Value.ref b] s) (F0 m 703 ls [])) : W p l e room_1 s m #[Value.ref b] below meth c H locs cells slots (lw_Z below #[Value.ref b] s) (F0 m 475 ls []) := by
  obtain ⟨hx, hb, hr, hml, hown0, hts, hX, hbl, hlocks, hgv⟩ := id C0
  have hown : s.vm.findClass R_Law = some m.cls := hown0
  have hT : ∀ w ∈ TG, w.before #[Value.ref b] s = true := fun w h => hts w (TG_lw w h)
  have hN : NW s := NW.of hts
  obtain ⟨hNN, hW, hV, hSep, hI⟩ := h
  have hF := hW.free hS hA
  refine lv_aload_n hx hb d_law_475 rfl (lv_at hl 2 rfl) ?_
  have hJ := J_query  hI
  refine va_calli (va_runV (C := R_V) (As := []) (rest := []) ⟨hx, hb, hml, hown, hT⟩ (k_V_query l dC dI cI cB cJ cZ ad NN s.heap tM tC kK kV hNN H.size 0  x ⟨by omega, rfl⟩ hJ) ⟨callB_of 0 hT (gwt_in w_7_136) rfl rfl rfl (hT _ w_1_1) (hT _ w_7_133) (by decide +kernel) ⟨Nat.le_of_ble_eq_true rfl, Nat.le_of_ble_eq_true rfl⟩, hT _ w_7_134, hT _ w_7_135⟩ ⟨PVc.blind, va_recv hK hW.1 (ci := 0) (q0 := 0) rfl (pic_obj (by omega) rfl (by decide)), PVc.at _ hW hK hN hE hS hF⟩ rfl rfl hl.1 rfl (lv_room (Nat.le_of_ble_eq_true rfl)) d_law_476 ⟨show _ ≤ 600000 by omega, show _ ≤ 7302250 by omega⟩) hS (fun q _ h => hF q h) hF (fun r u t H1 locs ht hvm hw hB hz1 hk1 hS => ?_)
  rw [ht] at hB
  have hV1 := hV.away hk1 hSep.hd
  have hSep1 := hSep
  have hW1 : Wd dC dI cI cB cJ cZ ad stC kcC NN A u H1 := hB.back rfl hF
  have hF2 := hV1.free hS hA
  have hw : wp_Mod_query (fun r' y' => r = r' ∧ Inv κ u y')  y := hw
  refine lv_aload_n hx hb d_law_479 rfl (lv_at hl 1 rfl) ?_
  refine va_calli (va_runV (C := R_Mod) (As := []) (rest := [.int r]) ⟨hx, hb, hml, hown, hT⟩ (k_Mod_query l dC dI cI cB cJ cZ ad' H1.size  y hw) ⟨callB_of 0 hT (gwt_in w_13_116) rfl rfl rfl (hT _ w_1_15) (hT _ w_13_113) (by decide +kernel) ⟨Nat.le_of_ble_eq_true rfl, Nat.le_of_ble_eq_true rfl⟩, hT _ w_13_114, hT _ w_13_115⟩ ⟨PW.blind, va_recv hK hV1.1 (ci := 12) (q0 := 0) rfl (pic_obj (by decide) rfl (by decide)), PW.at _ hV1 hK hN⟩ rfl rfl hl.1 rfl (lv_room (Nat.le_of_ble_eq_true rfl)) d_law_480 ⟨show _ ≤ 600000 by omega, show _ ≤ 7302250 by omega⟩) hS (fun q _ h => hF2 q h) hF2 (fun r2 u2 t2 H2 locs ht2 hvm2 hw2 hB2 hz2 hk2 hS => ?_)
  rw [ht2] at hB2
  have hV2 : Wd dC dI cI cB cJ cZ ad' stM kcM 115 A u2 H2 := hB2.back rfl hF2
  have hW2 := hW1.away hk2 hSep1.hd'
  have hw2 : r = r2 ∧ Inv κ u u2 := hw2
  have hI2 := hw2.2
  refine lv_icmp_eq (tgt := 703) hx hb d_law_483 (by decide) (fun c1 => ?_) (fun c1 => absurd hw2.1 c1)
  exact kk ⟨hNN, hW2, hV2, hSep1, hI2⟩ rfl hS (by omega) (by omega)
set_option maxHeartbeats 4000000 in
set_option maxRecDepth 100000 in
/-- the turn of case 16 -/
theorem lwt_16 {p : Program} {l : Launch} {e : Env} {s : State} {m : MethodId} {below : List Frame} {meth : Method} {c : Code} {b L : Nat} {xs : Nat → Int32} {A : Nat → Prop} {dC : Nat → ClassId} {dI : Nat → Nat → Nat} {cI cB cJ cZ : ClassId} {tM tC : Nat} {kK kV : Nat → Nat} (C0 : lw_At p s m meth c b L xs) (hL : L ≤ 3072) (hA : ∀ q : Nat, s.heap.size ≤ q → A q) (hA2 : ∀ q : Nat, A q → s.heap.size ≤ q) (hbA : ¬ A b) (hK : va_K (dC, dI) CL (TY cI cB cJ cZ) s) (hE : CE s.heap tM tC kK kV A s) {i : Nat} (hi : i + 6 ≤ L) {ad ad' : Nat → Nat} {NN : Nat} {κ : Nat → Nat} {x y : St} {H : Heap} {locs : List Loc} {cells slots : Nat} {ls : Array Slot} (h : LB dC dI cI cB cJ cZ A ad ad' NN κ x y H) (hS : va_S A s.heap H locs) (hl : lv_has ls 4 [(3, .int (nI i)), (2, .ref (ad' 0)), (1, .ref (ad 0)), (0, .ref b)]) (hc : cells + KP κ ≤ 600000) (hs : slots + NP κ ≤ 7302250) (kk : ∀ {ad1 : Nat → Nat} {NN1 : Nat} {κ1 : Nat → Nat} {x1 y1 : St} {H1 : Heap} {locs1 : List Loc} {cells1 slots1 : Nat}, LB dC dI cI cB cJ cZ A ad1 ad' NN1 κ1 x1 y1 H1 → ad1 0 = ad 0 → va_S A s.heap H1 locs1 → cells1 + KP κ1 ≤ 600000 → slots1 + NP κ1 ≤ 7302250 → W p l e room_1 s m #[Value.ref b] below meth c H1 locs1 cells1 slots1 (lw_Z below #[Value.ref b] s) (F0 m 703 ls [])) : W p l e room_1 s m #[Value.ref b] below meth c H locs cells slots (lw_Z below #[Value.ref b] s) (F0 m 488 ls []) := by
  obtain ⟨hx, hb, hr, hml, hown0, hts, hX, hbl, hlocks, hgv⟩ := id C0
  have hown : s.vm.findClass R_Law = some m.cls := hown0
  have hT : ∀ w ∈ TG, w.before #[Value.ref b] s = true := fun w h => hts w (TG_lw w h)
  have hN : NW s := NW.of hts
  obtain ⟨hNN, hW, hV, hSep, hI⟩ := h
  have hF := hW.free hS hA
  refine lv_aload_n hx hb d_law_488 rfl (lv_at hl 2 rfl) ?_
  have hJ := J_run  hI
  refine va_calli (va_runV (C := R_V) (As := []) (rest := []) ⟨hx, hb, hml, hown, hT⟩ (k_V_run l dC dI cI cB cJ cZ ad NN s.heap tM tC kK kV hNN H.size 0  x ⟨by omega, rfl⟩ hJ) ⟨callB_of 0 hT (gwt_in w_8_15) rfl rfl rfl (hT _ w_1_1) (hT _ w_8_12) (by decide +kernel) ⟨Nat.le_of_ble_eq_true rfl, Nat.le_of_ble_eq_true rfl⟩, hT _ w_8_13, hT _ w_8_14⟩ ⟨PVc.blind, va_recv hK hW.1 (ci := 0) (q0 := 0) rfl (pic_obj (by omega) rfl (by decide)), PVc.at _ hW hK hN hE hS hF⟩ rfl rfl hl.1 rfl (lv_room (Nat.le_of_ble_eq_true rfl)) d_law_489 ⟨show _ ≤ 600000 by omega, show _ ≤ 7302250 by omega⟩) hS (fun q _ h => hF q h) hF (fun r u t H1 locs ht hvm hw hB hz1 hk1 hS => ?_)
  rw [ht] at hB
  have hV1 := hV.away hk1 hSep.hd
  have hSep1 := hSep
  have hW1 : Wd dC dI cI cB cJ cZ ad stC kcC NN A u H1 := hB.back rfl hF
  have hF2 := hV1.free hS hA
  have hw : wp_Mod_run (fun r' y' => r = r' ∧ Inv κ u y')  y := hw
  refine lv_aload_n hx hb d_law_492 rfl (lv_at hl 1 rfl) ?_
  refine va_calli (va_runV (C := R_Mod) (As := []) (rest := [.int r]) ⟨hx, hb, hml, hown, hT⟩ (k_Mod_run l dC dI cI cB cJ cZ ad' H1.size  y hw) ⟨callB_of 0 hT (gwt_in w_13_199) rfl rfl rfl (hT _ w_1_15) (hT _ w_13_196) (by decide +kernel) ⟨Nat.le_of_ble_eq_true rfl, Nat.le_of_ble_eq_true rfl⟩, hT _ w_13_197, hT _ w_13_198⟩ ⟨PW.blind, va_recv hK hV1.1 (ci := 12) (q0 := 0) rfl (pic_obj (by decide) rfl (by decide)), PW.at _ hV1 hK hN⟩ rfl rfl hl.1 rfl (lv_room (Nat.le_of_ble_eq_true rfl)) d_law_493 ⟨show _ ≤ 600000 by omega, show _ ≤ 7302250 by omega⟩) hS (fun q _ h => hF2 q h) hF2 (fun r2 u2 t2 H2 locs ht2 hvm2 hw2 hB2 hz2 hk2 hS => ?_)
  rw [ht2] at hB2
  have hV2 : Wd dC dI cI cB cJ cZ ad' stM kcM 115 A u2 H2 := hB2.back rfl hF2
  have hW2 := hW1.away hk2 hSep1.hd'
  have hw2 : r = r2 ∧ Inv κ u u2 := hw2
  have hI2 := hw2.2
  refine lv_icmp_eq (tgt := 703) hx hb d_law_496 (by decide) (fun c1 => ?_) (fun c1 => absurd hw2.1 c1)
  exact kk ⟨hNN, hW2, hV2, hSep1, hI2⟩ rfl hS (by omega) (by omega)
set_option maxHeartbeats 4000000 in
set_option maxRecDepth 100000 in
/-- the turn of case 17 -/
theorem lwt_17 {p : Program} {l : Launch} {e : Env} {s : State} {m : MethodId} {below : List Frame} {meth : Method} {c : Code} {b L : Nat} {xs : Nat → Int32} {A : Nat → Prop} {dC : Nat → ClassId} {dI : Nat → Nat → Nat} {cI cB cJ cZ : ClassId} {tM tC : Nat} {kK kV : Nat → Nat} (C0 : lw_At p s m meth c b L xs) (hL : L ≤ 3072) (hA : ∀ q : Nat, s.heap.size ≤ q → A q) (hA2 : ∀ q : Nat, A q → s.heap.size ≤ q) (hbA : ¬ A b) (hK : va_K (dC, dI) CL (TY cI cB cJ cZ) s) (hE : CE s.heap tM tC kK kV A s) {i : Nat} (hi : i + 6 ≤ L) {ad ad' : Nat → Nat} {NN : Nat} {κ : Nat → Nat} {x y : St} {H : Heap} {locs : List Loc} {cells slots : Nat} {ls : Array Slot} (h : LB dC dI cI cB cJ cZ A ad ad' NN κ x y H) (hS : va_S A s.heap H locs) (hl : lv_has ls 4 [(3, .int (nI i)), (2, .ref (ad' 0)), (1, .ref (ad 0)), (0, .ref b)]) (hc : cells + KP κ ≤ 600000) (hs : slots + NP κ ≤ 7302250) (kk : ∀ {ad1 : Nat → Nat} {NN1 : Nat} {κ1 : Nat → Nat} {x1 y1 : St} {H1 : Heap} {locs1 : List Loc} {cells1 slots1 : Nat}, LB dC dI cI cB cJ cZ A ad1 ad' NN1 κ1 x1 y1 H1 → ad1 0 = ad 0 → va_S A s.heap H1 locs1 → cells1 + KP κ1 ≤ 600000 → slots1 + NP κ1 ≤ 7302250 → W p l e room_1 s m #[Value.ref b] below meth c H1 locs1 cells1 slots1 (lw_Z below #[Value.ref b] s) (F0 m 703 ls [])) : W p l e room_1 s m #[Value.ref b] below meth c H locs cells slots (lw_Z below #[Value.ref b] s) (F0 m 501 ls []) := by
  obtain ⟨hx, hb, hr, hml, hown0, hts, hX, hbl, hlocks, hgv⟩ := id C0
  have hown : s.vm.findClass R_Law = some m.cls := hown0
  have hT : ∀ w ∈ TG, w.before #[Value.ref b] s = true := fun w h => hts w (TG_lw w h)
  have hN : NW s := NW.of hts
  obtain ⟨hNN, hW, hV, hSep, hI⟩ := h
  have hF := hW.free hS hA
  refine lv_aload_n hx hb d_law_501 rfl (lv_at hl 2 rfl) ?_
  refine lv_aload_n hx hb d_law_502 rfl (lv_at hl 3 rfl) ?_
  refine lv_iload_n hx hb d_law_503 rfl (lv_at hl 0 rfl) ?_
  refine lv_iconst (v := 1) hx hb d_law_504 (by decide) ?_
  refine lv_iadd hx hb d_law_505 ?_
  refine va_sld hx hb hX hbl hbA hS (ix_in (t := 1) rfl (by omega) hL) d_law_506 ?_
  have hJ := J_row (l1 := (xs (nI i + 1).toNatClampNeg)) hI
  refine va_calli (va_runV (C := R_V) (As := [.int (xs (nI i + 1).toNatClampNeg)]) (rest := []) ⟨hx, hb, hml, hown, hT⟩ (k_V_row l dC dI cI cB cJ cZ ad NN s.heap tM tC kK kV hNN H.size 0 (xs (nI i + 1).toNatClampNeg) x ⟨by omega, rfl⟩ hJ) ⟨callB_of 1 hT (gwt_in w_8_130) rfl rfl rfl (hT _ w_1_1) (hT _ w_8_127) (by decide +kernel) ⟨Nat.le_of_ble_eq_true rfl, Nat.le_of_ble_eq_true rfl⟩, hT _ w_8_128, hT _ w_8_129⟩ ⟨PVc.blind, va_recv hK hW.1 (ci := 0) (q0 := 0) rfl (pic_obj (by omega) rfl (by decide)), PVc.at _ hW hK hN hE hS hF⟩ rfl rfl hl.1 rfl (lv_room (Nat.le_of_ble_eq_true rfl)) d_law_507 ⟨show _ ≤ 600000 by omega, show _ ≤ 7302250 by omega⟩) hS (fun q _ h => hF q h) hF (fun r u t H1 locs ht hvm hw hB hz1 hk1 hS => ?_)
  rw [ht] at hB
  have hV1 := hV.away hk1 hSep.hd
  have hSep1 := hSep
  have hW1 : Wd dC dI cI cB cJ cZ ad stC kcC NN A u H1 := hB.back rfl hF
  have hF2 := hV1.free hS hA
  have hw : wp_Mod_row (fun r' y' => r = r' ∧ Inv κ u y') (xs (nI i + 1).toNatClampNeg) y := hw
  refine lv_aload_n hx hb d_law_510 rfl (lv_at hl 1 rfl) ?_
  refine lv_aload_n hx hb d_law_511 rfl (lv_at hl 3 rfl) ?_
  refine lv_iload_n hx hb d_law_512 rfl (lv_at hl 0 rfl) ?_
  refine lv_iconst (v := 1) hx hb d_law_513 (by decide) ?_
  refine lv_iadd hx hb d_law_514 ?_
  refine va_sld hx hb hX hbl hbA hS (ix_in (t := 1) rfl (by omega) hL) d_law_515 ?_
  refine va_calli (va_runV (C := R_Mod) (As := [.int (xs (nI i + 1).toNatClampNeg)]) (rest := [.int r]) ⟨hx, hb, hml, hown, hT⟩ (k_Mod_row l dC dI cI cB cJ cZ ad' H1.size (xs (nI i + 1).toNatClampNeg) y hw) ⟨callB_of 1 hT (gwt_in w_14_51) rfl rfl rfl (hT _ w_1_15) (hT _ w_14_48) (by decide +kernel) ⟨Nat.le_of_ble_eq_true rfl, Nat.le_of_ble_eq_true rfl⟩, hT _ w_14_49, hT _ w_14_50⟩ ⟨PW.blind, va_recv hK hV1.1 (ci := 12) (q0 := 0) rfl (pic_obj (by decide) rfl (by decide)), PW.at _ hV1 hK hN⟩ rfl rfl hl.1 rfl (lv_room (Nat.le_of_ble_eq_true rfl)) d_law_516 ⟨show _ ≤ 600000 by omega, show _ ≤ 7302250 by omega⟩) hS (fun q _ h => hF2 q h) hF2 (fun r2 u2 t2 H2 locs ht2 hvm2 hw2 hB2 hz2 hk2 hS => ?_)
  rw [ht2] at hB2
  have hV2 : Wd dC dI cI cB cJ cZ ad' stM kcM 115 A u2 H2 := hB2.back rfl hF2
  have hW2 := hW1.away hk2 hSep1.hd'
  have hw2 : r = r2 ∧ Inv κ u u2 := hw2
  have hI2 := hw2.2
  refine lv_icmp_eq (tgt := 703) hx hb d_law_519 (by decide) (fun c1 => ?_) (fun c1 => absurd hw2.1 c1)
  exact kk ⟨hNN, hW2, hV2, hSep1, hI2⟩ rfl hS (by omega) (by omega)
