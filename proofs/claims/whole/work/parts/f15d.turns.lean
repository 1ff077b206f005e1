set_option maxHeartbeats 4000000 in
set_option maxRecDepth 100000 in
/-- the turn of case 18 -/
theorem lwt_18 {p : Program} {l : Launch} {e : Env} {s : State} {m : MethodId} {below : List Frame} {meth : Method} {c : Code} {b L : Nat} {xs : Nat → Int32} {A : Nat → Prop} {dC : Nat → ClassId} {dI : Nat → Nat → Nat} {cI cB cJ cZ : ClassId} {tM tC : Nat} {kK kV : Nat → Nat} (C0 : lw_At p s m meth c b L xs) (hL : L ≤ 3072) (hA : ∀ q : Nat, s.heap.size ≤ q → A q) (hA2 : ∀ q : Nat, A q → s.heap.size ≤ q) (hbA : ¬ A b) (hK : va_K (dC, dI) CL (TY cI cB cJ cZ) s) (hE : CE s.heap tM tC kK kV A s) {i : Nat} (hi : i + 6 ≤ L) {ad ad' : Nat → Nat} {NN : Nat} {κ : Nat → Nat} {x y : St} {H : Heap} {locs : List Loc} {cells slots : Nat} {ls : Array Slot} (h : LB dC dI cI cB cJ cZ A ad ad' NN κ x y H) (hS : va_S A s.heap H locs) (hl : lv_has ls 4 [(3, .int (nI i)), (2, .ref (ad' 0)), (1, .ref (ad 0)), (0, .ref b)]) (hc : cells + KP κ ≤ 600000) (hs : slots + NP κ ≤ 7302250) (kk : ∀ {ad1 : Nat → Nat} {NN1 : Nat} {κ1 : Nat → Nat} {x1 y1 : St} {H1 : Heap} {locs1 : List Loc} {cells1 slots1 : Nat}, LB dC dI cI cB cJ cZ A ad1 ad' NN1 κ1 x1 y1 H1 → ad1 0 = ad 0 → va_S A s.heap H1 locs1 → cells1 + KP κ1 ≤ 600000 → slots1 + NP κ1 ≤ 7302250 → W p l e room_1 s m #[Value.ref b] below meth c H1 locs1 cells1 slots1 (lw_Z below #[Value.ref b] s) (F0 m 703 ls [])) : W p l e room_1 s m #[Value.ref b] below meth c H locs cells slots (lw_Z below #[Value.ref b] s) (F0 m 524 ls []) := by
  obtain ⟨hx, hb, hr, hml, hown0, hts, hX, hbl, hlocks, hgv⟩ := id C0
  have hown : s.vm.findClass R_Law = some m.cls := hown0
  have hT : ∀ w ∈ TG, w.before #[Value.ref b] s = true := fun w h => hts w (TG_lw w h)
  have hN : NW s := NW.of hts
  obtain ⟨hNN, hW, hV, hSep, hI⟩ := h
  have hF := hW.free hS hA
  refine lv_aload_n hx hb d_law_524 rfl (lv_at hl 2 rfl) ?_
  refine lv_aload_n hx hb d_law_525 rfl (lv_at hl 3 rfl) ?_
  refine lv_iload_n hx hb d_law_526 rfl (lv_at hl 0 rfl) ?_
  refine lv_iconst (v := 1) hx hb d_law_527 (by decide) ?_
  refine lv_iadd hx hb d_law_528 ?_
  refine va_sld hx hb hX hbl hbA hS (ix_in (t := 1) rfl (by omega) hL) d_law_529 ?_
  obtain ⟨κ1, hKl, hJ⟩ := J_answer (l1 := (xs (nI i + 1).toNatClampNeg)) hI
  have hKN := KP_le hKl
  refine va_calli (va_runV (C := R_V) (As := [.int (xs (nI i + 1).toNatClampNeg)]) (rest := []) ⟨hx, hb, hml, hown, hT⟩ (k_V_answer l dC dI cI cB cJ cZ ad NN s.heap tM tC kK kV hNN H.size 0 (xs (nI i + 1).toNatClampNeg) (KP κ - KP κ1) (NP κ - NP κ1) x ⟨by omega, rfl⟩ (hJ _ _ (by omega) (by omega))) ⟨callB_of 1 hT (gwt_in w_8_138) rfl rfl rfl (hT _ w_1_1) (hT _ w_8_135) (by decide +kernel) ⟨Nat.le_of_ble_eq_true rfl, Nat.le_of_ble_eq_true rfl⟩, hT _ w_8_136, hT _ w_8_137⟩ ⟨PVc.blind, va_recv hK hW.1 (ci := 0) (q0 := 0) rfl (pic_obj (by omega) rfl (by decide)), PVc.at _ hW hK hN hE hS hF⟩ rfl rfl hl.1 rfl (lv_room (Nat.le_of_ble_eq_true rfl)) d_law_530 ⟨show _ ≤ 600000 by omega, show _ ≤ 7302250 by omega⟩) hS (fun q _ h => hF q h) hF (fun r u t H1 locs ht hvm hw hB hz1 hk1 hS => ?_)
  obtain ⟨hB, hN1, hAd⟩ := hB
  rw [ht] at hB
  have hV1 := hV.away hk1 hSep.hd
  have hSep1 : Sep u.2.1 u.2.2 ad' 115 := hB.sep (fun j hj => hV.lt hj) hSep.hd
  have hW1 : Wd dC dI cI cB cJ cZ u.2.1 stC kcC u.2.2 A u.1 H1 := hB.back rfl hF
  have hF2 := hV1.free hS hA
  have hw : wp_Mod_answer (fun r' y' => r = r' ∧ Inv κ1 u.1 y') (xs (nI i + 1).toNatClampNeg) y := hw
  refine lv_aload_n hx hb d_law_533 rfl (lv_at hl 1 rfl) ?_
  refine lv_aload_n hx hb d_law_534 rfl (lv_at hl 3 rfl) ?_
  refine lv_iload_n hx hb d_law_535 rfl (lv_at hl 0 rfl) ?_
  refine lv_iconst (v := 1) hx hb d_law_536 (by decide) ?_
  refine lv_iadd hx hb d_law_537 ?_
  refine va_sld hx hb hX hbl hbA hS (ix_in (t := 1) rfl (by omega) hL) d_law_538 ?_
  refine va_calli (va_runV (C := R_Mod) (As := [.int (xs (nI i + 1).toNatClampNeg)]) (rest := [.int r]) ⟨hx, hb, hml, hown, hT⟩ (k_Mod_answer l dC dI cI cB cJ cZ ad' H1.size (xs (nI i + 1).toNatClampNeg) y hw) ⟨callB_of 1 hT (gwt_in w_14_59) rfl rfl rfl (hT _ w_1_15) (hT _ w_14_56) (by decide +kernel) ⟨Nat.le_of_ble_eq_true rfl, Nat.le_of_ble_eq_true rfl⟩, hT _ w_14_57, hT _ w_14_58⟩ ⟨PW.blind, va_recv hK hV1.1 (ci := 12) (q0 := 0) rfl (pic_obj (by decide) rfl (by decide)), PW.at _ hV1 hK hN⟩ rfl rfl hl.1 rfl (lv_room (Nat.le_of_ble_eq_true rfl)) d_law_539 ⟨show _ ≤ 600000 by omega, show _ ≤ 7302250 by omega⟩) hS (fun q _ h => hF2 q h) hF2 (fun r2 u2 t2 H2 locs ht2 hvm2 hw2 hB2 hz2 hk2 hS => ?_)
  rw [ht2] at hB2
  have hV2 : Wd dC dI cI cB cJ cZ ad' stM kcM 115 A u2 H2 := hB2.back rfl hF2
  have hW2 := hW1.away hk2 hSep1.hd'
  have hw2 : r = r2 ∧ Inv κ1 u.1 u2 := hw2
  have hI2 := hw2.2
  refine lv_icmp_eq (tgt := 703) hx hb d_law_542 (by decide) (fun c1 => ?_) (fun c1 => absurd hw2.1 c1)
  exact kk ⟨Nat.le_trans hNN hN1, hW2, hV2, hSep1, hI2⟩ (hAd 0 (by omega)) hS (by omega) (by omega)
set_option maxHeartbeats 4000000 in
set_option maxRecDepth 100000 in
/-- the turn of case 19 -/
theorem lwt_19 {p : Program} {l : Launch} {e : Env} {s : State} {m : MethodId} {below : List Frame} {meth : Method} {c : Code} {b L : Nat} {xs : Nat → Int32} {A : Nat → Prop} {dC : Nat → ClassId} {dI : Nat → Nat → Nat} {cI cB cJ cZ : ClassId} {tM tC : Nat} {kK kV : Nat → Nat} (C0 : lw_At p s m meth c b L xs) (hL : L ≤ 3072) (hA : ∀ q : Nat, s.heap.size ≤ q → A q) (hA2 : ∀ q : Nat, A q → s.heap.size ≤ q) (hbA : ¬ A b) (hK : va_K (dC, dI) CL (TY cI cB cJ cZ) s) (hE : CE s.heap tM tC kK kV A s) {i : Nat} (hi : i + 6 ≤ L) {ad ad' : Nat → Nat} {NN : Nat} {κ : Nat → Nat} {x y : St} {H : Heap} {locs : List Loc} {cells slots : Nat} {ls : Array Slot} (h : LB dC dI cI cB cJ cZ A ad ad' NN κ x y H) (hS : va_S A s.heap H locs) (hl : lv_has ls 4 [(3, .int (nI i)), (2, .ref (ad' 0)), (1, .ref (ad 0)), (0, .ref b)]) (hc : cells + KP κ ≤ 600000) (hs : slots + NP κ ≤ 7302250) (kk : ∀ {ad1 : Nat → Nat} {NN1 : Nat} {κ1 : Nat → Nat} {x1 y1 : St} {H1 : Heap} {locs1 : List Loc} {cells1 slots1 : Nat}, LB dC dI cI cB cJ cZ A ad1 ad' NN1 κ1 x1 y1 H1 → ad1 0 = ad 0 → va_S A s.heap H1 locs1 → cells1 + KP κ1 ≤ 600000 → slots1 + NP κ1 ≤ 7302250 → W p l e room_1 s m #[Value.ref b] below meth c H1 locs1 cells1 slots1 (lw_Z below #[Value.ref b] s) (F0 m 703 ls [])) : W p l e room_1 s m #[Value.ref b] below meth c H locs cells slots (lw_Z below #[Value.ref b] s) (F0 m 547 ls []) := by
  obtain ⟨hx, hb, hr, hml, hown0, hts, hX, hbl, hlocks, hgv⟩ := id C0
  have hown : s.vm.findClass R_Law = some m.cls := hown0
  have hT : ∀ w ∈ TG, w.before #[Value.ref b] s = true := fun w h => hts w (TG_lw w h)
  have hN : NW s := NW.of hts
  obtain ⟨hNN, hW, hV, hSep, hI⟩ := h
  have hF := hW.free hS hA
  refine lv_aload_n hx hb d_law_547 rfl (lv_at hl 2 rfl) ?_
  refine lv_aload_n hx hb d_law_548 rfl (lv_at hl 3 rfl) ?_
  refine lv_iload_n hx hb d_law_549 rfl (lv_at hl 0 rfl) ?_
  refine lv_iconst (v := 1) hx hb d_law_550 (by decide) ?_
  refine lv_iadd hx hb d_law_551 ?_
  refine va_sld hx hb hX hbl hbA hS (ix_in (t := 1) rfl (by omega) hL) d_law_552 ?_
  refine lv_aload_n hx hb d_law_553 rfl (lv_at hl 3 rfl) ?_
  refine lv_iload_n hx hb d_law_554 rfl (lv_at hl 0 rfl) ?_
  refine lv_iconst (v := 2) hx hb d_law_555 (by decide) ?_
  refine lv_iadd hx hb d_law_556 ?_
  refine va_sld hx hb hX hbl hbA hS (ix_in (t := 2) rfl (by omega) hL) d_law_557 ?_
  have hJ := J_kind (l1 := (xs (nI i + 1).toNatClampNeg)) (l2 := (xs (nI i + 2).toNatClampNeg)) hI
  refine va_calli (va_runV (C := R_V) (As := [.int (xs (nI i + 1).toNatClampNeg), .int (xs (nI i + 2).toNatClampNeg)]) (rest := []) ⟨hx, hb, hml, hown, hT⟩ (k_V_kind l dC dI cI cB cJ cZ ad NN s.heap tM tC kK kV hNN H.size 0 (xs (nI i + 1).toNatClampNeg) (xs (nI i + 2).toNatClampNeg) x ⟨by omega, rfl⟩ hJ) ⟨callB_of 2 hT (gwt_in w_8_142) rfl rfl rfl (hT _ w_1_1) (hT _ w_8_139) (by decide +kernel) ⟨Nat.le_of_ble_eq_true rfl, Nat.le_of_ble_eq_true rfl⟩, hT _ w_8_140, hT _ w_8_141⟩ ⟨PVc.blind, va_recv hK hW.1 (ci := 0) (q0 := 0) rfl (pic_obj (by omega) rfl (by decide)), PVc.at _ hW hK hN hE hS hF⟩ rfl rfl hl.1 rfl (lv_room (Nat.le_of_ble_eq_true rfl)) d_law_558 ⟨show _ ≤ 600000 by omega, show _ ≤ 7302250 by omega⟩) hS (fun q _ h => hF q h) hF (fun r u t H1 locs ht hvm hw hB hz1 hk1 hS => ?_)
  rw [ht] at hB
  have hV1 := hV.away hk1 hSep.hd
  have hSep1 := hSep
  have hW1 : Wd dC dI cI cB cJ cZ ad stC kcC NN A u H1 := hB.back rfl hF
  have hF2 := hV1.free hS hA
  have hw : wp_Mod_kind (fun r' y' => r = r' ∧ Inv κ u y') (xs (nI i + 1).toNatClampNeg) (xs (nI i + 2).toNatClampNeg) y := hw
  refine lv_aload_n hx hb d_law_561 rfl (lv_at hl 1 rfl) ?_
  refine lv_aload_n hx hb d_law_562 rfl (lv_at hl 3 rfl) ?_
  refine lv_iload_n hx hb d_law_563 rfl (lv_at hl 0 rfl) ?_
  refine lv_iconst (v := 1) hx hb d_law_564 (by decide) ?_
  refine lv_iadd hx hb d_law_565 ?_
  refine va_sld hx hb hX hbl hbA hS (ix_in (t := 1) rfl (by omega) hL) d_law_566 ?_
  refine lv_aload_n hx hb d_law_567 rfl (lv_at hl 3 rfl) ?_
  refine lv_iload_n hx hb d_law_568 rfl (lv_at hl 0 rfl) ?_
  refine lv_iconst (v := 2) hx hb d_law_569 (by decide) ?_
  refine lv_iadd hx hb d_law_570 ?_
  refine va_sld hx hb hX hbl hbA hS (ix_in (t := 2) rfl (by omega) hL) d_law_571 ?_
  refine va_calli (va_runV (C := R_Mod) (As := [.int (xs (nI i + 1).toNatClampNeg), .int (xs (nI i + 2).toNatClampNeg)]) (rest := [.int r]) ⟨hx, hb, hml, hown, hT⟩ (k_Mod_kind l dC dI cI cB cJ cZ ad' H1.size (xs (nI i + 1).toNatClampNeg) (xs (nI i + 2).toNatClampNeg) y hw) ⟨callB_of 2 hT (gwt_in w_14_63) rfl rfl rfl (hT _ w_1_15) (hT _ w_14_60) (by decide +kernel) ⟨Nat.le_of_ble_eq_true rfl, Nat.le_of_ble_eq_true rfl⟩, hT _ w_14_61, hT _ w_14_62⟩ ⟨PW.blind, va_recv hK hV1.1 (ci := 12) (q0 := 0) rfl (pic_obj (by decide) rfl (by decide)), PW.at _ hV1 hK hN⟩ rfl rfl hl.1 rfl (lv_room (Nat.le_of_ble_eq_true rfl)) d_law_572 ⟨show _ ≤ 600000 by omega, show _ ≤ 7302250 by omega⟩) hS (fun q _ h => hF2 q h) hF2 (fun r2 u2 t2 H2 locs ht2 hvm2 hw2 hB2 hz2 hk2 hS => ?_)
  rw [ht2] at hB2
  have hV2 : Wd dC dI cI cB cJ cZ ad' stM kcM 115 A u2 H2 := hB2.back rfl hF2
  have hW2 := hW1.away hk2 hSep1.hd'
  have hw2 : r = r2 ∧ Inv κ u u2 := hw2
  have hI2 := hw2.2
  refine lv_icmp_eq (tgt := 703) hx hb d_law_575 (by decide) (fun c1 => ?_) (fun c1 => absurd hw2.1 c1)
  exact kk ⟨hNN, hW2, hV2, hSep1, hI2⟩ rfl hS (by omega) (by omega)
set_option maxHeartbeats 4000000 in
set_option maxRecDepth 100000 in
/-- the turn of case 20 -/
theorem lwt_20 {p : Program} {l : Launch} {e : Env} {s : State} {m : MethodId} {below : List Frame} {meth : Method} {c : Code} {b L : Nat} {xs : Nat → Int32} {A : Nat → Prop} {dC : Nat → ClassId} {dI : Nat → Nat → Nat} {cI cB cJ cZ : ClassId} {tM tC : Nat} {kK kV : Nat → Nat} (C0 : lw_At p s m meth c b L xs) (hL : L ≤ 3072) (hA : ∀ q : Nat, s.heap.size ≤ q → A q) (hA2 : ∀ q : Nat, A q → s.heap.size ≤ q) (hbA : ¬ A b) (hK : va_K (dC, dI) CL (TY cI cB cJ cZ) s) (hE : CE s.heap tM tC kK kV A s) {i : Nat} (hi : i + 6 ≤ L) {ad ad' : Nat → Nat} {NN : Nat} {κ : Nat → Nat} {x y : St} {H : Heap} {locs : List Loc} {cells slots : Nat} {ls : Array Slot} (h : LB dC dI cI cB cJ cZ A ad ad' NN κ x y H) (hS : va_S A s.heap H locs) (hl : lv_has ls 4 [(3, .int (nI i)), (2, .ref (ad' 0)), (1, .ref (ad 0)), (0, .ref b)]) (hc : cells + KP κ ≤ 600000) (hs : slots + NP κ ≤ 7302250) (kk : ∀ {ad1 : Nat → Nat} {NN1 : Nat} {κ1 : Nat → Nat} {x1 y1 : St} {H1 : Heap} {locs1 : List Loc} {cells1 slots1 : Nat}, LB dC dI cI cB cJ cZ A ad1 ad' NN1 κ1 x1 y1 H1 → ad1 0 = ad 0 → va_S A s.heap H1 locs1 → cells1 + KP κ1 ≤ 600000 → slots1 + NP κ1 ≤ 7302250 → W p l e room_1 s m #[Value.ref b] below meth c H1 locs1 cells1 slots1 (lw_Z below #[Value.ref b] s) (F0 m 703 ls [])) : W p l e room_1 s m #[Value.ref b] below meth c H locs cells slots (lw_Z below #[Value.ref b] s) (F0 m 580 ls []) := by
  obtain ⟨hx, hb, hr, hml, hown0, hts, hX, hbl, hlocks, hgv⟩ := id C0
  have hown : s.vm.findClass R_Law = some m.cls := hown0
  have hT : ∀ w ∈ TG, w.before #[Value.ref b] s = true := fun w h => hts w (TG_lw w h)
  have hN : NW s := NW.of hts
  obtain ⟨hNN, hW, hV, hSep, hI⟩ := h
  have hF := hW.free hS hA
  refine lv_aload_n hx hb d_law_580 rfl (lv_at hl 2 rfl) ?_
  refine lv_aload_n hx hb d_law_581 rfl (lv_at hl 3 rfl) ?_
  refine lv_iload_n hx hb d_law_582 rfl (lv_at hl 0 rfl) ?_
  refine lv_iconst (v := 1) hx hb d_law_583 (by decide) ?_
  refine lv_iadd hx hb d_law_584 ?_
  refine va_sld hx hb hX hbl hbA hS (ix_in (t := 1) rfl (by omega) hL) d_law_585 ?_
  refine lv_aload_n hx hb d_law_586 rfl (lv_at hl 3 rfl) ?_
  refine lv_iload_n hx hb d_law_587 rfl (lv_at hl 0 rfl) ?_
  refine lv_iconst (v := 2) hx hb d_law_588 (by decide) ?_
  refine lv_iadd hx hb d_law_589 ?_
  refine va_sld hx hb hX hbl hbA hS (ix_in (t := 2) rfl (by omega) hL) d_law_590 ?_
  have hJ := J_value (l1 := (xs (nI i + 1).toNatClampNeg)) (l2 := (xs (nI i + 2).toNatClampNeg)) hI
  refine va_calll (va_runV (C := R_V) (As := [.int (xs (nI i + 1).toNatClampNeg), .int (xs (nI i + 2).toNatClampNeg)]) (rest := []) ⟨hx, hb, hml, hown, hT⟩ (k_V_value l dC dI cI cB cJ cZ ad NN s.heap tM tC kK kV hNN H.size 0 (xs (nI i + 1).toNatClampNeg) (xs (nI i + 2).toNatClampNeg) x ⟨by omega, rfl⟩ hJ) ⟨callB_of 2 hT (gwt_in w_8_150) rfl rfl rfl (hT _ w_1_1) (hT _ w_8_147) (by decide +kernel) ⟨Nat.le_of_ble_eq_true rfl, Nat.le_of_ble_eq_true rfl⟩, hT _ w_8_148, hT _ w_8_149⟩ ⟨PVc.blind, va_recv hK hW.1 (ci := 0) (q0 := 0) rfl (pic_obj (by omega) rfl (by decide)), PVc.at _ hW hK hN hE hS hF⟩ rfl rfl hl.1 rfl (lv_room (Nat.le_of_ble_eq_true rfl)) d_law_591 ⟨show _ ≤ 600000 by omega, show _ ≤ 7302250 by omega⟩) hS (fun q _ h => hF q h) hF (fun r u t H1 locs ht hvm hw hB hz1 hk1 hS => ?_)
  rw [ht] at hB
  have hV1 := hV.away hk1 hSep.hd
  have hSep1 := hSep
  have hW1 : Wd dC dI cI cB cJ cZ ad stC kcC NN A u H1 := hB.back rfl hF
  have hF2 := hV1.free hS hA
  have hw : wp_Mod_value (fun r' y' => r = r' ∧ Inv κ u y') (xs (nI i + 1).toNatClampNeg) (xs (nI i + 2).toNatClampNeg) y := hw
  refine lv_aload_n hx hb d_law_594 rfl (lv_at hl 1 rfl) ?_
  refine lv_aload_n hx hb d_law_595 rfl (lv_at hl 3 rfl) ?_
  refine lv_iload_n hx hb d_law_596 rfl (lv_at hl 0 rfl) ?_
  refine lv_iconst (v := 1) hx hb d_law_597 (by decide) ?_
  refine lv_iadd hx hb d_law_598 ?_
  refine va_sld hx hb hX hbl hbA hS (ix_in (t := 1) rfl (by omega) hL) d_law_599 ?_
  refine lv_aload_n hx hb d_law_600 rfl (lv_at hl 3 rfl) ?_
  refine lv_iload_n hx hb d_law_601 rfl (lv_at hl 0 rfl) ?_
  refine lv_iconst (v := 2) hx hb d_law_602 (by decide) ?_
  refine lv_iadd hx hb d_law_603 ?_
  refine va_sld hx hb hX hbl hbA hS (ix_in (t := 2) rfl (by omega) hL) d_law_604 ?_
  refine va_calll (va_runV (C := R_Mod) (As := [.int (xs (nI i + 1).toNatClampNeg), .int (xs (nI i + 2).toNatClampNeg)]) (rest := [.long r]) ⟨hx, hb, hml, hown, hT⟩ (k_Mod_value l dC dI cI cB cJ cZ ad' H1.size (xs (nI i + 1).toNatClampNeg) (xs (nI i + 2).toNatClampNeg) y hw) ⟨callB_of 2 hT (gwt_in w_14_79) rfl rfl rfl (hT _ w_1_15) (hT _ w_14_76) (by decide +kernel) ⟨Nat.le_of_ble_eq_true rfl, Nat.le_of_ble_eq_true rfl⟩, hT _ w_14_77, hT _ w_14_78⟩ ⟨PW.blind, va_recv hK hV1.1 (ci := 12) (q0 := 0) rfl (pic_obj (by decide) rfl (by decide)), PW.at _ hV1 hK hN⟩ rfl rfl hl.1 rfl (lv_room (Nat.le_of_ble_eq_true rfl)) d_law_605 ⟨show _ ≤ 600000 by omega, show _ ≤ 7302250 by omega⟩) hS (fun q _ h => hF2 q h) hF2 (fun r2 u2 t2 H2 locs ht2 hvm2 hw2 hB2 hz2 hk2 hS => ?_)
  rw [ht2] at hB2
  have hV2 : Wd dC dI cI cB cJ cZ ad' stM kcM 115 A u2 H2 := hB2.back rfl hF2
  have hW2 := hW1.away hk2 hSep1.hd'
  have hw2 : r = r2 ∧ Inv κ u u2 := hw2
  have hI2 := hw2.2
  refine W.lcmp hx hb d_law_608 ?_
  refine lv_if_eq (tgt := 703) hx hb d_law_609 (by decide) (fun c1 => ?_) (fun c1 => absurd (by have e := hw2.1; subst e; simp [lg_cmp]) c1)
  exact kk ⟨hNN, hW2, hV2, hSep1, hI2⟩ rfl hS (by omega) (by omega)
set_option maxHeartbeats 4000000 in
set_option maxRecDepth 100000 in
/-- the turn of case 21 -/
theorem lwt_21 {p : Program} {l : Launch} {e : Env} {s : State} {m : MethodId} {below : List Frame} {meth : Method} {c : Code} {b L : Nat} {xs : Nat → Int32} {A : Nat → Prop} {dC : Nat → ClassId} {dI : Nat → Nat → Nat} {cI cB cJ cZ : ClassId} {tM tC : Nat} {kK kV : Nat → Nat} (C0 : lw_At p s m meth c b L xs) (hL : L ≤ 3072) (hA : ∀ q : Nat, s.heap.size ≤ q → A q) (hA2 : ∀ q : Nat, A q → s.heap.size ≤ q) (hbA : ¬ A b) (hK : va_K (dC, dI) CL (TY cI cB cJ cZ) s) (hE : CE s.heap tM tC kK kV A s) {i : Nat} (hi : i + 6 ≤ L) {ad ad' : Nat → Nat} {NN : Nat} {κ : Nat → Nat} {x y : St} {H : Heap} {locs : List Loc} {cells slots : Nat} {ls : Array Slot} (h : LB dC dI cI cB cJ cZ A ad ad' NN κ x y H) (hS : va_S A s.heap H locs) (hl : lv_has ls 4 [(3, .int (nI i)), (2, .ref (ad' 0)), (1, .ref (ad 0)), (0, .ref b)]) (hc : cells + KP κ ≤ 600000) (hs : slots + NP κ ≤ 7302250) (kk : ∀ {ad1 : Nat → Nat} {NN1 : Nat} {κ1 : Nat → Nat} {x1 y1 : St} {H1 : Heap} {locs1 : List Loc} {cells1 slots1 : Nat}, LB dC dI cI cB cJ cZ A ad1 ad' NN1 κ1 x1 y1 H1 → ad1 0 = ad 0 → va_S A s.heap H1 locs1 → cells1 + KP κ1 ≤ 600000 → slots1 + NP κ1 ≤ 7302250 → W p l e room_1 s m #[Value.ref b] below meth c H1 locs1 cells1 slots1 (lw_Z below #[Value.ref b] s) (F0 m 703 ls [])) : W p l e room_1 s m #[Value.ref b] below meth c H locs cells slots (lw_Z below #[Value.ref b] s) (F0 m 614 ls []) := by
  obtain ⟨hx, hb, hr, hml, hown0, hts, hX, hbl, hlocks, hgv⟩ := id C0
  have hown : s.vm.findClass R_Law = some m.cls := hown0
  have hT : ∀ w ∈ TG, w.before #[Value.ref b] s = true := fun w h => hts w (TG_lw w h)
  have hN : NW s := NW.of hts
  obtain ⟨hNN, hW, hV, hSep, hI⟩ := h
  have hF := hW.free hS hA
  refine lv_aload_n hx hb d_law_614 rfl (lv_at hl 2 rfl) ?_
  refine lv_aload_n hx hb d_law_615 rfl (lv_at hl 3 rfl) ?_
  refine lv_iload_n hx hb d_law_616 rfl (lv_at hl 0 rfl) ?_
  refine lv_iconst (v := 1) hx hb d_law_617 (by decide) ?_
  refine lv_iadd hx hb d_law_618 ?_
  refine va_sld hx hb hX hbl hbA hS (ix_in (t := 1) rfl (by omega) hL) d_law_619 ?_
  refine lv_aload_n hx hb d_law_620 rfl (lv_at hl 3 rfl) ?_
  refine lv_iload_n hx hb d_law_621 rfl (lv_at hl 0 rfl) ?_
  refine lv_iconst (v := 2) hx hb d_law_622 (by decide) ?_
  refine lv_iadd hx hb d_law_623 ?_
  refine va_sld hx hb hX hbl hbA hS (ix_in (t := 2) rfl (by omega) hL) d_law_624 ?_
  refine lv_aload_n hx hb d_law_625 rfl (lv_at hl 3 rfl) ?_
  refine lv_iload_n hx hb d_law_626 rfl (lv_at hl 0 rfl) ?_
  refine lv_iconst (v := 3) hx hb d_law_627 (by decide) ?_
  refine lv_iadd hx hb d_law_628 ?_
  refine va_sld hx hb hX hbl hbA hS (ix_in (t := 3) rfl (by omega) hL) d_law_629 ?_
  have hJ := J_letter (l1 := (xs (nI i + 1).toNatClampNeg)) (l2 := (xs (nI i + 2).toNatClampNeg)) (l3 := (xs (nI i + 3).toNatClampNeg)) hI
  refine va_calli (va_runV (C := R_V) (As := [.int (xs (nI i + 1).toNatClampNeg), .int (xs (nI i + 2).toNatClampNeg), .int (xs (nI i + 3).toNatClampNeg)]) (rest := []) ⟨hx, hb, hml, hown, hT⟩ (k_V_letter l dC dI cI cB cJ cZ ad NN s.heap tM tC kK kV hNN H.size 0 (xs (nI i + 1).toNatClampNeg) (xs (nI i + 2).toNatClampNeg) (xs (nI i + 3).toNatClampNeg) x ⟨by omega, rfl⟩ hJ) ⟨callB_of 3 hT (gwt_in w_8_154) rfl rfl rfl (hT _ w_1_1) (hT _ w_8_151) (by decide +kernel) ⟨Nat.le_of_ble_eq_true rfl, Nat.le_of_ble_eq_true rfl⟩, hT _ w_8_152, hT _ w_8_153⟩ ⟨PVc.blind, va_recv hK hW.1 (ci := 0) (q0 := 0) rfl (pic_obj (by omega) rfl (by decide)), PVc.at _ hW hK hN hE hS hF⟩ rfl rfl hl.1 rfl (lv_room (Nat.le_of_ble_eq_true rfl)) d_law_630 ⟨show _ ≤ 600000 by omega, show _ ≤ 7302250 by omega⟩) hS (fun q _ h => hF q h) hF (fun r u t H1 locs ht hvm hw hB hz1 hk1 hS => ?_)
  rw [ht] at hB
  have hV1 := hV.away hk1 hSep.hd
  have hSep1 := hSep
  have hW1 : Wd dC dI cI cB cJ cZ ad stC kcC NN A u H1 := hB.back rfl hF
  have hF2 := hV1.free hS hA
  have hw : wp_Mod_letter (fun r' y' => r = r' ∧ Inv κ u y') (xs (nI i + 1).toNatClampNeg) (xs (nI i + 2).toNatClampNeg) (xs (nI i + 3).toNatClampNeg) y := hw
  refine lv_aload_n hx hb d_law_633 rfl (lv_at hl 1 rfl) ?_
  refine lv_aload_n hx hb d_law_634 rfl (lv_at hl 3 rfl) ?_
  refine lv_iload_n hx hb d_law_635 rfl (lv_at hl 0 rfl) ?_
  refine lv_iconst (v := 1) hx hb d_law_636 (by decide) ?_
  refine lv_iadd hx hb d_law_637 ?_
  refine va_sld hx hb hX hbl hbA hS (ix_in (t := 1) rfl (by omega) hL) d_law_638 ?_
  refine lv_aload_n hx hb d_law_639 rfl (lv_at hl 3 rfl) ?_
  refine lv_iload_n hx hb d_law_640 rfl (lv_at hl 0 rfl) ?_
  refine lv_iconst (v := 2) hx hb d_law_641 (by decide) ?_
  refine lv_iadd hx hb d_law_642 ?_
  refine va_sld hx hb hX hbl hbA hS (ix_in (t := 2) rfl (by omega) hL) d_law_643 ?_
  refine lv_aload_n hx hb d_law_644 rfl (lv_at hl 3 rfl) ?_
  refine lv_iload_n hx hb d_law_645 rfl (lv_at hl 0 rfl) ?_
  refine lv_iconst (v := 3) hx hb d_law_646 (by decide) ?_
  refine lv_iadd hx hb d_law_647 ?_
  refine va_sld hx hb hX hbl hbA hS (ix_in (t := 3) rfl (by omega) hL) d_law_648 ?_
  refine va_calli (va_runV (C := R_Mod) (As := [.int (xs (nI i + 1).toNatClampNeg), .int (xs (nI i + 2).toNatClampNeg), .int (xs (nI i + 3).toNatClampNeg)]) (rest := [.int r]) ⟨hx, hb, hml, hown, hT⟩ (k_Mod_letter l dC dI cI cB cJ cZ ad' H1.size (xs (nI i + 1).toNatClampNeg) (xs (nI i + 2).toNatClampNeg) (xs (nI i + 3).toNatClampNeg) y hw) ⟨callB_of 3 hT (gwt_in w_14_83) rfl rfl rfl (hT _ w_1_15) (hT _ w_14_80) (by decide +kernel) ⟨Nat.le_of_ble_eq_true rfl, Nat.le_of_ble_eq_true rfl⟩, hT _ w_14_81, hT _ w_14_82⟩ ⟨PW.blind, va_recv hK hV1.1 (ci := 12) (q0 := 0) rfl (pic_obj (by decide) rfl (by decide)), PW.at _ hV1 hK hN⟩ rfl rfl hl.1 rfl (lv_room (Nat.le_of_ble_eq_true rfl)) d_law_649 ⟨show _ ≤ 600000 by omega, show _ ≤ 7302250 by omega⟩) hS (fun q _ h => hF2 q h) hF2 (fun r2 u2 t2 H2 locs ht2 hvm2 hw2 hB2 hz2 hk2 hS => ?_)
  rw [ht2] at hB2
  have hV2 : Wd dC dI cI cB cJ cZ ad' stM kcM 115 A u2 H2 := hB2.back rfl hF2
  have hW2 := hW1.away hk2 hSep1.hd'
  have hw2 : r = r2 ∧ Inv κ u u2 := hw2
  have hI2 := hw2.2
  refine lv_icmp_eq (tgt := 703) hx hb d_law_652 (by decide) (fun c1 => ?_) (fun c1 => absurd hw2.1 c1)
  exact kk ⟨hNN, hW2, hV2, hSep1, hI2⟩ rfl hS (by omega) (by omega)
set_option maxHeartbeats 4000000 in
set_option maxRecDepth 100000 in
/-- the turn of case 22 -/
theorem lwt_22 {p : Program} {l : Launch} {e : Env} {s : State} {m : MethodId} {below : List Frame} {meth : Method} {c : Code} {b L : Nat} {xs : Nat → Int32} {A : Nat → Prop} {dC : Nat → ClassId} {dI : Nat → Nat → Nat} {cI cB cJ cZ : ClassId} {tM tC : Nat} {kK kV : Nat → Nat} (C0 : lw_At p s m meth c b L xs) (hL : L ≤ 3072) (hA : ∀ q : Nat, s.heap.size ≤ q → A q) (hA2 : ∀ q : Nat, A q → s.heap.size ≤ q) (hbA : ¬ A b) (hK : va_K (dC, dI) CL (TY cI cB cJ cZ) s) (hE : CE s.heap tM tC kK kV A s) {i : Nat} (hi : i + 6 ≤ L) {ad ad' : Nat → Nat} {NN : Nat} {κ : Nat → Nat} {x y : St} {H : Heap} {locs : List Loc} {cells slots : Nat} {ls : Array Slot} (h : LB dC dI cI cB cJ cZ A ad ad' NN κ x y H) (hS : va_S A s.heap H locs) (hl : lv_has ls 4 [(3, .int (nI i)), (2, .ref (ad' 0)), (1, .ref (ad 0)), (0, .ref b)]) (hc : cells + KP κ ≤ 600000) (hs : slots + NP κ ≤ 7302250) (kk : ∀ {ad1 : Nat → Nat} {NN1 : Nat} {κ1 : Nat → Nat} {x1 y1 : St} {H1 : Heap} {locs1 : List Loc} {cells1 slots1 : Nat}, LB dC dI cI cB cJ cZ A ad1 ad' NN1 κ1 x1 y1 H1 → ad1 0 = ad 0 → va_S A s.heap H1 locs1 → cells1 + KP κ1 ≤ 600000 → slots1 + NP κ1 ≤ 7302250 → W p l e room_1 s m #[Value.ref b] below meth c H1 locs1 cells1 slots1 (lw_Z below #[Value.ref b] s) (F0 m 703 ls [])) : W p l e room_1 s m #[Value.ref b] below meth c H locs cells slots (lw_Z below #[Value.ref b] s) (F0 m 657 ls []) := by
  obtain ⟨hx, hb, hr, hml, hown0, hts, hX, hbl, hlocks, hgv⟩ := id C0
  have hown : s.vm.findClass R_Law = some m.cls := hown0
  have hT : ∀ w ∈ TG, w.before #[Value.ref b] s = true := fun w h => hts w (TG_lw w h)
  have hN : NW s := NW.of hts
  obtain ⟨hNN, hW, hV, hSep, hI⟩ := h
  have hF := hW.free hS hA
  refine lv_aload_n hx hb d_law_657 rfl (lv_at hl 2 rfl) ?_
  refine lv_aload_n hx hb d_law_658 rfl (lv_at hl 3 rfl) ?_
  refine lv_iload_n hx hb d_law_659 rfl (lv_at hl 0 rfl) ?_
  refine lv_iconst (v := 1) hx hb d_law_660 (by decide) ?_
  refine lv_iadd hx hb d_law_661 ?_
  refine va_sld hx hb hX hbl hbA hS (ix_in (t := 1) rfl (by omega) hL) d_law_662 ?_
  have hJ := J_skipped (l1 := (xs (nI i + 1).toNatClampNeg)) hI
  refine va_calli (va_runV (C := R_V) (As := [.int (xs (nI i + 1).toNatClampNeg)]) (rest := []) ⟨hx, hb, hml, hown, hT⟩ (k_V_skipped l dC dI cI cB cJ cZ ad NN s.heap tM tC kK kV hNN H.size 0 (xs (nI i + 1).toNatClampNeg) x ⟨by omega, rfl⟩ hJ) ⟨callB_of 1 hT (gwt_in w_8_160) rfl rfl rfl (hT _ w_1_1) (hT _ w_8_157) (by decide +kernel) ⟨Nat.le_of_ble_eq_true rfl, Nat.le_of_ble_eq_true rfl⟩, hT _ w_8_158, hT _ w_8_159⟩ ⟨PVc.blind, va_recv hK hW.1 (ci := 0) (q0 := 0) rfl (pic_obj (by omega) rfl (by decide)), PVc.at _ hW hK hN hE hS hF⟩ rfl rfl hl.1 rfl (lv_room (Nat.le_of_ble_eq_true rfl)) d_law_663 ⟨show _ ≤ 600000 by omega, show _ ≤ 7302250 by omega⟩) hS (fun q _ h => hF q h) hF (fun r u t H1 locs ht hvm hw hB hz1 hk1 hS => ?_)
  rw [ht] at hB
  have hV1 := hV.away hk1 hSep.hd
  have hSep1 := hSep
  have hW1 : Wd dC dI cI cB cJ cZ ad stC kcC NN A u H1 := hB.back rfl hF
  have hF2 := hV1.free hS hA
  have hw : wp_Mod_skipped (fun r' y' => r = r' ∧ Inv κ u y') (xs (nI i + 1).toNatClampNeg) y := hw
  refine lv_aload_n hx hb d_law_666 rfl (lv_at hl 1 rfl) ?_
  refine lv_aload_n hx hb d_law_667 rfl (lv_at hl 3 rfl) ?_
  refine lv_iload_n hx hb d_law_668 rfl (lv_at hl 0 rfl) ?_
  refine lv_iconst (v := 1) hx hb d_law_669 (by decide) ?_
  refine lv_iadd hx hb d_law_670 ?_
  refine va_sld hx hb hX hbl hbA hS (ix_in (t := 1) rfl (by omega) hL) d_law_671 ?_
  refine va_calli (va_runV (C := R_Mod) (As := [.int (xs (nI i + 1).toNatClampNeg)]) (rest := [.int r]) ⟨hx, hb, hml, hown, hT⟩ (k_Mod_skipped l dC dI cI cB cJ cZ ad' H1.size (xs (nI i + 1).toNatClampNeg) y hw) ⟨callB_of 1 hT (gwt_in w_14_87) rfl rfl rfl (hT _ w_1_15) (hT _ w_14_84) (by decide +kernel) ⟨Nat.le_of_ble_eq_true rfl, Nat.le_of_ble_eq_true rfl⟩, hT _ w_14_85, hT _ w_14_86⟩ ⟨PW.blind, va_recv hK hV1.1 (ci := 12) (q0 := 0) rfl (pic_obj (by decide) rfl (by decide)), PW.at _ hV1 hK hN⟩ rfl rfl hl.1 rfl (lv_room (Nat.le_of_ble_eq_true rfl)) d_law_672 ⟨show _ ≤ 600000 by omega, show _ ≤ 7302250 by omega⟩) hS (fun q _ h => hF2 q h) hF2 (fun r2 u2 t2 H2 locs ht2 hvm2 hw2 hB2 hz2 hk2 hS => ?_)
  rw [ht2] at hB2
  have hV2 : Wd dC dI cI cB cJ cZ ad' stM kcM 115 A u2 H2 := hB2.back rfl hF2
  have hW2 := hW1.away hk2 hSep1.hd'
  have hw2 : r = r2 ∧ Inv κ u u2 := hw2
  have hI2 := hw2.2
  refine lv_icmp_eq (tgt := 703) hx hb d_law_675 (by decide) (fun c1 => ?_) (fun c1 => absurd hw2.1 c1)
  exact kk ⟨hNN, hW2, hV2, hSep1, hI2⟩ rfl hS (by omega) (by omega)
set_option maxHeartbeats 4000000 in
set_option maxRecDepth 100000 in
/-- the turn of case 23 -/
theorem lwt_23 {p : Program} {l : Launch} {e : Env} {s : State} {m : MethodId} {below : List Frame} {meth : Method} {c : Code} {b L : Nat} {xs : Nat → Int32} {A : Nat → Prop} {dC : Nat → ClassId} {dI : Nat → Nat → Nat} {cI cB cJ cZ : ClassId} {tM tC : Nat} {kK kV : Nat → Nat} (C0 : lw_At p s m meth c b L xs) (hL : L ≤ 3072) (hA : ∀ q : Nat, s.heap.size ≤ q → A q) (hA2 : ∀ q : Nat, A q → s.heap.size ≤ q) (hbA : ¬ A b) (hK : va_K (dC, dI) CL (TY cI cB cJ cZ) s) (hE : CE s.heap tM tC kK kV A s) {i : Nat} (hi : i + 6 ≤ L) {ad ad' : Nat → Nat} {NN : Nat} {κ : Nat → Nat} {x y : St} {H : Heap} {locs : List Loc} {cells slots : Nat} {ls : Array Slot} (h : LB dC dI cI cB cJ cZ A ad ad' NN κ x y H) (hS : va_S A s.heap H locs) (hl : lv_has ls 4 [(3, .int (nI i)), (2, .ref (ad' 0)), (1, .ref (ad 0)), (0, .ref b)]) (hc : cells + KP κ ≤ 600000) (hs : slots + NP κ ≤ 7302250) (kk : ∀ {ad1 : Nat → Nat} {NN1 : Nat} {κ1 : Nat → Nat} {x1 y1 : St} {H1 : Heap} {locs1 : List Loc} {cells1 slots1 : Nat}, LB dC dI cI cB cJ cZ A ad1 ad' NN1 κ1 x1 y1 H1 → ad1 0 = ad 0 → va_S A s.heap H1 locs1 → cells1 + KP κ1 ≤ 600000 → slots1 + NP κ1 ≤ 7302250 → W p l e room_1 s m #[Value.ref b] below meth c H1 locs1 cells1 slots1 (lw_Z below #[Value.ref b] s) (F0 m 703 ls [])) : W p l e room_1 s m #[Value.ref b] below meth c H locs cells slots (lw_Z below #[Value.ref b] s) (F0 m 680 ls []) := by
  obtain ⟨hx, hb, hr, hml, hown0, hts, hX, hbl, hlocks, hgv⟩ := id C0
  have hown : s.vm.findClass R_Law = some m.cls := hown0
  have hT : ∀ w ∈ TG, w.before #[Value.ref b] s = true := fun w h => hts w (TG_lw w h)
  have hN : NW s := NW.of hts
  obtain ⟨hNN, hW, hV, hSep, hI⟩ := h
  have hF := hW.free hS hA
  refine lv_aload_n hx hb d_law_680 rfl (lv_at hl 2 rfl) ?_
  refine lv_aload_n hx hb d_law_681 rfl (lv_at hl 3 rfl) ?_
  refine lv_iload_n hx hb d_law_682 rfl (lv_at hl 0 rfl) ?_
  refine lv_iconst (v := 1) hx hb d_law_683 (by decide) ?_
  refine lv_iadd hx hb d_law_684 ?_
  refine va_sld hx hb hX hbl hbA hS (ix_in (t := 1) rfl (by omega) hL) d_law_685 ?_
  have hJ := J_output (l1 := (xs (nI i + 1).toNatClampNeg)) hI
  refine va_calli (va_runV (C := R_V) (As := [.int (xs (nI i + 1).toNatClampNeg)]) (rest := []) ⟨hx, hb, hml, hown, hT⟩ (k_V_output l dC dI cI cB cJ cZ ad NN s.heap tM tC kK kV hNN H.size 0 (xs (nI i + 1).toNatClampNeg) x ⟨by omega, rfl⟩ hJ) ⟨callB_of 1 hT (gwt_in w_8_164) rfl rfl rfl (hT _ w_1_1) (hT _ w_8_161) (by decide +kernel) ⟨Nat.le_of_ble_eq_true rfl, Nat.le_of_ble_eq_true rfl⟩, hT _ w_8_162, hT _ w_8_163⟩ ⟨PVc.blind, va_recv hK hW.1 (ci := 0) (q0 := 0) rfl (pic_obj (by omega) rfl (by decide)), PVc.at _ hW hK hN hE hS hF⟩ rfl rfl hl.1 rfl (lv_room (Nat.le_of_ble_eq_true rfl)) d_law_686 ⟨show _ ≤ 600000 by omega, show _ ≤ 7302250 by omega⟩) hS (fun q _ h => hF q h) hF (fun r u t H1 locs ht hvm hw hB hz1 hk1 hS => ?_)
  rw [ht] at hB
  have hV1 := hV.away hk1 hSep.hd
  have hSep1 := hSep
  have hW1 : Wd dC dI cI cB cJ cZ ad stC kcC NN A u H1 := hB.back rfl hF
  have hF2 := hV1.free hS hA
  have hw : wp_Mod_output (fun r' y' => r = r' ∧ Inv κ u y') (xs (nI i + 1).toNatClampNeg) y := hw
  refine lv_aload_n hx hb d_law_689 rfl (lv_at hl 1 rfl) ?_
  refine lv_aload_n hx hb d_law_690 rfl (lv_at hl 3 rfl) ?_
  refine lv_iload_n hx hb d_law_691 rfl (lv_at hl 0 rfl) ?_
  refine lv_iconst (v := 1) hx hb d_law_692 (by decide) ?_
  refine lv_iadd hx hb d_law_693 ?_
  refine va_sld hx hb hX hbl hbA hS (ix_in (t := 1) rfl (by omega) hL) d_law_694 ?_
  refine va_calli (va_runV (C := R_Mod) (As := [.int (xs (nI i + 1).toNatClampNeg)]) (rest := [.int r]) ⟨hx, hb, hml, hown, hT⟩ (k_Mod_output l dC dI cI cB cJ cZ ad' H1.size (xs (nI i + 1).toNatClampNeg) y hw) ⟨callB_of 1 hT (gwt_in w_13_112) rfl rfl rfl (hT _ w_1_15) (hT _ w_13_109) (by decide +kernel) ⟨Nat.le_of_ble_eq_true rfl, Nat.le_of_ble_eq_true rfl⟩, hT _ w_13_110, hT _ w_13_111⟩ ⟨PW.blind, va_recv hK hV1.1 (ci := 12) (q0 := 0) rfl (pic_obj (by decide) rfl (by decide)), PW.at _ hV1 hK hN⟩ rfl rfl hl.1 rfl (lv_room (Nat.le_of_ble_eq_true rfl)) d_law_695 ⟨show _ ≤ 600000 by omega, show _ ≤ 7302250 by omega⟩) hS (fun q _ h => hF2 q h) hF2 (fun r2 u2 t2 H2 locs ht2 hvm2 hw2 hB2 hz2 hk2 hS => ?_)
  rw [ht2] at hB2
  have hV2 : Wd dC dI cI cB cJ cZ ad' stM kcM 115 A u2 H2 := hB2.back rfl hF2
  have hW2 := hW1.away hk2 hSep1.hd'
  have hw2 : r = r2 ∧ Inv κ u u2 := hw2
  have hI2 := hw2.2
  refine lv_icmp_eq (tgt := 703) hx hb d_law_698 (by decide) (fun c1 => ?_) (fun c1 => absurd hw2.1 c1)
  exact kk ⟨hNN, hW2, hV2, hSep1, hI2⟩ rfl hS (by omega) (by omega)
