

section
variable (l : Launch) (dC : Nat → ClassId) (dI : Nat → Nat → Nat) (cI cB cJ cZ : ClassId)
set_option maxHeartbeats 4000000 in
set_option maxRecDepth 100000 in
/-- the turn of case 13 -/
theorem lb_13 {p : Program} {l : Launch} {e : Env} {s : State} {m : MethodId} {below : List Frame} {meth : Method} {c : Code} {b : Nat} {xs : Nat → Int32} {A : Nat → Prop} {dC : Nat → ClassId} {dI : Nat → Nat → Nat} {cI cB cJ cZ : ClassId} (C0 : lw_At p s m meth c b 6 xs) (hA : ∀ q, s.heap.size ≤ q → A q) (hA2 : ∀ q, A q → s.heap.size ≤ q) (hbA : ¬ A b) (hK : va_K (dC, dI) CL (TY cI cB cJ cZ) s) {h1 h2 xc0 : Nat} {XF XC YF : List Value} {H : Heap} {locs : List Loc} {ls : Array Slot} (hP : va_P (dC, dI) CL [(h1, .inr (0, XF)), (xc0, .inr (6, XC)), (h2, .inr (12, YF))] H) (hD : va_D A [(h1, .inr (0, XF)), (xc0, .inr (6, XC)), (h2, .inr (12, YF))]) (hS : va_S A s.heap H locs) (hl : lv_has ls 4 [(3, .int 0), (2, .ref h2), (1, .ref h1), (0, .ref b)]) (nXF : XF.length = 15) (gXF_8 : XF[8]? = some (.ref xc0)) (nXC : XC.length = 20) (gXC_0 : XC[0]? = some (.int 0)) (nYF : YF.length = 167) (gYF_82 : YF[82]? = some (.int 0)) : W p l e room_1 s m #[Value.ref b] below meth c H locs 267 1600544 (lw_Z below #[Value.ref b] s) (F0 m 429 ls []) := by
  obtain ⟨hx, hb, hr, hml, hown0, hts, hX, hbl, hlocks, hgv⟩ := id C0
  have hown : s.vm.findClass R_Law = some m.cls := hown0
  have hT : ∀ w ∈ TG, w.before #[Value.ref b] s = true := fun w h => hts w (TG_lw w h)
  have hN : NW s := NW.of hts
  have hSW : SW s := SW.of hts
  refine lv_aload_n hx hb d_law_429 rfl (lv_at hl 2 rfl) ?_
  refine lv_aload_n hx hb d_law_430 rfl (lv_at hl 3 rfl) ?_
  refine lv_iload_n hx hb d_law_431 rfl (lv_at hl 0 rfl) ?_
  refine lv_iconst (v := 1) hx hb d_law_432 (by decide) ?_
  refine lv_iadd hx hb d_law_433 ?_
  refine va_sld hx hb hX hbl hbA hS (vp_lit (by decide)) d_law_434 ?_
  have hPc := hP.sub (ws' := [(h1, .inr (0, XF)), (xc0, .inr (6, XC))]) [0, 1] rfl
  have hDc := hD.sub (ws' := [(h1, .inr (0, XF)), (xc0, .inr (6, XC))]) [0, 1] (by decide) rfl
  have hFc := va_free (wc := [(h1, .inr (0, XF)), (xc0, .inr (6, XC))]) hD hS hA [0, 1] rfl
  refine va_calli (va_runV (C := R_V) (As := [.int (xs ((0 + 1) : Int32).toNatClampNeg)]) (rest := []) ⟨hx, hb, hml, hown, hT⟩ (c_V_opened_none l dC dI cI cB cJ cZ H.size h1 XF xc0 XC (xs ((0 + 1) : Int32).toNatClampNeg) nXF gXF_8 nXC gXC_0) ⟨callB_of 1 hT (gw_in w_7_71) rfl rfl rfl (hT _ w_1_1) (hT _ w_7_68) (by decide +kernel) ⟨Nat.le_of_ble_eq_true rfl, Nat.le_of_ble_eq_true rfl⟩, hT _ w_7_69, hT _ w_7_70⟩ ⟨PC.blind, va_recv hK hPc (ci := 0) (q0 := 0) rfl rfl, PC.at _ hPc hDc hK hN⟩ rfl rfl hl.1 rfl (lv_room (Nat.le_of_ble_eq_true rfl)) d_law_435 ⟨show _ ≤ 600000 by omega, show _ ≤ 7302250 by omega⟩) hS (fun q _ h => hFc q h) hFc (fun r1 u t H1 locs ht hvm hw hB hz1 hk1 hS => ?_)
  have hw : ((-1)) = r1 := Eq.symm hw
  subst hw
  obtain ⟨hP, hD⟩ := va_join (wr := [(h2, .inr (12, YF))]) (w1 := []) hP hD [0, 1] [2] rfl rfl (by decide) (by decide) hk1 hFc nilP nilD
  generalize H1 = H at hP hS ⊢
  have hP : va_P (dC, dI) CL [(h2, .inr (12, YF))] H := hP
  have hD : va_D A [(h2, .inr (12, YF))] := hD
  refine lv_aload_n hx hb d_law_438 rfl (lv_at hl 1 rfl) ?_
  refine lv_aload_n hx hb d_law_439 rfl (lv_at hl 3 rfl) ?_
  refine lv_iload_n hx hb d_law_440 rfl (lv_at hl 0 rfl) ?_
  refine lv_iconst (v := 1) hx hb d_law_441 (by decide) ?_
  refine lv_iadd hx hb d_law_442 ?_
  refine va_sld hx hb hX hbl hbA hS (vp_lit (by decide)) d_law_443 ?_
  have hPc := hP.sub (ws' := [(h2, .inr (12, YF))]) [0] rfl
  have hDc := hD.sub (ws' := [(h2, .inr (12, YF))]) [0] (by decide) rfl
  have hFc := va_free (wc := [(h2, .inr (12, YF))]) hD hS hA [0] rfl
  refine va_calli (va_runV (C := R_Mod) (As := [.int (xs ((0 + 1) : Int32).toNatClampNeg)]) (rest := [.int (-1)]) ⟨hx, hb, hml, hown, hT⟩ (c_Mod_opened_none l dC dI cI cB cJ cZ H.size h2 YF (xs ((0 + 1) : Int32).toNatClampNeg) nYF gYF_82) ⟨callB_of 1 hT (gw_in w_13_46) rfl rfl rfl (hT _ w_1_15) (hT _ w_13_43) (by decide +kernel) ⟨Nat.le_of_ble_eq_true rfl, Nat.le_of_ble_eq_true rfl⟩, hT _ w_13_44, hT _ w_13_45⟩ ⟨PC.blind, va_recv hK hPc (ci := 12) (q0 := 0) rfl rfl, PC.at _ hPc hDc hK hN⟩ rfl rfl hl.1 rfl (lv_room (Nat.le_of_ble_eq_true rfl)) d_law_444 ⟨show _ ≤ 600000 by omega, show _ ≤ 7302250 by omega⟩) hS (fun q _ h => hFc q h) hFc (fun r2 u t H1 locs ht hvm hw hB hz1 hk1 hS => ?_)
  have hw : ((-1)) = r2 := Eq.symm hw
  subst hw
  obtain ⟨hP, hD⟩ := va_join (wr := []) (w1 := []) hP hD [0] [] rfl rfl (by decide) (by decide) hk1 hFc nilP nilD
  generalize H1 = H at hP hS ⊢
  have hP : va_P (dC, dI) CL [] H := hP
  have hD : va_D A [] := hD
  refine lv_icmp_eq (tgt := 703) hx hb d_law_447 (by decide) (fun c1 => ?_) (fun c1 => by first | exact absurd c1 (by decide) | exact absurd (by decide) c1)
  exact lb_done C0 hA2 hbA hS hl
set_option maxHeartbeats 4000000 in
set_option maxRecDepth 100000 in
/-- the turn of case 14 -/
theorem lb_14 {p : Program} {l : Launch} {e : Env} {s : State} {m : MethodId} {below : List Frame} {meth : Method} {c : Code} {b : Nat} {xs : Nat → Int32} {A : Nat → Prop} {dC : Nat → ClassId} {dI : Nat → Nat → Nat} {cI cB cJ cZ : ClassId} (C0 : lw_At p s m meth c b 6 xs) (hA : ∀ q, s.heap.size ≤ q → A q) (hA2 : ∀ q, A q → s.heap.size ≤ q) (hbA : ¬ A b) (hK : va_K (dC, dI) CL (TY cI cB cJ cZ) s) {h1 h2 xb xf xc0 : Nat} {XF XBb XS XC YF : List Value} {H : Heap} {locs : List Loc} {ls : Array Slot} (hP : va_P (dC, dI) CL [(h1, .inr (0, XF)), (xb, .inr (11, XBb)), (xf, .inr (1, XS)), (xc0, .inr (6, XC)), (h2, .inr (12, YF))] H) (hD : va_D A [(h1, .inr (0, XF)), (xb, .inr (11, XBb)), (xf, .inr (1, XS)), (xc0, .inr (6, XC)), (h2, .inr (12, YF))]) (hS : va_S A s.heap H locs) (hl : lv_has ls 4 [(3, .int 0), (2, .ref h2), (1, .ref h1), (0, .ref b)]) (nXF : XF.length = 15) (gXF_14 : XF[14]? = some (.ref xb)) (nXBb : XBb.length = 4) (gXBb_0 : XBb[0]? = some (.ref xf)) (gXBb_1 : XBb[1]? = some (.ref xc0)) (nXS : XS.length = 7) (nXC : XC.length = 20) (gXC_0 : XC[0]? = some (.int 0)) (nYF : YF.length = 167) (gYF_82 : YF[82]? = some (.int 0)) : W p l e room_1 s m #[Value.ref b] below meth c H locs 267 1600544 (lw_Z below #[Value.ref b] s) (F0 m 452 ls []) := by
  obtain ⟨hx, hb, hr, hml, hown0, hts, hX, hbl, hlocks, hgv⟩ := id C0
  have hown : s.vm.findClass R_Law = some m.cls := hown0
  have hT : ∀ w ∈ TG, w.before #[Value.ref b] s = true := fun w h => hts w (TG_lw w h)
  have hN : NW s := NW.of hts
  have hSW : SW s := SW.of hts
  refine lv_aload_n hx hb d_law_452 rfl (lv_at hl 2 rfl) ?_
  refine lv_aload_n hx hb d_law_453 rfl (lv_at hl 3 rfl) ?_
  refine lv_iload_n hx hb d_law_454 rfl (lv_at hl 0 rfl) ?_
  refine lv_iconst (v := 1) hx hb d_law_455 (by decide) ?_
  refine lv_iadd hx hb d_law_456 ?_
  refine va_sld hx hb hX hbl hbA hS (vp_lit (by decide)) d_law_457 ?_
  have hPc := hP.sub (ws' := [(h1, .inr (0, XF)), (xb, .inr (11, XBb)), (xf, .inr (1, XS)), (xc0, .inr (6, XC))]) [0, 1, 2, 3] rfl
  have hDc := hD.sub (ws' := [(h1, .inr (0, XF)), (xb, .inr (11, XBb)), (xf, .inr (1, XS)), (xc0, .inr (6, XC))]) [0, 1, 2, 3] (by decide) rfl
  have hFc := va_free (wc := [(h1, .inr (0, XF)), (xb, .inr (11, XBb)), (xf, .inr (1, XS)), (xc0, .inr (6, XC))]) hD hS hA [0, 1, 2, 3] rfl
  refine va_calli (va_runV (C := R_V) (As := [.int (xs ((0 + 1) : Int32).toNatClampNeg)]) (rest := []) ⟨hx, hb, hml, hown, hT⟩ (c_V_show_none l dC dI cI cB cJ cZ H.size h1 XF xb XBb xf XS xc0 XC (xs ((0 + 1) : Int32).toNatClampNeg) nXF gXF_14 nXBb gXBb_0 gXBb_1 nXS nXC gXC_0) ⟨callB_of 1 hT (gw_in w_7_75) rfl rfl rfl (hT _ w_1_1) (hT _ w_7_72) (by decide +kernel) ⟨Nat.le_of_ble_eq_true rfl, Nat.le_of_ble_eq_true rfl⟩, hT _ w_7_73, hT _ w_7_74⟩ ⟨PC.blind, va_recv hK hPc (ci := 0) (q0 := 0) rfl rfl, PC.at _ hPc hDc hK hN⟩ rfl rfl hl.1 rfl (lv_room (Nat.le_of_ble_eq_true rfl)) d_law_458 ⟨show _ ≤ 600000 by omega, show _ ≤ 7302250 by omega⟩) hS (fun q _ h => hFc q h) hFc (fun r1 u t H1 locs ht hvm hw hB hz1 hk1 hS => ?_)
  have hw : ((-1)) = r1 := Eq.symm hw
  subst hw
  obtain ⟨hP, hD⟩ := va_join (wr := [(h2, .inr (12, YF))]) (w1 := []) hP hD [0, 1, 2, 3] [4] rfl rfl (by decide) (by decide) hk1 hFc nilP nilD
  generalize H1 = H at hP hS ⊢
  have hP : va_P (dC, dI) CL [(h2, .inr (12, YF))] H := hP
  have hD : va_D A [(h2, .inr (12, YF))] := hD
  refine lv_aload_n hx hb d_law_461 rfl (lv_at hl 1 rfl) ?_
  refine lv_aload_n hx hb d_law_462 rfl (lv_at hl 3 rfl) ?_
  refine lv_iload_n hx hb d_law_463 rfl (lv_at hl 0 rfl) ?_
  refine lv_iconst (v := 1) hx hb d_law_464 (by decide) ?_
  refine lv_iadd hx hb d_law_465 ?_
  refine va_sld hx hb hX hbl hbA hS (vp_lit (by decide)) d_law_466 ?_
  have hPc := hP.sub (ws' := [(h2, .inr (12, YF))]) [0] rfl
  have hDc := hD.sub (ws' := [(h2, .inr (12, YF))]) [0] (by decide) rfl
  have hFc := va_free (wc := [(h2, .inr (12, YF))]) hD hS hA [0] rfl
  refine va_calli (va_runV (C := R_Mod) (As := [.int (xs ((0 + 1) : Int32).toNatClampNeg)]) (rest := [.int (-1)]) ⟨hx, hb, hml, hown, hT⟩ (c_Mod_show_none l dC dI cI cB cJ cZ H.size h2 YF (xs ((0 + 1) : Int32).toNatClampNeg) nYF gYF_82) ⟨callB_of 1 hT (gw_in w_13_50) rfl rfl rfl (hT _ w_1_15) (hT _ w_13_47) (by decide +kernel) ⟨Nat.le_of_ble_eq_true rfl, Nat.le_of_ble_eq_true rfl⟩, hT _ w_13_48, hT _ w_13_49⟩ ⟨PC.blind, va_recv hK hPc (ci := 12) (q0 := 0) rfl rfl, PC.at _ hPc hDc hK hN⟩ rfl rfl hl.1 rfl (lv_room (Nat.le_of_ble_eq_true rfl)) d_law_467 ⟨show _ ≤ 600000 by omega, show _ ≤ 7302250 by omega⟩) hS (fun q _ h => hFc q h) hFc (fun r2 u t H1 locs ht hvm hw hB hz1 hk1 hS => ?_)
  have hw : ((-1)) = r2 := Eq.symm hw
  subst hw
  obtain ⟨hP, hD⟩ := va_join (wr := []) (w1 := []) hP hD [0] [] rfl rfl (by decide) (by decide) hk1 hFc nilP nilD
  generalize H1 = H at hP hS ⊢
  have hP : va_P (dC, dI) CL [] H := hP
  have hD : va_D A [] := hD
  refine lv_icmp_eq (tgt := 703) hx hb d_law_470 (by decide) (fun c1 => ?_) (fun c1 => by first | exact absurd c1 (by decide) | exact absurd (by decide) c1)
  exact lb_done C0 hA2 hbA hS hl
set_option maxHeartbeats 4000000 in
set_option maxRecDepth 100000 in
/-- the turn of case 15 -/
theorem lb_15 {p : Program} {l : Launch} {e : Env} {s : State} {m : MethodId} {below : List Frame} {meth : Method} {c : Code} {b : Nat} {xs : Nat → Int32} {A : Nat → Prop} {dC : Nat → ClassId} {dI : Nat → Nat → Nat} {cI cB cJ cZ : ClassId} (C0 : lw_At p s m meth c b 6 xs) (hA : ∀ q, s.heap.size ≤ q → A q) (hA2 : ∀ q, A q → s.heap.size ≤ q) (hbA : ¬ A b) (hK : va_K (dC, dI) CL (TY cI cB cJ cZ) s) {h1 h2 xf xc0 : Nat} {XF XS XC YF : List Value} {H : Heap} {locs : List Loc} {ls : Array Slot} (hP : va_P (dC, dI) CL [(h1, .inr (0, XF)), (xf, .inr (1, XS)), (xc0, .inr (6, XC)), (h2, .inr (12, YF))] H) (hD : va_D A [(h1, .inr (0, XF)), (xf, .inr (1, XS)), (xc0, .inr (6, XC)), (h2, .inr (12, YF))]) (hS : va_S A s.heap H locs) (hl : lv_has ls 4 [(3, .int 0), (2, .ref h2), (1, .ref h1), (0, .ref b)]) (nXF : XF.length = 15) (gXF_1 : XF[1]? = some (.ref xf)) (gXF_8 : XF[8]? = some (.ref xc0)) (nXS : XS.length = 7) (gXS_1 : XS[1]? = some (.int 0)) (nXC : XC.length = 20) (gXC_0 : XC[0]? = some (.int 0)) (nYF : YF.length = 167) (gYF_4 : YF[4]? = some (.int 0)) (gYF_82 : YF[82]? = some (.int 0)) : W p l e room_1 s m #[Value.ref b] below meth c H locs 267 1600544 (lw_Z below #[Value.ref b] s) (F0 m 475 ls []) := by
  obtain ⟨hx, hb, hr, hml, hown0, hts, hX, hbl, hlocks, hgv⟩ := id C0
  have hown : s.vm.findClass R_Law = some m.cls := hown0
  have hT : ∀ w ∈ TG, w.before #[Value.ref b] s = true := fun w h => hts w (TG_lw w h)
  have hN : NW s := NW.of hts
  have hSW : SW s := SW.of hts
  refine lv_aload_n hx hb d_law_475 rfl (lv_at hl 2 rfl) ?_
  have hPc := hP.sub (ws' := [(h1, .inr (0, XF)), (xf, .inr (1, XS)), (xc0, .inr (6, XC))]) [0, 1, 2] rfl
  have hDc := hD.sub (ws' := [(h1, .inr (0, XF)), (xf, .inr (1, XS)), (xc0, .inr (6, XC))]) [0, 1, 2] (by decide) rfl
  have hFc := va_free (wc := [(h1, .inr (0, XF)), (xf, .inr (1, XS)), (xc0, .inr (6, XC))]) hD hS hA [0, 1, 2] rfl
  refine va_calli (va_runV (C := R_V) (As := []) (rest := []) ⟨hx, hb, hml, hown, hT⟩ (c_V_query_none l dC dI cI cB cJ cZ H.size h1 XF xf XS xc0 XC 0 nXF gXF_1 gXF_8 nXS gXS_1 nXC gXC_0) ⟨callB_of 0 hT (gw_in w_7_136) rfl rfl rfl (hT _ w_1_1) (hT _ w_7_133) (by decide +kernel) ⟨Nat.le_of_ble_eq_true rfl, Nat.le_of_ble_eq_true rfl⟩, hT _ w_7_134, hT _ w_7_135⟩ ⟨PC.blind, va_recv hK hPc (ci := 0) (q0 := 0) rfl rfl, PC.at _ hPc hDc hK hN⟩ rfl rfl hl.1 rfl (lv_room (Nat.le_of_ble_eq_true rfl)) d_law_476 ⟨show _ ≤ 600000 by omega, show _ ≤ 7302250 by omega⟩) hS (fun q _ h => hFc q h) hFc (fun r1 u t H1 locs ht hvm hw hB hz1 hk1 hS => ?_)
  have hw : ((-2)) = r1 := Eq.symm hw
  subst hw
  obtain ⟨hP, hD⟩ := va_join (wr := [(h2, .inr (12, YF))]) (w1 := []) hP hD [0, 1, 2] [3] rfl rfl (by decide) (by decide) hk1 hFc nilP nilD
  generalize H1 = H at hP hS ⊢
  have hP : va_P (dC, dI) CL [(h2, .inr (12, YF))] H := hP
  have hD : va_D A [(h2, .inr (12, YF))] := hD
  refine lv_aload_n hx hb d_law_479 rfl (lv_at hl 1 rfl) ?_
  have hPc := hP.sub (ws' := [(h2, .inr (12, YF))]) [0] rfl
  have hDc := hD.sub (ws' := [(h2, .inr (12, YF))]) [0] (by decide) rfl
  have hFc := va_free (wc := [(h2, .inr (12, YF))]) hD hS hA [0] rfl
  refine va_calli (va_runV (C := R_Mod) (As := []) (rest := [.int (-2)]) ⟨hx, hb, hml, hown, hT⟩ (c_Mod_query_none l dC dI cI cB cJ cZ H.size h2 YF 0 nYF gYF_4 gYF_82) ⟨callB_of 0 hT (gw_in w_13_120) rfl rfl rfl (hT _ w_1_15) (hT _ w_13_117) (by decide +kernel) ⟨Nat.le_of_ble_eq_true rfl, Nat.le_of_ble_eq_true rfl⟩, hT _ w_13_118, hT _ w_13_119⟩ ⟨PC.blind, va_recv hK hPc (ci := 12) (q0 := 0) rfl rfl, PC.at _ hPc hDc hK hN⟩ rfl rfl hl.1 rfl (lv_room (Nat.le_of_ble_eq_true rfl)) d_law_480 ⟨show _ ≤ 600000 by omega, show _ ≤ 7302250 by omega⟩) hS (fun q _ h => hFc q h) hFc (fun r2 u t H1 locs ht hvm hw hB hz1 hk1 hS => ?_)
  have hw : ((-2)) = r2 := Eq.symm hw
  subst hw
  obtain ⟨hP, hD⟩ := va_join (wr := []) (w1 := []) hP hD [0] [] rfl rfl (by decide) (by decide) hk1 hFc nilP nilD
  generalize H1 = H at hP hS ⊢
  have hP : va_P (dC, dI) CL [] H := hP
  have hD : va_D A [] := hD
  refine lv_icmp_eq (tgt := 703) hx hb d_law_483 (by decide) (fun c1 => ?_) (fun c1 => by first | exact absurd c1 (by decide) | exact absurd (by decide) c1)
  exact lb_done C0 hA2 hbA hS hl
set_option maxHeartbeats 4000000 in
set_option maxRecDepth 100000 in
/-- the turn of case 16 -/
theorem lb_16 {p : Program} {l : Launch} {e : Env} {s : State} {m : MethodId} {below : List Frame} {meth : Method} {c : Code} {b : Nat} {xs : Nat → Int32} {A : Nat → Prop} {dC : Nat → ClassId} {dI : Nat → Nat → Nat} {cI cB cJ cZ : ClassId} (C0 : lw_At p s m meth c b 6 xs) (hA : ∀ q, s.heap.size ≤ q → A q) (hA2 : ∀ q, A q → s.heap.size ≤ q) (hbA : ¬ A b) (hK : va_K (dC, dI) CL (TY cI cB cJ cZ) s) {h1 h2 xc0 : Nat} {XF XC YF : List Value} {H : Heap} {locs : List Loc} {ls : Array Slot} (hP : va_P (dC, dI) CL [(h1, .inr (0, XF)), (xc0, .inr (9, XC)), (h2, .inr (12, YF))] H) (hD : va_D A [(h1, .inr (0, XF)), (xc0, .inr (9, XC)), (h2, .inr (12, YF))]) (hS : va_S A s.heap H locs) (hl : lv_has ls 4 [(3, .int 0), (2, .ref h2), (1, .ref h1), (0, .ref b)]) (nXF : XF.length = 15) (gXF_10 : XF[10]? = some (.ref xc0)) (nXC : XC.length = 20) (gXC_0 : XC[0]? = some (.int 0)) (nYF : YF.length = 167) (gYF_120 : YF[120]? = some (.int 0)) : W p l e room_1 s m #[Value.ref b] below meth c H locs 267 1600544 (lw_Z below #[Value.ref b] s) (F0 m 488 ls []) := by
  obtain ⟨hx, hb, hr, hml, hown0, hts, hX, hbl, hlocks, hgv⟩ := id C0
  have hown : s.vm.findClass R_Law = some m.cls := hown0
  have hT : ∀ w ∈ TG, w.before #[Value.ref b] s = true := fun w h => hts w (TG_lw w h)
  have hN : NW s := NW.of hts
  have hSW : SW s := SW.of hts
  refine lv_aload_n hx hb d_law_488 rfl (lv_at hl 2 rfl) ?_
  have hPc := hP.sub (ws' := [(h1, .inr (0, XF)), (xc0, .inr (9, XC))]) [0, 1] rfl
  have hDc := hD.sub (ws' := [(h1, .inr (0, XF)), (xc0, .inr (9, XC))]) [0, 1] (by decide) rfl
  have hFc := va_free (wc := [(h1, .inr (0, XF)), (xc0, .inr (9, XC))]) hD hS hA [0, 1] rfl
  refine va_calli (va_runV (C := R_V) (As := []) (rest := []) ⟨hx, hb, hml, hown, hT⟩ (c_V_run_none l dC dI cI cB cJ cZ H.size h1 XF xc0 XC  nXF gXF_10 nXC gXC_0) ⟨callB_of 0 hT (gw_in w_8_19) rfl rfl rfl (hT _ w_1_1) (hT _ w_8_16) (by decide +kernel) ⟨Nat.le_of_ble_eq_true rfl, Nat.le_of_ble_eq_true rfl⟩, hT _ w_8_17, hT _ w_8_18⟩ ⟨PC.blind, va_recv hK hPc (ci := 0) (q0 := 0) rfl rfl, PC.at _ hPc hDc hK hN⟩ rfl rfl hl.1 rfl (lv_room (Nat.le_of_ble_eq_true rfl)) d_law_489 ⟨show _ ≤ 600000 by omega, show _ ≤ 7302250 by omega⟩) hS (fun q _ h => hFc q h) hFc (fun r1 u t H1 locs ht hvm hw hB hz1 hk1 hS => ?_)
  have hw : ((-1)) = r1 := Eq.symm hw
  subst hw
  obtain ⟨hP, hD⟩ := va_join (wr := [(h2, .inr (12, YF))]) (w1 := []) hP hD [0, 1] [2] rfl rfl (by decide) (by decide) hk1 hFc nilP nilD
  generalize H1 = H at hP hS ⊢
  have hP : va_P (dC, dI) CL [(h2, .inr (12, YF))] H := hP
  have hD : va_D A [(h2, .inr (12, YF))] := hD
  refine lv_aload_n hx hb d_law_492 rfl (lv_at hl 1 rfl) ?_
  have hPc := hP.sub (ws' := [(h2, .inr (12, YF))]) [0] rfl
  have hDc := hD.sub (ws' := [(h2, .inr (12, YF))]) [0] (by decide) rfl
  have hFc := va_free (wc := [(h2, .inr (12, YF))]) hD hS hA [0] rfl
  refine va_calli (va_runV (C := R_Mod) (As := []) (rest := [.int (-1)]) ⟨hx, hb, hml, hown, hT⟩ (c_Mod_run_none l dC dI cI cB cJ cZ H.size h2 YF  nYF gYF_120) ⟨callB_of 0 hT (gw_in w_13_203) rfl rfl rfl (hT _ w_1_15) (hT _ w_13_200) (by decide +kernel) ⟨Nat.le_of_ble_eq_true rfl, Nat.le_of_ble_eq_true rfl⟩, hT _ w_13_201, hT _ w_13_202⟩ ⟨PC.blind, va_recv hK hPc (ci := 12) (q0 := 0) rfl rfl, PC.at _ hPc hDc hK hN⟩ rfl rfl hl.1 rfl (lv_room (Nat.le_of_ble_eq_true rfl)) d_law_493 ⟨show _ ≤ 600000 by omega, show _ ≤ 7302250 by omega⟩) hS (fun q _ h => hFc q h) hFc (fun r2 u t H1 locs ht hvm hw hB hz1 hk1 hS => ?_)
  have hw : ((-1)) = r2 := Eq.symm hw
  subst hw
  obtain ⟨hP, hD⟩ := va_join (wr := []) (w1 := []) hP hD [0] [] rfl rfl (by decide) (by decide) hk1 hFc nilP nilD
  generalize H1 = H at hP hS ⊢
  have hP : va_P (dC, dI) CL [] H := hP
  have hD : va_D A [] := hD
  refine lv_icmp_eq (tgt := 703) hx hb d_law_496 (by decide) (fun c1 => ?_) (fun c1 => by first | exact absurd c1 (by decide) | exact absurd (by decide) c1)
  exact lb_done C0 hA2 hbA hS hl
set_option maxHeartbeats 4000000 in
set_option maxRecDepth 100000 in
/-- the turn of case 17 -/
theorem lb_17 {p : Program} {l : Launch} {e : Env} {s : State} {m : MethodId} {below : List Frame} {meth : Method} {c : Code} {b : Nat} {xs : Nat → Int32} {A : Nat → Prop} {dC : Nat → ClassId} {dI : Nat → Nat → Nat} {cI cB cJ cZ : ClassId} (C0 : lw_At p s m meth c b 6 xs) (hA : ∀ q, s.heap.size ≤ q → A q) (hA2 : ∀ q, A q → s.heap.size ≤ q) (hbA : ¬ A b) (hK : va_K (dC, dI) CL (TY cI cB cJ cZ) s) {h1 h2 xf xa : Nat} {XF XS YF : List Value} {fxa : Nat → Int32} {H : Heap} {locs : List Loc} {ls : Array Slot} (hP : va_P (dC, dI) CL [(h1, .inr (0, XF)), (xf, .inr (10, XS)), (xa, .inl (cI, 2000, .inl fxa)), (h2, .inr (12, YF))] H) (hD : va_D A [(h1, .inr (0, XF)), (xf, .inr (10, XS)), (xa, .inl (cI, 2000, .inl fxa)), (h2, .inr (12, YF))]) (hS : va_S A s.heap H locs) (hl : lv_has ls 4 [(3, .int 0), (2, .ref h2), (1, .ref h1), (0, .ref b)]) (nXF : XF.length = 15) (gXF_12 : XF[12]? = some (.ref xf)) (nXS : XS.length = 16) (gXS_0 : XS[0]? = some (.int 0)) (gXS_6 : XS[6]? = some (.int 0)) (gXS_1 : XS[1]? = some (.int 0)) (gXS_5 : XS[5]? = some (.ref xa)) (nYF : YF.length = 167) (gYF_121 : YF[121]? = some (.int 0)) : W p l e room_1 s m #[Value.ref b] below meth c H locs 267 1600544 (lw_Z below #[Value.ref b] s) (F0 m 501 ls []) := by
  obtain ⟨hx, hb, hr, hml, hown0, hts, hX, hbl, hlocks, hgv⟩ := id C0
  have hown : s.vm.findClass R_Law = some m.cls := hown0
  have hT : ∀ w ∈ TG, w.before #[Value.ref b] s = true := fun w h => hts w (TG_lw w h)
  have hN : NW s := NW.of hts
  have hSW : SW s := SW.of hts
  refine lv_aload_n hx hb d_law_501 rfl (lv_at hl 2 rfl) ?_
  refine lv_aload_n hx hb d_law_502 rfl (lv_at hl 3 rfl) ?_
  refine lv_iload_n hx hb d_law_503 rfl (lv_at hl 0 rfl) ?_
  refine lv_iconst (v := 1) hx hb d_law_504 (by decide) ?_
  refine lv_iadd hx hb d_law_505 ?_
  refine va_sld hx hb hX hbl hbA hS (vp_lit (by decide)) d_law_506 ?_
  have hPc := hP.sub (ws' := [(h1, .inr (0, XF)), (xf, .inr (10, XS)), (xa, .inl (cI, 2000, .inl fxa))]) [0, 1, 2] rfl
  have hDc := hD.sub (ws' := [(h1, .inr (0, XF)), (xf, .inr (10, XS)), (xa, .inl (cI, 2000, .inl fxa))]) [0, 1, 2] (by decide) rfl
  have hFc := va_free (wc := [(h1, .inr (0, XF)), (xf, .inr (10, XS)), (xa, .inl (cI, 2000, .inl fxa))]) hD hS hA [0, 1, 2] rfl
  refine va_calli (va_runV (C := R_V) (As := [.int (xs ((0 + 1) : Int32).toNatClampNeg)]) (rest := []) ⟨hx, hb, hml, hown, hT⟩ (c_V_row l dC dI cI cB cJ cZ H.size h1 XF xf XS xa 2000 fxa 0 0 (xs ((0 + 1) : Int32).toNatClampNeg) 0 nXF gXF_12 nXS gXS_0 gXS_6 gXS_1 gXS_5 (by decide)) ⟨callB_of 1 hT (gw_in w_8_134) rfl rfl rfl (hT _ w_1_1) (hT _ w_8_131) (by decide +kernel) ⟨Nat.le_of_ble_eq_true rfl, Nat.le_of_ble_eq_true rfl⟩, hT _ w_8_132, hT _ w_8_133⟩ ⟨PC.blind, va_recv hK hPc (ci := 0) (q0 := 0) rfl rfl, PC.at _ hPc hDc hK hN⟩ rfl rfl hl.1 rfl (lv_room (Nat.le_of_ble_eq_true rfl)) d_law_507 ⟨show _ ≤ 600000 by omega, show _ ≤ 7302250 by omega⟩) hS (fun q _ h => hFc q h) hFc (fun r1 u t H1 locs ht hvm hw hB hz1 hk1 hS => ?_)
  have hw : (sp_rowAt 0 0 (xs ((0 + 1) : Int32).toNatClampNeg) 0 (fxa (xs ((0 + 1) : Int32).toNatClampNeg).toNatClampNeg)) = r1 := Eq.symm hw
  subst hw
  obtain ⟨hP, hD⟩ := va_join (wr := [(h2, .inr (12, YF))]) (w1 := []) hP hD [0, 1, 2] [3] rfl rfl (by decide) (by decide) hk1 hFc nilP nilD
  generalize H1 = H at hP hS ⊢
  have hP : va_P (dC, dI) CL [(h2, .inr (12, YF))] H := hP
  have hD : va_D A [(h2, .inr (12, YF))] := hD
  refine lv_aload_n hx hb d_law_510 rfl (lv_at hl 1 rfl) ?_
  refine lv_aload_n hx hb d_law_511 rfl (lv_at hl 3 rfl) ?_
  refine lv_iload_n hx hb d_law_512 rfl (lv_at hl 0 rfl) ?_
  refine lv_iconst (v := 1) hx hb d_law_513 (by decide) ?_
  refine lv_iadd hx hb d_law_514 ?_
  refine va_sld hx hb hX hbl hbA hS (vp_lit (by decide)) d_law_515 ?_
  have hPc := hP.sub (ws' := [(h2, .inr (12, YF))]) [0] rfl
  have hDc := hD.sub (ws' := [(h2, .inr (12, YF))]) [0] (by decide) rfl
  have hFc := va_free (wc := [(h2, .inr (12, YF))]) hD hS hA [0] rfl
  refine va_calli (va_runV (C := R_Mod) (As := [.int (xs ((0 + 1) : Int32).toNatClampNeg)]) (rest := [.int (sp_rowAt 0 0 (xs ((0 + 1) : Int32).toNatClampNeg) 0 (fxa (xs ((0 + 1) : Int32).toNatClampNeg).toNatClampNeg))]) ⟨hx, hb, hml, hown, hT⟩ (c_Mod_row_none l dC dI cI cB cJ cZ H.size h2 YF (xs ((0 + 1) : Int32).toNatClampNeg) nYF gYF_121) ⟨callB_of 1 hT (gw_in w_14_55) rfl rfl rfl (hT _ w_1_15) (hT _ w_14_52) (by decide +kernel) ⟨Nat.le_of_ble_eq_true rfl, Nat.le_of_ble_eq_true rfl⟩, hT _ w_14_53, hT _ w_14_54⟩ ⟨PC.blind, va_recv hK hPc (ci := 12) (q0 := 0) rfl rfl, PC.at _ hPc hDc hK hN⟩ rfl rfl hl.1 rfl (lv_room (Nat.le_of_ble_eq_true rfl)) d_law_516 ⟨show _ ≤ 600000 by omega, show _ ≤ 7302250 by omega⟩) hS (fun q _ h => hFc q h) hFc (fun r2 u t H1 locs ht hvm hw hB hz1 hk1 hS => ?_)
  have hw : ((-1)) = r2 := Eq.symm hw
  subst hw
  obtain ⟨hP, hD⟩ := va_join (wr := []) (w1 := []) hP hD [0] [] rfl rfl (by decide) (by decide) hk1 hFc nilP nilD
  generalize H1 = H at hP hS ⊢
  have hP : va_P (dC, dI) CL [] H := hP
  have hD : va_D A [] := hD
  refine lv_icmp_eq (tgt := 703) hx hb d_law_519 (by decide) (fun c1 => ?_) (fun c1 => absurd (by simp [sp_rowAt]) c1)
  exact lb_done C0 hA2 hbA hS hl
set_option maxHeartbeats 4000000 in
set_option maxRecDepth 100000 in
/-- the turn of case 18 -/
theorem lb_18 {p : Program} {l : Launch} {e : Env} {s : State} {m : MethodId} {below : List Frame} {meth : Method} {c : Code} {b : Nat} {xs : Nat → Int32} {A : Nat → Prop} {dC : Nat → ClassId} {dI : Nat → Nat → Nat} {cI cB cJ cZ : ClassId} (C0 : lw_At p s m meth c b 6 xs) (hA : ∀ q, s.heap.size ≤ q → A q) (hA2 : ∀ q, A q → s.heap.size ≤ q) (hbA : ¬ A b) (hK : va_K (dC, dI) CL (TY cI cB cJ cZ) s) {h1 h2 xb0 xa0 xf0 xv0 xa xy : Nat} {XF XBb XS XC XAa YF : List Value} {fxa : Nat → Int32} {H : Heap} {locs : List Loc} {ls : Array Slot} (hP : va_P (dC, dI) CL [(h1, .inr (0, XF)), (xb0, .inr (11, XBb)), (xf0, .inr (1, XS)), (xv0, .inr (6, XC)), (xa0, .inr (10, XAa)), (xa, .inl (cI, 2000, .inl fxa)), (h2, .inr (12, YF))] H) (hD : va_D A [(h1, .inr (0, XF)), (xb0, .inr (11, XBb)), (xf0, .inr (1, XS)), (xv0, .inr (6, XC)), (xa0, .inr (10, XAa)), (xa, .inl (cI, 2000, .inl fxa)), (h2, .inr (12, YF))]) (hS : va_S A s.heap H locs) (hl : lv_has ls 4 [(3, .int 0), (2, .ref h2), (1, .ref h1), (0, .ref b)]) (nXF : XF.length = 15) (gXF_14 : XF[14]? = some (.ref xb0)) (gXF_12 : XF[12]? = some (.ref xa0)) (nXBb : XBb.length = 4) (gXBb_0 : XBb[0]? = some (.ref xf0)) (gXBb_1 : XBb[1]? = some (.ref xv0)) (nXS : XS.length = 7) (nXC : XC.length = 20) (gXC_0 : XC[0]? = some (.int 0)) (nXAa : XAa.length = 16) (gXAa_0 : XAa[0]? = some (.int 0)) (gXAa_6 : XAa[6]? = some (.int 0)) (gXAa_1 : XAa[1]? = some (.int 0)) (gXAa_5 : XAa[5]? = some (.ref xa)) (gXAa_4 : XAa[4]? = some (.ref xy)) (nYF : YF.length = 167) (gYF_121 : YF[121]? = some (.int 0)) : W p l e room_1 s m #[Value.ref b] below meth c H locs 267 1600544 (lw_Z below #[Value.ref b] s) (F0 m 524 ls []) := by
  obtain ⟨hx, hb, hr, hml, hown0, hts, hX, hbl, hlocks, hgv⟩ := id C0
  have hown : s.vm.findClass R_Law = some m.cls := hown0
  have hT : ∀ w ∈ TG, w.before #[Value.ref b] s = true := fun w h => hts w (TG_lw w h)
  have hN : NW s := NW.of hts
  have hSW : SW s := SW.of hts
  refine lv_aload_n hx hb d_law_524 rfl (lv_at hl 2 rfl) ?_
  refine lv_aload_n hx hb d_law_525 rfl (lv_at hl 3 rfl) ?_
  refine lv_iload_n hx hb d_law_526 rfl (lv_at hl 0 rfl) ?_
  refine lv_iconst (v := 1) hx hb d_law_527 (by decide) ?_
  refine lv_iadd hx hb d_law_528 ?_
  refine va_sld hx hb hX hbl hbA hS (vp_lit (by decide)) d_law_529 ?_
  have hPc := hP.sub (ws' := [(h1, .inr (0, XF)), (xb0, .inr (11, XBb)), (xf0, .inr (1, XS)), (xv0, .inr (6, XC)), (xa0, .inr (10, XAa)), (xa, .inl (cI, 2000, .inl fxa))]) [0, 1, 2, 3, 4, 5] rfl
  have hDc := hD.sub (ws' := [(h1, .inr (0, XF)), (xb0, .inr (11, XBb)), (xf0, .inr (1, XS)), (xv0, .inr (6, XC)), (xa0, .inr (10, XAa)), (xa, .inl (cI, 2000, .inl fxa))]) [0, 1, 2, 3, 4, 5] (by decide) rfl
  have hFc := va_free (wc := [(h1, .inr (0, XF)), (xb0, .inr (11, XBb)), (xf0, .inr (1, XS)), (xv0, .inr (6, XC)), (xa0, .inr (10, XAa)), (xa, .inl (cI, 2000, .inl fxa))]) hD hS hA [0, 1, 2, 3, 4, 5] rfl
  refine va_calli (va_runV (C := R_V) (As := [.int (xs ((0 + 1) : Int32).toNatClampNeg)]) (rest := []) ⟨hx, hb, hml, hown, hT⟩ (c_V_answer_none l dC dI cI cB cJ cZ H.size h1 XF xb0 XBb xf0 XS xv0 XC xa0 XAa xa xy 2000 fxa 0 0 0 (xs ((0 + 1) : Int32).toNatClampNeg) nXF gXF_14 gXF_12 nXBb gXBb_0 gXBb_1 nXS nXC gXC_0 nXAa gXAa_0 gXAa_6 gXAa_1 gXAa_5 gXAa_4 (by decide)) ⟨callB_of 1 hT (gw_in w_8_142) rfl rfl rfl (hT _ w_1_1) (hT _ w_8_139) (by decide +kernel) ⟨Nat.le_of_ble_eq_true rfl, Nat.le_of_ble_eq_true rfl⟩, hT _ w_8_140, hT _ w_8_141⟩ ⟨PC.blind, va_recv hK hPc (ci := 0) (q0 := 0) rfl rfl, PC.at _ hPc hDc hK hN⟩ rfl rfl hl.1 rfl (lv_room (Nat.le_of_ble_eq_true rfl)) d_law_530 ⟨show _ ≤ 600000 by omega, show _ ≤ 7302250 by omega⟩) hS (fun q _ h => hFc q h) hFc (fun r1 u t H1 locs ht hvm hw hB hz1 hk1 hS => ?_)
  have hw : ((-1)) = r1 := Eq.symm hw
  subst hw
  obtain ⟨hP, hD⟩ := va_join (wr := [(h2, .inr (12, YF))]) (w1 := []) hP hD [0, 1, 2, 3, 4, 5] [6] rfl rfl (by decide) (by decide) hk1 hFc nilP nilD
  generalize H1 = H at hP hS ⊢
  have hP : va_P (dC, dI) CL [(h2, .inr (12, YF))] H := hP
  have hD : va_D A [(h2, .inr (12, YF))] := hD
  refine lv_aload_n hx hb d_law_533 rfl (lv_at hl 1 rfl) ?_
  refine lv_aload_n hx hb d_law_534 rfl (lv_at hl 3 rfl) ?_
  refine lv_iload_n hx hb d_law_535 rfl (lv_at hl 0 rfl) ?_
  refine lv_iconst (v := 1) hx hb d_law_536 (by decide) ?_
  refine lv_iadd hx hb d_law_537 ?_
  refine va_sld hx hb hX hbl hbA hS (vp_lit (by decide)) d_law_538 ?_
  have hPc := hP.sub (ws' := [(h2, .inr (12, YF))]) [0] rfl
  have hDc := hD.sub (ws' := [(h2, .inr (12, YF))]) [0] (by decide) rfl
  have hFc := va_free (wc := [(h2, .inr (12, YF))]) hD hS hA [0] rfl
  refine va_calli (va_runV (C := R_Mod) (As := [.int (xs ((0 + 1) : Int32).toNatClampNeg)]) (rest := [.int (-1)]) ⟨hx, hb, hml, hown, hT⟩ (c_Mod_answer_none l dC dI cI cB cJ cZ H.size h2 YF (xs ((0 + 1) : Int32).toNatClampNeg) nYF gYF_121) ⟨callB_of 1 hT (gw_in w_14_63) rfl rfl rfl (hT _ w_1_15) (hT _ w_14_60) (by decide +kernel) ⟨Nat.le_of_ble_eq_true rfl, Nat.le_of_ble_eq_true rfl⟩, hT _ w_14_61, hT _ w_14_62⟩ ⟨PC.blind, va_recv hK hPc (ci := 12) (q0 := 0) rfl rfl, PC.at _ hPc hDc hK hN⟩ rfl rfl hl.1 rfl (lv_room (Nat.le_of_ble_eq_true rfl)) d_law_539 ⟨show _ ≤ 600000 by omega, show _ ≤ 7302250 by omega⟩) hS (fun q _ h => hFc q h) hFc (fun r2 u t H1 locs ht hvm hw hB hz1 hk1 hS => ?_)
  have hw : ((-1)) = r2 := Eq.symm hw
  subst hw
  obtain ⟨hP, hD⟩ := va_join (wr := []) (w1 := []) hP hD [0] [] rfl rfl (by decide) (by decide) hk1 hFc nilP nilD
  generalize H1 = H at hP hS ⊢
  have hP : va_P (dC, dI) CL [] H := hP
  have hD : va_D A [] := hD
  refine lv_icmp_eq (tgt := 703) hx hb d_law_542 (by decide) (fun c1 => ?_) (fun c1 => by first | exact absurd c1 (by decide) | exact absurd (by decide) c1)
  exact lb_done C0 hA2 hbA hS hl
set_option maxHeartbeats 4000000 in
set_option maxRecDepth 100000 in
/-- the turn of case 19 -/
theorem lb_19 {p : Program} {l : Launch} {e : Env} {s : State} {m : MethodId} {below : List Frame} {meth : Method} {c : Code} {b : Nat} {xs : Nat → Int32} {A : Nat → Prop} {dC : Nat → ClassId} {dI : Nat → Nat → Nat} {cI cB cJ cZ : ClassId} (C0 : lw_At p s m meth c b 6 xs) (hA : ∀ q, s.heap.size ≤ q → A q) (hA2 : ∀ q, A q → s.heap.size ≤ q) (hbA : ¬ A b) (hK : va_K (dC, dI) CL (TY cI cB cJ cZ) s) {h1 h2 xf xa : Nat} {XF XS YF : List Value} {fxa : Nat → Int32} {H : Heap} {locs : List Loc} {ls : Array Slot} (hP : va_P (dC, dI) CL [(h1, .inr (0, XF)), (xf, .inr (10, XS)), (xa, .inl (cB, 8000, .inl fxa)), (h2, .inr (12, YF))] H) (hD : va_D A [(h1, .inr (0, XF)), (xf, .inr (10, XS)), (xa, .inl (cB, 8000, .inl fxa)), (h2, .inr (12, YF))]) (hS : va_S A s.heap H locs) (hl : lv_has ls 4 [(3, .int 0), (2, .ref h2), (1, .ref h1), (0, .ref b)]) (nXF : XF.length = 15) (gXF_12 : XF[12]? = some (.ref xf)) (nXS : XS.length = 16) (gXS_0 : XS[0]? = some (.int 0)) (gXS_6 : XS[6]? = some (.int 0)) (gXS_1 : XS[1]? = some (.int 0)) (gXS_7 : XS[7]? = some (.int 0)) (gXS_8 : XS[8]? = some (.ref xa)) (nYF : YF.length = 167) (gYF_121 : YF[121]? = some (.int 0)) : W p l e room_1 s m #[Value.ref b] below meth c H locs 267 1600544 (lw_Z below #[Value.ref b] s) (F0 m 547 ls []) := by
  obtain ⟨hx, hb, hr, hml, hown0, hts, hX, hbl, hlocks, hgv⟩ := id C0
  have hown : s.vm.findClass R_Law = some m.cls := hown0
  have hT : ∀ w ∈ TG, w.before #[Value.ref b] s = true := fun w h => hts w (TG_lw w h)
  have hN : NW s := NW.of hts
  have hSW : SW s := SW.of hts
  refine lv_aload_n hx hb d_law_547 rfl (lv_at hl 2 rfl) ?_
  refine lv_aload_n hx hb d_law_548 rfl (lv_at hl 3 rfl) ?_
  refine lv_iload_n hx hb d_law_549 rfl (lv_at hl 0 rfl) ?_
  refine lv_iconst (v := 1) hx hb d_law_550 (by decide) ?_
  refine lv_iadd hx hb d_law_551 ?_
  refine va_sld hx hb hX hbl hbA hS (vp_lit (by decide)) d_law_552 ?_
  refine lv_aload_n hx hb d_law_553 rfl (lv_at hl 3 rfl) ?_
  refine lv_iload_n hx hb d_law_554 rfl (lv_at hl 0 rfl) ?_
  refine lv_iconst (v := 2) hx hb d_law_555 (by decide) ?_
  refine lv_iadd hx hb d_law_556 ?_
  refine va_sld hx hb hX hbl hbA hS (vp_lit (by decide)) d_law_557 ?_
  have hPc := hP.sub (ws' := [(h1, .inr (0, XF)), (xf, .inr (10, XS)), (xa, .inl (cB, 8000, .inl fxa))]) [0, 1, 2] rfl
  have hDc := hD.sub (ws' := [(h1, .inr (0, XF)), (xf, .inr (10, XS)), (xa, .inl (cB, 8000, .inl fxa))]) [0, 1, 2] (by decide) rfl
  have hFc := va_free (wc := [(h1, .inr (0, XF)), (xf, .inr (10, XS)), (xa, .inl (cB, 8000, .inl fxa))]) hD hS hA [0, 1, 2] rfl
  refine va_calli (va_runV (C := R_V) (As := [.int (xs ((0 + 1) : Int32).toNatClampNeg), .int (xs ((0 + 2) : Int32).toNatClampNeg)]) (rest := []) ⟨hx, hb, hml, hown, hT⟩ (c_V_kind l dC dI cI cB cJ cZ H.size h1 XF xf XS xa fxa 0 0 (xs ((0 + 1) : Int32).toNatClampNeg) 0 (xs ((0 + 2) : Int32).toNatClampNeg) 0 nXF gXF_12 nXS gXS_0 gXS_6 gXS_1 gXS_7 gXS_8 (by decide) (by decide)) ⟨callB_of 2 hT (gw_in w_8_146) rfl rfl rfl (hT _ w_1_1) (hT _ w_8_143) (by decide +kernel) ⟨Nat.le_of_ble_eq_true rfl, Nat.le_of_ble_eq_true rfl⟩, hT _ w_8_144, hT _ w_8_145⟩ ⟨PC.blind, va_recv hK hPc (ci := 0) (q0 := 0) rfl rfl, PC.at _ hPc hDc hK hN⟩ rfl rfl hl.1 rfl (lv_room (Nat.le_of_ble_eq_true rfl)) d_law_558 ⟨show _ ≤ 600000 by omega, show _ ≤ 7302250 by omega⟩) hS (fun q _ h => hFc q h) hFc (fun r1 u t H1 locs ht hvm hw hB hz1 hk1 hS => ?_)
  have hw : (if sp_place 0 0 (xs ((0 + 1) : Int32).toNatClampNeg) 0 (xs ((0 + 2) : Int32).toNatClampNeg) 0 = -1 then -1 else fxa (sp_place 0 0 (xs ((0 + 1) : Int32).toNatClampNeg) 0 (xs ((0 + 2) : Int32).toNatClampNeg) 0).toNatClampNeg) = r1 := Eq.symm hw
  subst hw
  obtain ⟨hP, hD⟩ := va_join (wr := [(h2, .inr (12, YF))]) (w1 := []) hP hD [0, 1, 2] [3] rfl rfl (by decide) (by decide) hk1 hFc nilP nilD
  generalize H1 = H at hP hS ⊢
  have hP : va_P (dC, dI) CL [(h2, .inr (12, YF))] H := hP
  have hD : va_D A [(h2, .inr (12, YF))] := hD
  refine lv_aload_n hx hb d_law_561 rfl (lv_at hl 1 rfl) ?_
  refine lv_aload_n hx hb d_law_562 rfl (lv_at hl 3 rfl) ?_
  refine lv_iload_n hx hb d_law_563 rfl (lv_at hl 0 rfl) ?_
  refine lv_iconst (v := 1) hx hb d_law_564 (by decide) ?_
  refine lv_iadd hx hb d_law_565 ?_
  refine va_sld hx hb hX hbl hbA hS (vp_lit (by decide)) d_law_566 ?_
  refine lv_aload_n hx hb d_law_567 rfl (lv_at hl 3 rfl) ?_
  refine lv_iload_n hx hb d_law_568 rfl (lv_at hl 0 rfl) ?_
  refine lv_iconst (v := 2) hx hb d_law_569 (by decide) ?_
  refine lv_iadd hx hb d_law_570 ?_
  refine va_sld hx hb hX hbl hbA hS (vp_lit (by decide)) d_law_571 ?_
  have hPc := hP.sub (ws' := [(h2, .inr (12, YF))]) [0] rfl
  have hDc := hD.sub (ws' := [(h2, .inr (12, YF))]) [0] (by decide) rfl
  have hFc := va_free (wc := [(h2, .inr (12, YF))]) hD hS hA [0] rfl
  refine va_calli (va_runV (C := R_Mod) (As := [.int (xs ((0 + 1) : Int32).toNatClampNeg), .int (xs ((0 + 2) : Int32).toNatClampNeg)]) (rest := [.int (if sp_place 0 0 (xs ((0 + 1) : Int32).toNatClampNeg) 0 (xs ((0 + 2) : Int32).toNatClampNeg) 0 = -1 then -1 else fxa (sp_place 0 0 (xs ((0 + 1) : Int32).toNatClampNeg) 0 (xs ((0 + 2) : Int32).toNatClampNeg) 0).toNatClampNeg)]) ⟨hx, hb, hml, hown, hT⟩ (c_Mod_kind_none l dC dI cI cB cJ cZ H.size h2 YF (xs ((0 + 1) : Int32).toNatClampNeg) (xs ((0 + 2) : Int32).toNatClampNeg) nYF gYF_121) ⟨callB_of 2 hT (gw_in w_14_67) rfl rfl rfl (hT _ w_1_15) (hT _ w_14_64) (by decide +kernel) ⟨Nat.le_of_ble_eq_true rfl, Nat.le_of_ble_eq_true rfl⟩, hT _ w_14_65, hT _ w_14_66⟩ ⟨PC.blind, va_recv hK hPc (ci := 12) (q0 := 0) rfl rfl, PC.at _ hPc hDc hK hN⟩ rfl rfl hl.1 rfl (lv_room (Nat.le_of_ble_eq_true rfl)) d_law_572 ⟨show _ ≤ 600000 by omega, show _ ≤ 7302250 by omega⟩) hS (fun q _ h => hFc q h) hFc (fun r2 u t H1 locs ht hvm hw hB hz1 hk1 hS => ?_)
  have hw : ((-1)) = r2 := Eq.symm hw
  subst hw
  obtain ⟨hP, hD⟩ := va_join (wr := []) (w1 := []) hP hD [0] [] rfl rfl (by decide) (by decide) hk1 hFc nilP nilD
  generalize H1 = H at hP hS ⊢
  have hP : va_P (dC, dI) CL [] H := hP
  have hD : va_D A [] := hD
  refine lv_icmp_eq (tgt := 703) hx hb d_law_575 (by decide) (fun c1 => ?_) (fun c1 => absurd (by simp [sp_place]) c1)
  exact lb_done C0 hA2 hbA hS hl
end
