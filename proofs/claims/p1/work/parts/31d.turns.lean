

section
variable (l : Launch) (dC : Nat → ClassId) (dI : Nat → Nat → Nat) (cI cB cJ cZ : ClassId)
set_option maxHeartbeats 4000000 in
set_option maxRecDepth 100000 in
/-- the turn of case 20 -/
theorem lb_20 {p : Program} {l : Launch} {e : Env} {s : State} {m : MethodId} {below : List Frame} {meth : Method} {c : Code} {b : Nat} {xs : Nat → Int32} {A : Nat → Prop} {dC : Nat → ClassId} {dI : Nat → Nat → Nat} {cI cB cJ cZ : ClassId} (C0 : lw_At p s m meth c b 6 xs) (hA : ∀ q, s.heap.size ≤ q → A q) (hA2 : ∀ q, A q → s.heap.size ≤ q) (hbA : ¬ A b) (hK : va_K (dC, dI) CL (TY cI cB cJ cZ) s) {h1 h2 xf xa xb : Nat} {XF XS YF : List Value} {fxa : Nat → Int32} {fxb : Nat → Int64} {H : Heap} {locs : List Loc} {ls : Array Slot} (hP : va_P (dC, dI) CL [(h1, .inr (0, XF)), (xf, .inr (10, XS)), (xa, .inl (cB, 8000, .inl fxa)), (xb, .inl (cJ, 8000, .inr (.inl fxb))), (h2, .inr (12, YF))] H) (hD : va_D A [(h1, .inr (0, XF)), (xf, .inr (10, XS)), (xa, .inl (cB, 8000, .inl fxa)), (xb, .inl (cJ, 8000, .inr (.inl fxb))), (h2, .inr (12, YF))]) (hS : va_S A s.heap H locs) (hl : lv_has ls 4 [(3, .int 0), (2, .ref h2), (1, .ref h1), (0, .ref b)]) (nXF : XF.length = 15) (gXF_12 : XF[12]? = some (.ref xf)) (nXS : XS.length = 16) (gXS_0 : XS[0]? = some (.int 0)) (gXS_6 : XS[6]? = some (.int 0)) (gXS_1 : XS[1]? = some (.int 0)) (gXS_7 : XS[7]? = some (.int 0)) (gXS_8 : XS[8]? = some (.ref xa)) (gXS_9 : XS[9]? = some (.ref xb)) (nYF : YF.length = 167) (gYF_121 : YF[121]? = some (.int 0)) : W p l e room_1 s m #[Value.ref b] below meth c H locs 267 1600544 (lw_Z below #[Value.ref b] s) (F0 m 580 ls []) := by
  obtain ⟨hx, hb, hr, hml, hown0, hts, hX, hbl, hlocks, hgv⟩ := id C0
  have hown : s.vm.findClass R_Law = some m.cls := hown0
  have hT : ∀ w ∈ TG, w.before #[Value.ref b] s = true := fun w h => hts w (TG_lw w h)
  have hN : NW s := NW.of hts
  have hSW : SW s := SW.of hts
  refine lv_aload_n hx hb d_law_580 rfl (lv_at hl 2 rfl) ?_
  refine lv_aload_n hx hb d_law_581 rfl (lv_at hl 3 rfl) ?_
  refine lv_iload_n hx hb d_law_582 rfl (lv_at hl 0 rfl) ?_
  refine lv_iconst (v := 1) hx hb d_law_583 (by decide) ?_
  refine lv_iadd hx hb d_law_584 ?_
  refine va_sld hx hb hX hbl hbA hS (vp_lit (by decide)) d_law_585 ?_
  refine lv_aload_n hx hb d_law_586 rfl (lv_at hl 3 rfl) ?_
  refine lv_iload_n hx hb d_law_587 rfl (lv_at hl 0 rfl) ?_
  refine lv_iconst (v := 2) hx hb d_law_588 (by decide) ?_
  refine lv_iadd hx hb d_law_589 ?_
  refine va_sld hx hb hX hbl hbA hS (vp_lit (by decide)) d_law_590 ?_
  have hPc := hP.sub (ws' := [(h1, .inr (0, XF)), (xf, .inr (10, XS)), (xa, .inl (cB, 8000, .inl fxa)), (xb, .inl (cJ, 8000, .inr (.inl fxb)))]) [0, 1, 2, 3] rfl
  have hDc := hD.sub (ws' := [(h1, .inr (0, XF)), (xf, .inr (10, XS)), (xa, .inl (cB, 8000, .inl fxa)), (xb, .inl (cJ, 8000, .inr (.inl fxb)))]) [0, 1, 2, 3] (by decide) rfl
  have hFc := va_free (wc := [(h1, .inr (0, XF)), (xf, .inr (10, XS)), (xa, .inl (cB, 8000, .inl fxa)), (xb, .inl (cJ, 8000, .inr (.inl fxb)))]) hD hS hA [0, 1, 2, 3] rfl
  refine va_calll (va_runV (C := R_V) (As := [.int (xs ((0 + 1) : Int32).toNatClampNeg), .int (xs ((0 + 2) : Int32).toNatClampNeg)]) (rest := []) ⟨hx, hb, hml, hown, hT⟩ (c_V_value l dC dI cI cB cJ cZ H.size h1 XF xf XS xa xb fxa fxb 0 0 (xs ((0 + 1) : Int32).toNatClampNeg) 0 (xs ((0 + 2) : Int32).toNatClampNeg) 0 nXF gXF_12 nXS gXS_0 gXS_6 gXS_1 gXS_7 gXS_8 gXS_9 (by decide) (by decide)) ⟨callB_of 2 hT (gw_in w_8_154) rfl rfl rfl (hT _ w_1_1) (hT _ w_8_151) (by decide +kernel) ⟨Nat.le_of_ble_eq_true rfl, Nat.le_of_ble_eq_true rfl⟩, hT _ w_8_152, hT _ w_8_153⟩ ⟨PC.blind, va_recv hK hPc (ci := 0) (q0 := 0) rfl rfl, PC.at _ hPc hDc hK hN⟩ rfl rfl hl.1 rfl (lv_room (Nat.le_of_ble_eq_true rfl)) d_law_591 ⟨show _ ≤ 600000 by omega, show _ ≤ 7302250 by omega⟩) hS (fun q _ h => hFc q h) hFc (fun r1 u t H1 locs ht hvm hw hB hz1 hk1 hS => ?_)
  have hw : (if sp_place 0 0 (xs ((0 + 1) : Int32).toNatClampNeg) 0 (xs ((0 + 2) : Int32).toNatClampNeg) 0 = -1 then 0 else if fxa (sp_place 0 0 (xs ((0 + 1) : Int32).toNatClampNeg) 0 (xs ((0 + 2) : Int32).toNatClampNeg) 0).toNatClampNeg = 0 then 0 else if fxa (sp_place 0 0 (xs ((0 + 1) : Int32).toNatClampNeg) 0 (xs ((0 + 2) : Int32).toNatClampNeg) 0).toNatClampNeg = 3 then 0 else fxb (sp_place 0 0 (xs ((0 + 1) : Int32).toNatClampNeg) 0 (xs ((0 + 2) : Int32).toNatClampNeg) 0).toNatClampNeg) = r1 := Eq.symm hw
  subst hw
  obtain ⟨hP, hD⟩ := va_join (wr := [(h2, .inr (12, YF))]) (w1 := []) hP hD [0, 1, 2, 3] [4] rfl rfl (by decide) (by decide) hk1 hFc nilP nilD
  generalize H1 = H at hP hS ⊢
  have hP : va_P (dC, dI) CL [(h2, .inr (12, YF))] H := hP
  have hD : va_D A [(h2, .inr (12, YF))] := hD
  refine lv_aload_n hx hb d_law_594 rfl (lv_at hl 1 rfl) ?_
  refine lv_aload_n hx hb d_law_595 rfl (lv_at hl 3 rfl) ?_
  refine lv_iload_n hx hb d_law_596 rfl (lv_at hl 0 rfl) ?_
  refine lv_iconst (v := 1) hx hb d_law_597 (by decide) ?_
  refine lv_iadd hx hb d_law_598 ?_
  refine va_sld hx hb hX hbl hbA hS (vp_lit (by decide)) d_law_599 ?_
  refine lv_aload_n hx hb d_law_600 rfl (lv_at hl 3 rfl) ?_
  refine lv_iload_n hx hb d_law_601 rfl (lv_at hl 0 rfl) ?_
  refine lv_iconst (v := 2) hx hb d_law_602 (by decide) ?_
  refine lv_iadd hx hb d_law_603 ?_
  refine va_sld hx hb hX hbl hbA hS (vp_lit (by decide)) d_law_604 ?_
  have hPc := hP.sub (ws' := [(h2, .inr (12, YF))]) [0] rfl
  have hDc := hD.sub (ws' := [(h2, .inr (12, YF))]) [0] (by decide) rfl
  have hFc := va_free (wc := [(h2, .inr (12, YF))]) hD hS hA [0] rfl
  refine va_calll (va_runV (C := R_Mod) (As := [.int (xs ((0 + 1) : Int32).toNatClampNeg), .int (xs ((0 + 2) : Int32).toNatClampNeg)]) (rest := [.long (if sp_place 0 0 (xs ((0 + 1) : Int32).toNatClampNeg) 0 (xs ((0 + 2) : Int32).toNatClampNeg) 0 = -1 then 0 else if fxa (sp_place 0 0 (xs ((0 + 1) : Int32).toNatClampNeg) 0 (xs ((0 + 2) : Int32).toNatClampNeg) 0).toNatClampNeg = 0 then 0 else if fxa (sp_place 0 0 (xs ((0 + 1) : Int32).toNatClampNeg) 0 (xs ((0 + 2) : Int32).toNatClampNeg) 0).toNatClampNeg = 3 then 0 else fxb (sp_place 0 0 (xs ((0 + 1) : Int32).toNatClampNeg) 0 (xs ((0 + 2) : Int32).toNatClampNeg) 0).toNatClampNeg)]) ⟨hx, hb, hml, hown, hT⟩ (c_Mod_value_none l dC dI cI cB cJ cZ H.size h2 YF (xs ((0 + 1) : Int32).toNatClampNeg) (xs ((0 + 2) : Int32).toNatClampNeg) nYF gYF_121) ⟨callB_of 2 hT (gw_in w_14_83) rfl rfl rfl (hT _ w_1_15) (hT _ w_14_80) (by decide +kernel) ⟨Nat.le_of_ble_eq_true rfl, Nat.le_of_ble_eq_true rfl⟩, hT _ w_14_81, hT _ w_14_82⟩ ⟨PC.blind, va_recv hK hPc (ci := 12) (q0 := 0) rfl rfl, PC.at _ hPc hDc hK hN⟩ rfl rfl hl.1 rfl (lv_room (Nat.le_of_ble_eq_true rfl)) d_law_605 ⟨show _ ≤ 600000 by omega, show _ ≤ 7302250 by omega⟩) hS (fun q _ h => hFc q h) hFc (fun r2 u t H1 locs ht hvm hw hB hz1 hk1 hS => ?_)
  have hw : (0) = r2 := Eq.symm hw
  subst hw
  obtain ⟨hP, hD⟩ := va_join (wr := []) (w1 := []) hP hD [0] [] rfl rfl (by decide) (by decide) hk1 hFc nilP nilD
  generalize H1 = H at hP hS ⊢
  have hP : va_P (dC, dI) CL [] H := hP
  have hD : va_D A [] := hD
  refine W.lcmp hx hb d_law_608 ?_
  refine lv_if_eq (tgt := 703) hx hb d_law_609 (by decide) (fun c1 => ?_) (fun c1 => absurd (by simp [sp_place, lg_cmp]) c1)
  exact lb_done C0 hA2 hbA hS hl
set_option maxHeartbeats 4000000 in
set_option maxRecDepth 100000 in
/-- the turn of case 21 -/
theorem lb_21 {p : Program} {l : Launch} {e : Env} {s : State} {m : MethodId} {below : List Frame} {meth : Method} {c : Code} {b : Nat} {xs : Nat → Int32} {A : Nat → Prop} {dC : Nat → ClassId} {dI : Nat → Nat → Nat} {cI cB cJ cZ : ClassId} (C0 : lw_At p s m meth c b 6 xs) (hA : ∀ q, s.heap.size ≤ q → A q) (hA2 : ∀ q, A q → s.heap.size ≤ q) (hbA : ¬ A b) (hK : va_K (dC, dI) CL (TY cI cB cJ cZ) s) {h1 h2 xa0 : Nat} {XF XAa YF : List Value} {H : Heap} {locs : List Loc} {ls : Array Slot} (hP : va_P (dC, dI) CL [(h1, .inr (0, XF)), (xa0, .inr (10, XAa)), (h2, .inr (12, YF))] H) (hD : va_D A [(h1, .inr (0, XF)), (xa0, .inr (10, XAa)), (h2, .inr (12, YF))]) (hS : va_S A s.heap H locs) (hl : lv_has ls 4 [(3, .int 0), (2, .ref h2), (1, .ref h1), (0, .ref b)]) (nXF : XF.length = 15) (gXF_12 : XF[12]? = some (.ref xa0)) (nXAa : XAa.length = 16) (gXAa_0 : XAa[0]? = some (.int 0)) (gXAa_6 : XAa[6]? = some (.int 0)) (gXAa_1 : XAa[1]? = some (.int 0)) (gXAa_7 : XAa[7]? = some (.int 0)) (nYF : YF.length = 167) (gYF_121 : YF[121]? = some (.int 0)) : W p l e room_1 s m #[Value.ref b] below meth c H locs 267 1600544 (lw_Z below #[Value.ref b] s) (F0 m 614 ls []) := by
  obtain ⟨hx, hb, hr, hml, hown0, hts, hX, hbl, hlocks, hgv⟩ := id C0
  have hown : s.vm.findClass R_Law = some m.cls := hown0
  have hT : ∀ w ∈ TG, w.before #[Value.ref b] s = true := fun w h => hts w (TG_lw w h)
  have hN : NW s := NW.of hts
  have hSW : SW s := SW.of hts
  refine lv_aload_n hx hb d_law_614 rfl (lv_at hl 2 rfl) ?_
  refine lv_aload_n hx hb d_law_615 rfl (lv_at hl 3 rfl) ?_
  refine lv_iload_n hx hb d_law_616 rfl (lv_at hl 0 rfl) ?_
  refine lv_iconst (v := 1) hx hb d_law_617 (by decide) ?_
  refine lv_iadd hx hb d_law_618 ?_
  refine va_sld hx hb hX hbl hbA hS (vp_lit (by decide)) d_law_619 ?_
  refine lv_aload_n hx hb d_law_620 rfl (lv_at hl 3 rfl) ?_
  refine lv_iload_n hx hb d_law_621 rfl (lv_at hl 0 rfl) ?_
  refine lv_iconst (v := 2) hx hb d_law_622 (by decide) ?_
  refine lv_iadd hx hb d_law_623 ?_
  refine va_sld hx hb hX hbl hbA hS (vp_lit (by decide)) d_law_624 ?_
  refine lv_aload_n hx hb d_law_625 rfl (lv_at hl 3 rfl) ?_
  refine lv_iload_n hx hb d_law_626 rfl (lv_at hl 0 rfl) ?_
  refine lv_iconst (v := 3) hx hb d_law_627 (by decide) ?_
  refine lv_iadd hx hb d_law_628 ?_
  refine va_sld hx hb hX hbl hbA hS (vp_lit (by decide)) d_law_629 ?_
  have hPc := hP.sub (ws' := [(h1, .inr (0, XF)), (xa0, .inr (10, XAa))]) [0, 1] rfl
  have hDc := hD.sub (ws' := [(h1, .inr (0, XF)), (xa0, .inr (10, XAa))]) [0, 1] (by decide) rfl
  have hFc := va_free (wc := [(h1, .inr (0, XF)), (xa0, .inr (10, XAa))]) hD hS hA [0, 1] rfl
  refine va_calli (va_runV (C := R_V) (As := [.int (xs ((0 + 1) : Int32).toNatClampNeg), .int (xs ((0 + 2) : Int32).toNatClampNeg), .int (xs ((0 + 3) : Int32).toNatClampNeg)]) (rest := []) ⟨hx, hb, hml, hown, hT⟩ (c_V_letter_none l dC dI cI cB cJ cZ H.size h1 XF xa0 XAa 0 0 0 (xs ((0 + 1) : Int32).toNatClampNeg) (xs ((0 + 2) : Int32).toNatClampNeg) (xs ((0 + 3) : Int32).toNatClampNeg) nXF gXF_12 nXAa gXAa_0 gXAa_6 gXAa_1 gXAa_7) ⟨callB_of 3 hT (gw_in w_8_158) rfl rfl rfl (hT _ w_1_1) (hT _ w_8_155) (by decide +kernel) ⟨Nat.le_of_ble_eq_true rfl, Nat.le_of_ble_eq_true rfl⟩, hT _ w_8_156, hT _ w_8_157⟩ ⟨PC.blind, va_recv hK hPc (ci := 0) (q0 := 0) rfl rfl, PC.at _ hPc hDc hK hN⟩ rfl rfl hl.1 rfl (lv_room (Nat.le_of_ble_eq_true rfl)) d_law_630 ⟨show _ ≤ 600000 by omega, show _ ≤ 7302250 by omega⟩) hS (fun q _ h => hFc q h) hFc (fun r1 u t H1 locs ht hvm hw hB hz1 hk1 hS => ?_)
  have hw : ((-1)) = r1 := Eq.symm hw
  subst hw
  obtain ⟨hP, hD⟩ := va_join (wr := [(h2, .inr (12, YF))]) (w1 := []) hP hD [0, 1] [2] rfl rfl (by decide) (by decide) hk1 hFc nilP nilD
  generalize H1 = H at hP hS ⊢
  have hP : va_P (dC, dI) CL [(h2, .inr (12, YF))] H := hP
  have hD : va_D A [(h2, .inr (12, YF))] := hD
  refine lv_aload_n hx hb d_law_633 rfl (lv_at hl 1 rfl) ?_
  refine lv_aload_n hx hb d_law_634 rfl (lv_at hl 3 rfl) ?_
  refine lv_iload_n hx hb d_law_635 rfl (lv_at hl 0 rfl) ?_
  refine lv_iconst (v := 1) hx hb d_law_636 (by decide) ?_
  refine lv_iadd hx hb d_law_637 ?_
  refine va_sld hx hb hX hbl hbA hS (vp_lit (by decide)) d_law_638 ?_
  refine lv_aload_n hx hb d_law_639 rfl (lv_at hl 3 rfl) ?_
  refine lv_iload_n hx hb d_law_640 rfl (lv_at hl 0 rfl) ?_
  refine lv_iconst (v := 2) hx hb d_law_641 (by decide) ?_
  refine lv_iadd hx hb d_law_642 ?_
  refine va_sld hx hb hX hbl hbA hS (vp_lit (by decide)) d_law_643 ?_
  refine lv_aload_n hx hb d_law_644 rfl (lv_at hl 3 rfl) ?_
  refine lv_iload_n hx hb d_law_645 rfl (lv_at hl 0 rfl) ?_
  refine lv_iconst (v := 3) hx hb d_law_646 (by decide) ?_
  refine lv_iadd hx hb d_law_647 ?_
  refine va_sld hx hb hX hbl hbA hS (vp_lit (by decide)) d_law_648 ?_
  have hPc := hP.sub (ws' := [(h2, .inr (12, YF))]) [0] rfl
  have hDc := hD.sub (ws' := [(h2, .inr (12, YF))]) [0] (by decide) rfl
  have hFc := va_free (wc := [(h2, .inr (12, YF))]) hD hS hA [0] rfl
  refine va_calli (va_runV (C := R_Mod) (As := [.int (xs ((0 + 1) : Int32).toNatClampNeg), .int (xs ((0 + 2) : Int32).toNatClampNeg), .int (xs ((0 + 3) : Int32).toNatClampNeg)]) (rest := [.int (-1)]) ⟨hx, hb, hml, hown, hT⟩ (c_Mod_letter_none l dC dI cI cB cJ cZ H.size h2 YF (xs ((0 + 1) : Int32).toNatClampNeg) (xs ((0 + 2) : Int32).toNatClampNeg) (xs ((0 + 3) : Int32).toNatClampNeg) nYF gYF_121) ⟨callB_of 3 hT (gw_in w_14_87) rfl rfl rfl (hT _ w_1_15) (hT _ w_14_84) (by decide +kernel) ⟨Nat.le_of_ble_eq_true rfl, Nat.le_of_ble_eq_true rfl⟩, hT _ w_14_85, hT _ w_14_86⟩ ⟨PC.blind, va_recv hK hPc (ci := 12) (q0 := 0) rfl rfl, PC.at _ hPc hDc hK hN⟩ rfl rfl hl.1 rfl (lv_room (Nat.le_of_ble_eq_true rfl)) d_law_649 ⟨show _ ≤ 600000 by omega, show _ ≤ 7302250 by omega⟩) hS (fun q _ h => hFc q h) hFc (fun r2 u t H1 locs ht hvm hw hB hz1 hk1 hS => ?_)
  have hw : ((-1)) = r2 := Eq.symm hw
  subst hw
  obtain ⟨hP, hD⟩ := va_join (wr := []) (w1 := []) hP hD [0] [] rfl rfl (by decide) (by decide) hk1 hFc nilP nilD
  generalize H1 = H at hP hS ⊢
  have hP : va_P (dC, dI) CL [] H := hP
  have hD : va_D A [] := hD
  refine lv_icmp_eq (tgt := 703) hx hb d_law_652 (by decide) (fun c1 => ?_) (fun c1 => by first | exact absurd c1 (by decide) | exact absurd (by decide) c1)
  exact lb_done C0 hA2 hbA hS hl
set_option maxHeartbeats 4000000 in
set_option maxRecDepth 100000 in
/-- the turn of case 22 -/
theorem lb_22 {p : Program} {l : Launch} {e : Env} {s : State} {m : MethodId} {below : List Frame} {meth : Method} {c : Code} {b : Nat} {xs : Nat → Int32} {A : Nat → Prop} {dC : Nat → ClassId} {dI : Nat → Nat → Nat} {cI cB cJ cZ : ClassId} (C0 : lw_At p s m meth c b 6 xs) (hA : ∀ q, s.heap.size ≤ q → A q) (hA2 : ∀ q, A q → s.heap.size ≤ q) (hbA : ¬ A b) (hK : va_K (dC, dI) CL (TY cI cB cJ cZ) s) {h1 h2 xf : Nat} {XF XS YF : List Value} {H : Heap} {locs : List Loc} {ls : Array Slot} (hP : va_P (dC, dI) CL [(h1, .inr (0, XF)), (xf, .inr (10, XS)), (h2, .inr (12, YF))] H) (hD : va_D A [(h1, .inr (0, XF)), (xf, .inr (10, XS)), (h2, .inr (12, YF))]) (hS : va_S A s.heap H locs) (hl : lv_has ls 4 [(3, .int 0), (2, .ref h2), (1, .ref h1), (0, .ref b)]) (nXF : XF.length = 15) (gXF_12 : XF[12]? = some (.ref xf)) (nXS : XS.length = 16) (gXS_0 : XS[0]? = some (.int 0)) (gXS_2 : XS[2]? = some (.int 0)) (gXS_3 : XS[3]? = some (.int 0)) (nYF : YF.length = 167) (gYF_121 : YF[121]? = some (.int 0)) (gYF_163 : YF[163]? = some (.int 0)) (gYF_164 : YF[164]? = some (.int 0)) : W p l e room_1 s m #[Value.ref b] below meth c H locs 267 1600544 (lw_Z below #[Value.ref b] s) (F0 m 657 ls []) := by
  obtain ⟨hx, hb, hr, hml, hown0, hts, hX, hbl, hlocks, hgv⟩ := id C0
  have hown : s.vm.findClass R_Law = some m.cls := hown0
  have hT : ∀ w ∈ TG, w.before #[Value.ref b] s = true := fun w h => hts w (TG_lw w h)
  have hN : NW s := NW.of hts
  have hSW : SW s := SW.of hts
  refine lv_aload_n hx hb d_law_657 rfl (lv_at hl 2 rfl) ?_
  refine lv_aload_n hx hb d_law_658 rfl (lv_at hl 3 rfl) ?_
  refine lv_iload_n hx hb d_law_659 rfl (lv_at hl 0 rfl) ?_
  refine lv_iconst (v := 1) hx hb d_law_660 (by decide) ?_
  refine lv_iadd hx hb d_law_661 ?_
  refine va_sld hx hb hX hbl hbA hS (vp_lit (by decide)) d_law_662 ?_
  have hPc := hP.sub (ws' := [(h1, .inr (0, XF)), (xf, .inr (10, XS))]) [0, 1] rfl
  have hDc := hD.sub (ws' := [(h1, .inr (0, XF)), (xf, .inr (10, XS))]) [0, 1] (by decide) rfl
  have hFc := va_free (wc := [(h1, .inr (0, XF)), (xf, .inr (10, XS))]) hD hS hA [0, 1] rfl
  refine va_calli (va_runV (C := R_V) (As := [.int (xs ((0 + 1) : Int32).toNatClampNeg)]) (rest := []) ⟨hx, hb, hml, hown, hT⟩ (c_V_skipped l dC dI cI cB cJ cZ H.size h1 XF xf XS (xs ((0 + 1) : Int32).toNatClampNeg) 0 0 0 nXF gXF_12 nXS gXS_0 gXS_2 gXS_3) ⟨callB_of 1 hT (gw_in w_8_164) rfl rfl rfl (hT _ w_1_1) (hT _ w_8_161) (by decide +kernel) ⟨Nat.le_of_ble_eq_true rfl, Nat.le_of_ble_eq_true rfl⟩, hT _ w_8_162, hT _ w_8_163⟩ ⟨PC.blind, va_recv hK hPc (ci := 0) (q0 := 0) rfl rfl, PC.at _ hPc hDc hK hN⟩ rfl rfl hl.1 rfl (lv_room (Nat.le_of_ble_eq_true rfl)) d_law_663 ⟨show _ ≤ 600000 by omega, show _ ≤ 7302250 by omega⟩) hS (fun q _ h => hFc q h) hFc (fun r1 u t H1 locs ht hvm hw hB hz1 hk1 hS => ?_)
  have hw : (sp_skip (xs ((0 + 1) : Int32).toNatClampNeg) 0 0 0) = r1 := Eq.symm hw
  subst hw
  obtain ⟨hP, hD⟩ := va_join (wr := [(h2, .inr (12, YF))]) (w1 := []) hP hD [0, 1] [2] rfl rfl (by decide) (by decide) hk1 hFc nilP nilD
  generalize H1 = H at hP hS ⊢
  have hP : va_P (dC, dI) CL [(h2, .inr (12, YF))] H := hP
  have hD : va_D A [(h2, .inr (12, YF))] := hD
  refine lv_aload_n hx hb d_law_666 rfl (lv_at hl 1 rfl) ?_
  refine lv_aload_n hx hb d_law_667 rfl (lv_at hl 3 rfl) ?_
  refine lv_iload_n hx hb d_law_668 rfl (lv_at hl 0 rfl) ?_
  refine lv_iconst (v := 1) hx hb d_law_669 (by decide) ?_
  refine lv_iadd hx hb d_law_670 ?_
  refine va_sld hx hb hX hbl hbA hS (vp_lit (by decide)) d_law_671 ?_
  have hPc := hP.sub (ws' := [(h2, .inr (12, YF))]) [0] rfl
  have hDc := hD.sub (ws' := [(h2, .inr (12, YF))]) [0] (by decide) rfl
  have hFc := va_free (wc := [(h2, .inr (12, YF))]) hD hS hA [0] rfl
  refine va_calli (va_runV (C := R_Mod) (As := [.int (xs ((0 + 1) : Int32).toNatClampNeg)]) (rest := [.int (sp_skip (xs ((0 + 1) : Int32).toNatClampNeg) 0 0 0)]) ⟨hx, hb, hml, hown, hT⟩ (c_Mod_skipped l dC dI cI cB cJ cZ H.size h2 YF (xs ((0 + 1) : Int32).toNatClampNeg) 0 0 0 nYF gYF_121 gYF_163 gYF_164) ⟨callB_of 1 hT (gw_in w_14_91) rfl rfl rfl (hT _ w_1_15) (hT _ w_14_88) (by decide +kernel) ⟨Nat.le_of_ble_eq_true rfl, Nat.le_of_ble_eq_true rfl⟩, hT _ w_14_89, hT _ w_14_90⟩ ⟨PC.blind, va_recv hK hPc (ci := 12) (q0 := 0) rfl rfl, PC.at _ hPc hDc hK hN⟩ rfl rfl hl.1 rfl (lv_room (Nat.le_of_ble_eq_true rfl)) d_law_672 ⟨show _ ≤ 600000 by omega, show _ ≤ 7302250 by omega⟩) hS (fun q _ h => hFc q h) hFc (fun r2 u t H1 locs ht hvm hw hB hz1 hk1 hS => ?_)
  have hw : (sp_skip (xs ((0 + 1) : Int32).toNatClampNeg) 0 0 0) = r2 := Eq.symm hw
  subst hw
  obtain ⟨hP, hD⟩ := va_join (wr := []) (w1 := []) hP hD [0] [] rfl rfl (by decide) (by decide) hk1 hFc nilP nilD
  generalize H1 = H at hP hS ⊢
  have hP : va_P (dC, dI) CL [] H := hP
  have hD : va_D A [] := hD
  refine lv_icmp_eq (tgt := 703) hx hb d_law_675 (by decide) (fun c1 => ?_) (fun c1 => absurd rfl c1)
  exact lb_done C0 hA2 hbA hS hl
set_option maxHeartbeats 4000000 in
set_option maxRecDepth 100000 in
/-- the turn of case 23 -/
theorem lb_23 {p : Program} {l : Launch} {e : Env} {s : State} {m : MethodId} {below : List Frame} {meth : Method} {c : Code} {b : Nat} {xs : Nat → Int32} {A : Nat → Prop} {dC : Nat → ClassId} {dI : Nat → Nat → Nat} {cI cB cJ cZ : ClassId} (C0 : lw_At p s m meth c b 6 xs) (hA : ∀ q, s.heap.size ≤ q → A q) (hA2 : ∀ q, A q → s.heap.size ≤ q) (hbA : ¬ A b) (hK : va_K (dC, dI) CL (TY cI cB cJ cZ) s) {h1 h2 xf xo xa ya : Nat} {XF XS XO YF : List Value} {fxa fya : Nat → Int32} {H : Heap} {locs : List Loc} {ls : Array Slot} (hP : va_P (dC, dI) CL [(h1, .inr (0, XF)), (xf, .inr (11, XS)), (xo, .inr (1, XO)), (xa, .inl (cB, 512, .inl fxa)), (h2, .inr (12, YF)), (ya, .inl (cB, 100000, .inl fya))] H) (hD : va_D A [(h1, .inr (0, XF)), (xf, .inr (11, XS)), (xo, .inr (1, XO)), (xa, .inl (cB, 512, .inl fxa)), (h2, .inr (12, YF)), (ya, .inl (cB, 100000, .inl fya))]) (hS : va_S A s.heap H locs) (hl : lv_has ls 4 [(3, .int 0), (2, .ref h2), (1, .ref h1), (0, .ref b)]) (nXF : XF.length = 15) (gXF_14 : XF[14]? = some (.ref xf)) (nXS : XS.length = 4) (gXS_0 : XS[0]? = some (.ref xo)) (nXO : XO.length = 7) (gXO_1 : XO[1]? = some (.int 0)) (gXO_0 : XO[0]? = some (.ref xa)) (nYF : YF.length = 167) (gYF_113 : YF[113]? = some (.int 0)) (gYF_112 : YF[112]? = some (.ref ya)) : W p l e room_1 s m #[Value.ref b] below meth c H locs 267 1600544 (lw_Z below #[Value.ref b] s) (F0 m 680 ls []) := by
  obtain ⟨hx, hb, hr, hml, hown0, hts, hX, hbl, hlocks, hgv⟩ := id C0
  have hown : s.vm.findClass R_Law = some m.cls := hown0
  have hT : ∀ w ∈ TG, w.before #[Value.ref b] s = true := fun w h => hts w (TG_lw w h)
  have hN : NW s := NW.of hts
  have hSW : SW s := SW.of hts
  refine lv_aload_n hx hb d_law_680 rfl (lv_at hl 2 rfl) ?_
  refine lv_aload_n hx hb d_law_681 rfl (lv_at hl 3 rfl) ?_
  refine lv_iload_n hx hb d_law_682 rfl (lv_at hl 0 rfl) ?_
  refine lv_iconst (v := 1) hx hb d_law_683 (by decide) ?_
  refine lv_iadd hx hb d_law_684 ?_
  refine va_sld hx hb hX hbl hbA hS (vp_lit (by decide)) d_law_685 ?_
  have hPc := hP.sub (ws' := [(h1, .inr (0, XF)), (xf, .inr (11, XS)), (xo, .inr (1, XO)), (xa, .inl (cB, 512, .inl fxa))]) [0, 1, 2, 3] rfl
  have hDc := hD.sub (ws' := [(h1, .inr (0, XF)), (xf, .inr (11, XS)), (xo, .inr (1, XO)), (xa, .inl (cB, 512, .inl fxa))]) [0, 1, 2, 3] (by decide) rfl
  have hFc := va_free (wc := [(h1, .inr (0, XF)), (xf, .inr (11, XS)), (xo, .inr (1, XO)), (xa, .inl (cB, 512, .inl fxa))]) hD hS hA [0, 1, 2, 3] rfl
  refine va_calli (va_runV (C := R_V) (As := [.int (xs ((0 + 1) : Int32).toNatClampNeg)]) (rest := []) ⟨hx, hb, hml, hown, hT⟩ (c_V_output l dC dI cI cB cJ cZ H.size h1 XF xf XS xo XO xa 512 fxa (xs ((0 + 1) : Int32).toNatClampNeg) 0 nXF gXF_14 nXS gXS_0 nXO gXO_1 gXO_0 (by decide)) ⟨callB_of 1 hT (gw_in w_8_168) rfl rfl rfl (hT _ w_1_1) (hT _ w_8_165) (by decide +kernel) ⟨Nat.le_of_ble_eq_true rfl, Nat.le_of_ble_eq_true rfl⟩, hT _ w_8_166, hT _ w_8_167⟩ ⟨PC.blind, va_recv hK hPc (ci := 0) (q0 := 0) rfl rfl, PC.at _ hPc hDc hK hN⟩ rfl rfl hl.1 rfl (lv_room (Nat.le_of_ble_eq_true rfl)) d_law_686 ⟨show _ ≤ 600000 by omega, show _ ≤ 7302250 by omega⟩) hS (fun q _ h => hFc q h) hFc (fun r1 u t H1 locs ht hvm hw hB hz1 hk1 hS => ?_)
  have hw : (sp_at (xs ((0 + 1) : Int32).toNatClampNeg) 0 (fxa (xs ((0 + 1) : Int32).toNatClampNeg).toNatClampNeg &&& 255)) = r1 := Eq.symm hw
  subst hw
  obtain ⟨hP, hD⟩ := va_join (wr := [(h2, .inr (12, YF)), (ya, .inl (cB, 100000, .inl fya))]) (w1 := []) hP hD [0, 1, 2, 3] [4, 5] rfl rfl (by decide) (by decide) hk1 hFc nilP nilD
  generalize H1 = H at hP hS ⊢
  have hP : va_P (dC, dI) CL [(h2, .inr (12, YF)), (ya, .inl (cB, 100000, .inl fya))] H := hP
  have hD : va_D A [(h2, .inr (12, YF)), (ya, .inl (cB, 100000, .inl fya))] := hD
  refine lv_aload_n hx hb d_law_689 rfl (lv_at hl 1 rfl) ?_
  refine lv_aload_n hx hb d_law_690 rfl (lv_at hl 3 rfl) ?_
  refine lv_iload_n hx hb d_law_691 rfl (lv_at hl 0 rfl) ?_
  refine lv_iconst (v := 1) hx hb d_law_692 (by decide) ?_
  refine lv_iadd hx hb d_law_693 ?_
  refine va_sld hx hb hX hbl hbA hS (vp_lit (by decide)) d_law_694 ?_
  have hPc := hP.sub (ws' := [(h2, .inr (12, YF)), (ya, .inl (cB, 100000, .inl fya))]) [0, 1] rfl
  have hDc := hD.sub (ws' := [(h2, .inr (12, YF)), (ya, .inl (cB, 100000, .inl fya))]) [0, 1] (by decide) rfl
  have hFc := va_free (wc := [(h2, .inr (12, YF)), (ya, .inl (cB, 100000, .inl fya))]) hD hS hA [0, 1] rfl
  refine va_calli (va_runV (C := R_Mod) (As := [.int (xs ((0 + 1) : Int32).toNatClampNeg)]) (rest := [.int (sp_at (xs ((0 + 1) : Int32).toNatClampNeg) 0 (fxa (xs ((0 + 1) : Int32).toNatClampNeg).toNatClampNeg &&& 255))]) ⟨hx, hb, hml, hown, hT⟩ (c_Mod_output l dC dI cI cB cJ cZ H.size h2 YF ya 100000 fya (xs ((0 + 1) : Int32).toNatClampNeg) 0 nYF gYF_113 gYF_112 (by decide)) ⟨callB_of 1 hT (gw_in w_13_116) rfl rfl rfl (hT _ w_1_15) (hT _ w_13_113) (by decide +kernel) ⟨Nat.le_of_ble_eq_true rfl, Nat.le_of_ble_eq_true rfl⟩, hT _ w_13_114, hT _ w_13_115⟩ ⟨PC.blind, va_recv hK hPc (ci := 12) (q0 := 0) rfl rfl, PC.at _ hPc hDc hK hN⟩ rfl rfl hl.1 rfl (lv_room (Nat.le_of_ble_eq_true rfl)) d_law_695 ⟨show _ ≤ 600000 by omega, show _ ≤ 7302250 by omega⟩) hS (fun q _ h => hFc q h) hFc (fun r2 u t H1 locs ht hvm hw hB hz1 hk1 hS => ?_)
  have hw : (sp_at (xs ((0 + 1) : Int32).toNatClampNeg) 0 (fya (xs ((0 + 1) : Int32).toNatClampNeg).toNatClampNeg &&& 255)) = r2 := Eq.symm hw
  subst hw
  obtain ⟨hP, hD⟩ := va_join (wr := []) (w1 := []) hP hD [0, 1] [] rfl rfl (by decide) (by decide) hk1 hFc nilP nilD
  generalize H1 = H at hP hS ⊢
  have hP : va_P (dC, dI) CL [] H := hP
  have hD : va_D A [] := hD
  refine lv_icmp_eq (tgt := 703) hx hb d_law_698 (by decide) (fun c1 => ?_) (fun c1 => absurd (at0 _ _ _) c1)
  exact lb_done C0 hA2 hbA hS hl
end
