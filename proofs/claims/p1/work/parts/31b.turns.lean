

section
variable (l : Launch) (dC : Nat → ClassId) (dI : Nat → Nat → Nat) (cI cB cJ cZ : ClassId)
set_option maxHeartbeats 4000000 in
set_option maxRecDepth 100000 in
/-- the turn of case 6 -/
theorem lb_6 {p : Program} {l : Launch} {e : Env} {s : State} {m : MethodId} {below : List Frame} {meth : Method} {c : Code} {b : Nat} {xs : Nat → Int32} {A : Nat → Prop} {dC : Nat → ClassId} {dI : Nat → Nat → Nat} {cI cB cJ cZ : ClassId} (C0 : lw_At p s m meth c b 6 xs) (hA : ∀ q, s.heap.size ≤ q → A q) (hA2 : ∀ q, A q → s.heap.size ≤ q) (hbA : ¬ A b) (hK : va_K (dC, dI) CL (TY cI cB cJ cZ) s) {h1 h2 xc0 : Nat} {XF XC YF : List Value} {H : Heap} {locs : List Loc} {ls : Array Slot} (hP : va_P (dC, dI) CL [(h1, .inr (0, XF)), (xc0, .inr (3, XC)), (h2, .inr (12, YF))] H) (hD : va_D A [(h1, .inr (0, XF)), (xc0, .inr (3, XC)), (h2, .inr (12, YF))]) (hS : va_S A s.heap H locs) (hl : lv_has ls 4 [(3, .int 0), (2, .ref h2), (1, .ref h1), (0, .ref b)]) (nXF : XF.length = 15) (gXF_4 : XF[4]? = some (.ref xc0)) (nXC : XC.length = 13) (gXC_0 : XC[0]? = some (.int 0)) (nYF : YF.length = 167) (gYF_14 : YF[14]? = some (.int 0)) : W p l e room_1 s m #[Value.ref b] below meth c H locs 267 1600544 (lw_Z below #[Value.ref b] s) (F0 m 280 ls []) := by
  obtain ⟨hx, hb, hr, hml, hown0, hts, hX, hbl, hlocks, hgv⟩ := id C0
  have hown : s.vm.findClass R_Law = some m.cls := hown0
  have hT : ∀ w ∈ TG, w.before #[Value.ref b] s = true := fun w h => hts w (TG_lw w h)
  have hN : NW s := NW.of hts
  have hSW : SW s := SW.of hts
  refine lv_aload_n hx hb d_law_280 rfl (lv_at hl 2 rfl) ?_
  refine lv_aload_n hx hb d_law_281 rfl (lv_at hl 3 rfl) ?_
  refine lv_iload_n hx hb d_law_282 rfl (lv_at hl 0 rfl) ?_
  refine lv_iconst (v := 1) hx hb d_law_283 (by decide) ?_
  refine lv_iadd hx hb d_law_284 ?_
  refine va_sld hx hb hX hbl hbA hS (vp_lit (by decide)) d_law_285 ?_
  refine lv_aload_n hx hb d_law_286 rfl (lv_at hl 3 rfl) ?_
  refine lv_iload_n hx hb d_law_287 rfl (lv_at hl 0 rfl) ?_
  refine lv_iconst (v := 2) hx hb d_law_288 (by decide) ?_
  refine lv_iadd hx hb d_law_289 ?_
  refine va_sld hx hb hX hbl hbA hS (vp_lit (by decide)) d_law_290 ?_
  have hPc := hP.sub (ws' := [(h1, .inr (0, XF)), (xc0, .inr (3, XC))]) [0, 1] rfl
  have hDc := hD.sub (ws' := [(h1, .inr (0, XF)), (xc0, .inr (3, XC))]) [0, 1] (by decide) rfl
  have hFc := va_free (wc := [(h1, .inr (0, XF)), (xc0, .inr (3, XC))]) hD hS hA [0, 1] rfl
  refine va_calli (va_runV (C := R_V) (As := [.int (xs ((0 + 1) : Int32).toNatClampNeg), .int (xs ((0 + 2) : Int32).toNatClampNeg)]) (rest := []) ⟨hx, hb, hml, hown, hT⟩ (c_V_write_none l dC dI cI cB cJ cZ H.size h1 XF xc0 XC (xs ((0 + 1) : Int32).toNatClampNeg) (xs ((0 + 2) : Int32).toNatClampNeg) nXF gXF_4 nXC gXC_0) ⟨callB_of 2 hT (gw_in w_5_126) rfl rfl rfl (hT _ w_1_1) (hT _ w_5_123) (by decide +kernel) ⟨Nat.le_of_ble_eq_true rfl, Nat.le_of_ble_eq_true rfl⟩, hT _ w_5_124, hT _ w_5_125⟩ ⟨PC.blind, va_recv hK hPc (ci := 0) (q0 := 0) rfl rfl, PC.at _ hPc hDc hK hN⟩ rfl rfl hl.1 rfl (lv_room (Nat.le_of_ble_eq_true rfl)) d_law_291 ⟨show _ ≤ 600000 by omega, show _ ≤ 7302250 by omega⟩) hS (fun q _ h => hFc q h) hFc (fun r1 u t H1 locs ht hvm hw hB hz1 hk1 hS => ?_)
  have hw : ((-1)) = r1 := Eq.symm hw
  subst hw
  obtain ⟨hP, hD⟩ := va_join (wr := [(h2, .inr (12, YF))]) (w1 := []) hP hD [0, 1] [2] rfl rfl (by decide) (by decide) hk1 hFc nilP nilD
  generalize H1 = H at hP hS ⊢
  have hP : va_P (dC, dI) CL [(h2, .inr (12, YF))] H := hP
  have hD : va_D A [(h2, .inr (12, YF))] := hD
  refine lv_aload_n hx hb d_law_294 rfl (lv_at hl 1 rfl) ?_
  refine lv_aload_n hx hb d_law_295 rfl (lv_at hl 3 rfl) ?_
  refine lv_iload_n hx hb d_law_296 rfl (lv_at hl 0 rfl) ?_
  refine lv_iconst (v := 1) hx hb d_law_297 (by decide) ?_
  refine lv_iadd hx hb d_law_298 ?_
  refine va_sld hx hb hX hbl hbA hS (vp_lit (by decide)) d_law_299 ?_
  refine lv_aload_n hx hb d_law_300 rfl (lv_at hl 3 rfl) ?_
  refine lv_iload_n hx hb d_law_301 rfl (lv_at hl 0 rfl) ?_
  refine lv_iconst (v := 2) hx hb d_law_302 (by decide) ?_
  refine lv_iadd hx hb d_law_303 ?_
  refine va_sld hx hb hX hbl hbA hS (vp_lit (by decide)) d_law_304 ?_
  have hPc := hP.sub (ws' := [(h2, .inr (12, YF))]) [0] rfl
  have hDc := hD.sub (ws' := [(h2, .inr (12, YF))]) [0] (by decide) rfl
  have hFc := va_free (wc := [(h2, .inr (12, YF))]) hD hS hA [0] rfl
  refine va_calli (va_runV (C := R_Mod) (As := [.int (xs ((0 + 1) : Int32).toNatClampNeg), .int (xs ((0 + 2) : Int32).toNatClampNeg)]) (rest := [.int (-1)]) ⟨hx, hb, hml, hown, hT⟩ (c_Mod_write_none l dC dI cI cB cJ cZ H.size h2 YF (xs ((0 + 1) : Int32).toNatClampNeg) (xs ((0 + 2) : Int32).toNatClampNeg) nYF gYF_14) ⟨callB_of 2 hT (gw_in w_11_134) rfl rfl rfl (hT _ w_1_15) (hT _ w_11_131) (by decide +kernel) ⟨Nat.le_of_ble_eq_true rfl, Nat.le_of_ble_eq_true rfl⟩, hT _ w_11_132, hT _ w_11_133⟩ ⟨PC.blind, va_recv hK hPc (ci := 12) (q0 := 0) rfl rfl, PC.at _ hPc hDc hK hN⟩ rfl rfl hl.1 rfl (lv_room (Nat.le_of_ble_eq_true rfl)) d_law_305 ⟨show _ ≤ 600000 by omega, show _ ≤ 7302250 by omega⟩) hS (fun q _ h => hFc q h) hFc (fun r2 u t H1 locs ht hvm hw hB hz1 hk1 hS => ?_)
  have hw : ((-1)) = r2 := Eq.symm hw
  subst hw
  obtain ⟨hP, hD⟩ := va_join (wr := []) (w1 := []) hP hD [0] [] rfl rfl (by decide) (by decide) hk1 hFc nilP nilD
  generalize H1 = H at hP hS ⊢
  have hP : va_P (dC, dI) CL [] H := hP
  have hD : va_D A [] := hD
  refine lv_icmp_eq (tgt := 703) hx hb d_law_308 (by decide) (fun c1 => ?_) (fun c1 => by first | exact absurd c1 (by decide) | exact absurd (by decide) c1)
  exact lb_done C0 hA2 hbA hS hl
set_option maxHeartbeats 4000000 in
set_option maxRecDepth 100000 in
/-- the turn of case 7 -/
theorem lb_7 {p : Program} {l : Launch} {e : Env} {s : State} {m : MethodId} {below : List Frame} {meth : Method} {c : Code} {b : Nat} {xs : Nat → Int32} {A : Nat → Prop} {dC : Nat → ClassId} {dI : Nat → Nat → Nat} {cI cB cJ cZ : ClassId} (C0 : lw_At p s m meth c b 6 xs) (hA : ∀ q, s.heap.size ≤ q → A q) (hA2 : ∀ q, A q → s.heap.size ≤ q) (hbA : ¬ A b) (hK : va_K (dC, dI) CL (TY cI cB cJ cZ) s) {h1 h2 xf xi yb ya : Nat} {XF XS YF : List Value} {fya fyb : Nat → Int32} {H : Heap} {locs : List Loc} {ls : Array Slot} (hP : va_P (dC, dI) CL [(h1, .inr (0, XF)), (xf, .inr (1, XS)), (h2, .inr (12, YF)), (ya, .inl (cI, 40000, .inl fya)), (yb, .inl (cI, 40000, .inl fyb))] H) (hD : va_D A [(h1, .inr (0, XF)), (xf, .inr (1, XS)), (h2, .inr (12, YF)), (ya, .inl (cI, 40000, .inl fya)), (yb, .inl (cI, 40000, .inl fyb))]) (hS : va_S A s.heap H locs) (hl : lv_has ls 4 [(3, .int 0), (2, .ref h2), (1, .ref h1), (0, .ref b)]) (nXF : XF.length = 15) (gXF_2 : XF[2]? = some (.ref xf)) (gXF_1 : XF[1]? = some (.ref xi)) (nXS : XS.length = 7) (nYF : YF.length = 167) (gYF_62 : YF[62]? = some (.ref yb)) (gYF_2 : YF[2]? = some (.ref ya)) (gYF_4 : YF[4]? = some (.int 0)) : W p l e room_1 s m #[Value.ref b] below meth c H locs 267 1600544 (lw_Z below #[Value.ref b] s) (F0 m 313 ls []) := by
  obtain ⟨hx, hb, hr, hml, hown0, hts, hX, hbl, hlocks, hgv⟩ := id C0
  have hown : s.vm.findClass R_Law = some m.cls := hown0
  have hT : ∀ w ∈ TG, w.before #[Value.ref b] s = true := fun w h => hts w (TG_lw w h)
  have hN : NW s := NW.of hts
  have hSW : SW s := SW.of hts
  refine lv_aload_n hx hb d_law_313 rfl (lv_at hl 2 rfl) ?_
  have hPc := hP.sub (ws' := [(h1, .inr (0, XF)), (xf, .inr (1, XS))]) [0, 1] rfl
  have hDc := hD.sub (ws' := [(h1, .inr (0, XF)), (xf, .inr (1, XS))]) [0, 1] (by decide) rfl
  have hFc := va_free (wc := [(h1, .inr (0, XF)), (xf, .inr (1, XS))]) hD hS hA [0, 1] rfl
  refine va_callv (va_runV (C := R_V) (As := []) (rest := []) ⟨hx, hb, hml, hown, hT⟩ (c_V_take l dC dI cI cB cJ cZ H.size h1 XF xf XS xi nXF gXF_2 gXF_1 nXS) ⟨callB_of 0 hT (gw_in w_6_57) rfl rfl rfl (hT _ w_1_1) (hT _ w_6_54) (by decide +kernel) ⟨Nat.le_of_ble_eq_true rfl, Nat.le_of_ble_eq_true rfl⟩, hT _ w_6_55, hT _ w_6_56⟩ ⟨PC.blind, va_recv hK hPc (ci := 0) (q0 := 0) rfl rfl, PC.at _ hPc hDc hK hN⟩ rfl rfl hl.1 rfl (lv_room (Nat.le_of_ble_eq_true rfl)) d_law_314 ⟨show _ ≤ 600000 by omega, show _ ≤ 7302250 by omega⟩) hS (fun q _ h => hFc q h) hFc (fun  u t H1 locs ht hvm hw hB hz1 hk1 hS => ?_)
  obtain ⟨hP, hD⟩ := va_join (wr := [(h2, .inr (12, YF)), (ya, .inl (cI, 40000, .inl fya)), (yb, .inl (cI, 40000, .inl fyb))]) (w1 := []) hP hD [0, 1] [2, 3, 4] rfl rfl (by decide) (by decide) hk1 hFc nilP nilD
  generalize H1 = H at hP hS ⊢
  have hP : va_P (dC, dI) CL [(h2, .inr (12, YF)), (ya, .inl (cI, 40000, .inl fya)), (yb, .inl (cI, 40000, .inl fyb))] H := hP
  have hD : va_D A [(h2, .inr (12, YF)), (ya, .inl (cI, 40000, .inl fya)), (yb, .inl (cI, 40000, .inl fyb))] := hD
  refine lv_aload_n hx hb d_law_317 rfl (lv_at hl 1 rfl) ?_
  have hPc := hP.sub (ws' := [(h2, .inr (12, YF)), (ya, .inl (cI, 40000, .inl fya)), (yb, .inl (cI, 40000, .inl fyb))]) [0, 1, 2] rfl
  have hDc := hD.sub (ws' := [(h2, .inr (12, YF)), (ya, .inl (cI, 40000, .inl fya)), (yb, .inl (cI, 40000, .inl fyb))]) [0, 1, 2] (by decide) rfl
  have hFc := va_free (wc := [(h2, .inr (12, YF)), (ya, .inl (cI, 40000, .inl fya)), (yb, .inl (cI, 40000, .inl fyb))]) hD hS hA [0, 1, 2] rfl
  refine va_callv (va_runV (C := R_Mod) (As := []) (rest := []) ⟨hx, hb, hml, hown, hT⟩ (c_Mod_take l dC dI cI cB cJ cZ H.size h2 YF ya yb 0 fya fyb (by decide) (by decide) nYF gYF_62 gYF_2 gYF_4) ⟨callB_of 0 hT (gw_in w_12_83) rfl rfl rfl (hT _ w_1_15) (hT _ w_12_80) (by decide +kernel) ⟨Nat.le_of_ble_eq_true rfl, Nat.le_of_ble_eq_true rfl⟩, hT _ w_12_81, hT _ w_12_82⟩ ⟨PC.blind, va_recv hK hPc (ci := 12) (q0 := 0) rfl rfl, PC.at _ hPc hDc hK hN⟩ rfl rfl hl.1 rfl (lv_room (Nat.le_of_ble_eq_true rfl)) d_law_318 ⟨show _ ≤ 600000 by omega, show _ ≤ 7302250 by omega⟩) hS (fun q _ h => hFc q h) hFc (fun  u t H1 locs ht hvm hw hB hz1 hk1 hS => ?_)
  obtain ⟨hP, hD⟩ := va_join (wr := []) (w1 := []) hP hD [0, 1, 2] [] rfl rfl (by decide) (by decide) hk1 hFc nilP nilD
  generalize H1 = H at hP hS ⊢
  have hP : va_P (dC, dI) CL [] H := hP
  have hD : va_D A [] := hD
  refine lv_goto (tgt := 703) hx hb d_law_321 (by decide) ?_
  exact lb_done C0 hA2 hbA hS hl
set_option maxHeartbeats 4000000 in
set_option maxRecDepth 100000 in
/-- the turn of case 8 -/
theorem lb_8 {p : Program} {l : Launch} {e : Env} {s : State} {m : MethodId} {below : List Frame} {meth : Method} {c : Code} {b : Nat} {xs : Nat → Int32} {A : Nat → Prop} {dC : Nat → ClassId} {dI : Nat → Nat → Nat} {cI cB cJ cZ : ClassId} (C0 : lw_At p s m meth c b 6 xs) (hA : ∀ q, s.heap.size ≤ q → A q) (hA2 : ∀ q, A q → s.heap.size ≤ q) (hbA : ¬ A b) (hK : va_K (dC, dI) CL (TY cI cB cJ cZ) s) {h1 h2 xf : Nat} {XF XS YF : List Value} {H : Heap} {locs : List Loc} {ls : Array Slot} (hP : va_P (dC, dI) CL [(h1, .inr (0, XF)), (xf, .inr (1, XS)), (h2, .inr (12, YF))] H) (hD : va_D A [(h1, .inr (0, XF)), (xf, .inr (1, XS)), (h2, .inr (12, YF))]) (hS : va_S A s.heap H locs) (hl : lv_has ls 4 [(3, .int 0), (2, .ref h2), (1, .ref h1), (0, .ref b)]) (nXF : XF.length = 15) (gXF_2 : XF[2]? = some (.ref xf)) (nXS : XS.length = 7) (gXS_1 : XS[1]? = some (.int 0)) (nYF : YF.length = 167) (gYF_65 : YF[65]? = some (.int 0)) : W p l e room_1 s m #[Value.ref b] below meth c H locs 267 1600544 (lw_Z below #[Value.ref b] s) (F0 m 324 ls []) := by
  obtain ⟨hx, hb, hr, hml, hown0, hts, hX, hbl, hlocks, hgv⟩ := id C0
  have hown : s.vm.findClass R_Law = some m.cls := hown0
  have hT : ∀ w ∈ TG, w.before #[Value.ref b] s = true := fun w h => hts w (TG_lw w h)
  have hN : NW s := NW.of hts
  have hSW : SW s := SW.of hts
  refine lv_aload_n hx hb d_law_324 rfl (lv_at hl 2 rfl) ?_
  have hPc := hP.sub (ws' := [(h1, .inr (0, XF)), (xf, .inr (1, XS))]) [0, 1] rfl
  have hDc := hD.sub (ws' := [(h1, .inr (0, XF)), (xf, .inr (1, XS))]) [0, 1] (by decide) rfl
  have hFc := va_free (wc := [(h1, .inr (0, XF)), (xf, .inr (1, XS))]) hD hS hA [0, 1] rfl
  refine va_calli (va_runV (C := R_V) (As := []) (rest := []) ⟨hx, hb, hml, hown, hT⟩ (c_V_size l dC dI cI cB cJ cZ H.size h1 XF xf XS 0 nXF gXF_2 nXS gXS_1) ⟨callB_of 0 hT (gw_in w_6_61) rfl rfl rfl (hT _ w_1_1) (hT _ w_6_58) (by decide +kernel) ⟨Nat.le_of_ble_eq_true rfl, Nat.le_of_ble_eq_true rfl⟩, hT _ w_6_59, hT _ w_6_60⟩ ⟨PC.blind, va_recv hK hPc (ci := 0) (q0 := 0) rfl rfl, PC.at _ hPc hDc hK hN⟩ rfl rfl hl.1 rfl (lv_room (Nat.le_of_ble_eq_true rfl)) d_law_325 ⟨show _ ≤ 600000 by omega, show _ ≤ 7302250 by omega⟩) hS (fun q _ h => hFc q h) hFc (fun r1 u t H1 locs ht hvm hw hB hz1 hk1 hS => ?_)
  have hw : (0) = r1 := Eq.symm hw
  subst hw
  obtain ⟨hP, hD⟩ := va_join (wr := [(h2, .inr (12, YF))]) (w1 := []) hP hD [0, 1] [2] rfl rfl (by decide) (by decide) hk1 hFc nilP nilD
  generalize H1 = H at hP hS ⊢
  have hP : va_P (dC, dI) CL [(h2, .inr (12, YF))] H := hP
  have hD : va_D A [(h2, .inr (12, YF))] := hD
  refine lv_aload_n hx hb d_law_328 rfl (lv_at hl 1 rfl) ?_
  have hPc := hP.sub (ws' := [(h2, .inr (12, YF))]) [0] rfl
  have hDc := hD.sub (ws' := [(h2, .inr (12, YF))]) [0] (by decide) rfl
  have hFc := va_free (wc := [(h2, .inr (12, YF))]) hD hS hA [0] rfl
  refine va_calli (va_runV (C := R_Mod) (As := []) (rest := [.int 0]) ⟨hx, hb, hml, hown, hT⟩ (c_Mod_size l dC dI cI cB cJ cZ H.size h2 YF 0 nYF gYF_65) ⟨callB_of 0 hT (gw_in w_12_87) rfl rfl rfl (hT _ w_1_15) (hT _ w_12_84) (by decide +kernel) ⟨Nat.le_of_ble_eq_true rfl, Nat.le_of_ble_eq_true rfl⟩, hT _ w_12_85, hT _ w_12_86⟩ ⟨PC.blind, va_recv hK hPc (ci := 12) (q0 := 0) rfl rfl, PC.at _ hPc hDc hK hN⟩ rfl rfl hl.1 rfl (lv_room (Nat.le_of_ble_eq_true rfl)) d_law_329 ⟨show _ ≤ 600000 by omega, show _ ≤ 7302250 by omega⟩) hS (fun q _ h => hFc q h) hFc (fun r2 u t H1 locs ht hvm hw hB hz1 hk1 hS => ?_)
  have hw : (0) = r2 := Eq.symm hw
  subst hw
  obtain ⟨hP, hD⟩ := va_join (wr := []) (w1 := []) hP hD [0] [] rfl rfl (by decide) (by decide) hk1 hFc nilP nilD
  generalize H1 = H at hP hS ⊢
  have hP : va_P (dC, dI) CL [] H := hP
  have hD : va_D A [] := hD
  refine lv_icmp_eq (tgt := 703) hx hb d_law_332 (by decide) (fun c1 => ?_) (fun c1 => by first | exact absurd c1 (by decide) | exact absurd (by decide) c1)
  exact lb_done C0 hA2 hbA hS hl
set_option maxHeartbeats 4000000 in
set_option maxRecDepth 100000 in
/-- the turn of case 9 -/
theorem lb_9 {p : Program} {l : Launch} {e : Env} {s : State} {m : MethodId} {below : List Frame} {meth : Method} {c : Code} {b : Nat} {xs : Nat → Int32} {A : Nat → Prop} {dC : Nat → ClassId} {dI : Nat → Nat → Nat} {cI cB cJ cZ : ClassId} (C0 : lw_At p s m meth c b 6 xs) (hA : ∀ q, s.heap.size ≤ q → A q) (hA2 : ∀ q, A q → s.heap.size ≤ q) (hbA : ¬ A b) (hK : va_K (dC, dI) CL (TY cI cB cJ cZ) s) {h1 h2 xf xa ya : Nat} {XF XS YF : List Value} {fxa fya : Nat → Int32} {H : Heap} {locs : List Loc} {ls : Array Slot} (hP : va_P (dC, dI) CL [(h1, .inr (0, XF)), (xf, .inr (1, XS)), (xa, .inl (cB, 512, .inl fxa)), (h2, .inr (12, YF)), (ya, .inl (cI, 40000, .inl fya))] H) (hD : va_D A [(h1, .inr (0, XF)), (xf, .inr (1, XS)), (xa, .inl (cB, 512, .inl fxa)), (h2, .inr (12, YF)), (ya, .inl (cI, 40000, .inl fya))]) (hS : va_S A s.heap H locs) (hl : lv_has ls 4 [(3, .int 0), (2, .ref h2), (1, .ref h1), (0, .ref b)]) (nXF : XF.length = 15) (gXF_2 : XF[2]? = some (.ref xf)) (nXS : XS.length = 7) (gXS_1 : XS[1]? = some (.int 0)) (gXS_0 : XS[0]? = some (.ref xa)) (nYF : YF.length = 167) (gYF_65 : YF[65]? = some (.int 0)) (gYF_62 : YF[62]? = some (.ref ya)) : W p l e room_1 s m #[Value.ref b] below meth c H locs 267 1600544 (lw_Z below #[Value.ref b] s) (F0 m 337 ls []) := by
  obtain ⟨hx, hb, hr, hml, hown0, hts, hX, hbl, hlocks, hgv⟩ := id C0
  have hown : s.vm.findClass R_Law = some m.cls := hown0
  have hT : ∀ w ∈ TG, w.before #[Value.ref b] s = true := fun w h => hts w (TG_lw w h)
  have hN : NW s := NW.of hts
  have hSW : SW s := SW.of hts
  refine lv_aload_n hx hb d_law_337 rfl (lv_at hl 2 rfl) ?_
  refine lv_aload_n hx hb d_law_338 rfl (lv_at hl 3 rfl) ?_
  refine lv_iload_n hx hb d_law_339 rfl (lv_at hl 0 rfl) ?_
  refine lv_iconst (v := 1) hx hb d_law_340 (by decide) ?_
  refine lv_iadd hx hb d_law_341 ?_
  refine va_sld hx hb hX hbl hbA hS (vp_lit (by decide)) d_law_342 ?_
  have hPc := hP.sub (ws' := [(h1, .inr (0, XF)), (xf, .inr (1, XS)), (xa, .inl (cB, 512, .inl fxa))]) [0, 1, 2] rfl
  have hDc := hD.sub (ws' := [(h1, .inr (0, XF)), (xf, .inr (1, XS)), (xa, .inl (cB, 512, .inl fxa))]) [0, 1, 2] (by decide) rfl
  have hFc := va_free (wc := [(h1, .inr (0, XF)), (xf, .inr (1, XS)), (xa, .inl (cB, 512, .inl fxa))]) hD hS hA [0, 1, 2] rfl
  refine va_calli (va_runV (C := R_V) (As := [.int (xs ((0 + 1) : Int32).toNatClampNeg)]) (rest := []) ⟨hx, hb, hml, hown, hT⟩ (c_V_byteOf l dC dI cI cB cJ cZ H.size h1 XF xf XS xa 512 fxa (xs ((0 + 1) : Int32).toNatClampNeg) 0 nXF gXF_2 nXS gXS_1 gXS_0 (by decide)) ⟨callB_of 1 hT (gw_in w_6_65) rfl rfl rfl (hT _ w_1_1) (hT _ w_6_62) (by decide +kernel) ⟨Nat.le_of_ble_eq_true rfl, Nat.le_of_ble_eq_true rfl⟩, hT _ w_6_63, hT _ w_6_64⟩ ⟨PC.blind, va_recv hK hPc (ci := 0) (q0 := 0) rfl rfl, PC.at _ hPc hDc hK hN⟩ rfl rfl hl.1 rfl (lv_room (Nat.le_of_ble_eq_true rfl)) d_law_343 ⟨show _ ≤ 600000 by omega, show _ ≤ 7302250 by omega⟩) hS (fun q _ h => hFc q h) hFc (fun r1 u t H1 locs ht hvm hw hB hz1 hk1 hS => ?_)
  have hw : (sp_at (xs ((0 + 1) : Int32).toNatClampNeg) 0 (fxa (xs ((0 + 1) : Int32).toNatClampNeg).toNatClampNeg &&& 255)) = r1 := Eq.symm hw
  subst hw
  obtain ⟨hP, hD⟩ := va_join (wr := [(h2, .inr (12, YF)), (ya, .inl (cI, 40000, .inl fya))]) (w1 := []) hP hD [0, 1, 2] [3, 4] rfl rfl (by decide) (by decide) hk1 hFc nilP nilD
  generalize H1 = H at hP hS ⊢
  have hP : va_P (dC, dI) CL [(h2, .inr (12, YF)), (ya, .inl (cI, 40000, .inl fya))] H := hP
  have hD : va_D A [(h2, .inr (12, YF)), (ya, .inl (cI, 40000, .inl fya))] := hD
  refine lv_aload_n hx hb d_law_346 rfl (lv_at hl 1 rfl) ?_
  refine lv_aload_n hx hb d_law_347 rfl (lv_at hl 3 rfl) ?_
  refine lv_iload_n hx hb d_law_348 rfl (lv_at hl 0 rfl) ?_
  refine lv_iconst (v := 1) hx hb d_law_349 (by decide) ?_
  refine lv_iadd hx hb d_law_350 ?_
  refine va_sld hx hb hX hbl hbA hS (vp_lit (by decide)) d_law_351 ?_
  have hPc := hP.sub (ws' := [(h2, .inr (12, YF)), (ya, .inl (cI, 40000, .inl fya))]) [0, 1] rfl
  have hDc := hD.sub (ws' := [(h2, .inr (12, YF)), (ya, .inl (cI, 40000, .inl fya))]) [0, 1] (by decide) rfl
  have hFc := va_free (wc := [(h2, .inr (12, YF)), (ya, .inl (cI, 40000, .inl fya))]) hD hS hA [0, 1] rfl
  refine va_calli (va_runV (C := R_Mod) (As := [.int (xs ((0 + 1) : Int32).toNatClampNeg)]) (rest := [.int (sp_at (xs ((0 + 1) : Int32).toNatClampNeg) 0 (fxa (xs ((0 + 1) : Int32).toNatClampNeg).toNatClampNeg &&& 255))]) ⟨hx, hb, hml, hown, hT⟩ (c_Mod_byteOf l dC dI cI cB cJ cZ H.size h2 YF ya 40000 fya (xs ((0 + 1) : Int32).toNatClampNeg) 0 nYF gYF_65 gYF_62 (by decide)) ⟨callB_of 1 hT (gw_in w_12_91) rfl rfl rfl (hT _ w_1_15) (hT _ w_12_88) (by decide +kernel) ⟨Nat.le_of_ble_eq_true rfl, Nat.le_of_ble_eq_true rfl⟩, hT _ w_12_89, hT _ w_12_90⟩ ⟨PC.blind, va_recv hK hPc (ci := 12) (q0 := 0) rfl rfl, PC.at _ hPc hDc hK hN⟩ rfl rfl hl.1 rfl (lv_room (Nat.le_of_ble_eq_true rfl)) d_law_352 ⟨show _ ≤ 600000 by omega, show _ ≤ 7302250 by omega⟩) hS (fun q _ h => hFc q h) hFc (fun r2 u t H1 locs ht hvm hw hB hz1 hk1 hS => ?_)
  have hw : (sp_at (xs ((0 + 1) : Int32).toNatClampNeg) 0 (fya (xs ((0 + 1) : Int32).toNatClampNeg).toNatClampNeg)) = r2 := Eq.symm hw
  subst hw
  obtain ⟨hP, hD⟩ := va_join (wr := []) (w1 := []) hP hD [0, 1] [] rfl rfl (by decide) (by decide) hk1 hFc nilP nilD
  generalize H1 = H at hP hS ⊢
  have hP : va_P (dC, dI) CL [] H := hP
  have hD : va_D A [] := hD
  refine lv_icmp_eq (tgt := 703) hx hb d_law_355 (by decide) (fun c1 => ?_) (fun c1 => absurd (at0 _ _ _) c1)
  exact lb_done C0 hA2 hbA hS hl
set_option maxHeartbeats 4000000 in
set_option maxRecDepth 100000 in
/-- the turn of case 10 -/
theorem lb_10 {p : Program} {l : Launch} {e : Env} {s : State} {m : MethodId} {below : List Frame} {meth : Method} {c : Code} {b : Nat} {xs : Nat → Int32} {A : Nat → Prop} {dC : Nat → ClassId} {dI : Nat → Nat → Nat} {cI cB cJ cZ : ClassId} (C0 : lw_At p s m meth c b 6 xs) (hA : ∀ q, s.heap.size ≤ q → A q) (hA2 : ∀ q, A q → s.heap.size ≤ q) (hbA : ¬ A b) (hK : va_K (dC, dI) CL (TY cI cB cJ cZ) s) {h1 h2 xf xa ya : Nat} {XF XS YF : List Value} {fxa fya : Nat → Int32} {H : Heap} {locs : List Loc} {ls : Array Slot} (hP : va_P (dC, dI) CL [(h1, .inr (0, XF)), (xf, .inr (1, XS)), (xa, .inl (cB, 512, .inl fxa)), (h2, .inr (12, YF)), (ya, .inl (cI, 40000, .inl fya))] H) (hD : va_D A [(h1, .inr (0, XF)), (xf, .inr (1, XS)), (xa, .inl (cB, 512, .inl fxa)), (h2, .inr (12, YF)), (ya, .inl (cI, 40000, .inl fya))]) (hS : va_S A s.heap H locs) (hl : lv_has ls 4 [(3, .int 0), (2, .ref h2), (1, .ref h1), (0, .ref b)]) (nXF : XF.length = 15) (gXF_2 : XF[2]? = some (.ref xf)) (nXS : XS.length = 7) (gXS_1 : XS[1]? = some (.int 0)) (gXS_0 : XS[0]? = some (.ref xa)) (nYF : YF.length = 167) (gYF_65 : YF[65]? = some (.int 0)) (gYF_62 : YF[62]? = some (.ref ya)) : W p l e room_1 s m #[Value.ref b] below meth c H locs 267 1600544 (lw_Z below #[Value.ref b] s) (F0 m 360 ls []) := by
  obtain ⟨hx, hb, hr, hml, hown0, hts, hX, hbl, hlocks, hgv⟩ := id C0
  have hown : s.vm.findClass R_Law = some m.cls := hown0
  have hT : ∀ w ∈ TG, w.before #[Value.ref b] s = true := fun w h => hts w (TG_lw w h)
  have hN : NW s := NW.of hts
  have hSW : SW s := SW.of hts
  refine lv_aload_n hx hb d_law_360 rfl (lv_at hl 2 rfl) ?_
  refine lv_aload_n hx hb d_law_361 rfl (lv_at hl 3 rfl) ?_
  refine lv_iload_n hx hb d_law_362 rfl (lv_at hl 0 rfl) ?_
  refine lv_iconst (v := 1) hx hb d_law_363 (by decide) ?_
  refine lv_iadd hx hb d_law_364 ?_
  refine va_sld hx hb hX hbl hbA hS (vp_lit (by decide)) d_law_365 ?_
  refine lv_aload_n hx hb d_law_366 rfl (lv_at hl 3 rfl) ?_
  refine lv_iload_n hx hb d_law_367 rfl (lv_at hl 0 rfl) ?_
  refine lv_iconst (v := 2) hx hb d_law_368 (by decide) ?_
  refine lv_iadd hx hb d_law_369 ?_
  refine va_sld hx hb hX hbl hbA hS (vp_lit (by decide)) d_law_370 ?_
  have hPc := hP.sub (ws' := [(h1, .inr (0, XF)), (xf, .inr (1, XS)), (xa, .inl (cB, 512, .inl fxa))]) [0, 1, 2] rfl
  have hDc := hD.sub (ws' := [(h1, .inr (0, XF)), (xf, .inr (1, XS)), (xa, .inl (cB, 512, .inl fxa))]) [0, 1, 2] (by decide) rfl
  have hFc := va_free (wc := [(h1, .inr (0, XF)), (xf, .inr (1, XS)), (xa, .inl (cB, 512, .inl fxa))]) hD hS hA [0, 1, 2] rfl
  refine va_calli (va_runV (C := R_V) (As := [.int (xs ((0 + 1) : Int32).toNatClampNeg), .int (xs ((0 + 2) : Int32).toNatClampNeg)]) (rest := []) ⟨hx, hb, hml, hown, hT⟩ (c_V_poke l dC dI cI cB cJ cZ H.size h1 XF xf XS xa 512 fxa (xs ((0 + 1) : Int32).toNatClampNeg) (xs ((0 + 2) : Int32).toNatClampNeg) 0 nXF gXF_2 nXS gXS_1 gXS_0 (by decide)) ⟨callB_of 2 hT (gw_in w_6_69) rfl rfl rfl (hT _ w_1_1) (hT _ w_6_66) (by decide +kernel) ⟨Nat.le_of_ble_eq_true rfl, Nat.le_of_ble_eq_true rfl⟩, hT _ w_6_67, hT _ w_6_68⟩ ⟨PC.blind, va_recv hK hPc (ci := 0) (q0 := 0) rfl rfl, PC.at _ hPc hDc hK hN⟩ rfl rfl hl.1 rfl (lv_room (Nat.le_of_ble_eq_true rfl)) d_law_371 ⟨show _ ≤ 600000 by omega, show _ ≤ 7302250 by omega⟩) hS (fun q _ h => hFc q h) hFc (fun r1 u t H1 locs ht hvm hw hB hz1 hk1 hS => ?_)
  have hw : (if ¬ (xs ((0 + 1) : Int32).toNatClampNeg) < 0 ∧ (xs ((0 + 1) : Int32).toNatClampNeg) < 0 then 1 else 0) = r1 := Eq.symm hw
  subst hw
  obtain ⟨hP, hD⟩ := va_join (wr := [(h2, .inr (12, YF)), (ya, .inl (cI, 40000, .inl fya))]) (w1 := []) hP hD [0, 1, 2] [3, 4] rfl rfl (by decide) (by decide) hk1 hFc nilP nilD
  generalize H1 = H at hP hS ⊢
  have hP : va_P (dC, dI) CL [(h2, .inr (12, YF)), (ya, .inl (cI, 40000, .inl fya))] H := hP
  have hD : va_D A [(h2, .inr (12, YF)), (ya, .inl (cI, 40000, .inl fya))] := hD
  refine lv_aload_n hx hb d_law_374 rfl (lv_at hl 1 rfl) ?_
  refine lv_aload_n hx hb d_law_375 rfl (lv_at hl 3 rfl) ?_
  refine lv_iload_n hx hb d_law_376 rfl (lv_at hl 0 rfl) ?_
  refine lv_iconst (v := 1) hx hb d_law_377 (by decide) ?_
  refine lv_iadd hx hb d_law_378 ?_
  refine va_sld hx hb hX hbl hbA hS (vp_lit (by decide)) d_law_379 ?_
  refine lv_aload_n hx hb d_law_380 rfl (lv_at hl 3 rfl) ?_
  refine lv_iload_n hx hb d_law_381 rfl (lv_at hl 0 rfl) ?_
  refine lv_iconst (v := 2) hx hb d_law_382 (by decide) ?_
  refine lv_iadd hx hb d_law_383 ?_
  refine va_sld hx hb hX hbl hbA hS (vp_lit (by decide)) d_law_384 ?_
  have hPc := hP.sub (ws' := [(h2, .inr (12, YF)), (ya, .inl (cI, 40000, .inl fya))]) [0, 1] rfl
  have hDc := hD.sub (ws' := [(h2, .inr (12, YF)), (ya, .inl (cI, 40000, .inl fya))]) [0, 1] (by decide) rfl
  have hFc := va_free (wc := [(h2, .inr (12, YF)), (ya, .inl (cI, 40000, .inl fya))]) hD hS hA [0, 1] rfl
  refine va_calli (va_runV (C := R_Mod) (As := [.int (xs ((0 + 1) : Int32).toNatClampNeg), .int (xs ((0 + 2) : Int32).toNatClampNeg)]) (rest := [.int (if ¬ (xs ((0 + 1) : Int32).toNatClampNeg) < 0 ∧ (xs ((0 + 1) : Int32).toNatClampNeg) < 0 then 1 else 0)]) ⟨hx, hb, hml, hown, hT⟩ (c_Mod_poke l dC dI cI cB cJ cZ H.size h2 YF ya 40000 fya (xs ((0 + 1) : Int32).toNatClampNeg) (xs ((0 + 2) : Int32).toNatClampNeg) 0 nYF gYF_65 gYF_62 (by decide)) ⟨callB_of 2 hT (gw_in w_12_95) rfl rfl rfl (hT _ w_1_15) (hT _ w_12_92) (by decide +kernel) ⟨Nat.le_of_ble_eq_true rfl, Nat.le_of_ble_eq_true rfl⟩, hT _ w_12_93, hT _ w_12_94⟩ ⟨PC.blind, va_recv hK hPc (ci := 12) (q0 := 0) rfl rfl, PC.at _ hPc hDc hK hN⟩ rfl rfl hl.1 rfl (lv_room (Nat.le_of_ble_eq_true rfl)) d_law_385 ⟨show _ ≤ 600000 by omega, show _ ≤ 7302250 by omega⟩) hS (fun q _ h => hFc q h) hFc (fun r2 u t H1 locs ht hvm hw hB hz1 hk1 hS => ?_)
  have hw : (if ¬ (xs ((0 + 1) : Int32).toNatClampNeg) < 0 ∧ (xs ((0 + 1) : Int32).toNatClampNeg) < 0 then 1 else 0) = r2 := Eq.symm hw
  subst hw
  obtain ⟨hP, hD⟩ := va_join (wr := []) (w1 := []) hP hD [0, 1] [] rfl rfl (by decide) (by decide) hk1 hFc nilP nilD
  generalize H1 = H at hP hS ⊢
  have hP : va_P (dC, dI) CL [] H := hP
  have hD : va_D A [] := hD
  refine lv_icmp_eq (tgt := 703) hx hb d_law_388 (by decide) (fun c1 => ?_) (fun c1 => absurd rfl c1)
  exact lb_done C0 hA2 hbA hS hl
set_option maxHeartbeats 4000000 in
set_option maxRecDepth 100000 in
/-- the turn of case 11 -/
theorem lb_11 {p : Program} {l : Launch} {e : Env} {s : State} {m : MethodId} {below : List Frame} {meth : Method} {c : Code} {b : Nat} {xs : Nat → Int32} {A : Nat → Prop} {dC : Nat → ClassId} {dI : Nat → Nat → Nat} {cI cB cJ cZ : ClassId} (C0 : lw_At p s m meth c b 6 xs) (hA : ∀ q, s.heap.size ≤ q → A q) (hA2 : ∀ q, A q → s.heap.size ≤ q) (hbA : ¬ A b) (hK : va_K (dC, dI) CL (TY cI cB cJ cZ) s) {h1 h2 xv0 xq0 xa0 xo0 xf0 xa xy ya : Nat} {XF XVv XQq XAa XOo XFf YF : List Value} {H : Heap} {locs : List Loc} {ls : Array Slot} (hP : va_P (dC, dI) CL [(h1, .inr (0, XF)), (xv0, .inr (6, XVv)), (xq0, .inr (9, XQq)), (xa0, .inr (10, XAa)), (xo0, .inr (7, XOo)), (xf0, .inr (1, XFf)), (xa, .inl (cI, 3, .inl (upd (upd (upd (fun _ => 0) (0 : Int32).toNatClampNeg (-1)) (1 : Int32).toNatClampNeg (-1)) (2 : Int32).toNatClampNeg (-1)))), (h2, .inr (12, YF)), (ya, .inl (cI, 3, .inl (upd (upd (upd (fun _ => 0) (0 : Int32).toNatClampNeg (-1)) (1 : Int32).toNatClampNeg (-1)) (2 : Int32).toNatClampNeg (-1))))] H) (hD : va_D A [(h1, .inr (0, XF)), (xv0, .inr (6, XVv)), (xq0, .inr (9, XQq)), (xa0, .inr (10, XAa)), (xo0, .inr (7, XOo)), (xf0, .inr (1, XFf)), (xa, .inl (cI, 3, .inl (upd (upd (upd (fun _ => 0) (0 : Int32).toNatClampNeg (-1)) (1 : Int32).toNatClampNeg (-1)) (2 : Int32).toNatClampNeg (-1)))), (h2, .inr (12, YF)), (ya, .inl (cI, 3, .inl (upd (upd (upd (fun _ => 0) (0 : Int32).toNatClampNeg (-1)) (1 : Int32).toNatClampNeg (-1)) (2 : Int32).toNatClampNeg (-1))))]) (hS : va_S A s.heap H locs) (hl : lv_has ls 4 [(3, .int 0), (2, .ref h2), (1, .ref h1), (0, .ref b)]) (nXF : XF.length = 15) (gXF_8 : XF[8]? = some (.ref xv0)) (gXF_10 : XF[10]? = some (.ref xq0)) (gXF_12 : XF[12]? = some (.ref xa0)) (gXF_9 : XF[9]? = some (.ref xo0)) (gXF_2 : XF[2]? = some (.ref xf0)) (nXVv : XVv.length = 20) (nXQq : XQq.length = 20) (nXAa : XAa.length = 16) (nXOo : XOo.length = 17) (gXOo_4 : XOo[4]? = some (.ref xa)) (gXOo_3 : XOo[3]? = some (.int 0)) (nXFf : XFf.length = 7) (gXFf_0 : XFf[0]? = some (.ref xy)) (gXFf_1 : XFf[1]? = some (.int 0)) (nYF : YF.length = 167) (gYF_65 : YF[65]? = some (.int 0)) (gYF_83 : YF[83]? = some (.int 0)) (gYF_80 : YF[80]? = some (.ref ya)) : W p l e room_1 s m #[Value.ref b] below meth c H locs 267 1600544 (lw_Z below #[Value.ref b] s) (F0 m 393 ls []) := by
  obtain ⟨hx, hb, hr, hml, hown0, hts, hX, hbl, hlocks, hgv⟩ := id C0
  have hown : s.vm.findClass R_Law = some m.cls := hown0
  have hT : ∀ w ∈ TG, w.before #[Value.ref b] s = true := fun w h => hts w (TG_lw w h)
  have hN : NW s := NW.of hts
  have hSW : SW s := SW.of hts
  refine lv_aload_n hx hb d_law_393 rfl (lv_at hl 2 rfl) ?_
  have hPc := hP.sub (ws' := [(h1, .inr (0, XF)), (xv0, .inr (6, XVv)), (xq0, .inr (9, XQq)), (xa0, .inr (10, XAa)), (xo0, .inr (7, XOo)), (xf0, .inr (1, XFf)), (xa, .inl (cI, 3, .inl (upd (upd (upd (fun _ => 0) (0 : Int32).toNatClampNeg (-1)) (1 : Int32).toNatClampNeg (-1)) (2 : Int32).toNatClampNeg (-1))))]) [0, 1, 2, 3, 4, 5, 6] rfl
  have hDc := hD.sub (ws' := [(h1, .inr (0, XF)), (xv0, .inr (6, XVv)), (xq0, .inr (9, XQq)), (xa0, .inr (10, XAa)), (xo0, .inr (7, XOo)), (xf0, .inr (1, XFf)), (xa, .inl (cI, 3, .inl (upd (upd (upd (fun _ => 0) (0 : Int32).toNatClampNeg (-1)) (1 : Int32).toNatClampNeg (-1)) (2 : Int32).toNatClampNeg (-1))))]) [0, 1, 2, 3, 4, 5, 6] (by decide) rfl
  have hFc := va_free (wc := [(h1, .inr (0, XF)), (xv0, .inr (6, XVv)), (xq0, .inr (9, XQq)), (xa0, .inr (10, XAa)), (xo0, .inr (7, XOo)), (xf0, .inr (1, XFf)), (xa, .inl (cI, 3, .inl (upd (upd (upd (fun _ => 0) (0 : Int32).toNatClampNeg (-1)) (1 : Int32).toNatClampNeg (-1)) (2 : Int32).toNatClampNeg (-1))))]) hD hS hA [0, 1, 2, 3, 4, 5, 6] rfl
  refine va_calli (va_runV (C := R_V) (As := []) (rest := []) ⟨hx, hb, hml, hown, hT⟩ (c_V_open_none l dC dI cI cB cJ cZ H.size h1 XF xv0 XVv xq0 XQq xa0 XAa xo0 XOo xf0 XFf xa xy (upd (upd (upd (fun _ => 0) (0 : Int32).toNatClampNeg (-1)) (1 : Int32).toNatClampNeg (-1)) (2 : Int32).toNatClampNeg (-1)) nXF gXF_8 gXF_10 gXF_12 gXF_9 gXF_2 nXVv nXQq nXAa nXOo gXOo_4 gXOo_3 nXFf gXFf_0 gXFf_1) ⟨callB_of 0 hT (gw_in w_6_73) rfl rfl rfl (hT _ w_1_1) (hT _ w_6_70) (by decide +kernel) ⟨Nat.le_of_ble_eq_true rfl, Nat.le_of_ble_eq_true rfl⟩, hT _ w_6_71, hT _ w_6_72⟩ ⟨PC.blind, va_recv hK hPc (ci := 0) (q0 := 0) rfl rfl, PC.at _ hPc hDc hK hN⟩ rfl rfl hl.1 rfl (lv_room (Nat.le_of_ble_eq_true rfl)) d_law_394 ⟨show _ ≤ 600000 by omega, show _ ≤ 7302250 by omega⟩) hS (fun q _ h => hFc q h) hFc (fun r1 u t H1 locs ht hvm hw hB hz1 hk1 hS => ?_)
  have hw : (13) = r1 := Eq.symm hw
  subst hw
  obtain ⟨hP, hD⟩ := va_join (wr := [(h2, .inr (12, YF)), (ya, .inl (cI, 3, .inl (upd (upd (upd (fun _ => 0) (0 : Int32).toNatClampNeg (-1)) (1 : Int32).toNatClampNeg (-1)) (2 : Int32).toNatClampNeg (-1))))]) (w1 := []) hP hD [0, 1, 2, 3, 4, 5, 6] [7, 8] rfl rfl (by decide) (by decide) hk1 hFc nilP nilD
  generalize H1 = H at hP hS ⊢
  have hP : va_P (dC, dI) CL [(h2, .inr (12, YF)), (ya, .inl (cI, 3, .inl (upd (upd (upd (fun _ => 0) (0 : Int32).toNatClampNeg (-1)) (1 : Int32).toNatClampNeg (-1)) (2 : Int32).toNatClampNeg (-1))))] H := hP
  have hD : va_D A [(h2, .inr (12, YF)), (ya, .inl (cI, 3, .inl (upd (upd (upd (fun _ => 0) (0 : Int32).toNatClampNeg (-1)) (1 : Int32).toNatClampNeg (-1)) (2 : Int32).toNatClampNeg (-1))))] := hD
  refine lv_aload_n hx hb d_law_397 rfl (lv_at hl 1 rfl) ?_
  have hPc := hP.sub (ws' := [(h2, .inr (12, YF)), (ya, .inl (cI, 3, .inl (upd (upd (upd (fun _ => 0) (0 : Int32).toNatClampNeg (-1)) (1 : Int32).toNatClampNeg (-1)) (2 : Int32).toNatClampNeg (-1))))]) [0, 1] rfl
  have hDc := hD.sub (ws' := [(h2, .inr (12, YF)), (ya, .inl (cI, 3, .inl (upd (upd (upd (fun _ => 0) (0 : Int32).toNatClampNeg (-1)) (1 : Int32).toNatClampNeg (-1)) (2 : Int32).toNatClampNeg (-1))))]) [0, 1] (by decide) rfl
  have hFc := va_free (wc := [(h2, .inr (12, YF)), (ya, .inl (cI, 3, .inl (upd (upd (upd (fun _ => 0) (0 : Int32).toNatClampNeg (-1)) (1 : Int32).toNatClampNeg (-1)) (2 : Int32).toNatClampNeg (-1))))]) hD hS hA [0, 1] rfl
  refine va_calli (va_runV (C := R_Mod) (As := []) (rest := [.int 13]) ⟨hx, hb, hml, hown, hT⟩ (c_Mod_open_none l dC dI cI cB cJ cZ H.size h2 YF ya (upd (upd (upd (fun _ => 0) (0 : Int32).toNatClampNeg (-1)) (1 : Int32).toNatClampNeg (-1)) (2 : Int32).toNatClampNeg (-1)) nYF gYF_65 gYF_83 gYF_80) ⟨callB_of 0 hT (gw_in w_12_99) rfl rfl rfl (hT _ w_1_15) (hT _ w_12_96) (by decide +kernel) ⟨Nat.le_of_ble_eq_true rfl, Nat.le_of_ble_eq_true rfl⟩, hT _ w_12_97, hT _ w_12_98⟩ ⟨PC.blind, va_recv hK hPc (ci := 12) (q0 := 0) rfl rfl, PC.at _ hPc hDc hK hN⟩ rfl rfl hl.1 rfl (lv_room (Nat.le_of_ble_eq_true rfl)) d_law_398 ⟨show _ ≤ 600000 by omega, show _ ≤ 7302250 by omega⟩) hS (fun q _ h => hFc q h) hFc (fun r2 u t H1 locs ht hvm hw hB hz1 hk1 hS => ?_)
  have hw : (13) = r2 := Eq.symm hw
  subst hw
  obtain ⟨hP, hD⟩ := va_join (wr := []) (w1 := []) hP hD [0, 1] [] rfl rfl (by decide) (by decide) hk1 hFc nilP nilD
  generalize H1 = H at hP hS ⊢
  have hP : va_P (dC, dI) CL [] H := hP
  have hD : va_D A [] := hD
  refine lv_icmp_eq (tgt := 703) hx hb d_law_401 (by decide) (fun c1 => ?_) (fun c1 => by first | exact absurd c1 (by decide) | exact absurd (by decide) c1)
  exact lb_done C0 hA2 hbA hS hl
set_option maxHeartbeats 4000000 in
set_option maxRecDepth 100000 in
/-- the turn of case 12 -/
theorem lb_12 {p : Program} {l : Launch} {e : Env} {s : State} {m : MethodId} {below : List Frame} {meth : Method} {c : Code} {b : Nat} {xs : Nat → Int32} {A : Nat → Prop} {dC : Nat → ClassId} {dI : Nat → Nat → Nat} {cI cB cJ cZ : ClassId} (C0 : lw_At p s m meth c b 6 xs) (hA : ∀ q, s.heap.size ≤ q → A q) (hA2 : ∀ q, A q → s.heap.size ≤ q) (hbA : ¬ A b) (hK : va_K (dC, dI) CL (TY cI cB cJ cZ) s) {h1 h2 xf xa ya : Nat} {XF XS YF : List Value} {H : Heap} {locs : List Loc} {ls : Array Slot} (hP : va_P (dC, dI) CL [(h1, .inr (0, XF)), (xf, .inr (7, XS)), (xa, .inl (cI, 3, .inl (upd (upd (upd (fun _ => 0) (0 : Int32).toNatClampNeg (-1)) (1 : Int32).toNatClampNeg (-1)) (2 : Int32).toNatClampNeg (-1)))), (h2, .inr (12, YF)), (ya, .inl (cI, 3, .inl (upd (upd (upd (fun _ => 0) (0 : Int32).toNatClampNeg (-1)) (1 : Int32).toNatClampNeg (-1)) (2 : Int32).toNatClampNeg (-1))))] H) (hD : va_D A [(h1, .inr (0, XF)), (xf, .inr (7, XS)), (xa, .inl (cI, 3, .inl (upd (upd (upd (fun _ => 0) (0 : Int32).toNatClampNeg (-1)) (1 : Int32).toNatClampNeg (-1)) (2 : Int32).toNatClampNeg (-1)))), (h2, .inr (12, YF)), (ya, .inl (cI, 3, .inl (upd (upd (upd (fun _ => 0) (0 : Int32).toNatClampNeg (-1)) (1 : Int32).toNatClampNeg (-1)) (2 : Int32).toNatClampNeg (-1))))]) (hS : va_S A s.heap H locs) (hl : lv_has ls 4 [(3, .int 0), (2, .ref h2), (1, .ref h1), (0, .ref b)]) (nXF : XF.length = 15) (gXF_9 : XF[9]? = some (.ref xf)) (nXS : XS.length = 17) (gXS_4 : XS[4]? = some (.ref xa)) (nYF : YF.length = 167) (gYF_80 : YF[80]? = some (.ref ya)) : W p l e room_1 s m #[Value.ref b] below meth c H locs 267 1600544 (lw_Z below #[Value.ref b] s) (F0 m 406 ls []) := by
  obtain ⟨hx, hb, hr, hml, hown0, hts, hX, hbl, hlocks, hgv⟩ := id C0
  have hown : s.vm.findClass R_Law = some m.cls := hown0
  have hT : ∀ w ∈ TG, w.before #[Value.ref b] s = true := fun w h => hts w (TG_lw w h)
  have hN : NW s := NW.of hts
  have hSW : SW s := SW.of hts
  refine lv_aload_n hx hb d_law_406 rfl (lv_at hl 2 rfl) ?_
  refine lv_aload_n hx hb d_law_407 rfl (lv_at hl 3 rfl) ?_
  refine lv_iload_n hx hb d_law_408 rfl (lv_at hl 0 rfl) ?_
  refine lv_iconst (v := 1) hx hb d_law_409 (by decide) ?_
  refine lv_iadd hx hb d_law_410 ?_
  refine va_sld hx hb hX hbl hbA hS (vp_lit (by decide)) d_law_411 ?_
  have hPc := hP.sub (ws' := [(h1, .inr (0, XF)), (xf, .inr (7, XS)), (xa, .inl (cI, 3, .inl (upd (upd (upd (fun _ => 0) (0 : Int32).toNatClampNeg (-1)) (1 : Int32).toNatClampNeg (-1)) (2 : Int32).toNatClampNeg (-1))))]) [0, 1, 2] rfl
  have hDc := hD.sub (ws' := [(h1, .inr (0, XF)), (xf, .inr (7, XS)), (xa, .inl (cI, 3, .inl (upd (upd (upd (fun _ => 0) (0 : Int32).toNatClampNeg (-1)) (1 : Int32).toNatClampNeg (-1)) (2 : Int32).toNatClampNeg (-1))))]) [0, 1, 2] (by decide) rfl
  have hFc := va_free (wc := [(h1, .inr (0, XF)), (xf, .inr (7, XS)), (xa, .inl (cI, 3, .inl (upd (upd (upd (fun _ => 0) (0 : Int32).toNatClampNeg (-1)) (1 : Int32).toNatClampNeg (-1)) (2 : Int32).toNatClampNeg (-1))))]) hD hS hA [0, 1, 2] rfl
  refine va_calli (va_runV (C := R_V) (As := [.int (xs ((0 + 1) : Int32).toNatClampNeg)]) (rest := []) ⟨hx, hb, hml, hown, hT⟩ (c_V_fault l dC dI cI cB cJ cZ H.size h1 XF xf XS xa (upd (upd (upd (fun _ => 0) (0 : Int32).toNatClampNeg (-1)) (1 : Int32).toNatClampNeg (-1)) (2 : Int32).toNatClampNeg (-1)) (xs ((0 + 1) : Int32).toNatClampNeg) nXF gXF_9 nXS gXS_4) ⟨callB_of 1 hT (gw_in w_7_67) rfl rfl rfl (hT _ w_1_1) (hT _ w_7_64) (by decide +kernel) ⟨Nat.le_of_ble_eq_true rfl, Nat.le_of_ble_eq_true rfl⟩, hT _ w_7_65, hT _ w_7_66⟩ ⟨PC.blind, va_recv hK hPc (ci := 0) (q0 := 0) rfl rfl, PC.at _ hPc hDc hK hN⟩ rfl rfl hl.1 rfl (lv_room (Nat.le_of_ble_eq_true rfl)) d_law_412 ⟨show _ ≤ 600000 by omega, show _ ≤ 7302250 by omega⟩) hS (fun q _ h => hFc q h) hFc (fun r1 u t H1 locs ht hvm hw hB hz1 hk1 hS => ?_)
  have hw : (sp_upto (xs ((0 + 1) : Int32).toNatClampNeg) 2 ((upd (upd (upd (fun _ => 0) (0 : Int32).toNatClampNeg (-1)) (1 : Int32).toNatClampNeg (-1)) (2 : Int32).toNatClampNeg (-1)) (xs ((0 + 1) : Int32).toNatClampNeg).toNatClampNeg)) = r1 := Eq.symm hw
  subst hw
  obtain ⟨hP, hD⟩ := va_join (wr := [(h2, .inr (12, YF)), (ya, .inl (cI, 3, .inl (upd (upd (upd (fun _ => 0) (0 : Int32).toNatClampNeg (-1)) (1 : Int32).toNatClampNeg (-1)) (2 : Int32).toNatClampNeg (-1))))]) (w1 := []) hP hD [0, 1, 2] [3, 4] rfl rfl (by decide) (by decide) hk1 hFc nilP nilD
  generalize H1 = H at hP hS ⊢
  have hP : va_P (dC, dI) CL [(h2, .inr (12, YF)), (ya, .inl (cI, 3, .inl (upd (upd (upd (fun _ => 0) (0 : Int32).toNatClampNeg (-1)) (1 : Int32).toNatClampNeg (-1)) (2 : Int32).toNatClampNeg (-1))))] H := hP
  have hD : va_D A [(h2, .inr (12, YF)), (ya, .inl (cI, 3, .inl (upd (upd (upd (fun _ => 0) (0 : Int32).toNatClampNeg (-1)) (1 : Int32).toNatClampNeg (-1)) (2 : Int32).toNatClampNeg (-1))))] := hD
  refine lv_aload_n hx hb d_law_415 rfl (lv_at hl 1 rfl) ?_
  refine lv_aload_n hx hb d_law_416 rfl (lv_at hl 3 rfl) ?_
  refine lv_iload_n hx hb d_law_417 rfl (lv_at hl 0 rfl) ?_
  refine lv_iconst (v := 1) hx hb d_law_418 (by decide) ?_
  refine lv_iadd hx hb d_law_419 ?_
  refine va_sld hx hb hX hbl hbA hS (vp_lit (by decide)) d_law_420 ?_
  have hPc := hP.sub (ws' := [(h2, .inr (12, YF)), (ya, .inl (cI, 3, .inl (upd (upd (upd (fun _ => 0) (0 : Int32).toNatClampNeg (-1)) (1 : Int32).toNatClampNeg (-1)) (2 : Int32).toNatClampNeg (-1))))]) [0, 1] rfl
  have hDc := hD.sub (ws' := [(h2, .inr (12, YF)), (ya, .inl (cI, 3, .inl (upd (upd (upd (fun _ => 0) (0 : Int32).toNatClampNeg (-1)) (1 : Int32).toNatClampNeg (-1)) (2 : Int32).toNatClampNeg (-1))))]) [0, 1] (by decide) rfl
  have hFc := va_free (wc := [(h2, .inr (12, YF)), (ya, .inl (cI, 3, .inl (upd (upd (upd (fun _ => 0) (0 : Int32).toNatClampNeg (-1)) (1 : Int32).toNatClampNeg (-1)) (2 : Int32).toNatClampNeg (-1))))]) hD hS hA [0, 1] rfl
  refine va_calli (va_runV (C := R_Mod) (As := [.int (xs ((0 + 1) : Int32).toNatClampNeg)]) (rest := [.int (sp_upto (xs ((0 + 1) : Int32).toNatClampNeg) 2 ((upd (upd (upd (fun _ => 0) (0 : Int32).toNatClampNeg (-1)) (1 : Int32).toNatClampNeg (-1)) (2 : Int32).toNatClampNeg (-1)) (xs ((0 + 1) : Int32).toNatClampNeg).toNatClampNeg))]) ⟨hx, hb, hml, hown, hT⟩ (c_Mod_fault l dC dI cI cB cJ cZ H.size h2 YF ya (upd (upd (upd (fun _ => 0) (0 : Int32).toNatClampNeg (-1)) (1 : Int32).toNatClampNeg (-1)) (2 : Int32).toNatClampNeg (-1)) (xs ((0 + 1) : Int32).toNatClampNeg) nYF gYF_80) ⟨callB_of 1 hT (gw_in w_13_42) rfl rfl rfl (hT _ w_1_15) (hT _ w_13_39) (by decide +kernel) ⟨Nat.le_of_ble_eq_true rfl, Nat.le_of_ble_eq_true rfl⟩, hT _ w_13_40, hT _ w_13_41⟩ ⟨PC.blind, va_recv hK hPc (ci := 12) (q0 := 0) rfl rfl, PC.at _ hPc hDc hK hN⟩ rfl rfl hl.1 rfl (lv_room (Nat.le_of_ble_eq_true rfl)) d_law_421 ⟨show _ ≤ 600000 by omega, show _ ≤ 7302250 by omega⟩) hS (fun q _ h => hFc q h) hFc (fun r2 u t H1 locs ht hvm hw hB hz1 hk1 hS => ?_)
  have hw : (sp_upto (xs ((0 + 1) : Int32).toNatClampNeg) 2 ((upd (upd (upd (fun _ => 0) (0 : Int32).toNatClampNeg (-1)) (1 : Int32).toNatClampNeg (-1)) (2 : Int32).toNatClampNeg (-1)) (xs ((0 + 1) : Int32).toNatClampNeg).toNatClampNeg)) = r2 := Eq.symm hw
  subst hw
  obtain ⟨hP, hD⟩ := va_join (wr := []) (w1 := []) hP hD [0, 1] [] rfl rfl (by decide) (by decide) hk1 hFc nilP nilD
  generalize H1 = H at hP hS ⊢
  have hP : va_P (dC, dI) CL [] H := hP
  have hD : va_D A [] := hD
  refine lv_icmp_eq (tgt := 703) hx hb d_law_424 (by decide) (fun c1 => ?_) (fun c1 => absurd rfl c1)
  exact lb_done C0 hA2 hbA hS hl
end
