set_option maxHeartbeats 4000000 in
set_option maxRecDepth 100000 in
/-- the turn of case 0 -/
theorem lwt_0 {p : Program} {l : Launch} {e : Env} {s : State} {m : MethodId} {below : List Frame} {meth : Method} {c : Code} {b L : Nat} {xs : Nat → Int32} {A : Nat → Prop} {dC : Nat → ClassId} {dI : Nat → Nat → Nat} {cI cB cJ cZ : ClassId} {tM tC : Nat} {kK kV : Nat → Nat} (C0 : lw_At p s m meth c b L xs) (hL : L ≤ 3072) (hA : ∀ q : Nat, s.heap.size ≤ q → A q) (hA2 : ∀ q : Nat, A q → s.heap.size ≤ q) (hbA : ¬ A b) (hK : va_K (dC, dI) CL (TY cI cB cJ cZ) s) (hE : CE s.heap tM tC kK kV A s) {i : Nat} (hi : i + 6 ≤ L) {ad ad' : Nat → Nat} {NN : Nat} {κ : Nat → Nat} {x y : St} {H : Heap} {locs : List Loc} {cells slots : Nat} {ls : Array Slot} (h : LB dC dI cI cB cJ cZ A ad ad' NN κ x y H) (hS : va_S A s.heap H locs) (hl : lv_has ls 4 [(3, .int (nI i)), (2, .ref (ad' 0)), (1, .ref (ad 0)), (0, .ref b)]) (hc : cells + KP κ ≤ 600000) (hs : slots + NP κ ≤ 7302250) (kk : ∀ {ad1 : Nat → Nat} {NN1 : Nat} {κ1 : Nat → Nat} {x1 y1 : St} {H1 : Heap} {locs1 : List Loc} {cells1 slots1 : Nat}, LB dC dI cI cB cJ cZ A ad1 ad' NN1 κ1 x1 y1 H1 → ad1 0 = ad 0 → va_S A s.heap H1 locs1 → cells1 + KP κ1 ≤ 600000 → slots1 + NP κ1 ≤ 7302250 → W p l e room_1 s m #[Value.ref b] below meth c H1 locs1 cells1 slots1 (lw_Z below #[Value.ref b] s) (F0 m 703 ls [])) : W p l e room_1 s m #[Value.ref b] below meth c H locs cells slots (lw_Z below #[Value.ref b] s) (F0 m 144 ls []) := by
  obtain ⟨hx, hb, hr, hml, hown0, hts, hX, hbl, hlocks, hgv⟩ := id C0
  have hown : s.vm.findClass R_Law = some m.cls := hown0
  have hT : ∀ w ∈ TG, w.before #[Value.ref b] s = true := fun w h => hts w (TG_lw w h)
  have hN : NW s := NW.of hts
  obtain ⟨hNN, hW, hV, hSep, hI⟩ := h
  have hF := hW.free hS hA
  refine lv_aload_n hx hb d_law_144 rfl (lv_at hl 2 rfl) ?_
  refine lv_aload_n hx hb d_law_145 rfl (lv_at hl 3 rfl) ?_
  refine lv_iload_n hx hb d_law_146 rfl (lv_at hl 0 rfl) ?_
  refine lv_iconst (v := 1) hx hb d_law_147 (by decide) ?_
  refine lv_iadd hx hb d_law_148 ?_
  refine va_sld hx hb hX hbl hbA hS (ix_in (t := 1) rfl (by omega) hL) d_law_149 ?_
  refine lv_aload_n hx hb d_law_150 rfl (lv_at hl 3 rfl) ?_
  refine lv_iload_n hx hb d_law_151 rfl (lv_at hl 0 rfl) ?_
  refine lv_iconst (v := 2) hx hb d_law_152 (by decide) ?_
  refine lv_iadd hx hb d_law_153 ?_
  refine va_sld hx hb hX hbl hbA hS (ix_in (t := 2) rfl (by omega) hL) d_law_154 ?_
  refine lv_aload_n hx hb d_law_155 rfl (lv_at hl 3 rfl) ?_
  refine lv_iload_n hx hb d_law_156 rfl (lv_at hl 0 rfl) ?_
  refine lv_iconst (v := 3) hx hb d_law_157 (by decide) ?_
  refine lv_iadd hx hb d_law_158 ?_
  refine va_sld hx hb hX hbl hbA hS (ix_in (t := 3) rfl (by omega) hL) d_law_159 ?_
  refine lv_aload_n hx hb d_law_160 rfl (lv_at hl 3 rfl) ?_
  refine lv_iload_n hx hb d_law_161 rfl (lv_at hl 0 rfl) ?_
  refine lv_iconst (v := 4) hx hb d_law_162 (by decide) ?_
  refine lv_iadd hx hb d_law_163 ?_
  refine va_sld hx hb hX hbl hbA hS (ix_in (t := 4) rfl (by omega) hL) d_law_164 ?_
  refine lv_aload_n hx hb d_law_165 rfl (lv_at hl 3 rfl) ?_
  refine lv_iload_n hx hb d_law_166 rfl (lv_at hl 0 rfl) ?_
  refine lv_iconst (v := 5) hx hb d_law_167 (by decide) ?_
  refine lv_iadd hx hb d_law_168 ?_
  refine va_sld hx hb hX hbl hbA hS (ix_in (t := 5) rfl (by omega) hL) d_law_169 ?_
  obtain ⟨κ1, hKl, hJ⟩ := J_feed (l1 := (xs (nI i + 1).toNatClampNeg)) (l2 := (xs (nI i + 2).toNatClampNeg)) (l3 := (xs (nI i + 3).toNatClampNeg)) (l4 := (xs (nI i + 4).toNatClampNeg)) (l5 := (xs (nI i + 5).toNatClampNeg)) hI
  have hKN := KP_le hKl
  refine va_calli (va_runV (C := R_V) (As := [.int (xs (nI i + 1).toNatClampNeg), .int (xs (nI i + 2).toNatClampNeg), .int (xs (nI i + 3).toNatClampNeg), .int (xs (nI i + 4).toNatClampNeg), .int (xs (nI i + 5).toNatClampNeg)]) (rest := []) ⟨hx, hb, hml, hown, hT⟩ (k_V_feed l dC dI cI cB cJ cZ ad NN s.heap tM tC kK kV hNN H.size 0 (xs (nI i + 1).toNatClampNeg) (xs (nI i + 2).toNatClampNeg) (xs (nI i + 3).toNatClampNeg) (xs (nI i + 4).toNatClampNeg) (xs (nI i + 5).toNatClampNeg) (KP κ - KP κ1) (NP κ - NP κ1) x ⟨by omega, rfl⟩ (hJ _ _ (by omega) (by omega))) ⟨callB_of 5 hT (gwt_in w_4_44) rfl rfl rfl (hT _ w_1_1) (hT _ w_4_41) (by decide +kernel) ⟨Nat.le_of_ble_eq_true rfl, Nat.le_of_ble_eq_true rfl⟩, hT _ w_4_42, hT _ w_4_43⟩ ⟨PVc.blind, va_recv hK hW.1 (ci := 0) (q0 := 0) rfl (pic_obj (by omega) rfl (by decide)), PVc.at _ hW hK hN hE hS hF⟩ rfl rfl hl.1 rfl (lv_room (Nat.le_of_ble_eq_true rfl)) d_law_170 ⟨show _ ≤ 600000 by omega, show _ ≤ 7302250 by omega⟩) hS (fun q _ h => hF q h) hF (fun r u t H1 locs ht hvm hw hB hz1 hk1 hS => ?_)
  obtain ⟨hB, hN1, hAd⟩ := hB
  rw [ht] at hB
  have hV1 := hV.away hk1 hSep.hd
  have hSep1 : Sep u.2.1 u.2.2 ad' 115 := hB.sep (fun j hj => hV.lt hj) hSep.hd
  have hW1 : Wd dC dI cI cB cJ cZ u.2.1 stC kcC u.2.2 A u.1 H1 := hB.back rfl hF
  have hF2 := hV1.free hS hA
  have hw : wp_Mod_feed (fun r' y' => r = r' ∧ Inv κ1 u.1 y') (xs (nI i + 1).toNatClampNeg) (xs (nI i + 2).toNatClampNeg) (xs (nI i + 3).toNatClampNeg) (xs (nI i + 4).toNatClampNeg) (xs (nI i + 5).toNatClampNeg) y := hw
  refine lv_aload_n hx hb d_law_173 rfl (lv_at hl 1 rfl) ?_
  refine lv_aload_n hx hb d_law_174 rfl (lv_at hl 3 rfl) ?_
  refine lv_iload_n hx hb d_law_175 rfl (lv_at hl 0 rfl) ?_
  refine lv_iconst (v := 1) hx hb d_law_176 (by decide) ?_
  refine lv_iadd hx hb d_law_177 ?_
  refine va_sld hx hb hX hbl hbA hS (ix_in (t := 1) rfl (by omega) hL) d_law_178 ?_
  refine lv_aload_n hx hb d_law_179 rfl (lv_at hl 3 rfl) ?_
  refine lv_iload_n hx hb d_law_180 rfl (lv_at hl 0 rfl) ?_
  refine lv_iconst (v := 2) hx hb d_law_181 (by decide) ?_
  refine lv_iadd hx hb d_law_182 ?_
  refine va_sld hx hb hX hbl hbA hS (ix_in (t := 2) rfl (by omega) hL) d_law_183 ?_
  refine lv_aload_n hx hb d_law_184 rfl (lv_at hl 3 rfl) ?_
  refine lv_iload_n hx hb d_law_185 rfl (lv_at hl 0 rfl) ?_
  refine lv_iconst (v := 3) hx hb d_law_186 (by decide) ?_
  refine lv_iadd hx hb d_law_187 ?_
  refine va_sld hx hb hX hbl hbA hS (ix_in (t := 3) rfl (by omega) hL) d_law_188 ?_
  refine lv_aload_n hx hb d_law_189 rfl (lv_at hl 3 rfl) ?_
  refine lv_iload_n hx hb d_law_190 rfl (lv_at hl 0 rfl) ?_
  refine lv_iconst (v := 4) hx hb d_law_191 (by decide) ?_
  refine lv_iadd hx hb d_law_192 ?_
  refine va_sld hx hb hX hbl hbA hS (ix_in (t := 4) rfl (by omega) hL) d_law_193 ?_
  refine lv_aload_n hx hb d_law_194 rfl (lv_at hl 3 rfl) ?_
  refine lv_iload_n hx hb d_law_195 rfl (lv_at hl 0 rfl) ?_
  refine lv_iconst (v := 5) hx hb d_law_196 (by decide) ?_
  refine lv_iadd hx hb d_law_197 ?_
  refine va_sld hx hb hX hbl hbA hS (ix_in (t := 5) rfl (by omega) hL) d_law_198 ?_
  refine va_calli (va_runV (C := R_Mod) (As := [.int (xs (nI i + 1).toNatClampNeg), .int (xs (nI i + 2).toNatClampNeg), .int (xs (nI i + 3).toNatClampNeg), .int (xs (nI i + 4).toNatClampNeg), .int (xs (nI i + 5).toNatClampNeg)]) (rest := [.int r]) ⟨hx, hb, hml, hown, hT⟩ (k_Mod_feed l dC dI cI cB cJ cZ ad' H1.size (xs (nI i + 1).toNatClampNeg) (xs (nI i + 2).toNatClampNeg) (xs (nI i + 3).toNatClampNeg) (xs (nI i + 4).toNatClampNeg) (xs (nI i + 5).toNatClampNeg) y hw) ⟨callB_of 5 hT (gwt_in w_10_201) rfl rfl rfl (hT _ w_1_15) (hT _ w_10_198) (by decide +kernel) ⟨Nat.le_of_ble_eq_true rfl, Nat.le_of_ble_eq_true rfl⟩, hT _ w_10_199, hT _ w_10_200⟩ ⟨PW.blind, va_recv hK hV1.1 (ci := 12) (q0 := 0) rfl (pic_obj (by decide) rfl (by decide)), PW.at _ hV1 hK hN⟩ rfl rfl hl.1 rfl (lv_room (Nat.le_of_ble_eq_true rfl)) d_law_199 ⟨show _ ≤ 600000 by omega, show _ ≤ 7302250 by omega⟩) hS (fun q _ h => hF2 q h) hF2 (fun r2 u2 t2 H2 locs ht2 hvm2 hw2 hB2 hz2 hk2 hS => ?_)
  rw [ht2] at hB2
  have hV2 : Wd dC dI cI cB cJ cZ ad' stM kcM 115 A u2 H2 := hB2.back rfl hF2
  have hW2 := hW1.away hk2 hSep1.hd'
  have hw2 : r = r2 ∧ Inv κ1 u.1 u2 := hw2
  have hI2 := hw2.2
  refine lv_icmp_eq (tgt := 703) hx hb d_law_202 (by decide) (fun c1 => ?_) (fun c1 => absurd hw2.1 c1)
  exact kk ⟨Nat.le_trans hNN hN1, hW2, hV2, hSep1, hI2⟩ (hAd 0 (by omega)) hS (by omega) (by omega)
set_option maxHeartbeats 4000000 in
set_option maxRecDepth 100000 in
/-- the turn of case 1 -/
theorem lwt_1 {p : Program} {l : Launch} {e : Env} {s : State} {m : MethodId} {below : List Frame} {meth : Method} {c : Code} {b L : Nat} {xs : Nat → Int32} {A : Nat → Prop} {dC : Nat → ClassId} {dI : Nat → Nat → Nat} {cI cB cJ cZ : ClassId} {tM tC : Nat} {kK kV : Nat → Nat} (C0 : lw_At p s m meth c b L xs) (hL : L ≤ 3072) (hA : ∀ q : Nat, s.heap.size ≤ q → A q) (hA2 : ∀ q : Nat, A q → s.heap.size ≤ q) (hbA : ¬ A b) (hK : va_K (dC, dI) CL (TY cI cB cJ cZ) s) (hE : CE s.heap tM tC kK kV A s) {i : Nat} (hi : i + 6 ≤ L) {ad ad' : Nat → Nat} {NN : Nat} {κ : Nat → Nat} {x y : St} {H : Heap} {locs : List Loc} {cells slots : Nat} {ls : Array Slot} (h : LB dC dI cI cB cJ cZ A ad ad' NN κ x y H) (hS : va_S A s.heap H locs) (hl : lv_has ls 4 [(3, .int (nI i)), (2, .ref (ad' 0)), (1, .ref (ad 0)), (0, .ref b)]) (hc : cells + KP κ ≤ 600000) (hs : slots + NP κ ≤ 7302250) (kk : ∀ {ad1 : Nat → Nat} {NN1 : Nat} {κ1 : Nat → Nat} {x1 y1 : St} {H1 : Heap} {locs1 : List Loc} {cells1 slots1 : Nat}, LB dC dI cI cB cJ cZ A ad1 ad' NN1 κ1 x1 y1 H1 → ad1 0 = ad 0 → va_S A s.heap H1 locs1 → cells1 + KP κ1 ≤ 600000 → slots1 + NP κ1 ≤ 7302250 → W p l e room_1 s m #[Value.ref b] below meth c H1 locs1 cells1 slots1 (lw_Z below #[Value.ref b] s) (F0 m 703 ls [])) : W p l e room_1 s m #[Value.ref b] below meth c H locs cells slots (lw_Z below #[Value.ref b] s) (F0 m 207 ls []) := by
  obtain ⟨hx, hb, hr, hml, hown0, hts, hX, hbl, hlocks, hgv⟩ := id C0
  have hown : s.vm.findClass R_Law = some m.cls := hown0
  have hT : ∀ w ∈ TG, w.before #[Value.ref b] s = true := fun w h => hts w (TG_lw w h)
  have hN : NW s := NW.of hts
  obtain ⟨hNN, hW, hV, hSep, hI⟩ := h
  have hF := hW.free hS hA
  refine lv_aload_n hx hb d_law_207 rfl (lv_at hl 2 rfl) ?_
  refine lv_aload_n hx hb d_law_208 rfl (lv_at hl 3 rfl) ?_
  refine lv_iload_n hx hb d_law_209 rfl (lv_at hl 0 rfl) ?_
  refine lv_iconst (v := 1) hx hb d_law_210 (by decide) ?_
  refine lv_iadd hx hb d_law_211 ?_
  refine va_sld hx hb hX hbl hbA hS (ix_in (t := 1) rfl (by omega) hL) d_law_212 ?_
  have hJ := J_end (l1 := (xs (nI i + 1).toNatClampNeg)) hI
  refine va_calli (va_runV (C := R_V) (As := [.int (xs (nI i + 1).toNatClampNeg)]) (rest := []) ⟨hx, hb, hml, hown, hT⟩ (k_V_end l dC dI cI cB cJ cZ ad NN s.heap tM tC kK kV hNN H.size 0 (xs (nI i + 1).toNatClampNeg) x ⟨by omega, rfl⟩ hJ) ⟨callB_of 1 hT (gwt_in w_4_77) rfl rfl rfl (hT _ w_1_1) (hT _ w_4_74) (by decide +kernel) ⟨Nat.le_of_ble_eq_true rfl, Nat.le_of_ble_eq_true rfl⟩, hT _ w_4_75, hT _ w_4_76⟩ ⟨PVc.blind, va_recv hK hW.1 (ci := 0) (q0 := 0) rfl (pic_obj (by omega) rfl (by decide)), PVc.at _ hW hK hN hE hS hF⟩ rfl rfl hl.1 rfl (lv_room (Nat.le_of_ble_eq_true rfl)) d_law_213 ⟨show _ ≤ 600000 by omega, show _ ≤ 7302250 by omega⟩) hS (fun q _ h => hF q h) hF (fun r u t H1 locs ht hvm hw hB hz1 hk1 hS => ?_)
  rw [ht] at hB
  have hV1 := hV.away hk1 hSep.hd
  have hSep1 := hSep
  have hW1 : Wd dC dI cI cB cJ cZ ad stC kcC NN A u H1 := hB.back rfl hF
  have hF2 := hV1.free hS hA
  have hw : wp_Mod_end (fun r' y' => r = r' ∧ Inv κ u y') (xs (nI i + 1).toNatClampNeg) y := hw
  refine lv_aload_n hx hb d_law_216 rfl (lv_at hl 1 rfl) ?_
  refine lv_aload_n hx hb d_law_217 rfl (lv_at hl 3 rfl) ?_
  refine lv_iload_n hx hb d_law_218 rfl (lv_at hl 0 rfl) ?_
  refine lv_iconst (v := 1) hx hb d_law_219 (by decide) ?_
  refine lv_iadd hx hb d_law_220 ?_
  refine va_sld hx hb hX hbl hbA hS (ix_in (t := 1) rfl (by omega) hL) d_law_221 ?_
  refine va_calli (va_runV (C := R_Mod) (As := [.int (xs (nI i + 1).toNatClampNeg)]) (rest := [.int r]) ⟨hx, hb, hml, hown, hT⟩ (k_Mod_end l dC dI cI cB cJ cZ ad' H1.size (xs (nI i + 1).toNatClampNeg) y hw) ⟨callB_of 1 hT (gwt_in w_10_205) rfl rfl rfl (hT _ w_1_15) (hT _ w_10_202) (by decide +kernel) ⟨Nat.le_of_ble_eq_true rfl, Nat.le_of_ble_eq_true rfl⟩, hT _ w_10_203, hT _ w_10_204⟩ ⟨PW.blind, va_recv hK hV1.1 (ci := 12) (q0 := 0) rfl (pic_obj (by decide) rfl (by decide)), PW.at _ hV1 hK hN⟩ rfl rfl hl.1 rfl (lv_room (Nat.le_of_ble_eq_true rfl)) d_law_222 ⟨show _ ≤ 600000 by omega, show _ ≤ 7302250 by omega⟩) hS (fun q _ h => hF2 q h) hF2 (fun r2 u2 t2 H2 locs ht2 hvm2 hw2 hB2 hz2 hk2 hS => ?_)
  rw [ht2] at hB2
  have hV2 : Wd dC dI cI cB cJ cZ ad' stM kcM 115 A u2 H2 := hB2.back rfl hF2
  have hW2 := hW1.away hk2 hSep1.hd'
  have hw2 : r = r2 ∧ Inv κ u u2 := hw2
  have hI2 := hw2.2
  refine lv_icmp_eq (tgt := 703) hx hb d_law_225 (by decide) (fun c1 => ?_) (fun c1 => absurd hw2.1 c1)
  exact kk ⟨hNN, hW2, hV2, hSep1, hI2⟩ rfl hS (by omega) (by omega)
set_option maxHeartbeats 4000000 in
set_option maxRecDepth 100000 in
/-- the turn of case 2 -/
theorem lwt_2 {p : Program} {l : Launch} {e : Env} {s : State} {m : MethodId} {below : List Frame} {meth : Method} {c : Code} {b L : Nat} {xs : Nat → Int32} {A : Nat → Prop} {dC : Nat → ClassId} {dI : Nat → Nat → Nat} {cI cB cJ cZ : ClassId} {tM tC : Nat} {kK kV : Nat → Nat} (C0 : lw_At p s m meth c b L xs) (hL : L ≤ 3072) (hA : ∀ q : Nat, s.heap.size ≤ q → A q) (hA2 : ∀ q : Nat, A q → s.heap.size ≤ q) (hbA : ¬ A b) (hK : va_K (dC, dI) CL (TY cI cB cJ cZ) s) (hE : CE s.heap tM tC kK kV A s) {i : Nat} (hi : i + 6 ≤ L) {ad ad' : Nat → Nat} {NN : Nat} {κ : Nat → Nat} {x y : St} {H : Heap} {locs : List Loc} {cells slots : Nat} {ls : Array Slot} (h : LB dC dI cI cB cJ cZ A ad ad' NN κ x y H) (hS : va_S A s.heap H locs) (hl : lv_has ls 4 [(3, .int (nI i)), (2, .ref (ad' 0)), (1, .ref (ad 0)), (0, .ref b)]) (hc : cells + KP κ ≤ 600000) (hs : slots + NP κ ≤ 7302250) (kk : ∀ {ad1 : Nat → Nat} {NN1 : Nat} {κ1 : Nat → Nat} {x1 y1 : St} {H1 : Heap} {locs1 : List Loc} {cells1 slots1 : Nat}, LB dC dI cI cB cJ cZ A ad1 ad' NN1 κ1 x1 y1 H1 → ad1 0 = ad 0 → va_S A s.heap H1 locs1 → cells1 + KP κ1 ≤ 600000 → slots1 + NP κ1 ≤ 7302250 → W p l e room_1 s m #[Value.ref b] below meth c H1 locs1 cells1 slots1 (lw_Z below #[Value.ref b] s) (F0 m 703 ls [])) : W p l e room_1 s m #[Value.ref b] below meth c H locs cells slots (lw_Z below #[Value.ref b] s) (F0 m 230 ls []) := by
  obtain ⟨hx, hb, hr, hml, hown0, hts, hX, hbl, hlocks, hgv⟩ := id C0
  have hown : s.vm.findClass R_Law = some m.cls := hown0
  have hT : ∀ w ∈ TG, w.before #[Value.ref b] s = true := fun w h => hts w (TG_lw w h)
  have hN : NW s := NW.of hts
  obtain ⟨hNN, hW, hV, hSep, hI⟩ := h
  have hF := hW.free hS hA
  refine lv_aload_n hx hb d_law_230 rfl (lv_at hl 2 rfl) ?_
  have hJ := J_schema  hI
  refine va_calli (va_runV (C := R_V) (As := []) (rest := []) ⟨hx, hb, hml, hown, hT⟩ (k_V_schema l dC dI cI cB cJ cZ ad NN s.heap tM tC kK kV hNN H.size 0  x ⟨by omega, rfl⟩ hJ) ⟨callB_of 0 hT (gwt_in w_4_85) rfl rfl rfl (hT _ w_1_1) (hT _ w_4_82) (by decide +kernel) ⟨Nat.le_of_ble_eq_true rfl, Nat.le_of_ble_eq_true rfl⟩, hT _ w_4_83, hT _ w_4_84⟩ ⟨PVc.blind, va_recv hK hW.1 (ci := 0) (q0 := 0) rfl (pic_obj (by omega) rfl (by decide)), PVc.at _ hW hK hN hE hS hF⟩ rfl rfl hl.1 rfl (lv_room (Nat.le_of_ble_eq_true rfl)) d_law_231 ⟨show _ ≤ 600000 by omega, show _ ≤ 7302250 by omega⟩) hS (fun q _ h => hF q h) hF (fun r u t H1 locs ht hvm hw hB hz1 hk1 hS => ?_)
  rw [ht] at hB
  have hV1 := hV.away hk1 hSep.hd
  have hSep1 := hSep
  have hW1 : Wd dC dI cI cB cJ cZ ad stC kcC NN A u H1 := hB.back rfl hF
  have hF2 := hV1.free hS hA
  have hw : wp_Mod_schema (fun r' y' => r = r' ∧ Inv κ u y')  y := hw
  refine lv_aload_n hx hb d_law_234 rfl (lv_at hl 1 rfl) ?_
  refine va_calli (va_runV (C := R_Mod) (As := []) (rest := [.int r]) ⟨hx, hb, hml, hown, hT⟩ (k_Mod_schema l dC dI cI cB cJ cZ ad' H1.size  y hw) ⟨callB_of 0 hT (gwt_in w_10_209) rfl rfl rfl (hT _ w_1_15) (hT _ w_10_206) (by decide +kernel) ⟨Nat.le_of_ble_eq_true rfl, Nat.le_of_ble_eq_true rfl⟩, hT _ w_10_207, hT _ w_10_208⟩ ⟨PW.blind, va_recv hK hV1.1 (ci := 12) (q0 := 0) rfl (pic_obj (by decide) rfl (by decide)), PW.at _ hV1 hK hN⟩ rfl rfl hl.1 rfl (lv_room (Nat.le_of_ble_eq_true rfl)) d_law_235 ⟨show _ ≤ 600000 by omega, show _ ≤ 7302250 by omega⟩) hS (fun q _ h => hF2 q h) hF2 (fun r2 u2 t2 H2 locs ht2 hvm2 hw2 hB2 hz2 hk2 hS => ?_)
  rw [ht2] at hB2
  have hV2 : Wd dC dI cI cB cJ cZ ad' stM kcM 115 A u2 H2 := hB2.back rfl hF2
  have hW2 := hW1.away hk2 hSep1.hd'
  have hw2 : r = r2 ∧ Inv κ u u2 := hw2
  have hI2 := hw2.2
  refine lv_icmp_eq (tgt := 703) hx hb d_law_238 (by decide) (fun c1 => ?_) (fun c1 => absurd hw2.1 c1)
  exact kk ⟨hNN, hW2, hV2, hSep1, hI2⟩ rfl hS (by omega) (by omega)
set_option maxHeartbeats 4000000 in
set_option maxRecDepth 100000 in
/-- the turn of case 3 -/
theorem lwt_3 {p : Program} {l : Launch} {e : Env} {s : State} {m : MethodId} {below : List Frame} {meth : Method} {c : Code} {b L : Nat} {xs : Nat → Int32} {A : Nat → Prop} {dC : Nat → ClassId} {dI : Nat → Nat → Nat} {cI cB cJ cZ : ClassId} {tM tC : Nat} {kK kV : Nat → Nat} (C0 : lw_At p s m meth c b L xs) (hL : L ≤ 3072) (hA : ∀ q : Nat, s.heap.size ≤ q → A q) (hA2 : ∀ q : Nat, A q → s.heap.size ≤ q) (hbA : ¬ A b) (hK : va_K (dC, dI) CL (TY cI cB cJ cZ) s) (hE : CE s.heap tM tC kK kV A s) {i : Nat} (hi : i + 6 ≤ L) {ad ad' : Nat → Nat} {NN : Nat} {κ : Nat → Nat} {x y : St} {H : Heap} {locs : List Loc} {cells slots : Nat} {ls : Array Slot} (h : LB dC dI cI cB cJ cZ A ad ad' NN κ x y H) (hS : va_S A s.heap H locs) (hl : lv_has ls 4 [(3, .int (nI i)), (2, .ref (ad' 0)), (1, .ref (ad 0)), (0, .ref b)]) (hc : cells + KP κ ≤ 600000) (hs : slots + NP κ ≤ 7302250) (kk : ∀ {ad1 : Nat → Nat} {NN1 : Nat} {κ1 : Nat → Nat} {x1 y1 : St} {H1 : Heap} {locs1 : List Loc} {cells1 slots1 : Nat}, LB dC dI cI cB cJ cZ A ad1 ad' NN1 κ1 x1 y1 H1 → ad1 0 = ad 0 → va_S A s.heap H1 locs1 → cells1 + KP κ1 ≤ 600000 → slots1 + NP κ1 ≤ 7302250 → W p l e room_1 s m #[Value.ref b] below meth c H1 locs1 cells1 slots1 (lw_Z below #[Value.ref b] s) (F0 m 703 ls [])) : W p l e room_1 s m #[Value.ref b] below meth c H locs cells slots (lw_Z below #[Value.ref b] s) (F0 m 243 ls []) := by
  obtain ⟨hx, hb, hr, hml, hown0, hts, hX, hbl, hlocks, hgv⟩ := id C0
  have hown : s.vm.findClass R_Law = some m.cls := hown0
  have hT : ∀ w ∈ TG, w.before #[Value.ref b] s = true := fun w h => hts w (TG_lw w h)
  have hN : NW s := NW.of hts
  obtain ⟨hNN, hW, hV, hSep, hI⟩ := h
  have hF := hW.free hS hA
  refine lv_aload_n hx hb d_law_243 rfl (lv_at hl 2 rfl) ?_
  have hJ := J_record  hI
  refine va_calli (va_runV (C := R_V) (As := []) (rest := []) ⟨hx, hb, hml, hown, hT⟩ (k_V_record l dC dI cI cB cJ cZ ad NN s.heap tM tC kK kV hNN H.size 0  x ⟨by omega, rfl⟩ hJ) ⟨callB_of 0 hT (gwt_in w_5_18) rfl rfl rfl (hT _ w_1_1) (hT _ w_5_15) (by decide +kernel) ⟨Nat.le_of_ble_eq_true rfl, Nat.le_of_ble_eq_true rfl⟩, hT _ w_5_16, hT _ w_5_17⟩ ⟨PVc.blind, va_recv hK hW.1 (ci := 0) (q0 := 0) rfl (pic_obj (by omega) rfl (by decide)), PVc.at _ hW hK hN hE hS hF⟩ rfl rfl hl.1 rfl (lv_room (Nat.le_of_ble_eq_true rfl)) d_law_244 ⟨show _ ≤ 600000 by omega, show _ ≤ 7302250 by omega⟩) hS (fun q _ h => hF q h) hF (fun r u t H1 locs ht hvm hw hB hz1 hk1 hS => ?_)
  rw [ht] at hB
  have hV1 := hV.away hk1 hSep.hd
  have hSep1 := hSep
  have hW1 : Wd dC dI cI cB cJ cZ ad stC kcC NN A u H1 := hB.back rfl hF
  have hF2 := hV1.free hS hA
  have hw : wp_Mod_record (fun r' y' => r = r' ∧ Inv κ u y')  y := hw
  refine lv_aload_n hx hb d_law_247 rfl (lv_at hl 1 rfl) ?_
  refine va_calli (va_runV (C := R_Mod) (As := []) (rest := [.int r]) ⟨hx, hb, hml, hown, hT⟩ (k_Mod_record l dC dI cI cB cJ cZ ad' H1.size  y hw) ⟨callB_of 0 hT (gwt_in w_11_58) rfl rfl rfl (hT _ w_1_15) (hT _ w_11_55) (by decide +kernel) ⟨Nat.le_of_ble_eq_true rfl, Nat.le_of_ble_eq_true rfl⟩, hT _ w_11_56, hT _ w_11_57⟩ ⟨PW.blind, va_recv hK hV1.1 (ci := 12) (q0 := 0) rfl (pic_obj (by decide) rfl (by decide)), PW.at _ hV1 hK hN⟩ rfl rfl hl.1 rfl (lv_room (Nat.le_of_ble_eq_true rfl)) d_law_248 ⟨show _ ≤ 600000 by omega, show _ ≤ 7302250 by omega⟩) hS (fun q _ h => hF2 q h) hF2 (fun r2 u2 t2 H2 locs ht2 hvm2 hw2 hB2 hz2 hk2 hS => ?_)
  rw [ht2] at hB2
  have hV2 : Wd dC dI cI cB cJ cZ ad' stM kcM 115 A u2 H2 := hB2.back rfl hF2
  have hW2 := hW1.away hk2 hSep1.hd'
  have hw2 : r = r2 ∧ Inv κ u u2 := hw2
  have hI2 := hw2.2
  refine lv_icmp_eq (tgt := 703) hx hb d_law_251 (by decide) (fun c1 => ?_) (fun c1 => absurd hw2.1 c1)
  exact kk ⟨hNN, hW2, hV2, hSep1, hI2⟩ rfl hS (by omega) (by omega)
set_option maxHeartbeats 4000000 in
set_option maxRecDepth 100000 in
/-- the turn of case 4 -/
theorem lwt_4 {p : Program} {l : Launch} {e : Env} {s : State} {m : MethodId} {below : List Frame} {meth : Method} {c : Code} {b L : Nat} {xs : Nat → Int32} {A : Nat → Prop} {dC : Nat → ClassId} {dI : Nat → Nat → Nat} {cI cB cJ cZ : ClassId} {tM tC : Nat} {kK kV : Nat → Nat} (C0 : lw_At p s m meth c b L xs) (hL : L ≤ 3072) (hA : ∀ q : Nat, s.heap.size ≤ q → A q) (hA2 : ∀ q : Nat, A q → s.heap.size ≤ q) (hbA : ¬ A b) (hK : va_K (dC, dI) CL (TY cI cB cJ cZ) s) (hE : CE s.heap tM tC kK kV A s) {i : Nat} (hi : i + 6 ≤ L) {ad ad' : Nat → Nat} {NN : Nat} {κ : Nat → Nat} {x y : St} {H : Heap} {locs : List Loc} {cells slots : Nat} {ls : Array Slot} (h : LB dC dI cI cB cJ cZ A ad ad' NN κ x y H) (hS : va_S A s.heap H locs) (hl : lv_has ls 4 [(3, .int (nI i)), (2, .ref (ad' 0)), (1, .ref (ad 0)), (0, .ref b)]) (hc : cells + KP κ ≤ 600000) (hs : slots + NP κ ≤ 7302250) (kk : ∀ {ad1 : Nat → Nat} {NN1 : Nat} {κ1 : Nat → Nat} {x1 y1 : St} {H1 : Heap} {locs1 : List Loc} {cells1 slots1 : Nat}, LB dC dI cI cB cJ cZ A ad1 ad' NN1 κ1 x1 y1 H1 → ad1 0 = ad 0 → va_S A s.heap H1 locs1 → cells1 + KP κ1 ≤ 600000 → slots1 + NP κ1 ≤ 7302250 → W p l e room_1 s m #[Value.ref b] below meth c H1 locs1 cells1 slots1 (lw_Z below #[Value.ref b] s) (F0 m 703 ls [])) : W p l e room_1 s m #[Value.ref b] below meth c H locs cells slots (lw_Z below #[Value.ref b] s) (F0 m 256 ls []) := by
  obtain ⟨hx, hb, hr, hml, hown0, hts, hX, hbl, hlocks, hgv⟩ := id C0
  have hown : s.vm.findClass R_Law = some m.cls := hown0
  have hT : ∀ w ∈ TG, w.before #[Value.ref b] s = true := fun w h => hts w (TG_lw w h)
  have hN : NW s := NW.of hts
  obtain ⟨hNN, hW, hV, hSep, hI⟩ := h
  have hF := hW.free hS hA
  refine lv_aload_n hx hb d_law_256 rfl (lv_at hl 2 rfl) ?_
  have hJ := J_records  hI
  refine va_calli (va_runV (C := R_V) (As := []) (rest := []) ⟨hx, hb, hml, hown, hT⟩ (k_V_records l dC dI cI cB cJ cZ ad NN s.heap tM tC kK kV hNN H.size 0  x ⟨by omega, rfl⟩ hJ) ⟨callB_of 0 hT (gwt_in w_5_118) rfl rfl rfl (hT _ w_1_1) (hT _ w_5_115) (by decide +kernel) ⟨Nat.le_of_ble_eq_true rfl, Nat.le_of_ble_eq_true rfl⟩, hT _ w_5_116, hT _ w_5_117⟩ ⟨PVc.blind, va_recv hK hW.1 (ci := 0) (q0 := 0) rfl (pic_obj (by omega) rfl (by decide)), PVc.at _ hW hK hN hE hS hF⟩ rfl rfl hl.1 rfl (lv_room (Nat.le_of_ble_eq_true rfl)) d_law_257 ⟨show _ ≤ 600000 by omega, show _ ≤ 7302250 by omega⟩) hS (fun q _ h => hF q h) hF (fun r u t H1 locs ht hvm hw hB hz1 hk1 hS => ?_)
  rw [ht] at hB
  have hV1 := hV.away hk1 hSep.hd
  have hSep1 := hSep
  have hW1 : Wd dC dI cI cB cJ cZ ad stC kcC NN A u H1 := hB.back rfl hF
  have hF2 := hV1.free hS hA
  have hw : wp_Mod_records (fun r' y' => r = r' ∧ Inv κ u y')  y := hw
  refine lv_aload_n hx hb d_law_260 rfl (lv_at hl 1 rfl) ?_
  refine va_calli (va_runV (C := R_Mod) (As := []) (rest := [.int r]) ⟨hx, hb, hml, hown, hT⟩ (k_Mod_records l dC dI cI cB cJ cZ ad' H1.size  y hw) ⟨callB_of 0 hT (gwt_in w_11_122) rfl rfl rfl (hT _ w_1_15) (hT _ w_11_119) (by decide +kernel) ⟨Nat.le_of_ble_eq_true rfl, Nat.le_of_ble_eq_true rfl⟩, hT _ w_11_120, hT _ w_11_121⟩ ⟨PW.blind, va_recv hK hV1.1 (ci := 12) (q0 := 0) rfl (pic_obj (by decide) rfl (by decide)), PW.at _ hV1 hK hN⟩ rfl rfl hl.1 rfl (lv_room (Nat.le_of_ble_eq_true rfl)) d_law_261 ⟨show _ ≤ 600000 by omega, show _ ≤ 7302250 by omega⟩) hS (fun q _ h => hF2 q h) hF2 (fun r2 u2 t2 H2 locs ht2 hvm2 hw2 hB2 hz2 hk2 hS => ?_)
  rw [ht2] at hB2
  have hV2 : Wd dC dI cI cB cJ cZ ad' stM kcM 115 A u2 H2 := hB2.back rfl hF2
  have hW2 := hW1.away hk2 hSep1.hd'
  have hw2 : r = r2 ∧ Inv κ u u2 := hw2
  have hI2 := hw2.2
  refine lv_icmp_eq (tgt := 703) hx hb d_law_264 (by decide) (fun c1 => ?_) (fun c1 => absurd hw2.1 c1)
  exact kk ⟨hNN, hW2, hV2, hSep1, hI2⟩ rfl hS (by omega) (by omega)
set_option maxHeartbeats 4000000 in
set_option maxRecDepth 100000 in
/-- the turn of case 5 -/
theorem lwt_5 {p : Program} {l : Launch} {e : Env} {s : State} {m : MethodId} {below : List Frame} {meth : Method} {c : Code} {b L : Nat} {xs : Nat → Int32} {A : Nat → Prop} {dC : Nat → ClassId} {dI : Nat → Nat → Nat} {cI cB cJ cZ : ClassId} {tM tC : Nat} {kK kV : Nat → Nat} (C0 : lw_At p s m meth c b L xs) (hL : L ≤ 3072) (hA : ∀ q : Nat, s.heap.size ≤ q → A q) (hA2 : ∀ q : Nat, A q → s.heap.size ≤ q) (hbA : ¬ A b) (hK : va_K (dC, dI) CL (TY cI cB cJ cZ) s) (hE : CE s.heap tM tC kK kV A s) {i : Nat} (hi : i + 6 ≤ L) {ad ad' : Nat → Nat} {NN : Nat} {κ : Nat → Nat} {x y : St} {H : Heap} {locs : List Loc} {cells slots : Nat} {ls : Array Slot} (h : LB dC dI cI cB cJ cZ A ad ad' NN κ x y H) (hS : va_S A s.heap H locs) (hl : lv_has ls 4 [(3, .int (nI i)), (2, .ref (ad' 0)), (1, .ref (ad 0)), (0, .ref b)]) (hc : cells + KP κ ≤ 600000) (hs : slots + NP κ ≤ 7302250) (kk : ∀ {ad1 : Nat → Nat} {NN1 : Nat} {κ1 : Nat → Nat} {x1 y1 : St} {H1 : Heap} {locs1 : List Loc} {cells1 slots1 : Nat}, LB dC dI cI cB cJ cZ A ad1 ad' NN1 κ1 x1 y1 H1 → ad1 0 = ad 0 → va_S A s.heap H1 locs1 → cells1 + KP κ1 ≤ 600000 → slots1 + NP κ1 ≤ 7302250 → W p l e room_1 s m #[Value.ref b] below meth c H1 locs1 cells1 slots1 (lw_Z below #[Value.ref b] s) (F0 m 703 ls [])) : W p l e room_1 s m #[Value.ref b] below meth c H locs cells slots (lw_Z below #[Value.ref b] s) (F0 m 269 ls []) := by
  obtain ⟨hx, hb, hr, hml, hown0, hts, hX, hbl, hlocks, hgv⟩ := id C0
  have hown : s.vm.findClass R_Law = some m.cls := hown0
  have hT : ∀ w ∈ TG, w.before #[Value.ref b] s = true := fun w h => hts w (TG_lw w h)
  have hN : NW s := NW.of hts
  obtain ⟨hNN, hW, hV, hSep, hI⟩ := h
  have hF := hW.free hS hA
  refine lv_aload_n hx hb d_law_269 rfl (lv_at hl 2 rfl) ?_
  have hJ := J_clear  hI
  refine va_callv (va_runV (C := R_V) (As := []) (rest := []) ⟨hx, hb, hml, hown, hT⟩ (k_V_clear l dC dI cI cB cJ cZ ad NN s.heap tM tC kK kV hNN H.size 0  x ⟨by omega, rfl⟩ hJ) ⟨callB_of 0 hT (gwt_in w_5_122) rfl rfl rfl (hT _ w_1_1) (hT _ w_5_119) (by decide +kernel) ⟨Nat.le_of_ble_eq_true rfl, Nat.le_of_ble_eq_true rfl⟩, hT _ w_5_120, hT _ w_5_121⟩ ⟨PVc.blind, va_recv hK hW.1 (ci := 0) (q0 := 0) rfl (pic_obj (by omega) rfl (by decide)), PVc.at _ hW hK hN hE hS hF⟩ rfl rfl hl.1 rfl (lv_room (Nat.le_of_ble_eq_true rfl)) d_law_270 ⟨show _ ≤ 600000 by omega, show _ ≤ 7302250 by omega⟩) hS (fun q _ h => hF q h) hF (fun u t H1 locs ht hvm hw hB hz1 hk1 hS => ?_)
  rw [ht] at hB
  have hV1 := hV.away hk1 hSep.hd
  have hSep1 := hSep
  have hW1 : Wd dC dI cI cB cJ cZ ad stC kcC NN A u H1 := hB.back rfl hF
  have hF2 := hV1.free hS hA
  have hw : wp_Mod_clear (fun y' => Inv κ u y')  y := hw
  refine lv_aload_n hx hb d_law_273 rfl (lv_at hl 1 rfl) ?_
  refine va_callv (va_runV (C := R_Mod) (As := []) (rest := []) ⟨hx, hb, hml, hown, hT⟩ (k_Mod_clear l dC dI cI cB cJ cZ ad' H1.size  y hw) ⟨callB_of 0 hT (gwt_in w_11_126) rfl rfl rfl (hT _ w_1_15) (hT _ w_11_123) (by decide +kernel) ⟨Nat.le_of_ble_eq_true rfl, Nat.le_of_ble_eq_true rfl⟩, hT _ w_11_124, hT _ w_11_125⟩ ⟨PW.blind, va_recv hK hV1.1 (ci := 12) (q0 := 0) rfl (pic_obj (by decide) rfl (by decide)), PW.at _ hV1 hK hN⟩ rfl rfl hl.1 rfl (lv_room (Nat.le_of_ble_eq_true rfl)) d_law_274 ⟨show _ ≤ 600000 by omega, show _ ≤ 7302250 by omega⟩) hS (fun q _ h => hF2 q h) hF2 (fun u2 t2 H2 locs ht2 hvm2 hw2 hB2 hz2 hk2 hS => ?_)
  rw [ht2] at hB2
  have hV2 : Wd dC dI cI cB cJ cZ ad' stM kcM 115 A u2 H2 := hB2.back rfl hF2
  have hW2 := hW1.away hk2 hSep1.hd'
  have hI2 : Inv κ u u2 := hw2
  refine lv_goto (tgt := 703) hx hb d_law_277 (by decide) ?_
  exact kk ⟨hNN, hW2, hV2, hSep1, hI2⟩ rfl hS (by omega) (by omega)
