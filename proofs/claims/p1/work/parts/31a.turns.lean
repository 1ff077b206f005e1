

theorem at0 (k x y : Int32) : sp_at k 0 x = sp_at k 0 y := by
  unfold sp_at
  by_cases h : k < 0
  · simp [h]
  · simp [h]
theorem up3 {k : Int32} {f g : Nat → Int32} (h : ∀ j, j < 3 → f j = g j) : sp_upto k 2 (f (k : Int32).toNatClampNeg) = sp_upto k 2 (g (k : Int32).toNatClampNeg) := by
  unfold sp_upto
  by_cases h0 : k < 0
  · simp [h0]
  · by_cases h1 : k ≤ 2
    · have hin : vp_in k 3 := in_le h0 h1 (by decide)
      have hlt : k.toNatClampNeg < 3 := Nat.not_le.mp fun q => hin (Or.inr q)
      simp only [h0, h1, if_true, if_false]
      exact h _ hlt
    · simp [h0, h1]
theorem j3 {f g : Nat → Int32} (h0 : f 0 = g 0) (h1 : f 1 = g 1) (h2 : f 2 = g 2) : ∀ j, j < 3 → f j = g j := by
  intro j hj
  rcases (show j = 0 ∨ j = 1 ∨ j = 2 by omega) with e | e | e
  · subst e; exact h0
  · subst e; exact h1
  · subst e; exact h2
section
variable (l : Launch) (dC : Nat → ClassId) (dI : Nat → Nat → Nat) (cI cB cJ cZ : ClassId)
set_option maxHeartbeats 4000000 in
set_option maxRecDepth 100000 in
theorem lb_done {p : Program} {l : Launch} {e : Env} {s : State} {m : MethodId} {below : List Frame} {meth : Method} {c : Code} {b : Nat} {xs : Nat → Int32} {A : Nat → Prop} (C0 : lw_At p s m meth c b 6 xs) (hA2 : ∀ q, A q → s.heap.size ≤ q) (hbA : ¬ A b) {h1 h2 : Nat} {H : Heap} {locs : List Loc} {ls : Array Slot} (hS : va_S A s.heap H locs) (hl : lv_has ls 4 [(3, .int 0), (2, .ref h2), (1, .ref h1), (0, .ref b)]) : W p l e room_1 s m #[Value.ref b] below meth c H locs 267 1600544 (lw_Z below #[Value.ref b] s) (F0 m 703 ls []) := by
  obtain ⟨hx, hb, hr, hml, hown0, hts, hX, hbl, hlocks, hgv⟩ := id C0
  have hown : s.vm.findClass R_Law = some m.cls := hown0
  have hT : ∀ w ∈ TG, w.before #[Value.ref b] s = true := fun w h => hts w (TG_lw w h)
  have hN : NW s := NW.of hts
  have hSW : SW s := SW.of hts
  refine lv_iinc (v := 6) (lv' := [(3, .int 6), (2, .ref h2), (1, .ref h1), (0, .ref b)]) hx hb d_law_703 hl (k := 0) rfl (by decide) (by decide) rfl (fun ls hl => ?_)
  refine lv_goto (tgt := 18) hx hb d_law_706 (by decide) ?_
  refine lv_iload_n hx hb d_law_18 rfl (lv_at hl 0 rfl) ?_
  refine lv_aload_n hx hb d_law_19 rfl (lv_at hl 3 rfl) ?_
  refine va_slen hx hb hX hbl hbA hS d_law_20 ?_
  refine lv_bipush (v := 6) hx hb d_law_21 (by decide) ?_
  refine lv_isub hx hb d_law_23 ?_
  refine lv_icmp_gt (tgt := 709) hx hb d_law_24 (by decide) (fun c1 => ?_) (fun c1 => absurd (by decide) c1)
  refine lv_iconst (v := 1) hx hb d_law_709 (by decide) ?_
  refine va_forget (fun q hq => hA2 _ (hS.2.2 q hq)) ?_
  refine W.widen (k := 600000) (n := 7302250) (by omega) (by omega) ?_
  exact lw_ret hx hb hr hlocks d_law_710
set_option maxHeartbeats 4000000 in
set_option maxRecDepth 100000 in
/-- the turn of case 0 -/
theorem lb_0 {p : Program} {l : Launch} {e : Env} {s : State} {m : MethodId} {below : List Frame} {meth : Method} {c : Code} {b : Nat} {xs : Nat → Int32} {A : Nat → Prop} {dC : Nat → ClassId} {dI : Nat → Nat → Nat} {cI cB cJ cZ : ClassId} (C0 : lw_At p s m meth c b 6 xs) (hA : ∀ q, s.heap.size ≤ q → A q) (hA2 : ∀ q, A q → s.heap.size ≤ q) (hbA : ¬ A b) (hK : va_K (dC, dI) CL (TY cI cB cJ cZ) s) {h1 h2 xf xa ya : Nat} {XF XS YF : List Value} {fxa fya : Nat → Int32} {H : Heap} {locs : List Loc} {ls : Array Slot} (hP : va_P (dC, dI) CL [(h1, .inr (0, XF)), (xf, .inr (1, XS)), (xa, .inl (cB, 512, .inl fxa)), (h2, .inr (12, YF)), (ya, .inl (cI, 40000, .inl fya))] H) (hD : va_D A [(h1, .inr (0, XF)), (xf, .inr (1, XS)), (xa, .inl (cB, 512, .inl fxa)), (h2, .inr (12, YF)), (ya, .inl (cI, 40000, .inl fya))]) (hS : va_S A s.heap H locs) (hl : lv_has ls 4 [(3, .int 0), (2, .ref h2), (1, .ref h1), (0, .ref b)]) (nXF : XF.length = 15) (gXF_0 : XF[0]? = some (.ref xf)) (nXS : XS.length = 7) (gXS_2 : XS[2]? = some (.int 0)) (gXS_3 : XS[3]? = some (.int 40000)) (gXS_1 : XS[1]? = some (.int 0)) (gXS_0 : XS[0]? = some (.ref xa)) (nYF : YF.length = 167) (gYF_1 : YF[1]? = some (.ref ya)) (gYF_3 : YF[3]? = some (.int 0)) : W p l e room_1 s m #[Value.ref b] below meth c H locs 267 1600544 (lw_Z below #[Value.ref b] s) (F0 m 144 ls []) := by
  obtain ⟨hx, hb, hr, hml, hown0, hts, hX, hbl, hlocks, hgv⟩ := id C0
  have hown : s.vm.findClass R_Law = some m.cls := hown0
  have hT : ∀ w ∈ TG, w.before #[Value.ref b] s = true := fun w h => hts w (TG_lw w h)
  have hN : NW s := NW.of hts
  have hSW : SW s := SW.of hts
  refine lv_aload_n hx hb d_law_144 rfl (lv_at hl 2 rfl) ?_
  refine lv_aload_n hx hb d_law_145 rfl (lv_at hl 3 rfl) ?_
  refine lv_iload_n hx hb d_law_146 rfl (lv_at hl 0 rfl) ?_
  refine lv_iconst (v := 1) hx hb d_law_147 (by decide) ?_
  refine lv_iadd hx hb d_law_148 ?_
  refine va_sld hx hb hX hbl hbA hS (vp_lit (by decide)) d_law_149 ?_
  refine lv_aload_n hx hb d_law_150 rfl (lv_at hl 3 rfl) ?_
  refine lv_iload_n hx hb d_law_151 rfl (lv_at hl 0 rfl) ?_
  refine lv_iconst (v := 2) hx hb d_law_152 (by decide) ?_
  refine lv_iadd hx hb d_law_153 ?_
  refine va_sld hx hb hX hbl hbA hS (vp_lit (by decide)) d_law_154 ?_
  refine lv_aload_n hx hb d_law_155 rfl (lv_at hl 3 rfl) ?_
  refine lv_iload_n hx hb d_law_156 rfl (lv_at hl 0 rfl) ?_
  refine lv_iconst (v := 3) hx hb d_law_157 (by decide) ?_
  refine lv_iadd hx hb d_law_158 ?_
  refine va_sld hx hb hX hbl hbA hS (vp_lit (by decide)) d_law_159 ?_
  refine lv_aload_n hx hb d_law_160 rfl (lv_at hl 3 rfl) ?_
  refine lv_iload_n hx hb d_law_161 rfl (lv_at hl 0 rfl) ?_
  refine lv_iconst (v := 4) hx hb d_law_162 (by decide) ?_
  refine lv_iadd hx hb d_law_163 ?_
  refine va_sld hx hb hX hbl hbA hS (vp_lit (by decide)) d_law_164 ?_
  refine lv_aload_n hx hb d_law_165 rfl (lv_at hl 3 rfl) ?_
  refine lv_iload_n hx hb d_law_166 rfl (lv_at hl 0 rfl) ?_
  refine lv_iconst (v := 5) hx hb d_law_167 (by decide) ?_
  refine lv_iadd hx hb d_law_168 ?_
  refine va_sld hx hb hX hbl hbA hS (vp_lit (by decide)) d_law_169 ?_
  have hPc := hP.sub (ws' := [(h1, .inr (0, XF)), (xf, .inr (1, XS)), (xa, .inl (cB, 512, .inl fxa))]) [0, 1, 2] rfl
  have hDc := hD.sub (ws' := [(h1, .inr (0, XF)), (xf, .inr (1, XS)), (xa, .inl (cB, 512, .inl fxa))]) [0, 1, 2] (by decide) rfl
  have hFc := va_free (wc := [(h1, .inr (0, XF)), (xf, .inr (1, XS)), (xa, .inl (cB, 512, .inl fxa))]) hD hS hA [0, 1, 2] rfl
  refine va_calli (va_runV (C := R_V) (As := [.int (xs ((0 + 1) : Int32).toNatClampNeg), .int (xs ((0 + 2) : Int32).toNatClampNeg), .int (xs ((0 + 3) : Int32).toNatClampNeg), .int (xs ((0 + 4) : Int32).toNatClampNeg), .int (xs ((0 + 5) : Int32).toNatClampNeg)]) (rest := []) ⟨hx, hb, hml, hown, hT⟩ (c_V_feed_fit l dC dI cI cB cJ cZ H.size h1 XF xf XS xa 512 40000 0 fxa (xs ((0 + 1) : Int32).toNatClampNeg) (xs ((0 + 2) : Int32).toNatClampNeg) (xs ((0 + 3) : Int32).toNatClampNeg) (xs ((0 + 4) : Int32).toNatClampNeg) (xs ((0 + 5) : Int32).toNatClampNeg) nXF gXF_0 nXS gXS_2 gXS_3 gXS_1 gXS_0 (by decide) (by decide) (by decide) (by decide)) ⟨callB_of 5 hT (gw_in w_4_44) rfl rfl rfl (hT _ w_1_1) (hT _ w_4_41) (by decide +kernel) ⟨Nat.le_of_ble_eq_true rfl, Nat.le_of_ble_eq_true rfl⟩, hT _ w_4_42, hT _ w_4_43⟩ ⟨PC.blind, va_recv hK hPc (ci := 0) (q0 := 0) rfl rfl, PC.at _ hPc hDc hK hN⟩ rfl rfl hl.1 rfl (lv_room (Nat.le_of_ble_eq_true rfl)) d_law_170 ⟨show _ ≤ 600000 by omega, show _ ≤ 7302250 by omega⟩) hS (fun q _ h => hFc q h) hFc (fun r1 u t H1 locs ht hvm hw hB hz1 hk1 hS => ?_)
  have hw : (1) = r1 := Eq.symm hw
  subst hw
  obtain ⟨hP, hD⟩ := va_join (wr := [(h2, .inr (12, YF)), (ya, .inl (cI, 40000, .inl fya))]) (w1 := []) hP hD [0, 1, 2] [3, 4] rfl rfl (by decide) (by decide) hk1 hFc nilP nilD
  generalize H1 = H at hP hS ⊢
  have hP : va_P (dC, dI) CL [(h2, .inr (12, YF)), (ya, .inl (cI, 40000, .inl fya))] H := hP
  have hD : va_D A [(h2, .inr (12, YF)), (ya, .inl (cI, 40000, .inl fya))] := hD
  refine lv_aload_n hx hb d_law_173 rfl (lv_at hl 1 rfl) ?_
  refine lv_aload_n hx hb d_law_174 rfl (lv_at hl 3 rfl) ?_
  refine lv_iload_n hx hb d_law_175 rfl (lv_at hl 0 rfl) ?_
  refine lv_iconst (v := 1) hx hb d_law_176 (by decide) ?_
  refine lv_iadd hx hb d_law_177 ?_
  refine va_sld hx hb hX hbl hbA hS (vp_lit (by decide)) d_law_178 ?_
  refine lv_aload_n hx hb d_law_179 rfl (lv_at hl 3 rfl) ?_
  refine lv_iload_n hx hb d_law_180 rfl (lv_at hl 0 rfl) ?_
  refine lv_iconst (v := 2) hx hb d_law_181 (by decide) ?_
  refine lv_iadd hx hb d_law_182 ?_
  refine va_sld hx hb hX hbl hbA hS (vp_lit (by decide)) d_law_183 ?_
  refine lv_aload_n hx hb d_law_184 rfl (lv_at hl 3 rfl) ?_
  refine lv_iload_n hx hb d_law_185 rfl (lv_at hl 0 rfl) ?_
  refine lv_iconst (v := 3) hx hb d_law_186 (by decide) ?_
  refine lv_iadd hx hb d_law_187 ?_
  refine va_sld hx hb hX hbl hbA hS (vp_lit (by decide)) d_law_188 ?_
  refine lv_aload_n hx hb d_law_189 rfl (lv_at hl 3 rfl) ?_
  refine lv_iload_n hx hb d_law_190 rfl (lv_at hl 0 rfl) ?_
  refine lv_iconst (v := 4) hx hb d_law_191 (by decide) ?_
  refine lv_iadd hx hb d_law_192 ?_
  refine va_sld hx hb hX hbl hbA hS (vp_lit (by decide)) d_law_193 ?_
  refine lv_aload_n hx hb d_law_194 rfl (lv_at hl 3 rfl) ?_
  refine lv_iload_n hx hb d_law_195 rfl (lv_at hl 0 rfl) ?_
  refine lv_iconst (v := 5) hx hb d_law_196 (by decide) ?_
  refine lv_iadd hx hb d_law_197 ?_
  refine va_sld hx hb hX hbl hbA hS (vp_lit (by decide)) d_law_198 ?_
  have hPc := hP.sub (ws' := [(h2, .inr (12, YF)), (ya, .inl (cI, 40000, .inl fya))]) [0, 1] rfl
  have hDc := hD.sub (ws' := [(h2, .inr (12, YF)), (ya, .inl (cI, 40000, .inl fya))]) [0, 1] (by decide) rfl
  have hFc := va_free (wc := [(h2, .inr (12, YF)), (ya, .inl (cI, 40000, .inl fya))]) hD hS hA [0, 1] rfl
  refine va_calli (va_runV (C := R_Mod) (As := [.int (xs ((0 + 1) : Int32).toNatClampNeg), .int (xs ((0 + 2) : Int32).toNatClampNeg), .int (xs ((0 + 3) : Int32).toNatClampNeg), .int (xs ((0 + 4) : Int32).toNatClampNeg), .int (xs ((0 + 5) : Int32).toNatClampNeg)]) (rest := [.int 1]) ⟨hx, hb, hml, hown, hT⟩ (c_Mod_feed_fit l dC dI cI cB cJ cZ H.size h2 YF ya 0 fya (xs ((0 + 1) : Int32).toNatClampNeg) (xs ((0 + 2) : Int32).toNatClampNeg) (xs ((0 + 3) : Int32).toNatClampNeg) (xs ((0 + 4) : Int32).toNatClampNeg) (xs ((0 + 5) : Int32).toNatClampNeg) nYF gYF_1 gYF_3 (by decide)) ⟨callB_of 5 hT (gw_in w_10_205) rfl rfl rfl (hT _ w_1_15) (hT _ w_10_202) (by decide +kernel) ⟨Nat.le_of_ble_eq_true rfl, Nat.le_of_ble_eq_true rfl⟩, hT _ w_10_203, hT _ w_10_204⟩ ⟨PC.blind, va_recv hK hPc (ci := 12) (q0 := 0) rfl rfl, PC.at _ hPc hDc hK hN⟩ rfl rfl hl.1 rfl (lv_room (Nat.le_of_ble_eq_true rfl)) d_law_199 ⟨show _ ≤ 600000 by omega, show _ ≤ 7302250 by omega⟩) hS (fun q _ h => hFc q h) hFc (fun r2 u t H1 locs ht hvm hw hB hz1 hk1 hS => ?_)
  have hw : (1) = r2 := Eq.symm hw
  subst hw
  obtain ⟨hP, hD⟩ := va_join (wr := []) (w1 := []) hP hD [0, 1] [] rfl rfl (by decide) (by decide) hk1 hFc nilP nilD
  generalize H1 = H at hP hS ⊢
  have hP : va_P (dC, dI) CL [] H := hP
  have hD : va_D A [] := hD
  refine lv_icmp_eq (tgt := 703) hx hb d_law_202 (by decide) (fun c1 => ?_) (fun c1 => by first | exact absurd c1 (by decide) | exact absurd (by decide) c1)
  exact lb_done C0 hA2 hbA hS hl
set_option maxHeartbeats 4000000 in
set_option maxRecDepth 100000 in
/-- the turn of case 1 -/
theorem lb_1 {p : Program} {l : Launch} {e : Env} {s : State} {m : MethodId} {below : List Frame} {meth : Method} {c : Code} {b : Nat} {xs : Nat → Int32} {A : Nat → Prop} {dC : Nat → ClassId} {dI : Nat → Nat → Nat} {cI cB cJ cZ : ClassId} (C0 : lw_At p s m meth c b 6 xs) (hA : ∀ q, s.heap.size ≤ q → A q) (hA2 : ∀ q, A q → s.heap.size ≤ q) (hbA : ¬ A b) (hK : va_K (dC, dI) CL (TY cI cB cJ cZ) s) {h1 h2 xf xi yb ya : Nat} {XF XS XI YF : List Value} {fya fyb : Nat → Int32} {H : Heap} {locs : List Loc} {ls : Array Slot} (hP : va_P (dC, dI) CL [(h1, .inr (0, XF)), (xf, .inr (1, XS)), (xi, .inr (1, XI)), (h2, .inr (12, YF)), (ya, .inl (cI, 40000, .inl fya)), (yb, .inl (cI, 40000, .inl fyb))] H) (hD : va_D A [(h1, .inr (0, XF)), (xf, .inr (1, XS)), (xi, .inr (1, XI)), (h2, .inr (12, YF)), (ya, .inl (cI, 40000, .inl fya)), (yb, .inl (cI, 40000, .inl fyb))]) (hS : va_S A s.heap H locs) (hl : lv_has ls 4 [(3, .int 0), (2, .ref h2), (1, .ref h1), (0, .ref b)]) (nXF : XF.length = 15) (gXF_0 : XF[0]? = some (.ref xf)) (gXF_1 : XF[1]? = some (.ref xi)) (nXS : XS.length = 7) (gXS_1 : XS[1]? = some (.int 0)) (nXI : XI.length = 7) (nYF : YF.length = 167) (gYF_2 : YF[2]? = some (.ref yb)) (gYF_1 : YF[1]? = some (.ref ya)) (gYF_3 : YF[3]? = some (.int 0)) : W p l e room_1 s m #[Value.ref b] below meth c H locs 267 1600544 (lw_Z below #[Value.ref b] s) (F0 m 207 ls []) := by
  obtain ⟨hx, hb, hr, hml, hown0, hts, hX, hbl, hlocks, hgv⟩ := id C0
  have hown : s.vm.findClass R_Law = some m.cls := hown0
  have hT : ∀ w ∈ TG, w.before #[Value.ref b] s = true := fun w h => hts w (TG_lw w h)
  have hN : NW s := NW.of hts
  have hSW : SW s := SW.of hts
  refine lv_aload_n hx hb d_law_207 rfl (lv_at hl 2 rfl) ?_
  refine lv_aload_n hx hb d_law_208 rfl (lv_at hl 3 rfl) ?_
  refine lv_iload_n hx hb d_law_209 rfl (lv_at hl 0 rfl) ?_
  refine lv_iconst (v := 1) hx hb d_law_210 (by decide) ?_
  refine lv_iadd hx hb d_law_211 ?_
  refine va_sld hx hb hX hbl hbA hS (vp_lit (by decide)) d_law_212 ?_
  have hPc := hP.sub (ws' := [(h1, .inr (0, XF)), (xf, .inr (1, XS)), (xi, .inr (1, XI))]) [0, 1, 2] rfl
  have hDc := hD.sub (ws' := [(h1, .inr (0, XF)), (xf, .inr (1, XS)), (xi, .inr (1, XI))]) [0, 1, 2] (by decide) rfl
  have hFc := va_free (wc := [(h1, .inr (0, XF)), (xf, .inr (1, XS)), (xi, .inr (1, XI))]) hD hS hA [0, 1, 2] rfl
  refine va_calli (va_runV (C := R_V) (As := [.int (xs ((0 + 1) : Int32).toNatClampNeg)]) (rest := []) ⟨hx, hb, hml, hown, hT⟩ (c_V_end l dC dI cI cB cJ cZ H.size h1 XF xf XS xi XI (xs ((0 + 1) : Int32).toNatClampNeg) 0 nXF gXF_0 gXF_1 nXS gXS_1 nXI) ⟨callB_of 1 hT (gw_in w_4_77) rfl rfl rfl (hT _ w_1_1) (hT _ w_4_74) (by decide +kernel) ⟨Nat.le_of_ble_eq_true rfl, Nat.le_of_ble_eq_true rfl⟩, hT _ w_4_75, hT _ w_4_76⟩ ⟨PC.blind, va_recv hK hPc (ci := 0) (q0 := 0) rfl rfl, PC.at _ hPc hDc hK hN⟩ rfl rfl hl.1 rfl (lv_room (Nat.le_of_ble_eq_true rfl)) d_law_213 ⟨show _ ≤ 600000 by omega, show _ ≤ 7302250 by omega⟩) hS (fun q _ h => hFc q h) hFc (fun r1 u t H1 locs ht hvm hw hB hz1 hk1 hS => ?_)
  have hw : (if ¬ (xs ((0 + 1) : Int32).toNatClampNeg) < 0 ∧ (xs ((0 + 1) : Int32).toNatClampNeg) ≤ 0 then 1 else 0) = r1 := Eq.symm hw
  subst hw
  obtain ⟨hP, hD⟩ := va_join (wr := [(h2, .inr (12, YF)), (ya, .inl (cI, 40000, .inl fya)), (yb, .inl (cI, 40000, .inl fyb))]) (w1 := []) hP hD [0, 1, 2] [3, 4, 5] rfl rfl (by decide) (by decide) hk1 hFc nilP nilD
  generalize H1 = H at hP hS ⊢
  have hP : va_P (dC, dI) CL [(h2, .inr (12, YF)), (ya, .inl (cI, 40000, .inl fya)), (yb, .inl (cI, 40000, .inl fyb))] H := hP
  have hD : va_D A [(h2, .inr (12, YF)), (ya, .inl (cI, 40000, .inl fya)), (yb, .inl (cI, 40000, .inl fyb))] := hD
  refine lv_aload_n hx hb d_law_216 rfl (lv_at hl 1 rfl) ?_
  refine lv_aload_n hx hb d_law_217 rfl (lv_at hl 3 rfl) ?_
  refine lv_iload_n hx hb d_law_218 rfl (lv_at hl 0 rfl) ?_
  refine lv_iconst (v := 1) hx hb d_law_219 (by decide) ?_
  refine lv_iadd hx hb d_law_220 ?_
  refine va_sld hx hb hX hbl hbA hS (vp_lit (by decide)) d_law_221 ?_
  have hPc := hP.sub (ws' := [(h2, .inr (12, YF)), (ya, .inl (cI, 40000, .inl fya)), (yb, .inl (cI, 40000, .inl fyb))]) [0, 1, 2] rfl
  have hDc := hD.sub (ws' := [(h2, .inr (12, YF)), (ya, .inl (cI, 40000, .inl fya)), (yb, .inl (cI, 40000, .inl fyb))]) [0, 1, 2] (by decide) rfl
  have hFc := va_free (wc := [(h2, .inr (12, YF)), (ya, .inl (cI, 40000, .inl fya)), (yb, .inl (cI, 40000, .inl fyb))]) hD hS hA [0, 1, 2] rfl
  refine va_calli (va_runV (C := R_Mod) (As := [.int (xs ((0 + 1) : Int32).toNatClampNeg)]) (rest := [.int (if ¬ (xs ((0 + 1) : Int32).toNatClampNeg) < 0 ∧ (xs ((0 + 1) : Int32).toNatClampNeg) ≤ 0 then 1 else 0)]) ⟨hx, hb, hml, hown, hT⟩ (c_Mod_end l dC dI cI cB cJ cZ H.size h2 YF ya yb fya fyb (xs ((0 + 1) : Int32).toNatClampNeg) 0 (by decide) nYF gYF_2 gYF_1 gYF_3) ⟨callB_of 1 hT (gw_in w_10_209) rfl rfl rfl (hT _ w_1_15) (hT _ w_10_206) (by decide +kernel) ⟨Nat.le_of_ble_eq_true rfl, Nat.le_of_ble_eq_true rfl⟩, hT _ w_10_207, hT _ w_10_208⟩ ⟨PC.blind, va_recv hK hPc (ci := 12) (q0 := 0) rfl rfl, PC.at _ hPc hDc hK hN⟩ rfl rfl hl.1 rfl (lv_room (Nat.le_of_ble_eq_true rfl)) d_law_222 ⟨show _ ≤ 600000 by omega, show _ ≤ 7302250 by omega⟩) hS (fun q _ h => hFc q h) hFc (fun r2 u t H1 locs ht hvm hw hB hz1 hk1 hS => ?_)
  have hw : (if ¬ (xs ((0 + 1) : Int32).toNatClampNeg) < 0 ∧ (xs ((0 + 1) : Int32).toNatClampNeg) ≤ 0 then 1 else 0) = r2 := Eq.symm hw
  subst hw
  obtain ⟨hP, hD⟩ := va_join (wr := []) (w1 := []) hP hD [0, 1, 2] [] rfl rfl (by decide) (by decide) hk1 hFc nilP nilD
  generalize H1 = H at hP hS ⊢
  have hP : va_P (dC, dI) CL [] H := hP
  have hD : va_D A [] := hD
  refine lv_icmp_eq (tgt := 703) hx hb d_law_225 (by decide) (fun c1 => ?_) (fun c1 => absurd rfl c1)
  exact lb_done C0 hA2 hbA hS hl
set_option maxHeartbeats 4000000 in
set_option maxRecDepth 100000 in
/-- the turn of case 2 -/
theorem lb_2 {p : Program} {l : Launch} {e : Env} {s : State} {m : MethodId} {below : List Frame} {meth : Method} {c : Code} {b : Nat} {xs : Nat → Int32} {A : Nat → Prop} {dC : Nat → ClassId} {dI : Nat → Nat → Nat} {cI cB cJ cZ : ClassId} (C0 : lw_At p s m meth c b 6 xs) (hA : ∀ q, s.heap.size ≤ q → A q) (hA2 : ∀ q, A q → s.heap.size ≤ q) (hbA : ¬ A b) (hK : va_K (dC, dI) CL (TY cI cB cJ cZ) s) {h1 h2 xf0 xc0 xv0 xy ya yb : Nat} {XF XS XC XVv YF : List Value} {fxy fya fyb : Nat → Int32} {H : Heap} {locs : List Loc} {ls : Array Slot} (hP : va_P (dC, dI) CL [(h1, .inr (0, XF)), (xf0, .inr (1, XS)), (xc0, .inr (2, XC)), (xv0, .inr (3, XVv)), (xy, .inl (cB, 512, .inl fxy)), (h2, .inr (12, YF)), (ya, .inl (cI, 3, .inl fya)), (yb, .inl (cI, 3, .inl fyb))] H) (hD : va_D A [(h1, .inr (0, XF)), (xf0, .inr (1, XS)), (xc0, .inr (2, XC)), (xv0, .inr (3, XVv)), (xy, .inl (cB, 512, .inl fxy)), (h2, .inr (12, YF)), (ya, .inl (cI, 3, .inl fya)), (yb, .inl (cI, 3, .inl fyb))]) (hS : va_S A s.heap H locs) (hl : lv_has ls 4 [(3, .int 0), (2, .ref h2), (1, .ref h1), (0, .ref b)]) (nXF : XF.length = 15) (gXF_1 : XF[1]? = some (.ref xf0)) (gXF_3 : XF[3]? = some (.ref xc0)) (gXF_5 : XF[5]? = some (.ref xv0)) (nXS : XS.length = 7) (gXS_1 : XS[1]? = some (.int 0)) (gXS_0 : XS[0]? = some (.ref xy)) (nXC : XC.length = 8) (nXVv : XVv.length = 13) (nYF : YF.length = 167) (gYF_4 : YF[4]? = some (.int 0)) (gYF_11 : YF[11]? = some (.ref ya)) (gYF_12 : YF[12]? = some (.ref yb)) : W p l e room_1 s m #[Value.ref b] below meth c H locs 267 1600544 (lw_Z below #[Value.ref b] s) (F0 m 230 ls []) := by
  obtain ⟨hx, hb, hr, hml, hown0, hts, hX, hbl, hlocks, hgv⟩ := id C0
  have hown : s.vm.findClass R_Law = some m.cls := hown0
  have hT : ∀ w ∈ TG, w.before #[Value.ref b] s = true := fun w h => hts w (TG_lw w h)
  have hN : NW s := NW.of hts
  have hSW : SW s := SW.of hts
  refine lv_aload_n hx hb d_law_230 rfl (lv_at hl 2 rfl) ?_
  have hPc := hP.sub (ws' := [(h1, .inr (0, XF)), (xf0, .inr (1, XS)), (xc0, .inr (2, XC)), (xv0, .inr (3, XVv)), (xy, .inl (cB, 512, .inl fxy))]) [0, 1, 2, 3, 4] rfl
  have hDc := hD.sub (ws' := [(h1, .inr (0, XF)), (xf0, .inr (1, XS)), (xc0, .inr (2, XC)), (xv0, .inr (3, XVv)), (xy, .inl (cB, 512, .inl fxy))]) [0, 1, 2, 3, 4] (by decide) rfl
  have hFc := va_free (wc := [(h1, .inr (0, XF)), (xf0, .inr (1, XS)), (xc0, .inr (2, XC)), (xv0, .inr (3, XVv)), (xy, .inl (cB, 512, .inl fxy))]) hD hS hA [0, 1, 2, 3, 4] rfl
  refine va_calli (va_runV (C := R_V) (As := []) (rest := []) ⟨hx, hb, hml, hown, hT⟩ (c_V_schema_none l dC dI cI cB cJ cZ H.size h1 XF xf0 XS xc0 XC xv0 XVv xy 512 fxy nXF gXF_1 gXF_3 gXF_5 nXS gXS_1 gXS_0 nXC nXVv (by decide)) ⟨callB_of 0 hT (gw_in w_4_85) rfl rfl rfl (hT _ w_1_1) (hT _ w_4_82) (by decide +kernel) ⟨Nat.le_of_ble_eq_true rfl, Nat.le_of_ble_eq_true rfl⟩, hT _ w_4_83, hT _ w_4_84⟩ ⟨PS.blind, va_recv hK hPc (ci := 0) (q0 := 0) rfl rfl, PS.at _ hPc hDc hK hN hSW⟩ rfl rfl hl.1 rfl (lv_room (Nat.le_of_ble_eq_true rfl)) d_law_231 ⟨show _ ≤ 600000 by omega, show _ ≤ 7302250 by omega⟩) hS (fun q _ h => hFc q h) hFc (fun r1 u t H1 locs ht hvm hw hB hz1 hk1 hS => ?_)
  have hw : (0) = r1 := Eq.symm hw
  subst hw
  obtain ⟨hP, hD⟩ := va_join (wr := [(h2, .inr (12, YF)), (ya, .inl (cI, 3, .inl fya)), (yb, .inl (cI, 3, .inl fyb))]) (w1 := []) hP hD [0, 1, 2, 3, 4] [5, 6, 7] rfl rfl (by decide) (by decide) hk1 hFc nilP nilD
  generalize H1 = H at hP hS ⊢
  have hP : va_P (dC, dI) CL [(h2, .inr (12, YF)), (ya, .inl (cI, 3, .inl fya)), (yb, .inl (cI, 3, .inl fyb))] H := hP
  have hD : va_D A [(h2, .inr (12, YF)), (ya, .inl (cI, 3, .inl fya)), (yb, .inl (cI, 3, .inl fyb))] := hD
  refine lv_aload_n hx hb d_law_234 rfl (lv_at hl 1 rfl) ?_
  have hPc := hP.sub (ws' := [(h2, .inr (12, YF)), (ya, .inl (cI, 3, .inl fya)), (yb, .inl (cI, 3, .inl fyb))]) [0, 1, 2] rfl
  have hDc := hD.sub (ws' := [(h2, .inr (12, YF)), (ya, .inl (cI, 3, .inl fya)), (yb, .inl (cI, 3, .inl fyb))]) [0, 1, 2] (by decide) rfl
  have hFc := va_free (wc := [(h2, .inr (12, YF)), (ya, .inl (cI, 3, .inl fya)), (yb, .inl (cI, 3, .inl fyb))]) hD hS hA [0, 1, 2] rfl
  refine va_calli (va_runV (C := R_Mod) (As := []) (rest := [.int 0]) ⟨hx, hb, hml, hown, hT⟩ (c_Mod_schema_none l dC dI cI cB cJ cZ H.size h2 YF ya yb fya fyb nYF gYF_4 gYF_11 gYF_12) ⟨callB_of 0 hT (gw_in w_10_213) rfl rfl rfl (hT _ w_1_15) (hT _ w_10_210) (by decide +kernel) ⟨Nat.le_of_ble_eq_true rfl, Nat.le_of_ble_eq_true rfl⟩, hT _ w_10_211, hT _ w_10_212⟩ ⟨PC.blind, va_recv hK hPc (ci := 12) (q0 := 0) rfl rfl, PC.at _ hPc hDc hK hN⟩ rfl rfl hl.1 rfl (lv_room (Nat.le_of_ble_eq_true rfl)) d_law_235 ⟨show _ ≤ 600000 by omega, show _ ≤ 7302250 by omega⟩) hS (fun q _ h => hFc q h) hFc (fun r2 u t H1 locs ht hvm hw hB hz1 hk1 hS => ?_)
  have hw : (0) = r2 := Eq.symm hw
  subst hw
  obtain ⟨hP, hD⟩ := va_join (wr := []) (w1 := []) hP hD [0, 1, 2] [] rfl rfl (by decide) (by decide) hk1 hFc nilP nilD
  generalize H1 = H at hP hS ⊢
  have hP : va_P (dC, dI) CL [] H := hP
  have hD : va_D A [] := hD
  refine lv_icmp_eq (tgt := 703) hx hb d_law_238 (by decide) (fun c1 => ?_) (fun c1 => by first | exact absurd c1 (by decide) | exact absurd (by decide) c1)
  exact lb_done C0 hA2 hbA hS hl
set_option maxHeartbeats 4000000 in
set_option maxRecDepth 100000 in
/-- the turn of case 3 -/
theorem lb_3 {p : Program} {l : Launch} {e : Env} {s : State} {m : MethodId} {below : List Frame} {meth : Method} {c : Code} {b : Nat} {xs : Nat → Int32} {A : Nat → Prop} {dC : Nat → ClassId} {dI : Nat → Nat → Nat} {cI cB cJ cZ : ClassId} (C0 : lw_At p s m meth c b 6 xs) (hA : ∀ q, s.heap.size ≤ q → A q) (hA2 : ∀ q, A q → s.heap.size ≤ q) (hbA : ¬ A b) (hK : va_K (dC, dI) CL (TY cI cB cJ cZ) s) {h1 h2 xf xc0 : Nat} {XF XS XC YF : List Value} {H : Heap} {locs : List Loc} {ls : Array Slot} (hP : va_P (dC, dI) CL [(h1, .inr (0, XF)), (xf, .inr (1, XS)), (xc0, .inr (3, XC)), (h2, .inr (12, YF))] H) (hD : va_D A [(h1, .inr (0, XF)), (xf, .inr (1, XS)), (xc0, .inr (3, XC)), (h2, .inr (12, YF))]) (hS : va_S A s.heap H locs) (hl : lv_has ls 4 [(3, .int 0), (2, .ref h2), (1, .ref h1), (0, .ref b)]) (nXF : XF.length = 15) (gXF_1 : XF[1]? = some (.ref xf)) (gXF_4 : XF[4]? = some (.ref xc0)) (nXS : XS.length = 7) (gXS_1 : XS[1]? = some (.int 0)) (nXC : XC.length = 13) (gXC_0 : XC[0]? = some (.int 0)) (nYF : YF.length = 167) (gYF_4 : YF[4]? = some (.int 0)) (gYF_14 : YF[14]? = some (.int 0)) : W p l e room_1 s m #[Value.ref b] below meth c H locs 267 1600544 (lw_Z below #[Value.ref b] s) (F0 m 243 ls []) := by
  obtain ⟨hx, hb, hr, hml, hown0, hts, hX, hbl, hlocks, hgv⟩ := id C0
  have hown : s.vm.findClass R_Law = some m.cls := hown0
  have hT : ∀ w ∈ TG, w.before #[Value.ref b] s = true := fun w h => hts w (TG_lw w h)
  have hN : NW s := NW.of hts
  have hSW : SW s := SW.of hts
  refine lv_aload_n hx hb d_law_243 rfl (lv_at hl 2 rfl) ?_
  have hPc := hP.sub (ws' := [(h1, .inr (0, XF)), (xf, .inr (1, XS)), (xc0, .inr (3, XC))]) [0, 1, 2] rfl
  have hDc := hD.sub (ws' := [(h1, .inr (0, XF)), (xf, .inr (1, XS)), (xc0, .inr (3, XC))]) [0, 1, 2] (by decide) rfl
  have hFc := va_free (wc := [(h1, .inr (0, XF)), (xf, .inr (1, XS)), (xc0, .inr (3, XC))]) hD hS hA [0, 1, 2] rfl
  refine va_calli (va_runV (C := R_V) (As := []) (rest := []) ⟨hx, hb, hml, hown, hT⟩ (c_V_record_none l dC dI cI cB cJ cZ H.size h1 XF xf XS xc0 XC 0 nXF gXF_1 gXF_4 nXS gXS_1 nXC gXC_0) ⟨callB_of 0 hT (gw_in w_5_18) rfl rfl rfl (hT _ w_1_1) (hT _ w_5_15) (by decide +kernel) ⟨Nat.le_of_ble_eq_true rfl, Nat.le_of_ble_eq_true rfl⟩, hT _ w_5_16, hT _ w_5_17⟩ ⟨PC.blind, va_recv hK hPc (ci := 0) (q0 := 0) rfl rfl, PC.at _ hPc hDc hK hN⟩ rfl rfl hl.1 rfl (lv_room (Nat.le_of_ble_eq_true rfl)) d_law_244 ⟨show _ ≤ 600000 by omega, show _ ≤ 7302250 by omega⟩) hS (fun q _ h => hFc q h) hFc (fun r1 u t H1 locs ht hvm hw hB hz1 hk1 hS => ?_)
  have hw : ((-2)) = r1 := Eq.symm hw
  subst hw
  obtain ⟨hP, hD⟩ := va_join (wr := [(h2, .inr (12, YF))]) (w1 := []) hP hD [0, 1, 2] [3] rfl rfl (by decide) (by decide) hk1 hFc nilP nilD
  generalize H1 = H at hP hS ⊢
  have hP : va_P (dC, dI) CL [(h2, .inr (12, YF))] H := hP
  have hD : va_D A [(h2, .inr (12, YF))] := hD
  refine lv_aload_n hx hb d_law_247 rfl (lv_at hl 1 rfl) ?_
  have hPc := hP.sub (ws' := [(h2, .inr (12, YF))]) [0] rfl
  have hDc := hD.sub (ws' := [(h2, .inr (12, YF))]) [0] (by decide) rfl
  have hFc := va_free (wc := [(h2, .inr (12, YF))]) hD hS hA [0] rfl
  refine va_calli (va_runV (C := R_Mod) (As := []) (rest := [.int (-2)]) ⟨hx, hb, hml, hown, hT⟩ (c_Mod_record_none l dC dI cI cB cJ cZ H.size h2 YF 0 nYF gYF_4 gYF_14) ⟨callB_of 0 hT (gw_in w_11_62) rfl rfl rfl (hT _ w_1_15) (hT _ w_11_59) (by decide +kernel) ⟨Nat.le_of_ble_eq_true rfl, Nat.le_of_ble_eq_true rfl⟩, hT _ w_11_60, hT _ w_11_61⟩ ⟨PC.blind, va_recv hK hPc (ci := 12) (q0 := 0) rfl rfl, PC.at _ hPc hDc hK hN⟩ rfl rfl hl.1 rfl (lv_room (Nat.le_of_ble_eq_true rfl)) d_law_248 ⟨show _ ≤ 600000 by omega, show _ ≤ 7302250 by omega⟩) hS (fun q _ h => hFc q h) hFc (fun r2 u t H1 locs ht hvm hw hB hz1 hk1 hS => ?_)
  have hw : ((-2)) = r2 := Eq.symm hw
  subst hw
  obtain ⟨hP, hD⟩ := va_join (wr := []) (w1 := []) hP hD [0] [] rfl rfl (by decide) (by decide) hk1 hFc nilP nilD
  generalize H1 = H at hP hS ⊢
  have hP : va_P (dC, dI) CL [] H := hP
  have hD : va_D A [] := hD
  refine lv_icmp_eq (tgt := 703) hx hb d_law_251 (by decide) (fun c1 => ?_) (fun c1 => by first | exact absurd c1 (by decide) | exact absurd (by decide) c1)
  exact lb_done C0 hA2 hbA hS hl
set_option maxHeartbeats 4000000 in
set_option maxRecDepth 100000 in
/-- the turn of case 4 -/
theorem lb_4 {p : Program} {l : Launch} {e : Env} {s : State} {m : MethodId} {below : List Frame} {meth : Method} {c : Code} {b : Nat} {xs : Nat → Int32} {A : Nat → Prop} {dC : Nat → ClassId} {dI : Nat → Nat → Nat} {cI cB cJ cZ : ClassId} (C0 : lw_At p s m meth c b 6 xs) (hA : ∀ q, s.heap.size ≤ q → A q) (hA2 : ∀ q, A q → s.heap.size ≤ q) (hbA : ¬ A b) (hK : va_K (dC, dI) CL (TY cI cB cJ cZ) s) {h1 h2 xf : Nat} {XF XS YF : List Value} {H : Heap} {locs : List Loc} {ls : Array Slot} (hP : va_P (dC, dI) CL [(h1, .inr (0, XF)), (xf, .inr (4, XS)), (h2, .inr (12, YF))] H) (hD : va_D A [(h1, .inr (0, XF)), (xf, .inr (4, XS)), (h2, .inr (12, YF))]) (hS : va_S A s.heap H locs) (hl : lv_has ls 4 [(3, .int 0), (2, .ref h2), (1, .ref h1), (0, .ref b)]) (nXF : XF.length = 15) (gXF_6 : XF[6]? = some (.ref xf)) (nXS : XS.length = 15) (gXS_0 : XS[0]? = some (.int 0)) (nYF : YF.length = 167) (gYF_34 : YF[34]? = some (.int 0)) : W p l e room_1 s m #[Value.ref b] below meth c H locs 267 1600544 (lw_Z below #[Value.ref b] s) (F0 m 256 ls []) := by
  obtain ⟨hx, hb, hr, hml, hown0, hts, hX, hbl, hlocks, hgv⟩ := id C0
  have hown : s.vm.findClass R_Law = some m.cls := hown0
  have hT : ∀ w ∈ TG, w.before #[Value.ref b] s = true := fun w h => hts w (TG_lw w h)
  have hN : NW s := NW.of hts
  have hSW : SW s := SW.of hts
  refine lv_aload_n hx hb d_law_256 rfl (lv_at hl 2 rfl) ?_
  have hPc := hP.sub (ws' := [(h1, .inr (0, XF)), (xf, .inr (4, XS))]) [0, 1] rfl
  have hDc := hD.sub (ws' := [(h1, .inr (0, XF)), (xf, .inr (4, XS))]) [0, 1] (by decide) rfl
  have hFc := va_free (wc := [(h1, .inr (0, XF)), (xf, .inr (4, XS))]) hD hS hA [0, 1] rfl
  refine va_calli (va_runV (C := R_V) (As := []) (rest := []) ⟨hx, hb, hml, hown, hT⟩ (c_V_records l dC dI cI cB cJ cZ H.size h1 XF xf XS 0 nXF gXF_6 nXS gXS_0) ⟨callB_of 0 hT (gw_in w_5_118) rfl rfl rfl (hT _ w_1_1) (hT _ w_5_115) (by decide +kernel) ⟨Nat.le_of_ble_eq_true rfl, Nat.le_of_ble_eq_true rfl⟩, hT _ w_5_116, hT _ w_5_117⟩ ⟨PC.blind, va_recv hK hPc (ci := 0) (q0 := 0) rfl rfl, PC.at _ hPc hDc hK hN⟩ rfl rfl hl.1 rfl (lv_room (Nat.le_of_ble_eq_true rfl)) d_law_257 ⟨show _ ≤ 600000 by omega, show _ ≤ 7302250 by omega⟩) hS (fun q _ h => hFc q h) hFc (fun r1 u t H1 locs ht hvm hw hB hz1 hk1 hS => ?_)
  have hw : (0) = r1 := Eq.symm hw
  subst hw
  obtain ⟨hP, hD⟩ := va_join (wr := [(h2, .inr (12, YF))]) (w1 := []) hP hD [0, 1] [2] rfl rfl (by decide) (by decide) hk1 hFc nilP nilD
  generalize H1 = H at hP hS ⊢
  have hP : va_P (dC, dI) CL [(h2, .inr (12, YF))] H := hP
  have hD : va_D A [(h2, .inr (12, YF))] := hD
  refine lv_aload_n hx hb d_law_260 rfl (lv_at hl 1 rfl) ?_
  have hPc := hP.sub (ws' := [(h2, .inr (12, YF))]) [0] rfl
  have hDc := hD.sub (ws' := [(h2, .inr (12, YF))]) [0] (by decide) rfl
  have hFc := va_free (wc := [(h2, .inr (12, YF))]) hD hS hA [0] rfl
  refine va_calli (va_runV (C := R_Mod) (As := []) (rest := [.int 0]) ⟨hx, hb, hml, hown, hT⟩ (c_Mod_records l dC dI cI cB cJ cZ H.size h2 YF 0 nYF gYF_34) ⟨callB_of 0 hT (gw_in w_11_126) rfl rfl rfl (hT _ w_1_15) (hT _ w_11_123) (by decide +kernel) ⟨Nat.le_of_ble_eq_true rfl, Nat.le_of_ble_eq_true rfl⟩, hT _ w_11_124, hT _ w_11_125⟩ ⟨PC.blind, va_recv hK hPc (ci := 12) (q0 := 0) rfl rfl, PC.at _ hPc hDc hK hN⟩ rfl rfl hl.1 rfl (lv_room (Nat.le_of_ble_eq_true rfl)) d_law_261 ⟨show _ ≤ 600000 by omega, show _ ≤ 7302250 by omega⟩) hS (fun q _ h => hFc q h) hFc (fun r2 u t H1 locs ht hvm hw hB hz1 hk1 hS => ?_)
  have hw : (0) = r2 := Eq.symm hw
  subst hw
  obtain ⟨hP, hD⟩ := va_join (wr := []) (w1 := []) hP hD [0] [] rfl rfl (by decide) (by decide) hk1 hFc nilP nilD
  generalize H1 = H at hP hS ⊢
  have hP : va_P (dC, dI) CL [] H := hP
  have hD : va_D A [] := hD
  refine lv_icmp_eq (tgt := 703) hx hb d_law_264 (by decide) (fun c1 => ?_) (fun c1 => by first | exact absurd c1 (by decide) | exact absurd (by decide) c1)
  exact lb_done C0 hA2 hbA hS hl
set_option maxHeartbeats 4000000 in
set_option maxRecDepth 100000 in
/-- the turn of case 5 -/
theorem lb_5 {p : Program} {l : Launch} {e : Env} {s : State} {m : MethodId} {below : List Frame} {meth : Method} {c : Code} {b : Nat} {xs : Nat → Int32} {A : Nat → Prop} {dC : Nat → ClassId} {dI : Nat → Nat → Nat} {cI cB cJ cZ : ClassId} (C0 : lw_At p s m meth c b 6 xs) (hA : ∀ q, s.heap.size ≤ q → A q) (hA2 : ∀ q, A q → s.heap.size ≤ q) (hbA : ¬ A b) (hK : va_K (dC, dI) CL (TY cI cB cJ cZ) s) {h1 h2 xf xa xb ya : Nat} {XF XS YF : List Value} {fya : Nat → Int32} {H : Heap} {locs : List Loc} {ls : Array Slot} (hP : va_P (dC, dI) CL [(h1, .inr (0, XF)), (xf, .inr (4, XS)), (xa, .inl (cI, 64, .inl (fun _ => (-1)))), (xb, .inl (cI, 64, .inl (fun _ => (-1)))), (h2, .inr (12, YF)), (ya, .inl (cI, 2001, .inl fya))] H) (hD : va_D A [(h1, .inr (0, XF)), (xf, .inr (4, XS)), (xa, .inl (cI, 64, .inl (fun _ => (-1)))), (xb, .inl (cI, 64, .inl (fun _ => (-1)))), (h2, .inr (12, YF)), (ya, .inl (cI, 2001, .inl fya))]) (hS : va_S A s.heap H locs) (hl : lv_has ls 4 [(3, .int 0), (2, .ref h2), (1, .ref h1), (0, .ref b)]) (nXF : XF.length = 15) (gXF_6 : XF[6]? = some (.ref xf)) (nXS : XS.length = 15) (gXS_10 : XS[10]? = some (.ref xa)) (gXS_11 : XS[11]? = some (.ref xb)) (nYF : YF.length = 167) (gYF_31 : YF[31]? = some (.ref ya)) : W p l e room_1 s m #[Value.ref b] below meth c H locs 267 1600544 (lw_Z below #[Value.ref b] s) (F0 m 269 ls []) := by
  obtain ⟨hx, hb, hr, hml, hown0, hts, hX, hbl, hlocks, hgv⟩ := id C0
  have hown : s.vm.findClass R_Law = some m.cls := hown0
  have hT : ∀ w ∈ TG, w.before #[Value.ref b] s = true := fun w h => hts w (TG_lw w h)
  have hN : NW s := NW.of hts
  have hSW : SW s := SW.of hts
  refine lv_aload_n hx hb d_law_269 rfl (lv_at hl 2 rfl) ?_
  have hPc := hP.sub (ws' := [(h1, .inr (0, XF)), (xf, .inr (4, XS)), (xa, .inl (cI, 64, .inl (fun _ => (-1)))), (xb, .inl (cI, 64, .inl (fun _ => (-1))))]) [0, 1, 2, 3] rfl
  have hDc := hD.sub (ws' := [(h1, .inr (0, XF)), (xf, .inr (4, XS)), (xa, .inl (cI, 64, .inl (fun _ => (-1)))), (xb, .inl (cI, 64, .inl (fun _ => (-1))))]) [0, 1, 2, 3] (by decide) rfl
  have hFc := va_free (wc := [(h1, .inr (0, XF)), (xf, .inr (4, XS)), (xa, .inl (cI, 64, .inl (fun _ => (-1)))), (xb, .inl (cI, 64, .inl (fun _ => (-1))))]) hD hS hA [0, 1, 2, 3] rfl
  refine va_callv (va_runV (C := R_V) (As := []) (rest := []) ⟨hx, hb, hml, hown, hT⟩ (c_V_clear l dC dI cI cB cJ cZ H.size h1 XF xf XS xa xb (fun _ => (-1)) (fun _ => (-1)) nXF gXF_6 nXS gXS_10 gXS_11) ⟨callB_of 0 hT (gw_in w_5_122) rfl rfl rfl (hT _ w_1_1) (hT _ w_5_119) (by decide +kernel) ⟨Nat.le_of_ble_eq_true rfl, Nat.le_of_ble_eq_true rfl⟩, hT _ w_5_120, hT _ w_5_121⟩ ⟨PC.blind, va_recv hK hPc (ci := 0) (q0 := 0) rfl rfl, PC.at _ hPc hDc hK hN⟩ rfl rfl hl.1 rfl (lv_room (Nat.le_of_ble_eq_true rfl)) d_law_270 ⟨show _ ≤ 600000 by omega, show _ ≤ 7302250 by omega⟩) hS (fun q _ h => hFc q h) hFc (fun  u t H1 locs ht hvm hw hB hz1 hk1 hS => ?_)
  obtain ⟨hP, hD⟩ := va_join (wr := [(h2, .inr (12, YF)), (ya, .inl (cI, 2001, .inl fya))]) (w1 := []) hP hD [0, 1, 2, 3] [4, 5] rfl rfl (by decide) (by decide) hk1 hFc nilP nilD
  generalize H1 = H at hP hS ⊢
  have hP : va_P (dC, dI) CL [(h2, .inr (12, YF)), (ya, .inl (cI, 2001, .inl fya))] H := hP
  have hD : va_D A [(h2, .inr (12, YF)), (ya, .inl (cI, 2001, .inl fya))] := hD
  refine lv_aload_n hx hb d_law_273 rfl (lv_at hl 1 rfl) ?_
  have hPc := hP.sub (ws' := [(h2, .inr (12, YF)), (ya, .inl (cI, 2001, .inl fya))]) [0, 1] rfl
  have hDc := hD.sub (ws' := [(h2, .inr (12, YF)), (ya, .inl (cI, 2001, .inl fya))]) [0, 1] (by decide) rfl
  have hFc := va_free (wc := [(h2, .inr (12, YF)), (ya, .inl (cI, 2001, .inl fya))]) hD hS hA [0, 1] rfl
  refine va_callv (va_runV (C := R_Mod) (As := []) (rest := []) ⟨hx, hb, hml, hown, hT⟩ (c_Mod_clear l dC dI cI cB cJ cZ H.size h2 YF ya fya nYF gYF_31) ⟨callB_of 0 hT (gw_in w_11_130) rfl rfl rfl (hT _ w_1_15) (hT _ w_11_127) (by decide +kernel) ⟨Nat.le_of_ble_eq_true rfl, Nat.le_of_ble_eq_true rfl⟩, hT _ w_11_128, hT _ w_11_129⟩ ⟨PC.blind, va_recv hK hPc (ci := 12) (q0 := 0) rfl rfl, PC.at _ hPc hDc hK hN⟩ rfl rfl hl.1 rfl (lv_room (Nat.le_of_ble_eq_true rfl)) d_law_274 ⟨show _ ≤ 600000 by omega, show _ ≤ 7302250 by omega⟩) hS (fun q _ h => hFc q h) hFc (fun  u t H1 locs ht hvm hw hB hz1 hk1 hS => ?_)
  obtain ⟨hP, hD⟩ := va_join (wr := []) (w1 := []) hP hD [0, 1] [] rfl rfl (by decide) (by decide) hk1 hFc nilP nilD
  generalize H1 = H at hP hS ⊢
  have hP : va_P (dC, dI) CL [] H := hP
  have hD : va_D A [] := hD
  refine lv_goto (tgt := 703) hx hb d_law_277 (by decide) ?_
  exact lb_done C0 hA2 hbA hS hl
end
