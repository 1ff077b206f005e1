set_option maxHeartbeats 4000000 in
set_option maxRecDepth 100000 in
/-- the law's loop -/
theorem lw_loop {p : Program} {l : Launch} {e : Env} {s : State} {m : MethodId} {below : List Frame} {meth : Method} {c : Code} {b L : Nat} {xs : Nat → Int32} {A : Nat → Prop} {dC : Nat → ClassId} {dI : Nat → Nat → Nat} {cI cB cJ cZ : ClassId} {tM tC : Nat} {kK kV : Nat → Nat} (C0 : lw_At p s m meth c b L xs) (hL : L ≤ 3072) (hA : ∀ q : Nat, s.heap.size ≤ q → A q) (hA2 : ∀ q : Nat, A q → s.heap.size ≤ q) (hbA : ¬ A b) (hK : va_K (dC, dI) CL (TY cI cB cJ cZ) s) (hE : CE s.heap tM tC kK kV A s) {ad' : Nat → Nat} : ∀ (n i : Nat) (ad : Nat → Nat) (NN : Nat) (κ : Nat → Nat) (x y : St) (H : Heap) (locs : List Loc) (cells slots : Nat) (ls : Array Slot), i ≤ L + 6 → L + 7 ≤ i + 6 * n → LB dC dI cI cB cJ cZ A ad ad' NN κ x y H → va_S A s.heap H locs → lv_has ls 4 [(3, .int (nI i)), (2, .ref (ad' 0)), (1, .ref (ad 0)), (0, .ref b)] → cells + KP κ ≤ 600000 → slots + NP κ ≤ 7302250 → W p l e room_1 s m #[Value.ref b] below meth c H locs cells slots (lw_Z below #[Value.ref b] s) (F0 m 18 ls []) := by
  obtain ⟨hx, hb, hr, hml, hown0, hts, hX, hbl, hlocks, hgv⟩ := id C0
  have hown : s.vm.findClass R_Law = some m.cls := hown0
  have hT : ∀ w ∈ TG, w.before #[Value.ref b] s = true := fun w h => hts w (TG_lw w h)
  have hN : NW s := NW.of hts
  intro n
  induction n with
  | zero => intro i ad NN κ x y H locs cells slots ls h1 h2; exact absurd h2 (by omega)
  | succ n ih =>
    intro i ad NN κ x y H locs cells slots ls hi hn h hS hl hc hs
    refine lv_iload_n hx hb d_law_18 rfl (lv_at hl 0 rfl) ?_
    refine lv_aload_n hx hb d_law_19 rfl (lv_at hl 3 rfl) ?_
    refine va_slen hx hb hX hbl hbA hS d_law_20 ?_
    refine lv_bipush (v := 6) hx hb d_law_21 (by decide) ?_
    refine lv_isub hx hb d_law_23 ?_
    refine lv_icmp_gt (tgt := 709) hx hb d_law_24 (by decide) (fun c1 => ?_) (fun c1 => ?_)
    · refine lv_iconst (v := 1) hx hb d_law_709 (by decide) ?_
      refine va_forget (fun q hq => hA2 _ (hS.2.2 q hq)) ?_
      refine W.widen (k := 600000) (n := 7302250) (by omega) (by omega) ?_
      exact lw_ret hx hb hr hlocks d_law_710
    · have h6 : i + 6 ≤ L := lw_six (by omega) hL c1
      have next : ∀ {ad1 : Nat → Nat} {NN1 : Nat} {κ1 : Nat → Nat} {x1 y1 : St} {H1 : Heap} {locs1 : List Loc} {cells1 slots1 : Nat}, LB dC dI cI cB cJ cZ A ad1 ad' NN1 κ1 x1 y1 H1 → ad1 0 = ad 0 → va_S A s.heap H1 locs1 → cells1 + KP κ1 ≤ 600000 → slots1 + NP κ1 ≤ 7302250 → W p l e room_1 s m #[Value.ref b] below meth c H1 locs1 cells1 slots1 (lw_Z below #[Value.ref b] s) (F0 m 703 ls []) := by
        intro ad1 NN1 κ1 x1 y1 H1 locs1 cells1 slots1 h1 e1 hS1 hc1 hs1
        refine lv_iinc (v := nI (i + 6)) (lv' := [(3, .int (nI (i + 6))), (2, .ref (ad' 0)), (1, .ref (ad 0)), (0, .ref b)]) hx hb d_law_703 hl (k := 0) rfl (nI_add i 6) (by decide) rfl (fun ls hl => ?_)
        refine lv_goto (tgt := 18) hx hb d_law_706 (by decide) ?_
        exact ih (i + 6) ad1 NN1 κ1 x1 y1 H1 locs1 cells1 slots1 ls (by omega) (by omega) h1 hS1 (by rw [e1]; exact hl) hc1 hs1
      refine lv_aload_n hx hb d_law_27 rfl (lv_at hl 3 rfl) ?_
      refine lv_iload_n hx hb d_law_28 rfl (lv_at hl 0 rfl) ?_
      refine va_sld hx hb hX hbl hbA hS (vp_in_nI (by omega) (by omega)) d_law_29 ?_
      refine lv_bipush (v := 31) hx hb d_law_30 (by decide) ?_
      refine lv_iand hx hb d_law_32 ?_
      obtain ⟨j, hj, ej⟩ := pk_andE (xs (nI i).toNatClampNeg) (m := 31) 5 (by decide)
      rw [ej]
      rcases (show j = 0 ∨ j = 1 ∨ j = 2 ∨ j = 3 ∨ j = 4 ∨ j = 5 ∨ j = 6 ∨ j = 7 ∨ j = 8 ∨ j = 9 ∨ j = 10 ∨ j = 11 ∨ j = 12 ∨ j = 13 ∨ j = 14 ∨ j = 15 ∨ j = 16 ∨ j = 17 ∨ j = 18 ∨ j = 19 ∨ j = 20 ∨ j = 21 ∨ j = 22 ∨ j = 23 ∨ 24 ≤ j by omega) with e | e | e | e | e | e | e | e | e | e | e | e | e | e | e | e | e | e | e | e | e | e | e | e | hj2
      · subst e
        refine lv_tableIn (tgt := 144) hx hb d_law_33 (by decide) (by decide) (off := 111) rfl (by decide) ?_
        exact lwt_0 C0 hL hA hA2 hbA hK hE h6 h hS hl hc hs next
      · subst e
        refine lv_tableIn (tgt := 207) hx hb d_law_33 (by decide) (by decide) (off := 174) rfl (by decide) ?_
        exact lwt_1 C0 hL hA hA2 hbA hK hE h6 h hS hl hc hs next
      · subst e
        refine lv_tableIn (tgt := 230) hx hb d_law_33 (by decide) (by decide) (off := 197) rfl (by decide) ?_
        exact lwt_2 C0 hL hA hA2 hbA hK hE h6 h hS hl hc hs next
      · subst e
        refine lv_tableIn (tgt := 243) hx hb d_law_33 (by decide) (by decide) (off := 210) rfl (by decide) ?_
        exact lwt_3 C0 hL hA hA2 hbA hK hE h6 h hS hl hc hs next
      · subst e
        refine lv_tableIn (tgt := 256) hx hb d_law_33 (by decide) (by decide) (off := 223) rfl (by decide) ?_
        exact lwt_4 C0 hL hA hA2 hbA hK hE h6 h hS hl hc hs next
      · subst e
        refine lv_tableIn (tgt := 269) hx hb d_law_33 (by decide) (by decide) (off := 236) rfl (by decide) ?_
        exact lwt_5 C0 hL hA hA2 hbA hK hE h6 h hS hl hc hs next
      · subst e
        refine lv_tableIn (tgt := 280) hx hb d_law_33 (by decide) (by decide) (off := 247) rfl (by decide) ?_
        exact lwt_6 C0 hL hA hA2 hbA hK hE h6 h hS hl hc hs next
      · subst e
        refine lv_tableIn (tgt := 313) hx hb d_law_33 (by decide) (by decide) (off := 280) rfl (by decide) ?_
        exact lwt_7 C0 hL hA hA2 hbA hK hE h6 h hS hl hc hs next
      · subst e
        refine lv_tableIn (tgt := 324) hx hb d_law_33 (by decide) (by decide) (off := 291) rfl (by decide) ?_
        exact lwt_8 C0 hL hA hA2 hbA hK hE h6 h hS hl hc hs next
      · subst e
        refine lv_tableIn (tgt := 337) hx hb d_law_33 (by decide) (by decide) (off := 304) rfl (by decide) ?_
        exact lwt_9 C0 hL hA hA2 hbA hK hE h6 h hS hl hc hs next
      · subst e
        refine lv_tableIn (tgt := 360) hx hb d_law_33 (by decide) (by decide) (off := 327) rfl (by decide) ?_
        exact lwt_10 C0 hL hA hA2 hbA hK hE h6 h hS hl hc hs next
      · subst e
        refine lv_tableIn (tgt := 393) hx hb d_law_33 (by decide) (by decide) (off := 360) rfl (by decide) ?_
        exact lwt_11 C0 hL hA hA2 hbA hK hE h6 h hS hl hc hs next
      · subst e
        refine lv_tableIn (tgt := 406) hx hb d_law_33 (by decide) (by decide) (off := 373) rfl (by decide) ?_
        exact lwt_12 C0 hL hA hA2 hbA hK hE h6 h hS hl hc hs next
      · subst e
        refine lv_tableIn (tgt := 429) hx hb d_law_33 (by decide) (by decide) (off := 396) rfl (by decide) ?_
        exact lwt_13 C0 hL hA hA2 hbA hK hE h6 h hS hl hc hs next
      · subst e
        refine lv_tableIn (tgt := 452) hx hb d_law_33 (by decide) (by decide) (off := 419) rfl (by decide) ?_
        exact lwt_14 C0 hL hA hA2 hbA hK hE h6 h hS hl hc hs next
      · subst e
        refine lv_tableIn (tgt := 475) hx hb d_law_33 (by decide) (by decide) (off := 442) rfl (by decide) ?_
        exact lwt_15 C0 hL hA hA2 hbA hK hE h6 h hS hl hc hs next
      · subst e
        refine lv_tableIn (tgt := 488) hx hb d_law_33 (by decide) (by decide) (off := 455) rfl (by decide) ?_
        exact lwt_16 C0 hL hA hA2 hbA hK hE h6 h hS hl hc hs next
      · subst e
        refine lv_tableIn (tgt := 501) hx hb d_law_33 (by decide) (by decide) (off := 468) rfl (by decide) ?_
        exact lwt_17 C0 hL hA hA2 hbA hK hE h6 h hS hl hc hs next
      · subst e
        refine lv_tableIn (tgt := 524) hx hb d_law_33 (by decide) (by decide) (off := 491) rfl (by decide) ?_
        exact lwt_18 C0 hL hA hA2 hbA hK hE h6 h hS hl hc hs next
      · subst e
        refine lv_tableIn (tgt := 547) hx hb d_law_33 (by decide) (by decide) (off := 514) rfl (by decide) ?_
        exact lwt_19 C0 hL hA hA2 hbA hK hE h6 h hS hl hc hs next
      · subst e
        refine lv_tableIn (tgt := 580) hx hb d_law_33 (by decide) (by decide) (off := 547) rfl (by decide) ?_
        exact lwt_20 C0 hL hA hA2 hbA hK hE h6 h hS hl hc hs next
      · subst e
        refine lv_tableIn (tgt := 614) hx hb d_law_33 (by decide) (by decide) (off := 581) rfl (by decide) ?_
        exact lwt_21 C0 hL hA hA2 hbA hK hE h6 h hS hl hc hs next
      · subst e
        refine lv_tableIn (tgt := 657) hx hb d_law_33 (by decide) (by decide) (off := 624) rfl (by decide) ?_
        exact lwt_22 C0 hL hA hA2 hbA hK hE h6 h hS hl hc hs next
      · subst e
        refine lv_tableIn (tgt := 680) hx hb d_law_33 (by decide) (by decide) (off := 647) rfl (by decide) ?_
        exact lwt_23 C0 hL hA hA2 hbA hK hE h6 h hS hl hc hs next
      · refine lv_tableOut (tgt := 703) hx hb d_law_33 (Or.inr (by rw [nI_toInt (by omega)]; omega)) (by decide) ?_
        exact next h rfl hS hc hs
