set_option maxHeartbeats 4000000 in
set_option maxRecDepth 100000 in
theorem ws2c {p : Program} {e : Env} {s : State} {m : MethodId} {below : List Frame} {meth : Method} {c : Code} (l : Launch) {b L : Nat} {xs : Nat → Int32} {A : Nat → Prop} {dC : Nat → ClassId} {dI : Nat → Nat → Nat} {cI cB cJ cZ : ClassId} {tM tC : Nat} {kK kV : Nat → Nat} (hL : L ≤ 3072) (C0 : lw_At p s m meth c b L xs) (hA : ∀ q : Nat, s.heap.size ≤ q → A q) (hA2 : ∀ q : Nat, A q → s.heap.size ≤ q) (hbA : ¬ A b) (hK : va_K (dC, dI) CL (TY cI cB cJ cZ) s) (hE : CE s.heap tM tC kK kV A s) {ad : Nat → Nat} {x : St} {H : Heap} {locs : List Loc} {cells slots : Nat} {ls : Array Slot} {fs : List Value} (efs : fs = [.int 0, .null, .null, .int 0, .int 0, .null, .null, .null, .null, .null, .null, .null, .null, .null, .int 0, .int 0, .int 0, .int 0, .null, .null, .null, .null, .null, .null, .int 0, .int 0, .null, .null, .null, .null, .null, .null, .null, .null, .int 0, .int 0, .int 0, .int 0, .int 0, .int 0, .int 0, .int 0, .int 0, .int 0, .int 0, .null, .null, .null, .null, .null, .null, .null, .null, .null, .null, .null, .null, .null, .int 0, .int 0, .null, .null, .null, .null, .int 0, .int 0, .int 0, .int 0, .int 0, .int 0, .null, .int 0, .null, .null, .null, .null, .null, .null, .null, .null, .null, .null, .int 0, .int 0, .int 0, .int 0, .int 0, .int 0, .int 0, .null, .null, .null, .null, .int 0, .int 0, .null, .null, .null, .null, .null, .null, .null, .null, .null, .null, .null, .null, .null, .null, .null, .null, .null, .null, .int 0, .null, .null, .null, .int 0, .int 0, .int 0, .int 0, .int 0, .null, .null, .null, .null, .null, .null, .null, .null, .null, .null, .null, .null, .null, .null, .null, .null, .null, .int 0, .int 0, .null, .null, .null, .null, .null, .null, .null, .null, .null, .null, .null, .null, .null, .null, .null, .null, .null, .null, .null, .int 0, .int 0, .int 0, .int 0, .int 0, .int 0, .int 0]) (ex : x = x0C) {q12 : Nat} (hW1 : Wd dC dI cI cB cJ cZ ad stC kcC 152 A x H) (hPc : va_P (dC, dI) CL [(q12, .inr (12, fs))] H) (hDc : va_D A [(q12, .inr (12, fs))]) (hd : ∀ i, i < 152 → ∀ (k : Nat) (e : va_E), [(q12, (.inr (12, fs) : va_E))][k]? ≠ some (ad i, e)) (hS : va_S A s.heap H locs) (hl : lv_has ls 4 [(1, .ref (ad 0)), (0, .ref b)]) (hc : cells ≤ 300) (hs : slots ≤ 420000) : W p l e room_1 s m #[Value.ref b] below meth c H locs cells slots (lw_Z below #[Value.ref b] s) (F0 m 12 ls [.ref q12, .ref q12]) := by
  obtain ⟨hx, hb, hr, hml, hown0, hts, hX, hbl, hlocks, hgv⟩ := id C0
  have hown : s.vm.findClass R_Law = some m.cls := hown0
  have hT : ∀ w ∈ TG, w.before #[Value.ref b] s = true := fun w h => hts w (TG_lw w h)
  have hN : NW s := NW.of hts
  have hFc := va_free (wc := [(q12, .inr (12, fs))]) hDc hS hA [0] rfl
  obtain ⟨y0, ey⟩ : ∃ y0, y0 = x0M := ⟨_, rfl⟩
  have hM := c_Mod_initF l dC dI cI cB cJ cZ efs ey q12 H.size
  clear efs
  refine va_callv (va_runI (As := []) (rest := [.ref q12]) ⟨hx, hb, hml, hown, hT⟩ hM (cwI 0 hT (gwt_in w_8_169) rfl rfl rfl (hT _ w_1_15) (hT _ w_8_167) (hT _ w_8_168) rfl (by decide +kernel) ⟨Nat.le_of_ble_eq_true rfl, Nat.le_of_ble_eq_true rfl⟩) ⟨PC.blind, PC.at _ hPc hDc hK hN⟩ rfl rfl hl.1 rfl (lv_room (Nat.le_of_ble_eq_true rfl)) d_law_12 ⟨show _ ≤ 600000 by omega, show _ ≤ 7302250 by omega⟩) hS (fun q _ h => hFc q h) hFc (fun u t H1 locs ht hvm hw hB hz1 hk1 hS => ?_)
  rw [ht] at hB
  obtain ⟨ad', ea', hB⟩ := hB
  have hSep' : Sep ad' 115 ad 152 := hB.sep (fun j hj => hW1.lt hj) hd
  have hV : Wd dC dI cI cB cJ cZ ad' stM kcM 115 A y0 H1 := hB.back rfl hFc
  have hW2 := hW1.away hk1 hd
  have hSep : Sep ad 152 ad' 115 := fun i j hi hj z => hSep' j i hj hi z.symm
  subst ea'
  subst ex
  subst ey
  exact ws3 l hL C0 hA hA2 hbA hK hE hW2 hV hSep hS hl (by clear hW1 hW2 hV hl C0 hd; omega) (by clear hW1 hW2 hV hl C0 hd; omega)
