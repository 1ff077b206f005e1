set_option maxHeartbeats 4000000 in
set_option maxRecDepth 100000 in
theorem ws2 {p : Program} {e : Env} {s : State} {m : MethodId} {below : List Frame} {meth : Method} {c : Code} (l : Launch) {b L : Nat} {xs : Nat → Int32} {A : Nat → Prop} {dC : Nat → ClassId} {dI : Nat → Nat → Nat} {cI cB cJ cZ : ClassId} {tM tC : Nat} {kK kV : Nat → Nat} (hL : L ≤ 3072) (C0 : lw_At p s m meth c b L xs) (hA : ∀ q : Nat, s.heap.size ≤ q → A q) (hA2 : ∀ q : Nat, A q → s.heap.size ≤ q) (hbA : ¬ A b) (hK : va_K (dC, dI) CL (TY cI cB cJ cZ) s) (hE : CE s.heap tM tC kK kV A s) {ad : Nat → Nat} {x : St} {H : Heap} {locs : List Loc} {cells slots : Nat} {ls : Array Slot} (ex : x = x0C) (hW : Wd dC dI cI cB cJ cZ ad stC kcC 152 A x H) (hS : va_S A s.heap H locs) (hl : lv_has ls 4 [(1, .ref (ad 0)), (0, .ref b)]) (hc : cells ≤ 200) (hs : slots ≤ 410000) : W p l e room_1 s m #[Value.ref b] below meth c H locs cells slots (lw_Z below #[Value.ref b] s) (F0 m 8 ls []) := by
  obtain ⟨hx, hb, hr, hml, hown0, hts, hX, hbl, hlocks, hgv⟩ := id C0
  have hown : s.vm.findClass R_Law = some m.cls := hown0
  have hT : ∀ w ∈ TG, w.before #[Value.ref b] s = true := fun w h => hts w (TG_lw w h)
  have hN : NW s := NW.of hts
  refine va_new (ci := 12) (fs := [.int 0, .null, .null, .int 0, .int 0, .null, .null, .null, .null, .null, .null, .null, .null, .null, .int 0, .int 0, .int 0, .int 0, .null, .null, .null, .null, .null, .null, .int 0, .int 0, .null, .null, .null, .null, .null, .null, .null, .null, .int 0, .int 0, .int 0, .int 0, .int 0, .int 0, .int 0, .int 0, .int 0, .int 0, .int 0, .null, .null, .null, .null, .null, .null, .null, .null, .null, .null, .null, .null, .null, .int 0, .int 0, .null, .null, .null, .null, .int 0, .int 0, .int 0, .int 0, .int 0, .int 0, .null, .int 0, .null, .null, .null, .null, .null, .null, .null, .null, .null, .null, .int 0, .int 0, .int 0, .int 0, .int 0, .int 0, .int 0, .null, .null, .null, .null, .int 0, .int 0, .null, .null, .null, .null, .null, .null, .null, .null, .null, .null, .null, .null, .null, .null, .null, .null, .null, .null, .int 0, .null, .null, .null, .int 0, .int 0, .int 0, .int 0, .int 0, .null, .null, .null, .null, .null, .null, .null, .null, .null, .null, .null, .null, .null, .null, .null, .null, .null, .int 0, .int 0, .null, .null, .null, .null, .null, .null, .null, .null, .null, .null, .null, .null, .null, .null, .null, .null, .null, .null, .null, .int 0, .int 0, .int 0, .int 0, .int 0, .int 0, .int 0]) (C := R_Mod) (T := F_Mod) (N := 167) (ws := pic ad stC kcC 152 cI cB cJ cZ x) hx hb hT in_Mod t_Mod t_Mod_ok hown (hT _ w_8_165) (hT _ w_8_166) (hT _ w_1_15) hK hW.1 hW.2.1 hS hA rfl (by decide +kernel) (show _ ≤ 600000 by omega) (show _ ≤ 7302250 by omega) d_law_8 (fun q12 H hP hD hS => ?_)
  obtain ⟨fs, efs⟩ : ∃ fs : List Value, fs = [.int 0, .null, .null, .int 0, .int 0, .null, .null, .null, .null, .null, .null, .null, .null, .null, .int 0, .int 0, .int 0, .int 0, .null, .null, .null, .null, .null, .null, .int 0, .int 0, .null, .null, .null, .null, .null, .null, .null, .null, .int 0, .int 0, .int 0, .int 0, .int 0, .int 0, .int 0, .int 0, .int 0, .int 0, .int 0, .null, .null, .null, .null, .null, .null, .null, .null, .null, .null, .null, .null, .null, .int 0, .int 0, .null, .null, .null, .null, .int 0, .int 0, .int 0, .int 0, .int 0, .int 0, .null, .int 0, .null, .null, .null, .null, .null, .null, .null, .null, .null, .null, .int 0, .int 0, .int 0, .int 0, .int 0, .int 0, .int 0, .null, .null, .null, .null, .int 0, .int 0, .null, .null, .null, .null, .null, .null, .null, .null, .null, .null, .null, .null, .null, .null, .null, .null, .null, .null, .int 0, .null, .null, .null, .int 0, .int 0, .int 0, .int 0, .int 0, .null, .null, .null, .null, .null, .null, .null, .null, .null, .null, .null, .null, .null, .null, .null, .null, .null, .int 0, .int 0, .null, .null, .null, .null, .null, .null, .null, .null, .null, .null, .null, .null, .null, .null, .null, .null, .null, .null, .null, .int 0, .int 0, .int 0, .int 0, .int 0, .int 0, .int 0] := ⟨_, rfl⟩
  rw [← efs] at hP hD
  have hW1 : Wd dC dI cI cB cJ cZ ad stC kcC 152 A x H := ⟨fun k q hk => hP k q (by rw [List.getElem?_append_left (List.getElem?_eq_some_iff.mp hk).1]; exact hk), hW.2.1, hW.2.2⟩
  have hq : (pic ad stC kcC 152 cI cB cJ cZ x ++ [(q12, .inr (12, fs))])[152]? = some (q12, .inr (12, fs)) := by rw [List.getElem?_append_right (by simp [pic])]; simp [pic]
  have hne : ∀ i, i < 152 → ad i ≠ q12 := fun i hi z => by
    have h1 := hD.1 i 152 (ad i, _) (q12, _) (by rw [List.getElem?_append_left (by simp [pic]; exact hi)]; exact pic_at hi) hq z
    omega
  have hPc : va_P (dC, dI) CL [(q12, .inr (12, fs))] H := fun k q hk => by
    match k, hk with
    | 0, hk => exact hP 152 q (hq.trans hk)
    | k + 1, hk => simp at hk
  have hDc : va_D A [(q12, .inr (12, fs))] := ⟨fun i j a c hi hj _ => by
    match i, hi, j, hj with
    | 0, _, 0, _ => rfl
    | i + 1, hi, _, _ => simp at hi
    | _, _, j + 1, hj => simp at hj, fun k q hk => by
    match k, hk with
    | 0, hk => exact hD.2 152 q (hq.trans hk)
    | k + 1, hk => simp at hk⟩
  have hd : ∀ i, i < 152 → ∀ (k : Nat) (e : va_E), [(q12, (.inr (12, fs) : va_E))][k]? ≠ some (ad i, e) := fun i hi k e z => by
    match k, z with
    | 0, z => exact hne i hi (congrArg Prod.fst (Option.some.inj z)).symm
    | k + 1, z => simp at z
  refine lv_dup hx hb d_law_11 rfl ?_
  exact ws2c l hL C0 hA hA2 hbA hK hE efs ex hW1 hPc hDc hd hS hl (by clear hW1 hW hP hD hq hPc hDc hl C0 hd hne; omega) (by clear hW1 hW hP hD hq hPc hDc hl C0 hd hne; omega)
