

theorem known {args : Array Value} {s : State} (hT : ∀ w ∈ TG, w.before args s = true) : ∃ (dC : Nat → ClassId) (dI : Nat → Nat → Nat), ∀ (k : Nat) (q : vw_C), CL[k]? = some q → u_Kn s q.1 q.2.1 q.2.2 (dC k) (dI k) := by
  have h : ∀ k : Nat, ∃ (cc : ClassId) (ii : Nat → Nat), ∀ q : vw_C, CL[k]? = some q → u_Kn s q.1 q.2.1 q.2.2 cc ii := by
    intro k
    match k with
    | 0 =>
      obtain ⟨x, y, h⟩ := u_known (C := R_V) (T := F_V) (N := 15) (n := 15) hT in_V (hT _ w_1_23)
      exact ⟨x, y, fun q hq => by cases hq; exact h⟩
    | 1 =>
      obtain ⟨x, y, h⟩ := u_known (C := R_Snk) (T := F_Snk) (N := 7) (n := 7) hT in_Snk (hT _ w_1_31)
      exact ⟨x, y, fun q hq => by cases hq; exact h⟩
    | 2 =>
      obtain ⟨x, y, h⟩ := u_known (C := R_Scn) (T := F_Scn) (N := 8) (n := 8) hT in_Scn (hT _ w_1_72)
      exact ⟨x, y, fun q hq => by cases hq; exact h⟩
    | 3 =>
      obtain ⟨x, y, h⟩ := u_known (C := R_Sch) (T := F_Sch) (N := 13) (n := 13) hT in_Sch (hT _ w_1_125)
      exact ⟨x, y, fun q hq => by cases hq; exact h⟩
    | 4 =>
      obtain ⟨x, y, h⟩ := u_known (C := R_Rec) (T := F_Rec) (N := 15) (n := 15) hT in_Rec (hT _ w_1_218)
      exact ⟨x, y, fun q hq => by cases hq; exact h⟩
    | 5 =>
      obtain ⟨x, y, h⟩ := u_known (C := R_Wrt) (T := F_Wrt) (N := 20) (n := 20) hT in_Wrt (hT _ w_2_43)
      exact ⟨x, y, fun q hq => by cases hq; exact h⟩
    | 6 =>
      obtain ⟨x, y, h⟩ := u_known (C := R_Vlt) (T := F_Vlt) (N := 20) (n := 20) hT in_Vlt (hT _ w_2_113)
      exact ⟨x, y, fun q hq => by cases hq; exact h⟩
    | 7 =>
      obtain ⟨x, y, h⟩ := u_known (C := R_Opn) (T := F_Opn) (N := 17) (n := 17) hT in_Opn (hT _ w_2_225)
      exact ⟨x, y, fun q hq => by cases hq; exact h⟩
    | 8 =>
      obtain ⟨x, y, h⟩ := u_known (C := R_Src) (T := F_Src) (N := 5) (n := 5) hT in_Src (hT _ w_2_231)
      exact ⟨x, y, fun q hq => by cases hq; exact h⟩
    | 9 =>
      obtain ⟨x, y, h⟩ := u_known (C := R_Qry) (T := F_Qry) (N := 20) (n := 20) hT in_Qry (hT _ w_3_69)
      exact ⟨x, y, fun q hq => by cases hq; exact h⟩
    | 10 =>
      obtain ⟨x, y, h⟩ := u_known (C := R_Ans) (T := F_Ans) (N := 16) (n := 16) hT in_Ans (hT _ w_3_150)
      exact ⟨x, y, fun q hq => by cases hq; exact h⟩
    | 11 =>
      obtain ⟨x, y, h⟩ := u_known (C := R_Asm) (T := F_Asm) (N := 4) (n := 4) hT in_Asm (hT _ w_3_213)
      exact ⟨x, y, fun q hq => by cases hq; exact h⟩
    | 12 =>
      obtain ⟨x, y, h⟩ := u_known (C := R_Mod) (T := F_Mod) (N := 167) (n := 167) hT in_Mod (hT _ w_8_170)
      exact ⟨x, y, fun q hq => by cases hq; exact h⟩
    | k + 13 =>
      obtain ⟨x, y, h⟩ := u_known (C := R_V) (T := F_V) (N := 15) (n := 15) hT in_V (hT _ w_1_23)
      exact ⟨x, y, fun q hq => by simp at hq⟩
  exact ⟨fun k => (h k).choose, fun k => (h k).choose_spec.choose, fun k => (h k).choose_spec.choose_spec⟩
theorem arrs {args : Array Value} {s : State} {dC : Nat → ClassId} {dI : Nat → Nat → Nat} (hT : ∀ w ∈ TG, w.before args s = true) (hKc : ∀ (k : Nat) (q : vw_C), CL[k]? = some q → u_Kn s q.1 q.2.1 q.2.2 (dC k) (dI k)) : ∃ cI cB cJ cZ : ClassId, va_K (dC, dI) CL (TY cI cB cJ cZ) s := by
  obtain ⟨cI, kI, pI, aI, bI, dI⟩ := Cond.arrayClass_spec (hT _ w_1_69)
  obtain ⟨cB, kB, pB, aB, bB, dB⟩ := Cond.arrayClass_spec (hT _ w_1_70)
  obtain ⟨cJ, kJ, pJ, aJ, bJ, dJ⟩ := Cond.arrayClass_spec (hT _ w_2_41)
  obtain ⟨cZ, kZ, pZ, aZ, bZ, dZ⟩ := Cond.arrayClass_spec (hT _ w_3_211)
  refine ⟨cI, cB, cJ, cZ, hKc, fun k q hk => ?_⟩
  match k, hk with
  | 0, hk => cases hk; exact ⟨fun n z => ⟨fun k h => (by cases h), kI, bI, pI, dI⟩, aI⟩
  | 1, hk => cases hk; exact ⟨fun n z => ⟨fun k h => (by cases h), kB, bB, pB, dB⟩, aB⟩
  | 2, hk => cases hk; exact ⟨fun n z => ⟨fun k h => (by cases h), kJ, bJ, pJ, dJ⟩, aJ⟩
  | 3, hk => cases hk; exact ⟨fun n z => ⟨fun k h => (by cases h), kZ, bZ, pZ, dZ⟩, aZ⟩
  | k + 4, hk => simp at hk
theorem six {L : Nat} (h : L ≤ 6) (q : ¬ ((Int32.ofNat L) - 6 < 0)) : L = 6 := by
  rcases (show L = 0 ∨ L = 1 ∨ L = 2 ∨ L = 3 ∨ L = 4 ∨ L = 5 ∨ L = 6 by omega) with e | e | e | e | e | e | e
  · subst e; exact absurd (by decide) q
  · subst e; exact absurd (by decide) q
  · subst e; exact absurd (by decide) q
  · subst e; exact absurd (by decide) q
  · subst e; exact absurd (by decide) q
  · subst e; exact absurd (by decide) q
  · exact e
set_option maxHeartbeats 4000000 in
set_option maxRecDepth 100000 in
/-- the law, from its entry -/
theorem whole_start {p : Program} {e : Env} {s : State} {m : MethodId} {below : List Frame} {meth : Method} {c : Code} (l : Launch) {b L : Nat} {xs : Nat → Int32} (hL : L ≤ 6) (C0 : lw_At p s m meth c b L xs) : W p l e room_1 s m #[Value.ref b] below meth c s.heap [] 0 0 (lw_Z below #[Value.ref b] s) (entryFrame m ([Value.ref b] : List Value).toArray 4) := by
  obtain ⟨hx, hb, hr, hml, hown0, hts, hX, hbl, hlocks, hgv⟩ := id C0
  have hown : s.vm.findClass R_Law = some m.cls := hown0
  have hT : ∀ w ∈ TG, w.before #[Value.ref b] s = true := fun w h => hts w (TG_lw w h)
  have hN : NW s := NW.of hts
  obtain ⟨A, eA⟩ : ∃ A : Nat → Prop, A = fun q => s.heap.size ≤ q := ⟨_, rfl⟩
  have hA : ∀ q : Nat, s.heap.size ≤ q → A q := by rw [eA]; exact fun _ h => h
  have hA2 : ∀ q : Nat, A q → s.heap.size ≤ q := by rw [eA]; exact fun _ h => h
  have hbA : ¬ A b := fun z => absurd (hA2 b z) (Nat.not_le.mpr hbl)
  obtain ⟨dC, dI, hKc⟩ := known hT
  obtain ⟨cI, cB, cJ, cZ, hK⟩ := arrs hT hKc
  have hS : va_S A s.heap s.heap [] := va_S.rf
  have hP : va_P (dC, dI) CL [] s.heap := nilP
  have hD : va_D A [] := nilD
  have hl := lv_entry ([.ref b]) (n := 4) (Nat.le_of_ble_eq_true rfl)
  rw [lg_entry_eq]
  generalize (lg_sl ([.ref b]) ++ List.replicate (4 - (lg_sl ([.ref b])).length) Slot.unset).toArray = ls at hl ⊢
  have hl : lv_has ls 4 [(0, .ref b)] := hl
  refine va_new (ci := 0) (fs := [.null, .null, .null, .null, .null, .null, .null, .null, .null, .null, .null, .null, .null, .null, .null]) (C := R_V) (T := F_V) (N := 15) hx hb hT in_V t_V t_V_ok hown (hT _ w_1_22) (hT _ w_1_23) (hT _ w_1_1) hK hP hD hS hA rfl (by decide +kernel) (show _ ≤ 600000 by omega) (show _ ≤ 7302250 by omega) d_law_0 (fun q1 H hP hD hS => ?_)
  have hP : va_P (dC, dI) CL [(q1, .inr (0, [.null, .null, .null, .null, .null, .null, .null, .null, .null, .null, .null, .null, .null, .null, .null]))] H := hP
  have hD : va_D A [(q1, .inr (0, [.null, .null, .null, .null, .null, .null, .null, .null, .null, .null, .null, .null, .null, .null, .null]))] := hD
  refine W.widen (k := 1) (n := 15) (by omega) (by omega) ?_
  refine lv_dup hx hb d_law_3 rfl ?_
  have hPc := hP.sub (ws' := [(q1, .inr (0, [.null, .null, .null, .null, .null, .null, .null, .null, .null, .null, .null, .null, .null, .null, .null]))]) [0] rfl
  have hDc := hD.sub (ws' := [(q1, .inr (0, [.null, .null, .null, .null, .null, .null, .null, .null, .null, .null, .null, .null, .null, .null, .null]))]) [0] (by decide) rfl
  have hFc := va_free (wc := [(q1, .inr (0, [.null, .null, .null, .null, .null, .null, .null, .null, .null, .null, .null, .null, .null, .null, .null]))]) hD hS hA [0] rfl
  refine va_callv (va_runI (As := []) (rest := [.ref q1]) ⟨hx, hb, hml, hown, hT⟩ (c_V_initX l dC dI cI cB cJ cZ q1 H.size) (cwI 0 hT (gw_in w_1_26) rfl rfl rfl (hT _ w_1_1) (hT _ w_1_24) (hT _ w_1_25) rfl (by decide +kernel) ⟨Nat.le_of_ble_eq_true rfl, Nat.le_of_ble_eq_true rfl⟩) ⟨PC.blind, PC.at _ hPc hDc hK hN⟩ rfl rfl hl.1 rfl (lv_room (Nat.le_of_ble_eq_true rfl)) d_law_4 ⟨show _ ≤ 600000 by omega, show _ ≤ 7302250 by omega⟩) hS (fun q _ h => hFc q h) hFc (fun u t H1 locs ht hvm hw hB hz1 hk1 hS => ?_)
  obtain ⟨xq1, xq3, xq4, xq6, xq7, xq9, xq10, xq12, xq24, xq36, xq43, xq44, xq97, xq70, xq98, xq106, xq128, xq130, xq131, xq132, xq146, xq147, xq149, xq129, Lx0, Lx1, Lx2, Lx3, Lx4, Lx5, Lx6, Lx7, Lx8, Lx9, Lx10, Lx11, Lx12, Lx13, hP1, hD1, kx_h0_0, kx_h0_1, kx_h0_10, kx_h0_12, kx_h0_14, kx_h0_2, kx_h0_3, kx_h0_4, kx_h0_5, kx_h0_6, kx_h0_8, kx_h0_9, kx_h0_len, kx_q1_0, kx_q1_1, kx_q1_2, kx_q1_3, kx_q1_len, kx_q10_len, kx_q106_0, kx_q106_len, kx_q12_0, kx_q12_len, kx_q128_0, kx_q128_1, kx_q128_2, kx_q128_3, kx_q128_4, kx_q128_5, kx_q128_6, kx_q128_7, kx_q128_8, kx_q128_9, kx_q128_len, kx_q146_0, kx_q146_1, kx_q146_len, kx_q147_0, kx_q147_1, kx_q147_len, kx_q24_len, kx_q36_0, kx_q36_10, kx_q36_11, kx_q36_len, kx_q4_0, kx_q4_1, kx_q4_len, kx_q7_0, kx_q7_1, kx_q7_len, kx_q70_0, kx_q70_len, kx_q97_3, kx_q97_4, kx_q97_len⟩ := hB
  rw [ht] at hP1
  obtain ⟨hP, hD⟩ := va_join (wr := []) (w1 := [(q1, .inr (0, Lx0)), (xq1, .inr (1, Lx1)), (xq3, .inl (cB, 512, .inl (fun _ => 0))), (xq4, .inr (1, Lx2)), (xq6, .inl (cB, 512, .inl (fun _ => 0))), (xq7, .inr (1, Lx3)), (xq9, .inl (cB, 512, .inl (fun _ => 0))), (xq10, .inr (2, Lx4)), (xq12, .inr (3, Lx5)), (xq24, .inr (3, Lx6)), (xq36, .inr (4, Lx7)), (xq43, .inl (cI, 64, .inl (fun _ => (-1)))), (xq44, .inl (cI, 64, .inl (fun _ => (-1)))), (xq97, .inr (7, Lx8)), (xq70, .inr (6, Lx9)), (xq98, .inl (cI, 3, .inl (upd (upd (upd (fun _ => 0) (0 : Int32).toNatClampNeg (-1)) (1 : Int32).toNatClampNeg (-1)) (2 : Int32).toNatClampNeg (-1)))), (xq106, .inr (9, Lx10)), (xq128, .inr (10, Lx11)), (xq130, .inl (cI, 2000, .inl (fun _ => 0))), (xq131, .inl (cB, 8000, .inl (fun _ => 0))), (xq132, .inl (cJ, 8000, .inr (.inl (fun _ => 0)))), (xq146, .inr (11, Lx12)), (xq147, .inr (1, Lx13)), (xq149, .inl (cB, 512, .inl (fun _ => 0)))]) hP hD [0] [] rfl rfl (by decide) (by decide) hk1 hFc hP1 hD1
  clear hP1 hD1 hPc hDc hFc hk1 hz1
  generalize H1 = H at hP hS ⊢
  have hP : va_P (dC, dI) CL [(q1, .inr (0, Lx0)), (xq1, .inr (1, Lx1)), (xq3, .inl (cB, 512, .inl (fun _ => 0))), (xq4, .inr (1, Lx2)), (xq6, .inl (cB, 512, .inl (fun _ => 0))), (xq7, .inr (1, Lx3)), (xq9, .inl (cB, 512, .inl (fun _ => 0))), (xq10, .inr (2, Lx4)), (xq12, .inr (3, Lx5)), (xq24, .inr (3, Lx6)), (xq36, .inr (4, Lx7)), (xq43, .inl (cI, 64, .inl (fun _ => (-1)))), (xq44, .inl (cI, 64, .inl (fun _ => (-1)))), (xq97, .inr (7, Lx8)), (xq70, .inr (6, Lx9)), (xq98, .inl (cI, 3, .inl (upd (upd (upd (fun _ => 0) (0 : Int32).toNatClampNeg (-1)) (1 : Int32).toNatClampNeg (-1)) (2 : Int32).toNatClampNeg (-1)))), (xq106, .inr (9, Lx10)), (xq128, .inr (10, Lx11)), (xq130, .inl (cI, 2000, .inl (fun _ => 0))), (xq131, .inl (cB, 8000, .inl (fun _ => 0))), (xq132, .inl (cJ, 8000, .inr (.inl (fun _ => 0)))), (xq146, .inr (11, Lx12)), (xq147, .inr (1, Lx13)), (xq149, .inl (cB, 512, .inl (fun _ => 0)))] H := hP
  have hD : va_D A [(q1, .inr (0, Lx0)), (xq1, .inr (1, Lx1)), (xq3, .inl (cB, 512, .inl (fun _ => 0))), (xq4, .inr (1, Lx2)), (xq6, .inl (cB, 512, .inl (fun _ => 0))), (xq7, .inr (1, Lx3)), (xq9, .inl (cB, 512, .inl (fun _ => 0))), (xq10, .inr (2, Lx4)), (xq12, .inr (3, Lx5)), (xq24, .inr (3, Lx6)), (xq36, .inr (4, Lx7)), (xq43, .inl (cI, 64, .inl (fun _ => (-1)))), (xq44, .inl (cI, 64, .inl (fun _ => (-1)))), (xq97, .inr (7, Lx8)), (xq70, .inr (6, Lx9)), (xq98, .inl (cI, 3, .inl (upd (upd (upd (fun _ => 0) (0 : Int32).toNatClampNeg (-1)) (1 : Int32).toNatClampNeg (-1)) (2 : Int32).toNatClampNeg (-1)))), (xq106, .inr (9, Lx10)), (xq128, .inr (10, Lx11)), (xq130, .inl (cI, 2000, .inl (fun _ => 0))), (xq131, .inl (cB, 8000, .inl (fun _ => 0))), (xq132, .inl (cJ, 8000, .inr (.inl (fun _ => 0)))), (xq146, .inr (11, Lx12)), (xq147, .inr (1, Lx13)), (xq149, .inl (cB, 512, .inl (fun _ => 0)))] := hD
  refine W.widen (k := 152) (n := 402879) (by omega) (by omega) ?_
  refine lv_astore_n (lv' := [(1, .ref q1), (0, .ref b)]) hx hb d_law_7 rfl hl (by decide) rfl (fun ls hl => ?_)
  refine va_new (ci := 12) (fs := [.int 0, .null, .null, .int 0, .int 0, .null, .null, .null, .null, .null, .null, .null, .null, .null, .int 0, .int 0, .int 0, .int 0, .null, .null, .null, .null, .null, .null, .int 0, .int 0, .null, .null, .null, .null, .null, .null, .null, .null, .int 0, .int 0, .int 0, .int 0, .int 0, .int 0, .int 0, .int 0, .int 0, .int 0, .int 0, .null, .null, .null, .null, .null, .null, .null, .null, .null, .null, .null, .null, .null, .int 0, .int 0, .null, .null, .null, .null, .int 0, .int 0, .int 0, .int 0, .int 0, .int 0, .null, .int 0, .null, .null, .null, .null, .null, .null, .null, .null, .null, .null, .int 0, .int 0, .int 0, .int 0, .int 0, .int 0, .int 0, .null, .null, .null, .null, .int 0, .int 0, .null, .null, .null, .null, .null, .null, .null, .null, .null, .null, .null, .null, .null, .null, .null, .null, .null, .null, .int 0, .null, .null, .null, .int 0, .int 0, .int 0, .int 0, .int 0, .null, .null, .null, .null, .null, .null, .null, .null, .null, .null, .null, .null, .null, .null, .null, .null, .null, .int 0, .int 0, .null, .null, .null, .null, .null, .null, .null, .null, .null, .null, .null, .null, .null, .null, .null, .null, .null, .null, .null, .int 0, .int 0, .int 0, .int 0, .int 0, .int 0, .int 0]) (C := R_Mod) (T := F_Mod) (N := 167) hx hb hT in_Mod t_Mod t_Mod_ok hown (hT _ w_8_169) (hT _ w_8_170) (hT _ w_1_15) hK hP hD hS hA rfl (by decide +kernel) (show _ ≤ 600000 by omega) (show _ ≤ 7302250 by omega) d_law_8 (fun q153 H hP hD hS => ?_)
  have hP : va_P (dC, dI) CL [(q1, .inr (0, Lx0)), (xq1, .inr (1, Lx1)), (xq3, .inl (cB, 512, .inl (fun _ => 0))), (xq4, .inr (1, Lx2)), (xq6, .inl (cB, 512, .inl (fun _ => 0))), (xq7, .inr (1, Lx3)), (xq9, .inl (cB, 512, .inl (fun _ => 0))), (xq10, .inr (2, Lx4)), (xq12, .inr (3, Lx5)), (xq24, .inr (3, Lx6)), (xq36, .inr (4, Lx7)), (xq43, .inl (cI, 64, .inl (fun _ => (-1)))), (xq44, .inl (cI, 64, .inl (fun _ => (-1)))), (xq97, .inr (7, Lx8)), (xq70, .inr (6, Lx9)), (xq98, .inl (cI, 3, .inl (upd (upd (upd (fun _ => 0) (0 : Int32).toNatClampNeg (-1)) (1 : Int32).toNatClampNeg (-1)) (2 : Int32).toNatClampNeg (-1)))), (xq106, .inr (9, Lx10)), (xq128, .inr (10, Lx11)), (xq130, .inl (cI, 2000, .inl (fun _ => 0))), (xq131, .inl (cB, 8000, .inl (fun _ => 0))), (xq132, .inl (cJ, 8000, .inr (.inl (fun _ => 0)))), (xq146, .inr (11, Lx12)), (xq147, .inr (1, Lx13)), (xq149, .inl (cB, 512, .inl (fun _ => 0))), (q153, .inr (12, [.int 0, .null, .null, .int 0, .int 0, .null, .null, .null, .null, .null, .null, .null, .null, .null, .int 0, .int 0, .int 0, .int 0, .null, .null, .null, .null, .null, .null, .int 0, .int 0, .null, .null, .null, .null, .null, .null, .null, .null, .int 0, .int 0, .int 0, .int 0, .int 0, .int 0, .int 0, .int 0, .int 0, .int 0, .int 0, .null, .null, .null, .null, .null, .null, .null, .null, .null, .null, .null, .null, .null, .int 0, .int 0, .null, .null, .null, .null, .int 0, .int 0, .int 0, .int 0, .int 0, .int 0, .null, .int 0, .null, .null, .null, .null, .null, .null, .null, .null, .null, .null, .int 0, .int 0, .int 0, .int 0, .int 0, .int 0, .int 0, .null, .null, .null, .null, .int 0, .int 0, .null, .null, .null, .null, .null, .null, .null, .null, .null, .null, .null, .null, .null, .null, .null, .null, .null, .null, .int 0, .null, .null, .null, .int 0, .int 0, .int 0, .int 0, .int 0, .null, .null, .null, .null, .null, .null, .null, .null, .null, .null, .null, .null, .null, .null, .null, .null, .null, .int 0, .int 0, .null, .null, .null, .null, .null, .null, .null, .null, .null, .null, .null, .null, .null, .null, .null, .null, .null, .null, .null, .int 0, .int 0, .int 0, .int 0, .int 0, .int 0, .int 0]))] H := hP
  have hD : va_D A [(q1, .inr (0, Lx0)), (xq1, .inr (1, Lx1)), (xq3, .inl (cB, 512, .inl (fun _ => 0))), (xq4, .inr (1, Lx2)), (xq6, .inl (cB, 512, .inl (fun _ => 0))), (xq7, .inr (1, Lx3)), (xq9, .inl (cB, 512, .inl (fun _ => 0))), (xq10, .inr (2, Lx4)), (xq12, .inr (3, Lx5)), (xq24, .inr (3, Lx6)), (xq36, .inr (4, Lx7)), (xq43, .inl (cI, 64, .inl (fun _ => (-1)))), (xq44, .inl (cI, 64, .inl (fun _ => (-1)))), (xq97, .inr (7, Lx8)), (xq70, .inr (6, Lx9)), (xq98, .inl (cI, 3, .inl (upd (upd (upd (fun _ => 0) (0 : Int32).toNatClampNeg (-1)) (1 : Int32).toNatClampNeg (-1)) (2 : Int32).toNatClampNeg (-1)))), (xq106, .inr (9, Lx10)), (xq128, .inr (10, Lx11)), (xq130, .inl (cI, 2000, .inl (fun _ => 0))), (xq131, .inl (cB, 8000, .inl (fun _ => 0))), (xq132, .inl (cJ, 8000, .inr (.inl (fun _ => 0)))), (xq146, .inr (11, Lx12)), (xq147, .inr (1, Lx13)), (xq149, .inl (cB, 512, .inl (fun _ => 0))), (q153, .inr (12, [.int 0, .null, .null, .int 0, .int 0, .null, .null, .null, .null, .null, .null, .null, .null, .null, .int 0, .int 0, .int 0, .int 0, .null, .null, .null, .null, .null, .null, .int 0, .int 0, .null, .null, .null, .null, .null, .null, .null, .null, .int 0, .int 0, .int 0, .int 0, .int 0, .int 0, .int 0, .int 0, .int 0, .int 0, .int 0, .null, .null, .null, .null, .null, .null, .null, .null, .null, .null, .null, .null, .null, .int 0, .int 0, .null, .null, .null, .null, .int 0, .int 0, .int 0, .int 0, .int 0, .int 0, .null, .int 0, .null, .null, .null, .null, .null, .null, .null, .null, .null, .null, .int 0, .int 0, .int 0, .int 0, .int 0, .int 0, .int 0, .null, .null, .null, .null, .int 0, .int 0, .null, .null, .null, .null, .null, .null, .null, .null, .null, .null, .null, .null, .null, .null, .null, .null, .null, .null, .int 0, .null, .null, .null, .int 0, .int 0, .int 0, .int 0, .int 0, .null, .null, .null, .null, .null, .null, .null, .null, .null, .null, .null, .null, .null, .null, .null, .null, .null, .int 0, .int 0, .null, .null, .null, .null, .null, .null, .null, .null, .null, .null, .null, .null, .null, .null, .null, .null, .null, .null, .null, .int 0, .int 0, .int 0, .int 0, .int 0, .int 0, .int 0]))] := hD
  refine W.widen (k := 153) (n := 403046) (by omega) (by omega) ?_
  refine lv_dup hx hb d_law_11 rfl ?_
  have hPc := hP.sub (ws' := [(q153, .inr (12, [.int 0, .null, .null, .int 0, .int 0, .null, .null, .null, .null, .null, .null, .null, .null, .null, .int 0, .int 0, .int 0, .int 0, .null, .null, .null, .null, .null, .null, .int 0, .int 0, .null, .null, .null, .null, .null, .null, .null, .null, .int 0, .int 0, .int 0, .int 0, .int 0, .int 0, .int 0, .int 0, .int 0, .int 0, .int 0, .null, .null, .null, .null, .null, .null, .null, .null, .null, .null, .null, .null, .null, .int 0, .int 0, .null, .null, .null, .null, .int 0, .int 0, .int 0, .int 0, .int 0, .int 0, .null, .int 0, .null, .null, .null, .null, .null, .null, .null, .null, .null, .null, .int 0, .int 0, .int 0, .int 0, .int 0, .int 0, .int 0, .null, .null, .null, .null, .int 0, .int 0, .null, .null, .null, .null, .null, .null, .null, .null, .null, .null, .null, .null, .null, .null, .null, .null, .null, .null, .int 0, .null, .null, .null, .int 0, .int 0, .int 0, .int 0, .int 0, .null, .null, .null, .null, .null, .null, .null, .null, .null, .null, .null, .null, .null, .null, .null, .null, .null, .int 0, .int 0, .null, .null, .null, .null, .null, .null, .null, .null, .null, .null, .null, .null, .null, .null, .null, .null, .null, .null, .null, .int 0, .int 0, .int 0, .int 0, .int 0, .int 0, .int 0]))]) [24] rfl
  have hDc := hD.sub (ws' := [(q153, .inr (12, [.int 0, .null, .null, .int 0, .int 0, .null, .null, .null, .null, .null, .null, .null, .null, .null, .int 0, .int 0, .int 0, .int 0, .null, .null, .null, .null, .null, .null, .int 0, .int 0, .null, .null, .null, .null, .null, .null, .null, .null, .int 0, .int 0, .int 0, .int 0, .int 0, .int 0, .int 0, .int 0, .int 0, .int 0, .int 0, .null, .null, .null, .null, .null, .null, .null, .null, .null, .null, .null, .null, .null, .int 0, .int 0, .null, .null, .null, .null, .int 0, .int 0, .int 0, .int 0, .int 0, .int 0, .null, .int 0, .null, .null, .null, .null, .null, .null, .null, .null, .null, .null, .int 0, .int 0, .int 0, .int 0, .int 0, .int 0, .int 0, .null, .null, .null, .null, .int 0, .int 0, .null, .null, .null, .null, .null, .null, .null, .null, .null, .null, .null, .null, .null, .null, .null, .null, .null, .null, .int 0, .null, .null, .null, .int 0, .int 0, .int 0, .int 0, .int 0, .null, .null, .null, .null, .null, .null, .null, .null, .null, .null, .null, .null, .null, .null, .null, .null, .null, .int 0, .int 0, .null, .null, .null, .null, .null, .null, .null, .null, .null, .null, .null, .null, .null, .null, .null, .null, .null, .null, .null, .int 0, .int 0, .int 0, .int 0, .int 0, .int 0, .int 0]))]) [24] (by decide) rfl
  have hFc := va_free (wc := [(q153, .inr (12, [.int 0, .null, .null, .int 0, .int 0, .null, .null, .null, .null, .null, .null, .null, .null, .null, .int 0, .int 0, .int 0, .int 0, .null, .null, .null, .null, .null, .null, .int 0, .int 0, .null, .null, .null, .null, .null, .null, .null, .null, .int 0, .int 0, .int 0, .int 0, .int 0, .int 0, .int 0, .int 0, .int 0, .int 0, .int 0, .null, .null, .null, .null, .null, .null, .null, .null, .null, .null, .null, .null, .null, .int 0, .int 0, .null, .null, .null, .null, .int 0, .int 0, .int 0, .int 0, .int 0, .int 0, .null, .int 0, .null, .null, .null, .null, .null, .null, .null, .null, .null, .null, .int 0, .int 0, .int 0, .int 0, .int 0, .int 0, .int 0, .null, .null, .null, .null, .int 0, .int 0, .null, .null, .null, .null, .null, .null, .null, .null, .null, .null, .null, .null, .null, .null, .null, .null, .null, .null, .int 0, .null, .null, .null, .int 0, .int 0, .int 0, .int 0, .int 0, .null, .null, .null, .null, .null, .null, .null, .null, .null, .null, .null, .null, .null, .null, .null, .null, .null, .int 0, .int 0, .null, .null, .null, .null, .null, .null, .null, .null, .null, .null, .null, .null, .null, .null, .null, .null, .null, .null, .null, .int 0, .int 0, .int 0, .int 0, .int 0, .int 0, .int 0]))]) hD hS hA [24] rfl
  refine va_callv (va_runI (As := []) (rest := [.ref q153]) ⟨hx, hb, hml, hown, hT⟩ (c_Mod_initX l dC dI cI cB cJ cZ q153 H.size) (cwI 0 hT (gw_in w_8_173) rfl rfl rfl (hT _ w_1_15) (hT _ w_8_171) (hT _ w_8_172) rfl (by decide +kernel) ⟨Nat.le_of_ble_eq_true rfl, Nat.le_of_ble_eq_true rfl⟩) ⟨PC.blind, PC.at _ hPc hDc hK hN⟩ rfl rfl hl.1 rfl (lv_room (Nat.le_of_ble_eq_true rfl)) d_law_12 ⟨show _ ≤ 600000 by omega, show _ ≤ 7302250 by omega⟩) hS (fun q _ h => hFc q h) hFc (fun u t H1 locs ht hvm hw hB hz1 hk1 hS => ?_)
  obtain ⟨yq1, yq2, yq9, yq10, yq23, yq41, yq52, yq75, Ly0, hP1, hD1, ky_h0_1, ky_h0_11, ky_h0_112, ky_h0_113, ky_h0_12, ky_h0_120, ky_h0_121, ky_h0_14, ky_h0_163, ky_h0_164, ky_h0_2, ky_h0_3, ky_h0_31, ky_h0_34, ky_h0_4, ky_h0_62, ky_h0_65, ky_h0_80, ky_h0_82, ky_h0_83, ky_h0_len⟩ := hB
  rw [ht] at hP1
  obtain ⟨hP, hD⟩ := va_join (wr := [(q1, .inr (0, Lx0)), (xq1, .inr (1, Lx1)), (xq3, .inl (cB, 512, .inl (fun _ => 0))), (xq4, .inr (1, Lx2)), (xq6, .inl (cB, 512, .inl (fun _ => 0))), (xq7, .inr (1, Lx3)), (xq9, .inl (cB, 512, .inl (fun _ => 0))), (xq10, .inr (2, Lx4)), (xq12, .inr (3, Lx5)), (xq24, .inr (3, Lx6)), (xq36, .inr (4, Lx7)), (xq43, .inl (cI, 64, .inl (fun _ => (-1)))), (xq44, .inl (cI, 64, .inl (fun _ => (-1)))), (xq97, .inr (7, Lx8)), (xq70, .inr (6, Lx9)), (xq98, .inl (cI, 3, .inl (upd (upd (upd (fun _ => 0) (0 : Int32).toNatClampNeg (-1)) (1 : Int32).toNatClampNeg (-1)) (2 : Int32).toNatClampNeg (-1)))), (xq106, .inr (9, Lx10)), (xq128, .inr (10, Lx11)), (xq130, .inl (cI, 2000, .inl (fun _ => 0))), (xq131, .inl (cB, 8000, .inl (fun _ => 0))), (xq132, .inl (cJ, 8000, .inr (.inl (fun _ => 0)))), (xq146, .inr (11, Lx12)), (xq147, .inr (1, Lx13)), (xq149, .inl (cB, 512, .inl (fun _ => 0)))]) (w1 := [(q153, .inr (12, Ly0)), (yq1, .inl (cI, 40000, .inl (fun _ => 0))), (yq2, .inl (cI, 40000, .inl (fun _ => 0))), (yq9, .inl (cI, 3, .inl (fun _ => 0))), (yq10, .inl (cI, 3, .inl (fun _ => 0))), (yq23, .inl (cI, 2001, .inl (fun _ => 0))), (yq41, .inl (cI, 40000, .inl (fun _ => 0))), (yq52, .inl (cI, 3, .inl (upd (upd (upd (fun _ => 0) (0 : Int32).toNatClampNeg (-1)) (1 : Int32).toNatClampNeg (-1)) (2 : Int32).toNatClampNeg (-1)))), (yq75, .inl (cB, 100000, .inl (fun _ => 0)))]) hP hD [24] [0, 1, 2, 3, 4, 5, 6, 7, 8, 9, 10, 11, 12, 13, 14, 15, 16, 17, 18, 19, 20, 21, 22, 23] rfl rfl (by decide) (by decide) hk1 hFc hP1 hD1
  clear hP1 hD1 hPc hDc hFc hk1 hz1
  generalize H1 = H at hP hS ⊢
  have hP : va_P (dC, dI) CL [(q1, .inr (0, Lx0)), (xq1, .inr (1, Lx1)), (xq3, .inl (cB, 512, .inl (fun _ => 0))), (xq4, .inr (1, Lx2)), (xq6, .inl (cB, 512, .inl (fun _ => 0))), (xq7, .inr (1, Lx3)), (xq9, .inl (cB, 512, .inl (fun _ => 0))), (xq10, .inr (2, Lx4)), (xq12, .inr (3, Lx5)), (xq24, .inr (3, Lx6)), (xq36, .inr (4, Lx7)), (xq43, .inl (cI, 64, .inl (fun _ => (-1)))), (xq44, .inl (cI, 64, .inl (fun _ => (-1)))), (xq97, .inr (7, Lx8)), (xq70, .inr (6, Lx9)), (xq98, .inl (cI, 3, .inl (upd (upd (upd (fun _ => 0) (0 : Int32).toNatClampNeg (-1)) (1 : Int32).toNatClampNeg (-1)) (2 : Int32).toNatClampNeg (-1)))), (xq106, .inr (9, Lx10)), (xq128, .inr (10, Lx11)), (xq130, .inl (cI, 2000, .inl (fun _ => 0))), (xq131, .inl (cB, 8000, .inl (fun _ => 0))), (xq132, .inl (cJ, 8000, .inr (.inl (fun _ => 0)))), (xq146, .inr (11, Lx12)), (xq147, .inr (1, Lx13)), (xq149, .inl (cB, 512, .inl (fun _ => 0))), (q153, .inr (12, Ly0)), (yq1, .inl (cI, 40000, .inl (fun _ => 0))), (yq2, .inl (cI, 40000, .inl (fun _ => 0))), (yq9, .inl (cI, 3, .inl (fun _ => 0))), (yq10, .inl (cI, 3, .inl (fun _ => 0))), (yq23, .inl (cI, 2001, .inl (fun _ => 0))), (yq41, .inl (cI, 40000, .inl (fun _ => 0))), (yq52, .inl (cI, 3, .inl (upd (upd (upd (fun _ => 0) (0 : Int32).toNatClampNeg (-1)) (1 : Int32).toNatClampNeg (-1)) (2 : Int32).toNatClampNeg (-1)))), (yq75, .inl (cB, 100000, .inl (fun _ => 0)))] H := hP
  have hD : va_D A [(q1, .inr (0, Lx0)), (xq1, .inr (1, Lx1)), (xq3, .inl (cB, 512, .inl (fun _ => 0))), (xq4, .inr (1, Lx2)), (xq6, .inl (cB, 512, .inl (fun _ => 0))), (xq7, .inr (1, Lx3)), (xq9, .inl (cB, 512, .inl (fun _ => 0))), (xq10, .inr (2, Lx4)), (xq12, .inr (3, Lx5)), (xq24, .inr (3, Lx6)), (xq36, .inr (4, Lx7)), (xq43, .inl (cI, 64, .inl (fun _ => (-1)))), (xq44, .inl (cI, 64, .inl (fun _ => (-1)))), (xq97, .inr (7, Lx8)), (xq70, .inr (6, Lx9)), (xq98, .inl (cI, 3, .inl (upd (upd (upd (fun _ => 0) (0 : Int32).toNatClampNeg (-1)) (1 : Int32).toNatClampNeg (-1)) (2 : Int32).toNatClampNeg (-1)))), (xq106, .inr (9, Lx10)), (xq128, .inr (10, Lx11)), (xq130, .inl (cI, 2000, .inl (fun _ => 0))), (xq131, .inl (cB, 8000, .inl (fun _ => 0))), (xq132, .inl (cJ, 8000, .inr (.inl (fun _ => 0)))), (xq146, .inr (11, Lx12)), (xq147, .inr (1, Lx13)), (xq149, .inl (cB, 512, .inl (fun _ => 0))), (q153, .inr (12, Ly0)), (yq1, .inl (cI, 40000, .inl (fun _ => 0))), (yq2, .inl (cI, 40000, .inl (fun _ => 0))), (yq9, .inl (cI, 3, .inl (fun _ => 0))), (yq10, .inl (cI, 3, .inl (fun _ => 0))), (yq23, .inl (cI, 2001, .inl (fun _ => 0))), (yq41, .inl (cI, 40000, .inl (fun _ => 0))), (yq52, .inl (cI, 3, .inl (upd (upd (upd (fun _ => 0) (0 : Int32).toNatClampNeg (-1)) (1 : Int32).toNatClampNeg (-1)) (2 : Int32).toNatClampNeg (-1)))), (yq75, .inl (cB, 100000, .inl (fun _ => 0)))] := hD
  refine W.widen (k := 267) (n := 1600544) (by omega) (by omega) ?_
  refine lv_astore_n (lv' := [(2, .ref q153), (1, .ref q1), (0, .ref b)]) hx hb d_law_15 rfl hl (by decide) rfl (fun ls hl => ?_)
  refine lv_iconst (v := 0) hx hb d_law_16 (by decide) ?_
  refine lv_istore_n (lv' := [(3, .int 0), (2, .ref q153), (1, .ref q1), (0, .ref b)]) hx hb d_law_17 rfl hl (by decide) rfl (fun ls hl => ?_)
  refine lv_iload_n hx hb d_law_18 rfl (lv_at hl 0 rfl) ?_
  refine lv_aload_n hx hb d_law_19 rfl (lv_at hl 3 rfl) ?_
  refine va_slen hx hb hX hbl hbA hS d_law_20 ?_
  refine lv_bipush (v := 6) hx hb d_law_21 (by decide) ?_
  refine lv_isub hx hb d_law_23 ?_
  refine lv_icmp_gt (tgt := 709) hx hb d_law_24 (by decide) (fun c1 => ?_) (fun c1 => ?_)
  · refine lv_iconst (v := 1) hx hb d_law_709 (by decide) ?_
    refine va_forget (fun q hq => hA2 _ (hS.2.2 q hq)) ?_
    refine W.widen (k := 600000) (n := 7302250) (by omega) (by omega) ?_
    exact lw_ret hx hb hr hlocks d_law_710
  · have h6 : L = 6 := six hL c1
    subst h6
    refine lv_aload_n hx hb d_law_27 rfl (lv_at hl 3 rfl) ?_
    refine lv_iload_n hx hb d_law_28 rfl (lv_at hl 0 rfl) ?_
    refine va_sld hx hb hX hbl hbA hS (vp_lit (by decide)) d_law_29 ?_
    refine lv_bipush (v := 31) hx hb d_law_30 (by decide) ?_
    refine lv_iand hx hb d_law_32 ?_
    obtain ⟨j, hj, ej⟩ := pk_andE (xs (0 : Int32).toNatClampNeg) (m := 31) 5 (by decide)
    rw [ej]
    rcases (show j = 0 ∨ j = 1 ∨ j = 2 ∨ j = 3 ∨ j = 4 ∨ j = 5 ∨ j = 6 ∨ j = 7 ∨ j = 8 ∨ j = 9 ∨ j = 10 ∨ j = 11 ∨ j = 12 ∨ j = 13 ∨ j = 14 ∨ j = 15 ∨ j = 16 ∨ j = 17 ∨ j = 18 ∨ j = 19 ∨ j = 20 ∨ j = 21 ∨ j = 22 ∨ j = 23 ∨ 24 ≤ j by omega) with e | e | e | e | e | e | e | e | e | e | e | e | e | e | e | e | e | e | e | e | e | e | e | e | hj2
    all_goals have hl : lv_has ls 4 [(3, .int 0), (2, .ref q153), (1, .ref q1), (0, .ref b)] := hl
    · subst e
      refine lv_tableIn (tgt := 144) hx hb d_law_33 (by decide) (by decide) (off := 111) rfl (by decide) ?_
      exact lb_0 C0 hA hA2 hbA hK (hP.sub (ws' := [(q1, .inr (0, Lx0)), (xq1, .inr (1, Lx1)), (xq3, .inl (cB, 512, .inl (fun _ => 0))), (q153, .inr (12, Ly0)), (yq1, .inl (cI, 40000, .inl (fun _ => 0)))]) [0, 1, 2, 24, 25] rfl) (hD.sub (ws' := [(q1, .inr (0, Lx0)), (xq1, .inr (1, Lx1)), (xq3, .inl (cB, 512, .inl (fun _ => 0))), (q153, .inr (12, Ly0)), (yq1, .inl (cI, 40000, .inl (fun _ => 0)))]) [0, 1, 2, 24, 25] (by decide) rfl) hS hl kx_h0_len kx_h0_0 kx_q1_len kx_q1_2 kx_q1_3 kx_q1_1 kx_q1_0 ky_h0_len ky_h0_1 ky_h0_3
    · subst e
      refine lv_tableIn (tgt := 207) hx hb d_law_33 (by decide) (by decide) (off := 174) rfl (by decide) ?_
      exact lb_1 C0 hA hA2 hbA hK (hP.sub (ws' := [(q1, .inr (0, Lx0)), (xq1, .inr (1, Lx1)), (xq4, .inr (1, Lx2)), (q153, .inr (12, Ly0)), (yq1, .inl (cI, 40000, .inl (fun _ => 0))), (yq2, .inl (cI, 40000, .inl (fun _ => 0)))]) [0, 1, 3, 24, 25, 26] rfl) (hD.sub (ws' := [(q1, .inr (0, Lx0)), (xq1, .inr (1, Lx1)), (xq4, .inr (1, Lx2)), (q153, .inr (12, Ly0)), (yq1, .inl (cI, 40000, .inl (fun _ => 0))), (yq2, .inl (cI, 40000, .inl (fun _ => 0)))]) [0, 1, 3, 24, 25, 26] (by decide) rfl) hS hl kx_h0_len kx_h0_0 kx_h0_1 kx_q1_len kx_q1_1 kx_q4_len ky_h0_len ky_h0_2 ky_h0_1 ky_h0_3
    · subst e
      refine lv_tableIn (tgt := 230) hx hb d_law_33 (by decide) (by decide) (off := 197) rfl (by decide) ?_
      exact lb_2 C0 hA hA2 hbA hK (hP.sub (ws' := [(q1, .inr (0, Lx0)), (xq4, .inr (1, Lx2)), (xq10, .inr (2, Lx4)), (xq24, .inr (3, Lx6)), (xq6, .inl (cB, 512, .inl (fun _ => 0))), (q153, .inr (12, Ly0)), (yq9, .inl (cI, 3, .inl (fun _ => 0))), (yq10, .inl (cI, 3, .inl (fun _ => 0)))]) [0, 3, 7, 9, 4, 24, 27, 28] rfl) (hD.sub (ws' := [(q1, .inr (0, Lx0)), (xq4, .inr (1, Lx2)), (xq10, .inr (2, Lx4)), (xq24, .inr (3, Lx6)), (xq6, .inl (cB, 512, .inl (fun _ => 0))), (q153, .inr (12, Ly0)), (yq9, .inl (cI, 3, .inl (fun _ => 0))), (yq10, .inl (cI, 3, .inl (fun _ => 0)))]) [0, 3, 7, 9, 4, 24, 27, 28] (by decide) rfl) hS hl kx_h0_len kx_h0_1 kx_h0_3 kx_h0_5 kx_q4_len kx_q4_1 kx_q4_0 kx_q10_len kx_q24_len ky_h0_len ky_h0_4 ky_h0_11 ky_h0_12
    · subst e
      refine lv_tableIn (tgt := 243) hx hb d_law_33 (by decide) (by decide) (off := 210) rfl (by decide) ?_
      exact lb_3 C0 hA hA2 hbA hK (hP.sub (ws' := [(q1, .inr (0, Lx0)), (xq4, .inr (1, Lx2)), (xq12, .inr (3, Lx5)), (q153, .inr (12, Ly0))]) [0, 3, 8, 24] rfl) (hD.sub (ws' := [(q1, .inr (0, Lx0)), (xq4, .inr (1, Lx2)), (xq12, .inr (3, Lx5)), (q153, .inr (12, Ly0))]) [0, 3, 8, 24] (by decide) rfl) hS hl kx_h0_len kx_h0_1 kx_h0_4 kx_q4_len kx_q4_1 kx_q12_len kx_q12_0 ky_h0_len ky_h0_4 ky_h0_14
    · subst e
      refine lv_tableIn (tgt := 256) hx hb d_law_33 (by decide) (by decide) (off := 223) rfl (by decide) ?_
      exact lb_4 C0 hA hA2 hbA hK (hP.sub (ws' := [(q1, .inr (0, Lx0)), (xq36, .inr (4, Lx7)), (q153, .inr (12, Ly0))]) [0, 10, 24] rfl) (hD.sub (ws' := [(q1, .inr (0, Lx0)), (xq36, .inr (4, Lx7)), (q153, .inr (12, Ly0))]) [0, 10, 24] (by decide) rfl) hS hl kx_h0_len kx_h0_6 kx_q36_len kx_q36_0 ky_h0_len ky_h0_34
    · subst e
      refine lv_tableIn (tgt := 269) hx hb d_law_33 (by decide) (by decide) (off := 236) rfl (by decide) ?_
      exact lb_5 C0 hA hA2 hbA hK (hP.sub (ws' := [(q1, .inr (0, Lx0)), (xq36, .inr (4, Lx7)), (xq43, .inl (cI, 64, .inl (fun _ => (-1)))), (xq44, .inl (cI, 64, .inl (fun _ => (-1)))), (q153, .inr (12, Ly0)), (yq23, .inl (cI, 2001, .inl (fun _ => 0)))]) [0, 10, 11, 12, 24, 29] rfl) (hD.sub (ws' := [(q1, .inr (0, Lx0)), (xq36, .inr (4, Lx7)), (xq43, .inl (cI, 64, .inl (fun _ => (-1)))), (xq44, .inl (cI, 64, .inl (fun _ => (-1)))), (q153, .inr (12, Ly0)), (yq23, .inl (cI, 2001, .inl (fun _ => 0)))]) [0, 10, 11, 12, 24, 29] (by decide) rfl) hS hl kx_h0_len kx_h0_6 kx_q36_len kx_q36_10 kx_q36_11 ky_h0_len ky_h0_31
    · subst e
      refine lv_tableIn (tgt := 280) hx hb d_law_33 (by decide) (by decide) (off := 247) rfl (by decide) ?_
      exact lb_6 C0 hA hA2 hbA hK (hP.sub (ws' := [(q1, .inr (0, Lx0)), (xq12, .inr (3, Lx5)), (q153, .inr (12, Ly0))]) [0, 8, 24] rfl) (hD.sub (ws' := [(q1, .inr (0, Lx0)), (xq12, .inr (3, Lx5)), (q153, .inr (12, Ly0))]) [0, 8, 24] (by decide) rfl) hS hl kx_h0_len kx_h0_4 kx_q12_len kx_q12_0 ky_h0_len ky_h0_14
    · subst e
      refine lv_tableIn (tgt := 313) hx hb d_law_33 (by decide) (by decide) (off := 280) rfl (by decide) ?_
      exact lb_7 C0 hA hA2 hbA hK (hP.sub (ws' := [(q1, .inr (0, Lx0)), (xq7, .inr (1, Lx3)), (q153, .inr (12, Ly0)), (yq2, .inl (cI, 40000, .inl (fun _ => 0))), (yq41, .inl (cI, 40000, .inl (fun _ => 0)))]) [0, 5, 24, 26, 30] rfl) (hD.sub (ws' := [(q1, .inr (0, Lx0)), (xq7, .inr (1, Lx3)), (q153, .inr (12, Ly0)), (yq2, .inl (cI, 40000, .inl (fun _ => 0))), (yq41, .inl (cI, 40000, .inl (fun _ => 0)))]) [0, 5, 24, 26, 30] (by decide) rfl) hS hl kx_h0_len kx_h0_2 kx_h0_1 kx_q7_len ky_h0_len ky_h0_62 ky_h0_2 ky_h0_4
    · subst e
      refine lv_tableIn (tgt := 324) hx hb d_law_33 (by decide) (by decide) (off := 291) rfl (by decide) ?_
      exact lb_8 C0 hA hA2 hbA hK (hP.sub (ws' := [(q1, .inr (0, Lx0)), (xq7, .inr (1, Lx3)), (q153, .inr (12, Ly0))]) [0, 5, 24] rfl) (hD.sub (ws' := [(q1, .inr (0, Lx0)), (xq7, .inr (1, Lx3)), (q153, .inr (12, Ly0))]) [0, 5, 24] (by decide) rfl) hS hl kx_h0_len kx_h0_2 kx_q7_len kx_q7_1 ky_h0_len ky_h0_65
    · subst e
      refine lv_tableIn (tgt := 337) hx hb d_law_33 (by decide) (by decide) (off := 304) rfl (by decide) ?_
      exact lb_9 C0 hA hA2 hbA hK (hP.sub (ws' := [(q1, .inr (0, Lx0)), (xq7, .inr (1, Lx3)), (xq9, .inl (cB, 512, .inl (fun _ => 0))), (q153, .inr (12, Ly0)), (yq41, .inl (cI, 40000, .inl (fun _ => 0)))]) [0, 5, 6, 24, 30] rfl) (hD.sub (ws' := [(q1, .inr (0, Lx0)), (xq7, .inr (1, Lx3)), (xq9, .inl (cB, 512, .inl (fun _ => 0))), (q153, .inr (12, Ly0)), (yq41, .inl (cI, 40000, .inl (fun _ => 0)))]) [0, 5, 6, 24, 30] (by decide) rfl) hS hl kx_h0_len kx_h0_2 kx_q7_len kx_q7_1 kx_q7_0 ky_h0_len ky_h0_65 ky_h0_62
    · subst e
      refine lv_tableIn (tgt := 360) hx hb d_law_33 (by decide) (by decide) (off := 327) rfl (by decide) ?_
      exact lb_10 C0 hA hA2 hbA hK (hP.sub (ws' := [(q1, .inr (0, Lx0)), (xq7, .inr (1, Lx3)), (xq9, .inl (cB, 512, .inl (fun _ => 0))), (q153, .inr (12, Ly0)), (yq41, .inl (cI, 40000, .inl (fun _ => 0)))]) [0, 5, 6, 24, 30] rfl) (hD.sub (ws' := [(q1, .inr (0, Lx0)), (xq7, .inr (1, Lx3)), (xq9, .inl (cB, 512, .inl (fun _ => 0))), (q153, .inr (12, Ly0)), (yq41, .inl (cI, 40000, .inl (fun _ => 0)))]) [0, 5, 6, 24, 30] (by decide) rfl) hS hl kx_h0_len kx_h0_2 kx_q7_len kx_q7_1 kx_q7_0 ky_h0_len ky_h0_65 ky_h0_62
    · subst e
      refine lv_tableIn (tgt := 393) hx hb d_law_33 (by decide) (by decide) (off := 360) rfl (by decide) ?_
      exact lb_11 C0 hA hA2 hbA hK (hP.sub (ws' := [(q1, .inr (0, Lx0)), (xq70, .inr (6, Lx9)), (xq106, .inr (9, Lx10)), (xq128, .inr (10, Lx11)), (xq97, .inr (7, Lx8)), (xq7, .inr (1, Lx3)), (xq98, .inl (cI, 3, .inl (upd (upd (upd (fun _ => 0) (0 : Int32).toNatClampNeg (-1)) (1 : Int32).toNatClampNeg (-1)) (2 : Int32).toNatClampNeg (-1)))), (q153, .inr (12, Ly0)), (yq52, .inl (cI, 3, .inl (upd (upd (upd (fun _ => 0) (0 : Int32).toNatClampNeg (-1)) (1 : Int32).toNatClampNeg (-1)) (2 : Int32).toNatClampNeg (-1))))]) [0, 14, 16, 17, 13, 5, 15, 24, 31] rfl) (hD.sub (ws' := [(q1, .inr (0, Lx0)), (xq70, .inr (6, Lx9)), (xq106, .inr (9, Lx10)), (xq128, .inr (10, Lx11)), (xq97, .inr (7, Lx8)), (xq7, .inr (1, Lx3)), (xq98, .inl (cI, 3, .inl (upd (upd (upd (fun _ => 0) (0 : Int32).toNatClampNeg (-1)) (1 : Int32).toNatClampNeg (-1)) (2 : Int32).toNatClampNeg (-1)))), (q153, .inr (12, Ly0)), (yq52, .inl (cI, 3, .inl (upd (upd (upd (fun _ => 0) (0 : Int32).toNatClampNeg (-1)) (1 : Int32).toNatClampNeg (-1)) (2 : Int32).toNatClampNeg (-1))))]) [0, 14, 16, 17, 13, 5, 15, 24, 31] (by decide) rfl) hS hl kx_h0_len kx_h0_8 kx_h0_10 kx_h0_12 kx_h0_9 kx_h0_2 kx_q70_len kx_q106_len kx_q128_len kx_q97_len kx_q97_4 kx_q97_3 kx_q7_len kx_q7_0 kx_q7_1 ky_h0_len ky_h0_65 ky_h0_83 ky_h0_80
    · subst e
      refine lv_tableIn (tgt := 406) hx hb d_law_33 (by decide) (by decide) (off := 373) rfl (by decide) ?_
      exact lb_12 C0 hA hA2 hbA hK (hP.sub (ws' := [(q1, .inr (0, Lx0)), (xq97, .inr (7, Lx8)), (xq98, .inl (cI, 3, .inl (upd (upd (upd (fun _ => 0) (0 : Int32).toNatClampNeg (-1)) (1 : Int32).toNatClampNeg (-1)) (2 : Int32).toNatClampNeg (-1)))), (q153, .inr (12, Ly0)), (yq52, .inl (cI, 3, .inl (upd (upd (upd (fun _ => 0) (0 : Int32).toNatClampNeg (-1)) (1 : Int32).toNatClampNeg (-1)) (2 : Int32).toNatClampNeg (-1))))]) [0, 13, 15, 24, 31] rfl) (hD.sub (ws' := [(q1, .inr (0, Lx0)), (xq97, .inr (7, Lx8)), (xq98, .inl (cI, 3, .inl (upd (upd (upd (fun _ => 0) (0 : Int32).toNatClampNeg (-1)) (1 : Int32).toNatClampNeg (-1)) (2 : Int32).toNatClampNeg (-1)))), (q153, .inr (12, Ly0)), (yq52, .inl (cI, 3, .inl (upd (upd (upd (fun _ => 0) (0 : Int32).toNatClampNeg (-1)) (1 : Int32).toNatClampNeg (-1)) (2 : Int32).toNatClampNeg (-1))))]) [0, 13, 15, 24, 31] (by decide) rfl) hS hl kx_h0_len kx_h0_9 kx_q97_len kx_q97_4 ky_h0_len ky_h0_80
    · subst e
      refine lv_tableIn (tgt := 429) hx hb d_law_33 (by decide) (by decide) (off := 396) rfl (by decide) ?_
      exact lb_13 C0 hA hA2 hbA hK (hP.sub (ws' := [(q1, .inr (0, Lx0)), (xq70, .inr (6, Lx9)), (q153, .inr (12, Ly0))]) [0, 14, 24] rfl) (hD.sub (ws' := [(q1, .inr (0, Lx0)), (xq70, .inr (6, Lx9)), (q153, .inr (12, Ly0))]) [0, 14, 24] (by decide) rfl) hS hl kx_h0_len kx_h0_8 kx_q70_len kx_q70_0 ky_h0_len ky_h0_82
    · subst e
      refine lv_tableIn (tgt := 452) hx hb d_law_33 (by decide) (by decide) (off := 419) rfl (by decide) ?_
      exact lb_14 C0 hA hA2 hbA hK (hP.sub (ws' := [(q1, .inr (0, Lx0)), (xq146, .inr (11, Lx12)), (xq147, .inr (1, Lx13)), (xq70, .inr (6, Lx9)), (q153, .inr (12, Ly0))]) [0, 21, 22, 14, 24] rfl) (hD.sub (ws' := [(q1, .inr (0, Lx0)), (xq146, .inr (11, Lx12)), (xq147, .inr (1, Lx13)), (xq70, .inr (6, Lx9)), (q153, .inr (12, Ly0))]) [0, 21, 22, 14, 24] (by decide) rfl) hS hl kx_h0_len kx_h0_14 kx_q146_len kx_q146_0 kx_q146_1 kx_q147_len kx_q70_len kx_q70_0 ky_h0_len ky_h0_82
    · subst e
      refine lv_tableIn (tgt := 475) hx hb d_law_33 (by decide) (by decide) (off := 442) rfl (by decide) ?_
      exact lb_15 C0 hA hA2 hbA hK (hP.sub (ws' := [(q1, .inr (0, Lx0)), (xq4, .inr (1, Lx2)), (xq70, .inr (6, Lx9)), (q153, .inr (12, Ly0))]) [0, 3, 14, 24] rfl) (hD.sub (ws' := [(q1, .inr (0, Lx0)), (xq4, .inr (1, Lx2)), (xq70, .inr (6, Lx9)), (q153, .inr (12, Ly0))]) [0, 3, 14, 24] (by decide) rfl) hS hl kx_h0_len kx_h0_1 kx_h0_8 kx_q4_len kx_q4_1 kx_q70_len kx_q70_0 ky_h0_len ky_h0_4 ky_h0_82
    · subst e
      refine lv_tableIn (tgt := 488) hx hb d_law_33 (by decide) (by decide) (off := 455) rfl (by decide) ?_
      exact lb_16 C0 hA hA2 hbA hK (hP.sub (ws' := [(q1, .inr (0, Lx0)), (xq106, .inr (9, Lx10)), (q153, .inr (12, Ly0))]) [0, 16, 24] rfl) (hD.sub (ws' := [(q1, .inr (0, Lx0)), (xq106, .inr (9, Lx10)), (q153, .inr (12, Ly0))]) [0, 16, 24] (by decide) rfl) hS hl kx_h0_len kx_h0_10 kx_q106_len kx_q106_0 ky_h0_len ky_h0_120
    · subst e
      refine lv_tableIn (tgt := 501) hx hb d_law_33 (by decide) (by decide) (off := 468) rfl (by decide) ?_
      exact lb_17 C0 hA hA2 hbA hK (hP.sub (ws' := [(q1, .inr (0, Lx0)), (xq128, .inr (10, Lx11)), (xq130, .inl (cI, 2000, .inl (fun _ => 0))), (q153, .inr (12, Ly0))]) [0, 17, 18, 24] rfl) (hD.sub (ws' := [(q1, .inr (0, Lx0)), (xq128, .inr (10, Lx11)), (xq130, .inl (cI, 2000, .inl (fun _ => 0))), (q153, .inr (12, Ly0))]) [0, 17, 18, 24] (by decide) rfl) hS hl kx_h0_len kx_h0_12 kx_q128_len kx_q128_0 kx_q128_6 kx_q128_1 kx_q128_5 ky_h0_len ky_h0_121
    · subst e
      refine lv_tableIn (tgt := 524) hx hb d_law_33 (by decide) (by decide) (off := 491) rfl (by decide) ?_
      exact lb_18 C0 hA hA2 hbA hK (hP.sub (ws' := [(q1, .inr (0, Lx0)), (xq146, .inr (11, Lx12)), (xq147, .inr (1, Lx13)), (xq70, .inr (6, Lx9)), (xq128, .inr (10, Lx11)), (xq130, .inl (cI, 2000, .inl (fun _ => 0))), (q153, .inr (12, Ly0))]) [0, 21, 22, 14, 17, 18, 24] rfl) (hD.sub (ws' := [(q1, .inr (0, Lx0)), (xq146, .inr (11, Lx12)), (xq147, .inr (1, Lx13)), (xq70, .inr (6, Lx9)), (xq128, .inr (10, Lx11)), (xq130, .inl (cI, 2000, .inl (fun _ => 0))), (q153, .inr (12, Ly0))]) [0, 21, 22, 14, 17, 18, 24] (by decide) rfl) hS hl kx_h0_len kx_h0_14 kx_h0_12 kx_q146_len kx_q146_0 kx_q146_1 kx_q147_len kx_q70_len kx_q70_0 kx_q128_len kx_q128_0 kx_q128_6 kx_q128_1 kx_q128_5 kx_q128_4 ky_h0_len ky_h0_121
    · subst e
      refine lv_tableIn (tgt := 547) hx hb d_law_33 (by decide) (by decide) (off := 514) rfl (by decide) ?_
      exact lb_19 C0 hA hA2 hbA hK (hP.sub (ws' := [(q1, .inr (0, Lx0)), (xq128, .inr (10, Lx11)), (xq131, .inl (cB, 8000, .inl (fun _ => 0))), (q153, .inr (12, Ly0))]) [0, 17, 19, 24] rfl) (hD.sub (ws' := [(q1, .inr (0, Lx0)), (xq128, .inr (10, Lx11)), (xq131, .inl (cB, 8000, .inl (fun _ => 0))), (q153, .inr (12, Ly0))]) [0, 17, 19, 24] (by decide) rfl) hS hl kx_h0_len kx_h0_12 kx_q128_len kx_q128_0 kx_q128_6 kx_q128_1 kx_q128_7 kx_q128_8 ky_h0_len ky_h0_121
    · subst e
      refine lv_tableIn (tgt := 580) hx hb d_law_33 (by decide) (by decide) (off := 547) rfl (by decide) ?_
      exact lb_20 C0 hA hA2 hbA hK (hP.sub (ws' := [(q1, .inr (0, Lx0)), (xq128, .inr (10, Lx11)), (xq131, .inl (cB, 8000, .inl (fun _ => 0))), (xq132, .inl (cJ, 8000, .inr (.inl (fun _ => 0)))), (q153, .inr (12, Ly0))]) [0, 17, 19, 20, 24] rfl) (hD.sub (ws' := [(q1, .inr (0, Lx0)), (xq128, .inr (10, Lx11)), (xq131, .inl (cB, 8000, .inl (fun _ => 0))), (xq132, .inl (cJ, 8000, .inr (.inl (fun _ => 0)))), (q153, .inr (12, Ly0))]) [0, 17, 19, 20, 24] (by decide) rfl) hS hl kx_h0_len kx_h0_12 kx_q128_len kx_q128_0 kx_q128_6 kx_q128_1 kx_q128_7 kx_q128_8 kx_q128_9 ky_h0_len ky_h0_121
    · subst e
      refine lv_tableIn (tgt := 614) hx hb d_law_33 (by decide) (by decide) (off := 581) rfl (by decide) ?_
      exact lb_21 C0 hA hA2 hbA hK (hP.sub (ws' := [(q1, .inr (0, Lx0)), (xq128, .inr (10, Lx11)), (q153, .inr (12, Ly0))]) [0, 17, 24] rfl) (hD.sub (ws' := [(q1, .inr (0, Lx0)), (xq128, .inr (10, Lx11)), (q153, .inr (12, Ly0))]) [0, 17, 24] (by decide) rfl) hS hl kx_h0_len kx_h0_12 kx_q128_len kx_q128_0 kx_q128_6 kx_q128_1 kx_q128_7 ky_h0_len ky_h0_121
    · subst e
      refine lv_tableIn (tgt := 657) hx hb d_law_33 (by decide) (by decide) (off := 624) rfl (by decide) ?_
      exact lb_22 C0 hA hA2 hbA hK (hP.sub (ws' := [(q1, .inr (0, Lx0)), (xq128, .inr (10, Lx11)), (q153, .inr (12, Ly0))]) [0, 17, 24] rfl) (hD.sub (ws' := [(q1, .inr (0, Lx0)), (xq128, .inr (10, Lx11)), (q153, .inr (12, Ly0))]) [0, 17, 24] (by decide) rfl) hS hl kx_h0_len kx_h0_12 kx_q128_len kx_q128_0 kx_q128_2 kx_q128_3 ky_h0_len ky_h0_121 ky_h0_163 ky_h0_164
    · subst e
      refine lv_tableIn (tgt := 680) hx hb d_law_33 (by decide) (by decide) (off := 647) rfl (by decide) ?_
      exact lb_23 C0 hA hA2 hbA hK (hP.sub (ws' := [(q1, .inr (0, Lx0)), (xq146, .inr (11, Lx12)), (xq147, .inr (1, Lx13)), (xq149, .inl (cB, 512, .inl (fun _ => 0))), (q153, .inr (12, Ly0)), (yq75, .inl (cB, 100000, .inl (fun _ => 0)))]) [0, 21, 22, 23, 24, 32] rfl) (hD.sub (ws' := [(q1, .inr (0, Lx0)), (xq146, .inr (11, Lx12)), (xq147, .inr (1, Lx13)), (xq149, .inl (cB, 512, .inl (fun _ => 0))), (q153, .inr (12, Ly0)), (yq75, .inl (cB, 100000, .inl (fun _ => 0)))]) [0, 21, 22, 23, 24, 32] (by decide) rfl) hS hl kx_h0_len kx_h0_14 kx_q146_len kx_q146_0 kx_q147_len kx_q147_1 kx_q147_0 ky_h0_len ky_h0_113 ky_h0_112
    · refine lv_tableOut (tgt := 703) hx hb d_law_33 (Or.inr (by rw [nI_toInt (by omega)]; omega)) (by decide) ?_
      exact lb_done C0 hA2 hbA hS hl
