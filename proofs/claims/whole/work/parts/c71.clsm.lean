theorem w_3_164 : (Jvm.Cond.fieldLink "StripedVault" (210 : Nat) "StripedVault$Answer" "wanted" "[Z") ∈ TG := tw_3 164 (by decide +kernel) (by decide +kernel)
theorem d_V_answer_0 : decode b_V_answer 0 = .ok (.aload_n 0, 1) := by decide +kernel
theorem d_V_answer_1 : decode b_V_answer 1 = .ok (.getfield 95, 3) := by decide +kernel
theorem d_V_answer_4 : decode b_V_answer 4 = .ok (.aload_n 0, 1) := by decide +kernel
theorem d_V_answer_5 : decode b_V_answer 5 = .ok (.getfield 85, 3) := by decide +kernel
theorem d_V_answer_8 : decode b_V_answer 8 = .ok (.iload_n 1, 1) := by decide +kernel
theorem d_V_answer_9 : decode b_V_answer 9 = .ok (.invokevirtual 206, 3) := by decide +kernel
theorem d_V_answer_12 : decode b_V_answer 12 = .ok (.aload_n 0, 1) := by decide +kernel
theorem d_V_answer_13 : decode b_V_answer 13 = .ok (.getfield 85, 3) := by decide +kernel
theorem d_V_answer_16 : decode b_V_answer 16 = .ok (.getfield 210, 3) := by decide +kernel
theorem d_V_answer_19 : decode b_V_answer 19 = .ok (.invokevirtual 193, 3) := by decide +kernel
theorem d_V_answer_22 : decode b_V_answer 22 = .ok (.ireturn, 1) := by decide +kernel
section
variable (l : Launch) (dC : Nat → ClassId) (dI : Nat → Nat → Nat) (cI cB cJ cZ : ClassId)
set_option maxRecDepth 100000 in
set_option maxHeartbeats 4000000 in
set_option maxRecDepth 100000 in
theorem t_V_answer_e {p : Program} {l : Launch} {e : Env} {R : Room} {s : State} {m : MethodId} {args : Array Value} {below : List Frame} {meth : Method} {c : Code} {Q : State → Prop} {dC : Nat → ClassId} {dI : Nat → Nat → Nat} {cI cB cJ cZ : ClassId} {A : Nat → Prop} {E : Heap} {tM tC : Nat} {kK kV : Nat → Nat} {ad0 : Nat → Nat} {NN0 : Nat} {post : Int32 → St → Prop} (hx : p.tables.exec = Jvm.exec) (hb : c.code = b_V_answer) (hml : c.maxLocals = 2) (hown : s.vm.findClass R_V = some m.cls) (hT : ∀ w ∈ TG, w.before args s = true) (hK : va_K (dC, dI) CL (TY cI cB cJ cZ) s) (hN : NW s) (hA : ∀ q : Nat, s.heap.size ≤ q → A q) (hRf : 208 ≤ R.frames) (hRl : 5543 ≤ R.locals) (hE : CE E tM tC kK kV A s) (hret : ∀ (r : Int32) (ad : Nat → Nat) (NN cells slots : Nat) (x : St) (H : Heap) (locs : List Loc) (pc : Nat) (ls : Array Slot), decode b_V_answer pc = .ok (.ireturn, 1) → (NN0 ≤ NN ∧ ∀ o : Nat, o < NN0 → ad o = ad0 o) → cells ≤ R.cells → slots ≤ R.slots → post r x → Wd dC dI cI cB cJ cZ ad stC kcC NN A x H → va_S A s.heap H locs → W p l e R s m args below meth c H locs cells slots Q (F0 m pc ls [.int r])) : ∀ (ad : Nat → Nat) (NN cells slots : Nat) (o : Nat) (l1 : Int32) (kb : Nat) (nb : Nat) (x : St) (H : Heap) (locs : List Loc) (ls : Array Slot), (152 ≤ NN) → (NN0 ≤ NN ∧ ∀ o : Nat, o < NN0 → ad o = ad0 o) → (cells + kb ≤ R.cells) → (slots + nb ≤ R.slots) → (o < NN ∧ kcC o = 0) → wp_V_answer post o l1 kb nb x → Wd dC dI cI cB cJ cZ ad stC kcC NN A x H → va_S A s.heap H locs → lv_has ls 2 [(0, .ref (ad o)), (1, .int l1)] → W p l e R s m args below meth c H locs cells slots Q (F0 m 0 ls []) := by
  intro ad NN cells slots o l1 kb nb x H locs ls hNN hag hRc hRs fo hw hW hS hl
  unfold wp_V_answer at hw
  refine lv_aload_n hx hb d_V_answer_0 rfl (lv_at hl 0 rfl) ?_
  refine w_getf (q := (stC o 14)) (k := 14) (t := 0) (C := R_V) (T := F_V) (N := 15) hx hb hT hown hK hW fo.1 fo.2 (by decide) in_V rfl rfl (by decide) rfl fr_V_14 w_4_9 d_V_answer_1 rfl ?_
  refine lv_aload_n hx hb d_V_answer_4 rfl (lv_at hl 0 rfl) ?_
  obtain ⟨q1, hq1, hw⟩ := hw
  refine w_getr (q := q1) (k := 12) (t := 0) (C := R_V) (T := F_V) (N := 15) hx hb hT hown hK hW fo.1 fo.2 (by decide) in_V rfl rfl (by decide) rfl fr_V_12 w_4_7 d_V_answer_5 hq1 (fun aq1 bq1 => ?_)
  have fq1 : q1 < NN ∧ kcC q1 = 10 := ⟨aq1, bq1⟩
  refine lv_iload_n hx hb d_V_answer_8 rfl (lv_at hl 1 rfl) ?_
  have hF := hW.free hS hA
  refine va_calli (va_runV (C := R_Ans) (As := [.int l1]) (rest := [.ref (ad (stC o 14))]) ⟨hx, hb, hml, hown, hT⟩ (k_Ans_rowAt l dC dI cI cB cJ cZ ad NN E tM tC kK kV hNN H.size q1 l1 x fq1 hw) ⟨callB_of 1 hT (gwt_in w_8_134) rfl rfl rfl (hT _ w_1_13) (hT _ w_8_131) (by decide +kernel) ⟨Nat.le_trans (Nat.le_of_ble_eq_true rfl) hRf, Nat.le_trans (Nat.le_of_ble_eq_true rfl) hRl⟩, hT _ w_8_132, hT _ w_8_133⟩ ⟨PVc.blind, va_recv hK hW.1 (ci := 10) (q0 := q1) rfl (pic_obj fq1.1 fq1.2 (by decide)), PVc.at _ hW hK hN hE hS hF⟩ rfl rfl hl.1 rfl (lv_room (Nat.le_of_ble_eq_true rfl)) d_V_answer_9 ⟨(Nat.le_trans (Nat.le_add_right _ _) hRc), (Nat.le_trans (Nat.le_add_right _ _) hRs)⟩) hS (fun q _ h => hF q h) hF (fun r3 x2 t H locs ht hvm hw hB hz1 hk1 hS => ?_)
  have hW := Wd.back hB ht hF
  clear hB ht hF hz1 hk1 hvm
  refine lv_aload_n hx hb d_V_answer_12 rfl (lv_at hl 0 rfl) ?_
  obtain ⟨q4, hq4, hw⟩ := hw
  refine w_getr (q := q4) (k := 12) (t := 0) (C := R_V) (T := F_V) (N := 15) hx hb hT hown hK hW fo.1 fo.2 (by decide) in_V rfl rfl (by decide) rfl fr_V_12 w_4_7 d_V_answer_13 hq4 (fun aq4 bq4 => ?_)
  have fq4 : q4 < NN ∧ kcC q4 = 10 := ⟨aq4, bq4⟩
  refine w_getf (q := (stC q4 4)) (k := 4) (t := 10) (C := R_Ans) (T := F_Ans) (N := 16) hx hb hT hown hK hW fq4.1 fq4.2 (by decide) in_Ans rfl rfl (by decide) rfl fr_Ans_4 w_3_164 d_V_answer_16 rfl ?_
  obtain ⟨k5, n6, k7, n8, ek5, en6, hw⟩ := hw
  have hF := hW.free hS hA
  refine va_calli (va_runV (C := R_Asm) (As := [.int r3, .ref (ad (stC q4 4))]) (rest := []) ⟨hx, hb, hml, hown, hT⟩ (k_Asm_assemble l dC dI cI cB cJ cZ ad NN E tM tC kK kV hNN H.size (stC o 14) r3 (stC q4 4) k5 n6 x2 (st_ty hNN fo.1 fo.2 rfl) (st_ty hNN fq4.1 fq4.2 rfl) hw) ⟨callB_of 2 hT (gwt_in w_7_79) rfl rfl rfl (hT _ w_1_14) (hT _ w_7_76) (by decide +kernel) ⟨Nat.le_trans (Nat.le_of_ble_eq_true rfl) hRf, Nat.le_trans (Nat.le_of_ble_eq_true rfl) hRl⟩, hT _ w_7_77, hT _ w_7_78⟩ ⟨PVc.blind, va_recv hK hW.1 (ci := 11) (q0 := (stC o 14)) rfl (pic_obj (st_ty hNN fo.1 fo.2 rfl).1 (st_ty hNN fo.1 fo.2 rfl).2 (by decide)), PVc.at _ hW hK hN hE hS hF⟩ rfl rfl hl.1 rfl (lv_room (Nat.le_of_ble_eq_true rfl)) d_V_answer_19 ⟨show cells + k5 ≤ R.cells by omega, show slots + n6 ≤ R.slots by omega⟩) hS (fun q _ h => hF q h) hF (fun r10 x9 t H locs ht hvm hw hB hz1 hk1 hS => ?_)
  obtain ⟨x9, ad, NN⟩ := x9
  obtain ⟨hB, hle, hg⟩ := hB
  try dsimp only at hw hB hle hg
  have hW := Wd.back hB ht hF
  rw [← hg o fo.1] at hl
  have fo : o < NN ∧ kcC o = 0 := ⟨Nat.lt_of_lt_of_le fo.1 hle, fo.2⟩
  have fq1 : q1 < NN ∧ kcC q1 = 10 := ⟨Nat.lt_of_lt_of_le fq1.1 hle, fq1.2⟩
  have fq4 : q4 < NN ∧ kcC q4 = 10 := ⟨Nat.lt_of_lt_of_le fq4.1 hle, fq4.2⟩
  have hag : NN0 ≤ NN ∧ ∀ o : Nat, o < NN0 → ad o = ad0 o := ⟨Nat.le_trans hag.1 hle, fun o h => (hg o (Nat.lt_of_lt_of_le h hag.1)).trans (hag.2 o h)⟩
  have hNN : 152 ≤ NN := Nat.le_trans hNN hle
  clear hg hle
  obtain ⟨cells, ec⟩ : ∃ z, z = cells + k5 := ⟨_, rfl⟩
  obtain ⟨slots, es⟩ : ∃ z, z = slots + n6 := ⟨_, rfl⟩
  first | rw [← ec, ← es] | rw [Nat.add_zero, Nat.add_zero, ← ec, ← es]
  have hRc : cells + k7 ≤ R.cells := by omega
  have hRs : slots + n8 ≤ R.slots := by omega
  clear ec es hB ht hF hz1 hk1 hvm ek5 en6
  exact hret r10 ad NN cells slots x9 H locs 22 ls d_V_answer_22 hag (Nat.le_trans (Nat.le_add_right _ _) hRc) (Nat.le_trans (Nat.le_add_right _ _) hRs) hw hW hS
set_option maxHeartbeats 4000000 in
set_option maxRecDepth 100000 in
theorem k_V_answer (l : Launch) (dC : Nat → ClassId) (dI : Nat → Nat → Nat) (cI cB cJ cZ : ClassId) (ad : Nat → Nat) (NN : Nat) (E : Heap) (tM tC : Nat) (kK kV : Nat → Nat) (hNN : 152 ≤ NN) (sz : Nat) (o : Nat) (l1 : Int32) (kb : Nat) (nb : Nat) (x : St) (fo : o < NN ∧ kcC o = 0) {post : Int32 → St → Prop} (hw : wp_V_answer post o l1 kb nb x) : Met l y_V_answer (wsOf y_V_answer b_V_answer 2 (some (.int))) ({ frames := 208, cells := kb, slots := nb, locals := 5543 }) (va_Pc [.ref (ad o), .int l1] (PVc dC dI cI cB cJ cZ ad stC kcC NN E tM tC kK kV sz x)) (va_Qi (fun (r : Int32) (u : St × (Nat → Nat) × Nat) => post r u.1) (fun u t => Wd dC dI cI cB cJ cZ u.2.1 stC kcC u.2.2 (va_A (pic ad stC kcC NN cI cB cJ cZ x) sz) u.1 t.heap ∧ NN ≤ u.2.2 ∧ ∀ o : Nat, o < NN → u.2.1 o = ad o) (va_A (pic ad stC kcC NN cI cB cJ cZ x) sz)) kb nb (va_A (pic ad stC kcC NN cI cB cJ cZ x) sz) := by
  refine Met.ofW (cc := b_V_answer) (maxL := 2) (ret := some (.int)) (by decide) rfl ?_
  intro p e s m args below meth c s₁ B hml hv
  obtain ⟨rfl, ⟨hsz, hW0, hK, hN⟩, hE⟩ := hv
  have hx := B.exec
  have hb := B.bytes
  have hr := B.returns
  have hts := atoms_spec B.pre
  have hT : ∀ w ∈ TG, w.before _ s = true := fun w h => hts w (List.mem_cons_of_mem _ h)
  have hown : s.vm.findClass R_V = some m.cls := findClass_of_methodNamed B.named
  have hlocks := B.notSynchronized
  subst hsz
  have hW : Wd dC dI cI cB cJ cZ ad stC kcC NN (va_A (pic ad stC kcC NN cI cB cJ cZ x) s.heap.size) x s.heap := ⟨hW0.1, hW0.2.1.self (sz := s.heap.size), hW0.2.2⟩
  generalize hAe : va_A (pic ad stC kcC NN cI cB cJ cZ x) s.heap.size = A at hW hE ⊢
  have hA : ∀ q : Nat, s.heap.size ≤ q → A q := fun q h => by rw [← hAe]; exact Or.inr h
  have hS : va_S A s.heap s.heap [] := va_S.rf
  have hl := lv_entry ([.ref (ad o), .int l1]) (n := 2) (Nat.le_of_ble_eq_true rfl)
  rw [lg_entry_eq]
  generalize (lg_sl ([.ref (ad o), .int l1]) ++ List.replicate (2 - (lg_sl ([.ref (ad o), .int l1])).length) Slot.unset).toArray = ls at hl ⊢
  have hl : lv_has ls 2 [(0, .ref (ad o)), (1, .int l1)] := hl
  exact t_V_answer_e hx hb hml hown hT hK hN hA (Nat.le_refl 208) (Nat.le_refl 5543) hE (fun r ad1 NN1 cells slots x1 H locs pc ls hd hag hc hs hp hW hS => W.widen (k := kb) (n := nb) hc hs (W.iret (v := r) hx hb hr (fun t ht hM => ⟨⟨r, (x1, ad1, NN1), rfl, hp, Wd.back hW ht.symm (fun _ z => z), hag.1, hag.2⟩, hS.F ht⟩) hS.2.2 hd hlocks))  ad NN 0 0 o l1 kb nb x _ _ ls hNN ⟨Nat.le_refl _, fun _ _ => rfl⟩ (Nat.le_of_eq (Nat.zero_add kb)) (Nat.le_of_eq (Nat.zero_add nb)) fo hw hW hS hl
end
