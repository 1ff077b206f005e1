

section
variable (l : Launch) (dC : Nat → ClassId) (dI : Nat → Nat → Nat) (cI cB cJ cZ : ClassId)
set_option maxHeartbeats 4000000 in
set_option maxRecDepth 100000 in
theorem seg_Mod_0 {p : Program} {l : Launch} {e : Env} {R : Room} {s : State} {m : MethodId} {args : Array Value} {below : List Frame} {meth : Method} {c : Code} {Q : State → Prop} {dC : Nat → ClassId} {dI : Nat → Nat → Nat} {cI cB cJ cZ : ClassId} {A : Nat → Prop} {H0 : Heap} {H : Heap} {locs : List Loc} {cells slots h0 : Nat} {F : List Value} {T : va_W} {ls : Array Slot}
    (hx : p.tables.exec = Jvm.exec) (hb : c.code = b_Mod_init) (hT : ∀ w ∈ TG, w.before args s = true) (hown : s.vm.findClass R_Mod = some m.cls) (hin : meth.name = "<init>") (hK : va_K (dC, dI) CL (TY cI cB cJ cZ) s) (hA : ∀ q : Nat, H0.size ≤ q → A q)
    (hP : va_P (dC, dI) CL ((h0, .inr (12, F)) :: T) H) (hD : va_D A ((h0, .inr (12, F)) :: T)) (hS : va_S A H0 H locs) (hL : F.length = 167) (hl : lv_has ls 2 [(0, .ref h0)]) (hc1 : cells + 4 ≤ R.cells) (hs1 : slots + 80768 ≤ R.slots)
    (kk : ∀ (q1 q4 q7 q10 : Nat) (H : Heap) (locs : List Loc), va_P (dC, dI) CL ((h0, .inr (12, ((((F.set 1 (.ref q1)).set 2 (.ref q4)).set 5 (.ref q7)).set 6 (.ref q10)))) :: ((((T ++ [(q1, .inl (cI, 40000, .inl (fun _ => 0)))]) ++ [(q4, .inl (cI, 40000, .inl (fun _ => 0)))]) ++ [(q7, .inl (cI, 384, .inl (fun _ => 0)))]) ++ [(q10, .inl (cI, 384, .inl (fun _ => 0)))])) H → va_D A ((h0, .inr (12, ((((F.set 1 (.ref q1)).set 2 (.ref q4)).set 5 (.ref q7)).set 6 (.ref q10)))) :: ((((T ++ [(q1, .inl (cI, 40000, .inl (fun _ => 0)))]) ++ [(q4, .inl (cI, 40000, .inl (fun _ => 0)))]) ++ [(q7, .inl (cI, 384, .inl (fun _ => 0)))]) ++ [(q10, .inl (cI, 384, .inl (fun _ => 0)))])) → va_S A H0 H locs → W p l e R s m args below meth c H locs (cells + 4) (slots + 80768) Q (F0 m 38 ls [])) :
    W p l e R s m args below meth c H locs cells slots Q (F0 m 4 ls []) := by
  refine lv_aload_n hx hb d_Mod_init_4 rfl (lv_at hl 0 rfl) ?_
  refine lv_ldc hx hb hown (hT _ w_8_171) d_Mod_init_5 ?_
  refine nw_int (N' := 40000) hx hb hT w_1_69 hK hP hD hS hA (by decide) (by decide) (by decide) (by omega) (by omega) d_Mod_init_7 (fun q1 H hP hD hS => ?_)
  have hP : va_P (dC, dI) CL ((h0, .inr (12, F)) :: (T ++ [(q1, .inl (cI, 40000, .inl (fun _ => 0)))])) H := hP
  have hD : va_D A ((h0, .inr (12, F)) :: (T ++ [(q1, .inl (cI, 40000, .inl (fun _ => 0)))])) := hD
  generalize eT2 : (T ++ [(q1, .inl (cI, 40000, .inl (fun _ => 0)))] : va_W) = T2 at hP hD
  refine W.widen (k := cells + 1) (n := slots + 40000) (by omega) (by omega) ?_
  refine f_putF (D := (dC, dI)) (ci := 12) (v := .ref q1) (ty := .array .int) (C := R_Mod) (T := F_Mod) (N := 167) hx hb hT in_Mod t_Mod t_Mod_ok n_Mod hown hK hP hD hS 0 rfl rfl 1 (by decide) fr_Mod_1 w_8_177 hin (by decide +kernel) rfl rfl (by rw [hL]; decide) d_Mod_init_9 (fun H locs hP hD hS => ?_)
  have hP : va_P (dC, dI) CL ((h0, .inr (12, (F.set 1 (.ref q1)))) :: T2) H := hP
  have hD : va_D A ((h0, .inr (12, (F.set 1 (.ref q1)))) :: T2) := hD
  generalize eF3 : F.set 1 (.ref q1) = F3 at hP hD
  have hL : F3.length = 167 := by rw [← eF3, List.length_set]; exact hL
  refine lv_aload_n hx hb d_Mod_init_12 rfl (lv_at hl 0 rfl) ?_
  refine lv_ldc hx hb hown (hT _ w_8_171) d_Mod_init_13 ?_
  refine nw_int (N' := 40000) hx hb hT w_1_69 hK hP hD hS hA (by decide) (by decide) (by decide) (by omega) (by omega) d_Mod_init_15 (fun q4 H hP hD hS => ?_)
  have hP : va_P (dC, dI) CL ((h0, .inr (12, F3)) :: (T2 ++ [(q4, .inl (cI, 40000, .inl (fun _ => 0)))])) H := hP
  have hD : va_D A ((h0, .inr (12, F3)) :: (T2 ++ [(q4, .inl (cI, 40000, .inl (fun _ => 0)))])) := hD
  generalize eT5 : (T2 ++ [(q4, .inl (cI, 40000, .inl (fun _ => 0)))] : va_W) = T5 at hP hD
  refine W.widen (k := cells + 2) (n := slots + 80000) (by omega) (by omega) ?_
  refine f_putF (D := (dC, dI)) (ci := 12) (v := .ref q4) (ty := .array .int) (C := R_Mod) (T := F_Mod) (N := 167) hx hb hT in_Mod t_Mod t_Mod_ok n_Mod hown hK hP hD hS 0 rfl rfl 2 (by decide) fr_Mod_2 w_8_178 hin (by decide +kernel) rfl rfl (by rw [hL]; decide) d_Mod_init_17 (fun H locs hP hD hS => ?_)
  have hP : va_P (dC, dI) CL ((h0, .inr (12, (F3.set 2 (.ref q4)))) :: T5) H := hP
  have hD : va_D A ((h0, .inr (12, (F3.set 2 (.ref q4)))) :: T5) := hD
  generalize eF6 : F3.set 2 (.ref q4) = F6 at hP hD
  have hL : F6.length = 167 := by rw [← eF6, List.length_set]; exact hL
  refine lv_aload_n hx hb d_Mod_init_20 rfl (lv_at hl 0 rfl) ?_
  refine lv_sipush (v := 384) hx hb d_Mod_init_21 (by decide) ?_
  refine nw_int (N' := 384) hx hb hT w_1_69 hK hP hD hS hA (by decide) (by decide) (by decide) (by omega) (by omega) d_Mod_init_24 (fun q7 H hP hD hS => ?_)
  have hP : va_P (dC, dI) CL ((h0, .inr (12, F6)) :: (T5 ++ [(q7, .inl (cI, 384, .inl (fun _ => 0)))])) H := hP
  have hD : va_D A ((h0, .inr (12, F6)) :: (T5 ++ [(q7, .inl (cI, 384, .inl (fun _ => 0)))])) := hD
  generalize eT8 : (T5 ++ [(q7, .inl (cI, 384, .inl (fun _ => 0)))] : va_W) = T8 at hP hD
  refine W.widen (k := cells + 3) (n := slots + 80384) (by omega) (by omega) ?_
  refine f_putF (D := (dC, dI)) (ci := 12) (v := .ref q7) (ty := .array .int) (C := R_Mod) (T := F_Mod) (N := 167) hx hb hT in_Mod t_Mod t_Mod_ok n_Mod hown hK hP hD hS 0 rfl rfl 5 (by decide) fr_Mod_5 w_8_181 hin (by decide +kernel) rfl rfl (by rw [hL]; decide) d_Mod_init_26 (fun H locs hP hD hS => ?_)
  have hP : va_P (dC, dI) CL ((h0, .inr (12, (F6.set 5 (.ref q7)))) :: T8) H := hP
  have hD : va_D A ((h0, .inr (12, (F6.set 5 (.ref q7)))) :: T8) := hD
  generalize eF9 : F6.set 5 (.ref q7) = F9 at hP hD
  have hL : F9.length = 167 := by rw [← eF9, List.length_set]; exact hL
  refine lv_aload_n hx hb d_Mod_init_29 rfl (lv_at hl 0 rfl) ?_
  refine lv_sipush (v := 384) hx hb d_Mod_init_30 (by decide) ?_
  refine nw_int (N' := 384) hx hb hT w_1_69 hK hP hD hS hA (by decide) (by decide) (by decide) (by omega) (by omega) d_Mod_init_33 (fun q10 H hP hD hS => ?_)
  have hP : va_P (dC, dI) CL ((h0, .inr (12, F9)) :: (T8 ++ [(q10, .inl (cI, 384, .inl (fun _ => 0)))])) H := hP
  have hD : va_D A ((h0, .inr (12, F9)) :: (T8 ++ [(q10, .inl (cI, 384, .inl (fun _ => 0)))])) := hD
  generalize eT11 : (T8 ++ [(q10, .inl (cI, 384, .inl (fun _ => 0)))] : va_W) = T11 at hP hD
  refine W.widen (k := cells + 4) (n := slots + 80768) (by omega) (by omega) ?_
  refine f_putF (D := (dC, dI)) (ci := 12) (v := .ref q10) (ty := .array .int) (C := R_Mod) (T := F_Mod) (N := 167) hx hb hT in_Mod t_Mod t_Mod_ok n_Mod hown hK hP hD hS 0 rfl rfl 6 (by decide) fr_Mod_6 w_8_182 hin (by decide +kernel) rfl rfl (by rw [hL]; decide) d_Mod_init_35 (fun H locs hP hD hS => ?_)
  have hP : va_P (dC, dI) CL ((h0, .inr (12, (F9.set 6 (.ref q10)))) :: T11) H := hP
  have hD : va_D A ((h0, .inr (12, (F9.set 6 (.ref q10)))) :: T11) := hD
  generalize eF12 : F9.set 6 (.ref q10) = F12 at hP hD
  have hL : F12.length = 167 := by rw [← eF12, List.length_set]; exact hL
  subst eF12
  subst eT11
  subst eF9
  subst eT8
  subst eF6
  subst eT5
  subst eF3
  subst eT2
  exact kk q1 q4 q7 q10 H locs hP hD hS
set_option maxHeartbeats 4000000 in
set_option maxRecDepth 100000 in
theorem seg_Mod_1 {p : Program} {l : Launch} {e : Env} {R : Room} {s : State} {m : MethodId} {args : Array Value} {below : List Frame} {meth : Method} {c : Code} {Q : State → Prop} {dC : Nat → ClassId} {dI : Nat → Nat → Nat} {cI cB cJ cZ : ClassId} {A : Nat → Prop} {H0 : Heap} {H : Heap} {locs : List Loc} {cells slots h0 : Nat} {F : List Value} {T : va_W} {ls : Array Slot}
    (hx : p.tables.exec = Jvm.exec) (hb : c.code = b_Mod_init) (hT : ∀ w ∈ TG, w.before args s = true) (hown : s.vm.findClass R_Mod = some m.cls) (hin : meth.name = "<init>") (hK : va_K (dC, dI) CL (TY cI cB cJ cZ) s) (hA : ∀ q : Nat, H0.size ≤ q → A q)
    (hP : va_P (dC, dI) CL ((h0, .inr (12, F)) :: T) H) (hD : va_D A ((h0, .inr (12, F)) :: T)) (hS : va_S A H0 H locs) (hL : F.length = 167) (hl : lv_has ls 2 [(0, .ref h0)]) (hc1 : cells + 4 ≤ R.cells) (hs1 : slots + 7296 ≤ R.slots)
    (kk : ∀ (q1 q4 q7 q10 : Nat) (H : Heap) (locs : List Loc), va_P (dC, dI) CL ((h0, .inr (12, ((((F.set 7 (.ref q1)).set 8 (.ref q4)).set 9 (.ref q7)).set 10 (.ref q10)))) :: ((((T ++ [(q1, .inl (cI, 384, .inl (fun _ => 0)))]) ++ [(q4, .inl (cI, 384, .inl (fun _ => 0)))]) ++ [(q7, .inl (cI, 384, .inl (fun _ => 0)))]) ++ [(q10, .inl (cI, 6144, .inl (fun _ => 0)))])) H → va_D A ((h0, .inr (12, ((((F.set 7 (.ref q1)).set 8 (.ref q4)).set 9 (.ref q7)).set 10 (.ref q10)))) :: ((((T ++ [(q1, .inl (cI, 384, .inl (fun _ => 0)))]) ++ [(q4, .inl (cI, 384, .inl (fun _ => 0)))]) ++ [(q7, .inl (cI, 384, .inl (fun _ => 0)))]) ++ [(q10, .inl (cI, 6144, .inl (fun _ => 0)))])) → va_S A H0 H locs → W p l e R s m args below meth c H locs (cells + 4) (slots + 7296) Q (F0 m 74 ls [])) :
    W p l e R s m args below meth c H locs cells slots Q (F0 m 38 ls []) := by
  refine lv_aload_n hx hb d_Mod_init_38 rfl (lv_at hl 0 rfl) ?_
  refine lv_sipush (v := 384) hx hb d_Mod_init_39 (by decide) ?_
  refine nw_int (N' := 384) hx hb hT w_1_69 hK hP hD hS hA (by decide) (by decide) (by decide) (by omega) (by omega) d_Mod_init_42 (fun q1 H hP hD hS => ?_)
  have hP : va_P (dC, dI) CL ((h0, .inr (12, F)) :: (T ++ [(q1, .inl (cI, 384, .inl (fun _ => 0)))])) H := hP
  have hD : va_D A ((h0, .inr (12, F)) :: (T ++ [(q1, .inl (cI, 384, .inl (fun _ => 0)))])) := hD
  generalize eT2 : (T ++ [(q1, .inl (cI, 384, .inl (fun _ => 0)))] : va_W) = T2 at hP hD
  refine W.widen (k := cells + 1) (n := slots + 384) (by omega) (by omega) ?_
  refine f_putF (D := (dC, dI)) (ci := 12) (v := .ref q1) (ty := .array .int) (C := R_Mod) (T := F_Mod) (N := 167) hx hb hT in_Mod t_Mod t_Mod_ok n_Mod hown hK hP hD hS 0 rfl rfl 7 (by decide) fr_Mod_7 w_8_183 hin (by decide +kernel) rfl rfl (by rw [hL]; decide) d_Mod_init_44 (fun H locs hP hD hS => ?_)
  have hP : va_P (dC, dI) CL ((h0, .inr (12, (F.set 7 (.ref q1)))) :: T2) H := hP
  have hD : va_D A ((h0, .inr (12, (F.set 7 (.ref q1)))) :: T2) := hD
  generalize eF3 : F.set 7 (.ref q1) = F3 at hP hD
  have hL : F3.length = 167 := by rw [← eF3, List.length_set]; exact hL
  refine lv_aload_n hx hb d_Mod_init_47 rfl (lv_at hl 0 rfl) ?_
  refine lv_sipush (v := 384) hx hb d_Mod_init_48 (by decide) ?_
  refine nw_int (N' := 384) hx hb hT w_1_69 hK hP hD hS hA (by decide) (by decide) (by decide) (by omega) (by omega) d_Mod_init_51 (fun q4 H hP hD hS => ?_)
  have hP : va_P (dC, dI) CL ((h0, .inr (12, F3)) :: (T2 ++ [(q4, .inl (cI, 384, .inl (fun _ => 0)))])) H := hP
  have hD : va_D A ((h0, .inr (12, F3)) :: (T2 ++ [(q4, .inl (cI, 384, .inl (fun _ => 0)))])) := hD
  generalize eT5 : (T2 ++ [(q4, .inl (cI, 384, .inl (fun _ => 0)))] : va_W) = T5 at hP hD
  refine W.widen (k := cells + 2) (n := slots + 768) (by omega) (by omega) ?_
  refine f_putF (D := (dC, dI)) (ci := 12) (v := .ref q4) (ty := .array .int) (C := R_Mod) (T := F_Mod) (N := 167) hx hb hT in_Mod t_Mod t_Mod_ok n_Mod hown hK hP hD hS 0 rfl rfl 8 (by decide) fr_Mod_8 w_8_184 hin (by decide +kernel) rfl rfl (by rw [hL]; decide) d_Mod_init_53 (fun H locs hP hD hS => ?_)
  have hP : va_P (dC, dI) CL ((h0, .inr (12, (F3.set 8 (.ref q4)))) :: T5) H := hP
  have hD : va_D A ((h0, .inr (12, (F3.set 8 (.ref q4)))) :: T5) := hD
  generalize eF6 : F3.set 8 (.ref q4) = F6 at hP hD
  have hL : F6.length = 167 := by rw [← eF6, List.length_set]; exact hL
  refine lv_aload_n hx hb d_Mod_init_56 rfl (lv_at hl 0 rfl) ?_
  refine lv_sipush (v := 384) hx hb d_Mod_init_57 (by decide) ?_
  refine nw_int (N' := 384) hx hb hT w_1_69 hK hP hD hS hA (by decide) (by decide) (by decide) (by omega) (by omega) d_Mod_init_60 (fun q7 H hP hD hS => ?_)
  have hP : va_P (dC, dI) CL ((h0, .inr (12, F6)) :: (T5 ++ [(q7, .inl (cI, 384, .inl (fun _ => 0)))])) H := hP
  have hD : va_D A ((h0, .inr (12, F6)) :: (T5 ++ [(q7, .inl (cI, 384, .inl (fun _ => 0)))])) := hD
  generalize eT8 : (T5 ++ [(q7, .inl (cI, 384, .inl (fun _ => 0)))] : va_W) = T8 at hP hD
  refine W.widen (k := cells + 3) (n := slots + 1152) (by omega) (by omega) ?_
  refine f_putF (D := (dC, dI)) (ci := 12) (v := .ref q7) (ty := .array .int) (C := R_Mod) (T := F_Mod) (N := 167) hx hb hT in_Mod t_Mod t_Mod_ok n_Mod hown hK hP hD hS 0 rfl rfl 9 (by decide) fr_Mod_9 w_8_185 hin (by decide +kernel) rfl rfl (by rw [hL]; decide) d_Mod_init_62 (fun H locs hP hD hS => ?_)
  have hP : va_P (dC, dI) CL ((h0, .inr (12, (F6.set 9 (.ref q7)))) :: T8) H := hP
  have hD : va_D A ((h0, .inr (12, (F6.set 9 (.ref q7)))) :: T8) := hD
  generalize eF9 : F6.set 9 (.ref q7) = F9 at hP hD
  have hL : F9.length = 167 := by rw [← eF9, List.length_set]; exact hL
  refine lv_aload_n hx hb d_Mod_init_65 rfl (lv_at hl 0 rfl) ?_
  refine lv_sipush (v := 6144) hx hb d_Mod_init_66 (by decide) ?_
  refine nw_int (N' := 6144) hx hb hT w_1_69 hK hP hD hS hA (by decide) (by decide) (by decide) (by omega) (by omega) d_Mod_init_69 (fun q10 H hP hD hS => ?_)
  have hP : va_P (dC, dI) CL ((h0, .inr (12, F9)) :: (T8 ++ [(q10, .inl (cI, 6144, .inl (fun _ => 0)))])) H := hP
  have hD : va_D A ((h0, .inr (12, F9)) :: (T8 ++ [(q10, .inl (cI, 6144, .inl (fun _ => 0)))])) := hD
  generalize eT11 : (T8 ++ [(q10, .inl (cI, 6144, .inl (fun _ => 0)))] : va_W) = T11 at hP hD
  refine W.widen (k := cells + 4) (n := slots + 7296) (by omega) (by omega) ?_
  refine f_putF (D := (dC, dI)) (ci := 12) (v := .ref q10) (ty := .array .int) (C := R_Mod) (T := F_Mod) (N := 167) hx hb hT in_Mod t_Mod t_Mod_ok n_Mod hown hK hP hD hS 0 rfl rfl 10 (by decide) fr_Mod_10 w_8_186 hin (by decide +kernel) rfl rfl (by rw [hL]; decide) d_Mod_init_71 (fun H locs hP hD hS => ?_)
  have hP : va_P (dC, dI) CL ((h0, .inr (12, (F9.set 10 (.ref q10)))) :: T11) H := hP
  have hD : va_D A ((h0, .inr (12, (F9.set 10 (.ref q10)))) :: T11) := hD
  generalize eF12 : F9.set 10 (.ref q10) = F12 at hP hD
  have hL : F12.length = 167 := by rw [← eF12, List.length_set]; exact hL
  subst eF12
  subst eT11
  subst eF9
  subst eT8
  subst eF6
  subst eT5
  subst eF3
  subst eT2
  exact kk q1 q4 q7 q10 H locs hP hD hS
set_option maxHeartbeats 4000000 in
set_option maxRecDepth 100000 in
theorem seg_Mod_2 {p : Program} {l : Launch} {e : Env} {R : Room} {s : State} {m : MethodId} {args : Array Value} {below : List Frame} {meth : Method} {c : Code} {Q : State → Prop} {dC : Nat → ClassId} {dI : Nat → Nat → Nat} {cI cB cJ cZ : ClassId} {A : Nat → Prop} {H0 : Heap} {H : Heap} {locs : List Loc} {cells slots h0 : Nat} {F : List Value} {T : va_W} {ls : Array Slot}
    (hx : p.tables.exec = Jvm.exec) (hb : c.code = b_Mod_init) (hT : ∀ w ∈ TG, w.before args s = true) (hown : s.vm.findClass R_Mod = some m.cls) (hin : meth.name = "<init>") (hK : va_K (dC, dI) CL (TY cI cB cJ cZ) s) (hA : ∀ q : Nat, H0.size ≤ q → A q)
    (hP : va_P (dC, dI) CL ((h0, .inr (12, F)) :: T) H) (hD : va_D A ((h0, .inr (12, F)) :: T)) (hS : va_S A H0 H locs) (hL : F.length = 167) (hl : lv_has ls 2 [(0, .ref h0)]) (hc1 : cells + 4 ≤ R.cells) (hs1 : slots + 4298 ≤ R.slots)
    (kk : ∀ (q1 q4 q7 q10 : Nat) (H : Heap) (locs : List Loc), va_P (dC, dI) CL ((h0, .inr (12, ((((F.set 11 (.ref q1)).set 12 (.ref q4)).set 13 (.ref q7)).set 18 (.ref q10)))) :: ((((T ++ [(q1, .inl (cI, 3, .inl (fun _ => 0)))]) ++ [(q4, .inl (cI, 3, .inl (fun _ => 0)))]) ++ [(q7, .inl (cI, 192, .inl (fun _ => 0)))]) ++ [(q10, .inl (cI, 4100, .inl (fun _ => 0)))])) H → va_D A ((h0, .inr (12, ((((F.set 11 (.ref q1)).set 12 (.ref q4)).set 13 (.ref q7)).set 18 (.ref q10)))) :: ((((T ++ [(q1, .inl (cI, 3, .inl (fun _ => 0)))]) ++ [(q4, .inl (cI, 3, .inl (fun _ => 0)))]) ++ [(q7, .inl (cI, 192, .inl (fun _ => 0)))]) ++ [(q10, .inl (cI, 4100, .inl (fun _ => 0)))])) → va_S A H0 H locs → W p l e R s m args below meth c H locs (cells + 4) (slots + 4298) Q (F0 m 106 ls [])) :
    W p l e R s m args below meth c H locs cells slots Q (F0 m 74 ls []) := by
  refine lv_aload_n hx hb d_Mod_init_74 rfl (lv_at hl 0 rfl) ?_
  refine lv_iconst (v := 3) hx hb d_Mod_init_75 (by decide) ?_
  refine nw_int (N' := 3) hx hb hT w_1_69 hK hP hD hS hA (by decide) (by decide) (by decide) (by omega) (by omega) d_Mod_init_76 (fun q1 H hP hD hS => ?_)
  have hP : va_P (dC, dI) CL ((h0, .inr (12, F)) :: (T ++ [(q1, .inl (cI, 3, .inl (fun _ => 0)))])) H := hP
  have hD : va_D A ((h0, .inr (12, F)) :: (T ++ [(q1, .inl (cI, 3, .inl (fun _ => 0)))])) := hD
  generalize eT2 : (T ++ [(q1, .inl (cI, 3, .inl (fun _ => 0)))] : va_W) = T2 at hP hD
  refine W.widen (k := cells + 1) (n := slots + 3) (by omega) (by omega) ?_
  refine f_putF (D := (dC, dI)) (ci := 12) (v := .ref q1) (ty := .array .int) (C := R_Mod) (T := F_Mod) (N := 167) hx hb hT in_Mod t_Mod t_Mod_ok n_Mod hown hK hP hD hS 0 rfl rfl 11 (by decide) fr_Mod_11 w_8_187 hin (by decide +kernel) rfl rfl (by rw [hL]; decide) d_Mod_init_78 (fun H locs hP hD hS => ?_)
  have hP : va_P (dC, dI) CL ((h0, .inr (12, (F.set 11 (.ref q1)))) :: T2) H := hP
  have hD : va_D A ((h0, .inr (12, (F.set 11 (.ref q1)))) :: T2) := hD
  generalize eF3 : F.set 11 (.ref q1) = F3 at hP hD
  have hL : F3.length = 167 := by rw [← eF3, List.length_set]; exact hL
  refine lv_aload_n hx hb d_Mod_init_81 rfl (lv_at hl 0 rfl) ?_
  refine lv_iconst (v := 3) hx hb d_Mod_init_82 (by decide) ?_
  refine nw_int (N' := 3) hx hb hT w_1_69 hK hP hD hS hA (by decide) (by decide) (by decide) (by omega) (by omega) d_Mod_init_83 (fun q4 H hP hD hS => ?_)
  have hP : va_P (dC, dI) CL ((h0, .inr (12, F3)) :: (T2 ++ [(q4, .inl (cI, 3, .inl (fun _ => 0)))])) H := hP
  have hD : va_D A ((h0, .inr (12, F3)) :: (T2 ++ [(q4, .inl (cI, 3, .inl (fun _ => 0)))])) := hD
  generalize eT5 : (T2 ++ [(q4, .inl (cI, 3, .inl (fun _ => 0)))] : va_W) = T5 at hP hD
  refine W.widen (k := cells + 2) (n := slots + 6) (by omega) (by omega) ?_
  refine f_putF (D := (dC, dI)) (ci := 12) (v := .ref q4) (ty := .array .int) (C := R_Mod) (T := F_Mod) (N := 167) hx hb hT in_Mod t_Mod t_Mod_ok n_Mod hown hK hP hD hS 0 rfl rfl 12 (by decide) fr_Mod_12 w_8_188 hin (by decide +kernel) rfl rfl (by rw [hL]; decide) d_Mod_init_85 (fun H locs hP hD hS => ?_)
  have hP : va_P (dC, dI) CL ((h0, .inr (12, (F3.set 12 (.ref q4)))) :: T5) H := hP
  have hD : va_D A ((h0, .inr (12, (F3.set 12 (.ref q4)))) :: T5) := hD
  generalize eF6 : F3.set 12 (.ref q4) = F6 at hP hD
  have hL : F6.length = 167 := by rw [← eF6, List.length_set]; exact hL
  refine lv_aload_n hx hb d_Mod_init_88 rfl (lv_at hl 0 rfl) ?_
  refine lv_sipush (v := 192) hx hb d_Mod_init_89 (by decide) ?_
  refine nw_int (N' := 192) hx hb hT w_1_69 hK hP hD hS hA (by decide) (by decide) (by decide) (by omega) (by omega) d_Mod_init_92 (fun q7 H hP hD hS => ?_)
  have hP : va_P (dC, dI) CL ((h0, .inr (12, F6)) :: (T5 ++ [(q7, .inl (cI, 192, .inl (fun _ => 0)))])) H := hP
  have hD : va_D A ((h0, .inr (12, F6)) :: (T5 ++ [(q7, .inl (cI, 192, .inl (fun _ => 0)))])) := hD
  generalize eT8 : (T5 ++ [(q7, .inl (cI, 192, .inl (fun _ => 0)))] : va_W) = T8 at hP hD
  refine W.widen (k := cells + 3) (n := slots + 198) (by omega) (by omega) ?_
  refine f_putF (D := (dC, dI)) (ci := 12) (v := .ref q7) (ty := .array .int) (C := R_Mod) (T := F_Mod) (N := 167) hx hb hT in_Mod t_Mod t_Mod_ok n_Mod hown hK hP hD hS 0 rfl rfl 13 (by decide) fr_Mod_13 w_8_189 hin (by decide +kernel) rfl rfl (by rw [hL]; decide) d_Mod_init_94 (fun H locs hP hD hS => ?_)
  have hP : va_P (dC, dI) CL ((h0, .inr (12, (F6.set 13 (.ref q7)))) :: T8) H := hP
  have hD : va_D A ((h0, .inr (12, (F6.set 13 (.ref q7)))) :: T8) := hD
  generalize eF9 : F6.set 13 (.ref q7) = F9 at hP hD
  have hL : F9.length = 167 := by rw [← eF9, List.length_set]; exact hL
  refine lv_aload_n hx hb d_Mod_init_97 rfl (lv_at hl 0 rfl) ?_
  refine lv_sipush (v := 4100) hx hb d_Mod_init_98 (by decide) ?_
  refine nw_int (N' := 4100) hx hb hT w_1_69 hK hP hD hS hA (by decide) (by decide) (by decide) (by omega) (by omega) d_Mod_init_101 (fun q10 H hP hD hS => ?_)
  have hP : va_P (dC, dI) CL ((h0, .inr (12, F9)) :: (T8 ++ [(q10, .inl (cI, 4100, .inl (fun _ => 0)))])) H := hP
  have hD : va_D A ((h0, .inr (12, F9)) :: (T8 ++ [(q10, .inl (cI, 4100, .inl (fun _ => 0)))])) := hD
  generalize eT11 : (T8 ++ [(q10, .inl (cI, 4100, .inl (fun _ => 0)))] : va_W) = T11 at hP hD
  refine W.widen (k := cells + 4) (n := slots + 4298) (by omega) (by omega) ?_
  refine f_putF (D := (dC, dI)) (ci := 12) (v := .ref q10) (ty := .array .int) (C := R_Mod) (T := F_Mod) (N := 167) hx hb hT in_Mod t_Mod t_Mod_ok n_Mod hown hK hP hD hS 0 rfl rfl 18 (by decide) fr_Mod_18 w_8_194 hin (by decide +kernel) rfl rfl (by rw [hL]; decide) d_Mod_init_103 (fun H locs hP hD hS => ?_)
  have hP : va_P (dC, dI) CL ((h0, .inr (12, (F9.set 18 (.ref q10)))) :: T11) H := hP
  have hD : va_D A ((h0, .inr (12, (F9.set 18 (.ref q10)))) :: T11) := hD
  generalize eF12 : F9.set 18 (.ref q10) = F12 at hP hD
  have hL : F12.length = 167 := by rw [← eF12, List.length_set]; exact hL
  subst eF12
  subst eT11
  subst eF9
  subst eT8
  subst eF6
  subst eT5
  subst eF3
  subst eT2
  exact kk q1 q4 q7 q10 H locs hP hD hS
set_option maxHeartbeats 4000000 in
set_option maxRecDepth 100000 in
theorem seg_Mod_3 {p : Program} {l : Launch} {e : Env} {R : Room} {s : State} {m : MethodId} {args : Array Value} {below : List Frame} {meth : Method} {c : Code} {Q : State → Prop} {dC : Nat → ClassId} {dI : Nat → Nat → Nat} {cI cB cJ cZ : ClassId} {A : Nat → Prop} {H0 : Heap} {H : Heap} {locs : List Loc} {cells slots h0 : Nat} {F : List Value} {T : va_W} {ls : Array Slot}
    (hx : p.tables.exec = Jvm.exec) (hb : c.code = b_Mod_init) (hT : ∀ w ∈ TG, w.before args s = true) (hown : s.vm.findClass R_Mod = some m.cls) (hin : meth.name = "<init>") (hK : va_K (dC, dI) CL (TY cI cB cJ cZ) s) (hA : ∀ q : Nat, H0.size ≤ q → A q)
    (hP : va_P (dC, dI) CL ((h0, .inr (12, F)) :: T) H) (hD : va_D A ((h0, .inr (12, F)) :: T)) (hS : va_S A H0 H locs) (hL : F.length = 167) (hl : lv_has ls 2 [(0, .ref h0)]) (hc1 : cells + 4 ≤ R.cells) (hs1 : slots + 16400 ≤ R.slots)
    (kk : ∀ (q1 q4 q7 q10 : Nat) (H : Heap) (locs : List Loc), va_P (dC, dI) CL ((h0, .inr (12, ((((F.set 19 (.ref q1)).set 20 (.ref q4)).set 21 (.ref q7)).set 22 (.ref q10)))) :: ((((T ++ [(q1, .inl (cI, 4100, .inl (fun _ => 0)))]) ++ [(q4, .inl (cI, 4100, .inl (fun _ => 0)))]) ++ [(q7, .inl (cI, 4100, .inl (fun _ => 0)))]) ++ [(q10, .inl (cI, 4100, .inl (fun _ => 0)))])) H → va_D A ((h0, .inr (12, ((((F.set 19 (.ref q1)).set 20 (.ref q4)).set 21 (.ref q7)).set 22 (.ref q10)))) :: ((((T ++ [(q1, .inl (cI, 4100, .inl (fun _ => 0)))]) ++ [(q4, .inl (cI, 4100, .inl (fun _ => 0)))]) ++ [(q7, .inl (cI, 4100, .inl (fun _ => 0)))]) ++ [(q10, .inl (cI, 4100, .inl (fun _ => 0)))])) → va_S A H0 H locs → W p l e R s m args below meth c H locs (cells + 4) (slots + 16400) Q (F0 m 142 ls [])) :
    W p l e R s m args below meth c H locs cells slots Q (F0 m 106 ls []) := by
  refine lv_aload_n hx hb d_Mod_init_106 rfl (lv_at hl 0 rfl) ?_
  refine lv_sipush (v := 4100) hx hb d_Mod_init_107 (by decide) ?_
  refine nw_int (N' := 4100) hx hb hT w_1_69 hK hP hD hS hA (by decide) (by decide) (by decide) (by omega) (by omega) d_Mod_init_110 (fun q1 H hP hD hS => ?_)
  have hP : va_P (dC, dI) CL ((h0, .inr (12, F)) :: (T ++ [(q1, .inl (cI, 4100, .inl (fun _ => 0)))])) H := hP
  have hD : va_D A ((h0, .inr (12, F)) :: (T ++ [(q1, .inl (cI, 4100, .inl (fun _ => 0)))])) := hD
  generalize eT2 : (T ++ [(q1, .inl (cI, 4100, .inl (fun _ => 0)))] : va_W) = T2 at hP hD
  refine W.widen (k := cells + 1) (n := slots + 4100) (by omega) (by omega) ?_
  refine f_putF (D := (dC, dI)) (ci := 12) (v := .ref q1) (ty := .array .int) (C := R_Mod) (T := F_Mod) (N := 167) hx hb hT in_Mod t_Mod t_Mod_ok n_Mod hown hK hP hD hS 0 rfl rfl 19 (by decide) fr_Mod_19 w_8_195 hin (by decide +kernel) rfl rfl (by rw [hL]; decide) d_Mod_init_112 (fun H locs hP hD hS => ?_)
  have hP : va_P (dC, dI) CL ((h0, .inr (12, (F.set 19 (.ref q1)))) :: T2) H := hP
  have hD : va_D A ((h0, .inr (12, (F.set 19 (.ref q1)))) :: T2) := hD
  generalize eF3 : F.set 19 (.ref q1) = F3 at hP hD
  have hL : F3.length = 167 := by rw [← eF3, List.length_set]; exact hL
  refine lv_aload_n hx hb d_Mod_init_115 rfl (lv_at hl 0 rfl) ?_
  refine lv_sipush (v := 4100) hx hb d_Mod_init_116 (by decide) ?_
  refine nw_int (N' := 4100) hx hb hT w_1_69 hK hP hD hS hA (by decide) (by decide) (by decide) (by omega) (by omega) d_Mod_init_119 (fun q4 H hP hD hS => ?_)
  have hP : va_P (dC, dI) CL ((h0, .inr (12, F3)) :: (T2 ++ [(q4, .inl (cI, 4100, .inl (fun _ => 0)))])) H := hP
  have hD : va_D A ((h0, .inr (12, F3)) :: (T2 ++ [(q4, .inl (cI, 4100, .inl (fun _ => 0)))])) := hD
  generalize eT5 : (T2 ++ [(q4, .inl (cI, 4100, .inl (fun _ => 0)))] : va_W) = T5 at hP hD
  refine W.widen (k := cells + 2) (n := slots + 8200) (by omega) (by omega) ?_
  refine f_putF (D := (dC, dI)) (ci := 12) (v := .ref q4) (ty := .array .int) (C := R_Mod) (T := F_Mod) (N := 167) hx hb hT in_Mod t_Mod t_Mod_ok n_Mod hown hK hP hD hS 0 rfl rfl 20 (by decide) fr_Mod_20 w_8_196 hin (by decide +kernel) rfl rfl (by rw [hL]; decide) d_Mod_init_121 (fun H locs hP hD hS => ?_)
  have hP : va_P (dC, dI) CL ((h0, .inr (12, (F3.set 20 (.ref q4)))) :: T5) H := hP
  have hD : va_D A ((h0, .inr (12, (F3.set 20 (.ref q4)))) :: T5) := hD
  generalize eF6 : F3.set 20 (.ref q4) = F6 at hP hD
  have hL : F6.length = 167 := by rw [← eF6, List.length_set]; exact hL
  refine lv_aload_n hx hb d_Mod_init_124 rfl (lv_at hl 0 rfl) ?_
  refine lv_sipush (v := 4100) hx hb d_Mod_init_125 (by decide) ?_
  refine nw_int (N' := 4100) hx hb hT w_1_69 hK hP hD hS hA (by decide) (by decide) (by decide) (by omega) (by omega) d_Mod_init_128 (fun q7 H hP hD hS => ?_)
  have hP : va_P (dC, dI) CL ((h0, .inr (12, F6)) :: (T5 ++ [(q7, .inl (cI, 4100, .inl (fun _ => 0)))])) H := hP
  have hD : va_D A ((h0, .inr (12, F6)) :: (T5 ++ [(q7, .inl (cI, 4100, .inl (fun _ => 0)))])) := hD
  generalize eT8 : (T5 ++ [(q7, .inl (cI, 4100, .inl (fun _ => 0)))] : va_W) = T8 at hP hD
  refine W.widen (k := cells + 3) (n := slots + 12300) (by omega) (by omega) ?_
  refine f_putF (D := (dC, dI)) (ci := 12) (v := .ref q7) (ty := .array .int) (C := R_Mod) (T := F_Mod) (N := 167) hx hb hT in_Mod t_Mod t_Mod_ok n_Mod hown hK hP hD hS 0 rfl rfl 21 (by decide) fr_Mod_21 w_8_197 hin (by decide +kernel) rfl rfl (by rw [hL]; decide) d_Mod_init_130 (fun H locs hP hD hS => ?_)
  have hP : va_P (dC, dI) CL ((h0, .inr (12, (F6.set 21 (.ref q7)))) :: T8) H := hP
  have hD : va_D A ((h0, .inr (12, (F6.set 21 (.ref q7)))) :: T8) := hD
  generalize eF9 : F6.set 21 (.ref q7) = F9 at hP hD
  have hL : F9.length = 167 := by rw [← eF9, List.length_set]; exact hL
  refine lv_aload_n hx hb d_Mod_init_133 rfl (lv_at hl 0 rfl) ?_
  refine lv_sipush (v := 4100) hx hb d_Mod_init_134 (by decide) ?_
  refine nw_int (N' := 4100) hx hb hT w_1_69 hK hP hD hS hA (by decide) (by decide) (by decide) (by omega) (by omega) d_Mod_init_137 (fun q10 H hP hD hS => ?_)
  have hP : va_P (dC, dI) CL ((h0, .inr (12, F9)) :: (T8 ++ [(q10, .inl (cI, 4100, .inl (fun _ => 0)))])) H := hP
  have hD : va_D A ((h0, .inr (12, F9)) :: (T8 ++ [(q10, .inl (cI, 4100, .inl (fun _ => 0)))])) := hD
  generalize eT11 : (T8 ++ [(q10, .inl (cI, 4100, .inl (fun _ => 0)))] : va_W) = T11 at hP hD
  refine W.widen (k := cells + 4) (n := slots + 16400) (by omega) (by omega) ?_
  refine f_putF (D := (dC, dI)) (ci := 12) (v := .ref q10) (ty := .array .int) (C := R_Mod) (T := F_Mod) (N := 167) hx hb hT in_Mod t_Mod t_Mod_ok n_Mod hown hK hP hD hS 0 rfl rfl 22 (by decide) fr_Mod_22 w_8_198 hin (by decide +kernel) rfl rfl (by rw [hL]; decide) d_Mod_init_139 (fun H locs hP hD hS => ?_)
  have hP : va_P (dC, dI) CL ((h0, .inr (12, (F9.set 22 (.ref q10)))) :: T11) H := hP
  have hD : va_D A ((h0, .inr (12, (F9.set 22 (.ref q10)))) :: T11) := hD
  generalize eF12 : F9.set 22 (.ref q10) = F12 at hP hD
  have hL : F12.length = 167 := by rw [← eF12, List.length_set]; exact hL
  subst eF12
  subst eT11
  subst eF9
  subst eT8
  subst eF6
  subst eT5
  subst eF3
  subst eT2
  exact kk q1 q4 q7 q10 H locs hP hD hS
set_option maxHeartbeats 4000000 in
set_option maxRecDepth 100000 in
theorem seg_Mod_4 {p : Program} {l : Launch} {e : Env} {R : Room} {s : State} {m : MethodId} {args : Array Value} {below : List Frame} {meth : Method} {c : Code} {Q : State → Prop} {dC : Nat → ClassId} {dI : Nat → Nat → Nat} {cI cB cJ cZ : ClassId} {A : Nat → Prop} {H0 : Heap} {H : Heap} {locs : List Loc} {cells slots h0 : Nat} {F : List Value} {T : va_W} {ls : Array Slot}
    (hx : p.tables.exec = Jvm.exec) (hb : c.code = b_Mod_init) (hT : ∀ w ∈ TG, w.before args s = true) (hown : s.vm.findClass R_Mod = some m.cls) (hin : meth.name = "<init>") (hK : va_K (dC, dI) CL (TY cI cB cJ cZ) s) (hA : ∀ q : Nat, H0.size ≤ q → A q)
    (hP : va_P (dC, dI) CL ((h0, .inr (12, F)) :: T) H) (hD : va_D A ((h0, .inr (12, F)) :: T)) (hS : va_S A H0 H locs) (hL : F.length = 167) (hl : lv_has ls 2 [(0, .ref h0)]) (hc1 : cells + 4 ≤ R.cells) (hs1 : slots + 34100 ≤ R.slots)
    (kk : ∀ (q1 q4 q7 q10 : Nat) (H : Heap) (locs : List Loc), va_P (dC, dI) CL ((h0, .inr (12, ((((F.set 23 (.ref q1)).set 26 (.ref q4)).set 27 (.ref q7)).set 28 (.ref q10)))) :: ((((T ++ [(q1, .inl (cJ, 4100, .inr (.inl (fun _ => 0))))]) ++ [(q4, .inl (cI, 10000, .inl (fun _ => 0)))]) ++ [(q7, .inl (cI, 10000, .inl (fun _ => 0)))]) ++ [(q10, .inl (cI, 10000, .inl (fun _ => 0)))])) H → va_D A ((h0, .inr (12, ((((F.set 23 (.ref q1)).set 26 (.ref q4)).set 27 (.ref q7)).set 28 (.ref q10)))) :: ((((T ++ [(q1, .inl (cJ, 4100, .inr (.inl (fun _ => 0))))]) ++ [(q4, .inl (cI, 10000, .inl (fun _ => 0)))]) ++ [(q7, .inl (cI, 10000, .inl (fun _ => 0)))]) ++ [(q10, .inl (cI, 10000, .inl (fun _ => 0)))])) → va_S A H0 H locs → W p l e R s m args below meth c H locs (cells + 4) (slots + 34100) Q (F0 m 178 ls [])) :
    W p l e R s m args below meth c H locs cells slots Q (F0 m 142 ls []) := by
  refine lv_aload_n hx hb d_Mod_init_142 rfl (lv_at hl 0 rfl) ?_
  refine lv_sipush (v := 4100) hx hb d_Mod_init_143 (by decide) ?_
  refine nw_long (N' := 4100) hx hb hT w_2_41 hK hP hD hS hA (by decide) (by decide) (by decide) (by omega) (by omega) d_Mod_init_146 (fun q1 H hP hD hS => ?_)
  have hP : va_P (dC, dI) CL ((h0, .inr (12, F)) :: (T ++ [(q1, .inl (cJ, 4100, .inr (.inl (fun _ => 0))))])) H := hP
  have hD : va_D A ((h0, .inr (12, F)) :: (T ++ [(q1, .inl (cJ, 4100, .inr (.inl (fun _ => 0))))])) := hD
  generalize eT2 : (T ++ [(q1, .inl (cJ, 4100, .inr (.inl (fun _ => 0))))] : va_W) = T2 at hP hD
  refine W.widen (k := cells + 1) (n := slots + 4100) (by omega) (by omega) ?_
  refine f_putF (D := (dC, dI)) (ci := 12) (v := .ref q1) (ty := .array .long) (C := R_Mod) (T := F_Mod) (N := 167) hx hb hT in_Mod t_Mod t_Mod_ok n_Mod hown hK hP hD hS 0 rfl rfl 23 (by decide) fr_Mod_23 w_8_199 hin (by decide +kernel) rfl rfl (by rw [hL]; decide) d_Mod_init_148 (fun H locs hP hD hS => ?_)
  have hP : va_P (dC, dI) CL ((h0, .inr (12, (F.set 23 (.ref q1)))) :: T2) H := hP
  have hD : va_D A ((h0, .inr (12, (F.set 23 (.ref q1)))) :: T2) := hD
  generalize eF3 : F.set 23 (.ref q1) = F3 at hP hD
  have hL : F3.length = 167 := by rw [← eF3, List.length_set]; exact hL
  refine lv_aload_n hx hb d_Mod_init_151 rfl (lv_at hl 0 rfl) ?_
  refine lv_sipush (v := 10000) hx hb d_Mod_init_152 (by decide) ?_
  refine nw_int (N' := 10000) hx hb hT w_1_69 hK hP hD hS hA (by decide) (by decide) (by decide) (by omega) (by omega) d_Mod_init_155 (fun q4 H hP hD hS => ?_)
  have hP : va_P (dC, dI) CL ((h0, .inr (12, F3)) :: (T2 ++ [(q4, .inl (cI, 10000, .inl (fun _ => 0)))])) H := hP
  have hD : va_D A ((h0, .inr (12, F3)) :: (T2 ++ [(q4, .inl (cI, 10000, .inl (fun _ => 0)))])) := hD
  generalize eT5 : (T2 ++ [(q4, .inl (cI, 10000, .inl (fun _ => 0)))] : va_W) = T5 at hP hD
  refine W.widen (k := cells + 2) (n := slots + 14100) (by omega) (by omega) ?_
  refine f_putF (D := (dC, dI)) (ci := 12) (v := .ref q4) (ty := .array .int) (C := R_Mod) (T := F_Mod) (N := 167) hx hb hT in_Mod t_Mod t_Mod_ok n_Mod hown hK hP hD hS 0 rfl rfl 26 (by decide) fr_Mod_26 w_8_202 hin (by decide +kernel) rfl rfl (by rw [hL]; decide) d_Mod_init_157 (fun H locs hP hD hS => ?_)
  have hP : va_P (dC, dI) CL ((h0, .inr (12, (F3.set 26 (.ref q4)))) :: T5) H := hP
  have hD : va_D A ((h0, .inr (12, (F3.set 26 (.ref q4)))) :: T5) := hD
  generalize eF6 : F3.set 26 (.ref q4) = F6 at hP hD
  have hL : F6.length = 167 := by rw [← eF6, List.length_set]; exact hL
  refine lv_aload_n hx hb d_Mod_init_160 rfl (lv_at hl 0 rfl) ?_
  refine lv_sipush (v := 10000) hx hb d_Mod_init_161 (by decide) ?_
  refine nw_int (N' := 10000) hx hb hT w_1_69 hK hP hD hS hA (by decide) (by decide) (by decide) (by omega) (by omega) d_Mod_init_164 (fun q7 H hP hD hS => ?_)
  have hP : va_P (dC, dI) CL ((h0, .inr (12, F6)) :: (T5 ++ [(q7, .inl (cI, 10000, .inl (fun _ => 0)))])) H := hP
  have hD : va_D A ((h0, .inr (12, F6)) :: (T5 ++ [(q7, .inl (cI, 10000, .inl (fun _ => 0)))])) := hD
  generalize eT8 : (T5 ++ [(q7, .inl (cI, 10000, .inl (fun _ => 0)))] : va_W) = T8 at hP hD
  refine W.widen (k := cells + 3) (n := slots + 24100) (by omega) (by omega) ?_
  refine f_putF (D := (dC, dI)) (ci := 12) (v := .ref q7) (ty := .array .int) (C := R_Mod) (T := F_Mod) (N := 167) hx hb hT in_Mod t_Mod t_Mod_ok n_Mod hown hK hP hD hS 0 rfl rfl 27 (by decide) fr_Mod_27 w_8_203 hin (by decide +kernel) rfl rfl (by rw [hL]; decide) d_Mod_init_166 (fun H locs hP hD hS => ?_)
  have hP : va_P (dC, dI) CL ((h0, .inr (12, (F6.set 27 (.ref q7)))) :: T8) H := hP
  have hD : va_D A ((h0, .inr (12, (F6.set 27 (.ref q7)))) :: T8) := hD
  generalize eF9 : F6.set 27 (.ref q7) = F9 at hP hD
  have hL : F9.length = 167 := by rw [← eF9, List.length_set]; exact hL
  refine lv_aload_n hx hb d_Mod_init_169 rfl (lv_at hl 0 rfl) ?_
  refine lv_sipush (v := 10000) hx hb d_Mod_init_170 (by decide) ?_
  refine nw_int (N' := 10000) hx hb hT w_1_69 hK hP hD hS hA (by decide) (by decide) (by decide) (by omega) (by omega) d_Mod_init_173 (fun q10 H hP hD hS => ?_)
  have hP : va_P (dC, dI) CL ((h0, .inr (12, F9)) :: (T8 ++ [(q10, .inl (cI, 10000, .inl (fun _ => 0)))])) H := hP
  have hD : va_D A ((h0, .inr (12, F9)) :: (T8 ++ [(q10, .inl (cI, 10000, .inl (fun _ => 0)))])) := hD
  generalize eT11 : (T8 ++ [(q10, .inl (cI, 10000, .inl (fun _ => 0)))] : va_W) = T11 at hP hD
  refine W.widen (k := cells + 4) (n := slots + 34100) (by omega) (by omega) ?_
  refine f_putF (D := (dC, dI)) (ci := 12) (v := .ref q10) (ty := .array .int) (C := R_Mod) (T := F_Mod) (N := 167) hx hb hT in_Mod t_Mod t_Mod_ok n_Mod hown hK hP hD hS 0 rfl rfl 28 (by decide) fr_Mod_28 w_8_204 hin (by decide +kernel) rfl rfl (by rw [hL]; decide) d_Mod_init_175 (fun H locs hP hD hS => ?_)
  have hP : va_P (dC, dI) CL ((h0, .inr (12, (F9.set 28 (.ref q10)))) :: T11) H := hP
  have hD : va_D A ((h0, .inr (12, (F9.set 28 (.ref q10)))) :: T11) := hD
  generalize eF12 : F9.set 28 (.ref q10) = F12 at hP hD
  have hL : F12.length = 167 := by rw [← eF12, List.length_set]; exact hL
  subst eF12
  subst eT11
  subst eF9
  subst eT8
  subst eF6
  subst eT5
  subst eF3
  subst eT2
  exact kk q1 q4 q7 q10 H locs hP hD hS
set_option maxHeartbeats 4000000 in
set_option maxRecDepth 100000 in
theorem seg_Mod_5 {p : Program} {l : Launch} {e : Env} {R : Room} {s : State} {m : MethodId} {args : Array Value} {below : List Frame} {meth : Method} {c : Code} {Q : State → Prop} {dC : Nat → ClassId} {dI : Nat → Nat → Nat} {cI cB cJ cZ : ClassId} {A : Nat → Prop} {H0 : Heap} {H : Heap} {locs : List Loc} {cells slots h0 : Nat} {F : List Value} {T : va_W} {ls : Array Slot}
    (hx : p.tables.exec = Jvm.exec) (hb : c.code = b_Mod_init) (hT : ∀ w ∈ TG, w.before args s = true) (hown : s.vm.findClass R_Mod = some m.cls) (hin : meth.name = "<init>") (hK : va_K (dC, dI) CL (TY cI cB cJ cZ) s) (hA : ∀ q : Nat, H0.size ≤ q → A q)
    (hP : va_P (dC, dI) CL ((h0, .inr (12, F)) :: T) H) (hD : va_D A ((h0, .inr (12, F)) :: T)) (hS : va_S A H0 H locs) (hL : F.length = 167) (hl : lv_has ls 2 [(0, .ref h0)]) (hc1 : cells + 4 ≤ R.cells) (hs1 : slots + 82001 ≤ R.slots)
    (kk : ∀ (q1 q4 q7 q10 : Nat) (H : Heap) (locs : List Loc), va_P (dC, dI) CL ((h0, .inr (12, ((((F.set 29 (.ref q1)).set 30 (.ref q4)).set 31 (.ref q7)).set 32 (.ref q10)))) :: ((((T ++ [(q1, .inl (cI, 10000, .inl (fun _ => 0)))]) ++ [(q4, .inl (cI, 10000, .inl (fun _ => 0)))]) ++ [(q7, .inl (cI, 2001, .inl (fun _ => 0)))]) ++ [(q10, .inl (cI, 60000, .inl (fun _ => 0)))])) H → va_D A ((h0, .inr (12, ((((F.set 29 (.ref q1)).set 30 (.ref q4)).set 31 (.ref q7)).set 32 (.ref q10)))) :: ((((T ++ [(q1, .inl (cI, 10000, .inl (fun _ => 0)))]) ++ [(q4, .inl (cI, 10000, .inl (fun _ => 0)))]) ++ [(q7, .inl (cI, 2001, .inl (fun _ => 0)))]) ++ [(q10, .inl (cI, 60000, .inl (fun _ => 0)))])) → va_S A H0 H locs → W p l e R s m args below meth c H locs (cells + 4) (slots + 82001) Q (F0 m 213 ls [])) :
    W p l e R s m args below meth c H locs cells slots Q (F0 m 178 ls []) := by
  refine lv_aload_n hx hb d_Mod_init_178 rfl (lv_at hl 0 rfl) ?_
  refine lv_sipush (v := 10000) hx hb d_Mod_init_179 (by decide) ?_
  refine nw_int (N' := 10000) hx hb hT w_1_69 hK hP hD hS hA (by decide) (by decide) (by decide) (by omega) (by omega) d_Mod_init_182 (fun q1 H hP hD hS => ?_)
  have hP : va_P (dC, dI) CL ((h0, .inr (12, F)) :: (T ++ [(q1, .inl (cI, 10000, .inl (fun _ => 0)))])) H := hP
  have hD : va_D A ((h0, .inr (12, F)) :: (T ++ [(q1, .inl (cI, 10000, .inl (fun _ => 0)))])) := hD
  generalize eT2 : (T ++ [(q1, .inl (cI, 10000, .inl (fun _ => 0)))] : va_W) = T2 at hP hD
  refine W.widen (k := cells + 1) (n := slots + 10000) (by omega) (by omega) ?_
  refine f_putF (D := (dC, dI)) (ci := 12) (v := .ref q1) (ty := .array .int) (C := R_Mod) (T := F_Mod) (N := 167) hx hb hT in_Mod t_Mod t_Mod_ok n_Mod hown hK hP hD hS 0 rfl rfl 29 (by decide) fr_Mod_29 w_8_205 hin (by decide +kernel) rfl rfl (by rw [hL]; decide) d_Mod_init_184 (fun H locs hP hD hS => ?_)
  have hP : va_P (dC, dI) CL ((h0, .inr (12, (F.set 29 (.ref q1)))) :: T2) H := hP
  have hD : va_D A ((h0, .inr (12, (F.set 29 (.ref q1)))) :: T2) := hD
  generalize eF3 : F.set 29 (.ref q1) = F3 at hP hD
  have hL : F3.length = 167 := by rw [← eF3, List.length_set]; exact hL
  refine lv_aload_n hx hb d_Mod_init_187 rfl (lv_at hl 0 rfl) ?_
  refine lv_sipush (v := 10000) hx hb d_Mod_init_188 (by decide) ?_
  refine nw_int (N' := 10000) hx hb hT w_1_69 hK hP hD hS hA (by decide) (by decide) (by decide) (by omega) (by omega) d_Mod_init_191 (fun q4 H hP hD hS => ?_)
  have hP : va_P (dC, dI) CL ((h0, .inr (12, F3)) :: (T2 ++ [(q4, .inl (cI, 10000, .inl (fun _ => 0)))])) H := hP
  have hD : va_D A ((h0, .inr (12, F3)) :: (T2 ++ [(q4, .inl (cI, 10000, .inl (fun _ => 0)))])) := hD
  generalize eT5 : (T2 ++ [(q4, .inl (cI, 10000, .inl (fun _ => 0)))] : va_W) = T5 at hP hD
  refine W.widen (k := cells + 2) (n := slots + 20000) (by omega) (by omega) ?_
  refine f_putF (D := (dC, dI)) (ci := 12) (v := .ref q4) (ty := .array .int) (C := R_Mod) (T := F_Mod) (N := 167) hx hb hT in_Mod t_Mod t_Mod_ok n_Mod hown hK hP hD hS 0 rfl rfl 30 (by decide) fr_Mod_30 w_8_206 hin (by decide +kernel) rfl rfl (by rw [hL]; decide) d_Mod_init_193 (fun H locs hP hD hS => ?_)
  have hP : va_P (dC, dI) CL ((h0, .inr (12, (F3.set 30 (.ref q4)))) :: T5) H := hP
  have hD : va_D A ((h0, .inr (12, (F3.set 30 (.ref q4)))) :: T5) := hD
  generalize eF6 : F3.set 30 (.ref q4) = F6 at hP hD
  have hL : F6.length = 167 := by rw [← eF6, List.length_set]; exact hL
  refine lv_aload_n hx hb d_Mod_init_196 rfl (lv_at hl 0 rfl) ?_
  refine lv_sipush (v := 2001) hx hb d_Mod_init_197 (by decide) ?_
  refine nw_int (N' := 2001) hx hb hT w_1_69 hK hP hD hS hA (by decide) (by decide) (by decide) (by omega) (by omega) d_Mod_init_200 (fun q7 H hP hD hS => ?_)
  have hP : va_P (dC, dI) CL ((h0, .inr (12, F6)) :: (T5 ++ [(q7, .inl (cI, 2001, .inl (fun _ => 0)))])) H := hP
  have hD : va_D A ((h0, .inr (12, F6)) :: (T5 ++ [(q7, .inl (cI, 2001, .inl (fun _ => 0)))])) := hD
  generalize eT8 : (T5 ++ [(q7, .inl (cI, 2001, .inl (fun _ => 0)))] : va_W) = T8 at hP hD
  refine W.widen (k := cells + 3) (n := slots + 22001) (by omega) (by omega) ?_
  refine f_putF (D := (dC, dI)) (ci := 12) (v := .ref q7) (ty := .array .int) (C := R_Mod) (T := F_Mod) (N := 167) hx hb hT in_Mod t_Mod t_Mod_ok n_Mod hown hK hP hD hS 0 rfl rfl 31 (by decide) fr_Mod_31 w_8_207 hin (by decide +kernel) rfl rfl (by rw [hL]; decide) d_Mod_init_202 (fun H locs hP hD hS => ?_)
  have hP : va_P (dC, dI) CL ((h0, .inr (12, (F6.set 31 (.ref q7)))) :: T8) H := hP
  have hD : va_D A ((h0, .inr (12, (F6.set 31 (.ref q7)))) :: T8) := hD
  generalize eF9 : F6.set 31 (.ref q7) = F9 at hP hD
  have hL : F9.length = 167 := by rw [← eF9, List.length_set]; exact hL
  refine lv_aload_n hx hb d_Mod_init_205 rfl (lv_at hl 0 rfl) ?_
  refine lv_ldc hx hb hown (hT _ w_8_172) d_Mod_init_206 ?_
  refine nw_int (N' := 60000) hx hb hT w_1_69 hK hP hD hS hA (by decide) (by decide) (by decide) (by omega) (by omega) d_Mod_init_208 (fun q10 H hP hD hS => ?_)
  have hP : va_P (dC, dI) CL ((h0, .inr (12, F9)) :: (T8 ++ [(q10, .inl (cI, 60000, .inl (fun _ => 0)))])) H := hP
  have hD : va_D A ((h0, .inr (12, F9)) :: (T8 ++ [(q10, .inl (cI, 60000, .inl (fun _ => 0)))])) := hD
  generalize eT11 : (T8 ++ [(q10, .inl (cI, 60000, .inl (fun _ => 0)))] : va_W) = T11 at hP hD
  refine W.widen (k := cells + 4) (n := slots + 82001) (by omega) (by omega) ?_
  refine f_putF (D := (dC, dI)) (ci := 12) (v := .ref q10) (ty := .array .int) (C := R_Mod) (T := F_Mod) (N := 167) hx hb hT in_Mod t_Mod t_Mod_ok n_Mod hown hK hP hD hS 0 rfl rfl 32 (by decide) fr_Mod_32 w_8_208 hin (by decide +kernel) rfl rfl (by rw [hL]; decide) d_Mod_init_210 (fun H locs hP hD hS => ?_)
  have hP : va_P (dC, dI) CL ((h0, .inr (12, (F9.set 32 (.ref q10)))) :: T11) H := hP
  have hD : va_D A ((h0, .inr (12, (F9.set 32 (.ref q10)))) :: T11) := hD
  generalize eF12 : F9.set 32 (.ref q10) = F12 at hP hD
  have hL : F12.length = 167 := by rw [← eF12, List.length_set]; exact hL
  subst eF12
  subst eT11
  subst eF9
  subst eT8
  subst eF6
  subst eT5
  subst eF3
  subst eT2
  exact kk q1 q4 q7 q10 H locs hP hD hS
set_option maxHeartbeats 4000000 in
set_option maxRecDepth 100000 in
theorem seg_Mod_6 {p : Program} {l : Launch} {e : Env} {R : Room} {s : State} {m : MethodId} {args : Array Value} {below : List Frame} {meth : Method} {c : Code} {Q : State → Prop} {dC : Nat → ClassId} {dI : Nat → Nat → Nat} {cI cB cJ cZ : ClassId} {A : Nat → Prop} {H0 : Heap} {H : Heap} {locs : List Loc} {cells slots h0 : Nat} {F : List Value} {T : va_W} {ls : Array Slot}
    (hx : p.tables.exec = Jvm.exec) (hb : c.code = b_Mod_init) (hT : ∀ w ∈ TG, w.before args s = true) (hown : s.vm.findClass R_Mod = some m.cls) (hin : meth.name = "<init>") (hK : va_K (dC, dI) CL (TY cI cB cJ cZ) s) (hA : ∀ q : Nat, H0.size ≤ q → A q)
    (hP : va_P (dC, dI) CL ((h0, .inr (12, F)) :: T) H) (hD : va_D A ((h0, .inr (12, F)) :: T)) (hS : va_S A H0 H locs) (hL : F.length = 167) (hl : lv_has ls 2 [(0, .ref h0)]) (hc1 : cells + 4 ≤ R.cells) (hs1 : slots + 13008 ≤ R.slots)
    (kk : ∀ (q1 q4 q7 q10 : Nat) (H : Heap) (locs : List Loc), va_P (dC, dI) CL ((h0, .inr (12, ((((F.set 33 (.ref q1)).set 45 (.ref q4)).set 46 (.ref q7)).set 47 (.ref q10)))) :: ((((T ++ [(q1, .inl (cJ, 10000, .inr (.inl (fun _ => 0))))]) ++ [(q4, .inl (cI, 1000, .inl (fun _ => 0)))]) ++ [(q7, .inl (cI, 1000, .inl (fun _ => 0)))]) ++ [(q10, .inl (cI, 1008, .inl (fun _ => 0)))])) H → va_D A ((h0, .inr (12, ((((F.set 33 (.ref q1)).set 45 (.ref q4)).set 46 (.ref q7)).set 47 (.ref q10)))) :: ((((T ++ [(q1, .inl (cJ, 10000, .inr (.inl (fun _ => 0))))]) ++ [(q4, .inl (cI, 1000, .inl (fun _ => 0)))]) ++ [(q7, .inl (cI, 1000, .inl (fun _ => 0)))]) ++ [(q10, .inl (cI, 1008, .inl (fun _ => 0)))])) → va_S A H0 H locs → W p l e R s m args below meth c H locs (cells + 4) (slots + 13008) Q (F0 m 249 ls [])) :
    W p l e R s m args below meth c H locs cells slots Q (F0 m 213 ls []) := by
  refine lv_aload_n hx hb d_Mod_init_213 rfl (lv_at hl 0 rfl) ?_
  refine lv_sipush (v := 10000) hx hb d_Mod_init_214 (by decide) ?_
  refine nw_long (N' := 10000) hx hb hT w_2_41 hK hP hD hS hA (by decide) (by decide) (by decide) (by omega) (by omega) d_Mod_init_217 (fun q1 H hP hD hS => ?_)
  have hP : va_P (dC, dI) CL ((h0, .inr (12, F)) :: (T ++ [(q1, .inl (cJ, 10000, .inr (.inl (fun _ => 0))))])) H := hP
  have hD : va_D A ((h0, .inr (12, F)) :: (T ++ [(q1, .inl (cJ, 10000, .inr (.inl (fun _ => 0))))])) := hD
  generalize eT2 : (T ++ [(q1, .inl (cJ, 10000, .inr (.inl (fun _ => 0))))] : va_W) = T2 at hP hD
  refine W.widen (k := cells + 1) (n := slots + 10000) (by omega) (by omega) ?_
  refine f_putF (D := (dC, dI)) (ci := 12) (v := .ref q1) (ty := .array .long) (C := R_Mod) (T := F_Mod) (N := 167) hx hb hT in_Mod t_Mod t_Mod_ok n_Mod hown hK hP hD hS 0 rfl rfl 33 (by decide) fr_Mod_33 w_8_209 hin (by decide +kernel) rfl rfl (by rw [hL]; decide) d_Mod_init_219 (fun H locs hP hD hS => ?_)
  have hP : va_P (dC, dI) CL ((h0, .inr (12, (F.set 33 (.ref q1)))) :: T2) H := hP
  have hD : va_D A ((h0, .inr (12, (F.set 33 (.ref q1)))) :: T2) := hD
  generalize eF3 : F.set 33 (.ref q1) = F3 at hP hD
  have hL : F3.length = 167 := by rw [← eF3, List.length_set]; exact hL
  refine lv_aload_n hx hb d_Mod_init_222 rfl (lv_at hl 0 rfl) ?_
  refine lv_sipush (v := 1000) hx hb d_Mod_init_223 (by decide) ?_
  refine nw_int (N' := 1000) hx hb hT w_1_69 hK hP hD hS hA (by decide) (by decide) (by decide) (by omega) (by omega) d_Mod_init_226 (fun q4 H hP hD hS => ?_)
  have hP : va_P (dC, dI) CL ((h0, .inr (12, F3)) :: (T2 ++ [(q4, .inl (cI, 1000, .inl (fun _ => 0)))])) H := hP
  have hD : va_D A ((h0, .inr (12, F3)) :: (T2 ++ [(q4, .inl (cI, 1000, .inl (fun _ => 0)))])) := hD
  generalize eT5 : (T2 ++ [(q4, .inl (cI, 1000, .inl (fun _ => 0)))] : va_W) = T5 at hP hD
  refine W.widen (k := cells + 2) (n := slots + 11000) (by omega) (by omega) ?_
  refine f_putF (D := (dC, dI)) (ci := 12) (v := .ref q4) (ty := .array .int) (C := R_Mod) (T := F_Mod) (N := 167) hx hb hT in_Mod t_Mod t_Mod_ok n_Mod hown hK hP hD hS 0 rfl rfl 45 (by decide) fr_Mod_45 w_8_221 hin (by decide +kernel) rfl rfl (by rw [hL]; decide) d_Mod_init_228 (fun H locs hP hD hS => ?_)
  have hP : va_P (dC, dI) CL ((h0, .inr (12, (F3.set 45 (.ref q4)))) :: T5) H := hP
  have hD : va_D A ((h0, .inr (12, (F3.set 45 (.ref q4)))) :: T5) := hD
  generalize eF6 : F3.set 45 (.ref q4) = F6 at hP hD
  have hL : F6.length = 167 := by rw [← eF6, List.length_set]; exact hL
  refine lv_aload_n hx hb d_Mod_init_231 rfl (lv_at hl 0 rfl) ?_
  refine lv_sipush (v := 1000) hx hb d_Mod_init_232 (by decide) ?_
  refine nw_int (N' := 1000) hx hb hT w_1_69 hK hP hD hS hA (by decide) (by decide) (by decide) (by omega) (by omega) d_Mod_init_235 (fun q7 H hP hD hS => ?_)
  have hP : va_P (dC, dI) CL ((h0, .inr (12, F6)) :: (T5 ++ [(q7, .inl (cI, 1000, .inl (fun _ => 0)))])) H := hP
  have hD : va_D A ((h0, .inr (12, F6)) :: (T5 ++ [(q7, .inl (cI, 1000, .inl (fun _ => 0)))])) := hD
  generalize eT8 : (T5 ++ [(q7, .inl (cI, 1000, .inl (fun _ => 0)))] : va_W) = T8 at hP hD
  refine W.widen (k := cells + 3) (n := slots + 12000) (by omega) (by omega) ?_
  refine f_putF (D := (dC, dI)) (ci := 12) (v := .ref q7) (ty := .array .int) (C := R_Mod) (T := F_Mod) (N := 167) hx hb hT in_Mod t_Mod t_Mod_ok n_Mod hown hK hP hD hS 0 rfl rfl 46 (by decide) fr_Mod_46 w_8_222 hin (by decide +kernel) rfl rfl (by rw [hL]; decide) d_Mod_init_237 (fun H locs hP hD hS => ?_)
  have hP : va_P (dC, dI) CL ((h0, .inr (12, (F6.set 46 (.ref q7)))) :: T8) H := hP
  have hD : va_D A ((h0, .inr (12, (F6.set 46 (.ref q7)))) :: T8) := hD
  generalize eF9 : F6.set 46 (.ref q7) = F9 at hP hD
  have hL : F9.length = 167 := by rw [← eF9, List.length_set]; exact hL
  refine lv_aload_n hx hb d_Mod_init_240 rfl (lv_at hl 0 rfl) ?_
  refine lv_sipush (v := 1008) hx hb d_Mod_init_241 (by decide) ?_
  refine nw_int (N' := 1008) hx hb hT w_1_69 hK hP hD hS hA (by decide) (by decide) (by decide) (by omega) (by omega) d_Mod_init_244 (fun q10 H hP hD hS => ?_)
  have hP : va_P (dC, dI) CL ((h0, .inr (12, F9)) :: (T8 ++ [(q10, .inl (cI, 1008, .inl (fun _ => 0)))])) H := hP
  have hD : va_D A ((h0, .inr (12, F9)) :: (T8 ++ [(q10, .inl (cI, 1008, .inl (fun _ => 0)))])) := hD
  generalize eT11 : (T8 ++ [(q10, .inl (cI, 1008, .inl (fun _ => 0)))] : va_W) = T11 at hP hD
  refine W.widen (k := cells + 4) (n := slots + 13008) (by omega) (by omega) ?_
  refine f_putF (D := (dC, dI)) (ci := 12) (v := .ref q10) (ty := .array .int) (C := R_Mod) (T := F_Mod) (N := 167) hx hb hT in_Mod t_Mod t_Mod_ok n_Mod hown hK hP hD hS 0 rfl rfl 47 (by decide) fr_Mod_47 w_8_223 hin (by decide +kernel) rfl rfl (by rw [hL]; decide) d_Mod_init_246 (fun H locs hP hD hS => ?_)
  have hP : va_P (dC, dI) CL ((h0, .inr (12, (F9.set 47 (.ref q10)))) :: T11) H := hP
  have hD : va_D A ((h0, .inr (12, (F9.set 47 (.ref q10)))) :: T11) := hD
  generalize eF12 : F9.set 47 (.ref q10) = F12 at hP hD
  have hL : F12.length = 167 := by rw [← eF12, List.length_set]; exact hL
  subst eF12
  subst eT11
  subst eF9
  subst eT8
  subst eF6
  subst eT5
  subst eF3
  subst eT2
  exact kk q1 q4 q7 q10 H locs hP hD hS
set_option maxHeartbeats 4000000 in
set_option maxRecDepth 100000 in
theorem seg_Mod_7 {p : Program} {l : Launch} {e : Env} {R : Room} {s : State} {m : MethodId} {args : Array Value} {below : List Frame} {meth : Method} {c : Code} {Q : State → Prop} {dC : Nat → ClassId} {dI : Nat → Nat → Nat} {cI cB cJ cZ : ClassId} {A : Nat → Prop} {H0 : Heap} {H : Heap} {locs : List Loc} {cells slots h0 : Nat} {F : List Value} {T : va_W} {ls : Array Slot}
    (hx : p.tables.exec = Jvm.exec) (hb : c.code = b_Mod_init) (hT : ∀ w ∈ TG, w.before args s = true) (hown : s.vm.findClass R_Mod = some m.cls) (hin : meth.name = "<init>") (hK : va_K (dC, dI) CL (TY cI cB cJ cZ) s) (hA : ∀ q : Nat, H0.size ≤ q → A q)
    (hP : va_P (dC, dI) CL ((h0, .inr (12, F)) :: T) H) (hD : va_D A ((h0, .inr (12, F)) :: T)) (hS : va_S A H0 H locs) (hL : F.length = 167) (hl : lv_has ls 2 [(0, .ref h0)]) (hc1 : cells + 4 ≤ R.cells) (hs1 : slots + 4008 ≤ R.slots)
    (kk : ∀ (q1 q4 q7 q10 : Nat) (H : Heap) (locs : List Loc), va_P (dC, dI) CL ((h0, .inr (12, ((((F.set 48 (.ref q1)).set 49 (.ref q4)).set 50 (.ref q7)).set 51 (.ref q10)))) :: ((((T ++ [(q1, .inl (cI, 1008, .inl (fun _ => 0)))]) ++ [(q4, .inl (cJ, 1000, .inr (.inl (fun _ => 0))))]) ++ [(q7, .inl (cJ, 1000, .inr (.inl (fun _ => 0))))]) ++ [(q10, .inl (cJ, 1000, .inr (.inl (fun _ => 0))))])) H → va_D A ((h0, .inr (12, ((((F.set 48 (.ref q1)).set 49 (.ref q4)).set 50 (.ref q7)).set 51 (.ref q10)))) :: ((((T ++ [(q1, .inl (cI, 1008, .inl (fun _ => 0)))]) ++ [(q4, .inl (cJ, 1000, .inr (.inl (fun _ => 0))))]) ++ [(q7, .inl (cJ, 1000, .inr (.inl (fun _ => 0))))]) ++ [(q10, .inl (cJ, 1000, .inr (.inl (fun _ => 0))))])) → va_S A H0 H locs → W p l e R s m args below meth c H locs (cells + 4) (slots + 4008) Q (F0 m 285 ls [])) :
    W p l e R s m args below meth c H locs cells slots Q (F0 m 249 ls []) := by
  refine lv_aload_n hx hb d_Mod_init_249 rfl (lv_at hl 0 rfl) ?_
  refine lv_sipush (v := 1008) hx hb d_Mod_init_250 (by decide) ?_
  refine nw_int (N' := 1008) hx hb hT w_1_69 hK hP hD hS hA (by decide) (by decide) (by decide) (by omega) (by omega) d_Mod_init_253 (fun q1 H hP hD hS => ?_)
  have hP : va_P (dC, dI) CL ((h0, .inr (12, F)) :: (T ++ [(q1, .inl (cI, 1008, .inl (fun _ => 0)))])) H := hP
  have hD : va_D A ((h0, .inr (12, F)) :: (T ++ [(q1, .inl (cI, 1008, .inl (fun _ => 0)))])) := hD
  generalize eT2 : (T ++ [(q1, .inl (cI, 1008, .inl (fun _ => 0)))] : va_W) = T2 at hP hD
  refine W.widen (k := cells + 1) (n := slots + 1008) (by omega) (by omega) ?_
  refine f_putF (D := (dC, dI)) (ci := 12) (v := .ref q1) (ty := .array .int) (C := R_Mod) (T := F_Mod) (N := 167) hx hb hT in_Mod t_Mod t_Mod_ok n_Mod hown hK hP hD hS 0 rfl rfl 48 (by decide) fr_Mod_48 w_8_224 hin (by decide +kernel) rfl rfl (by rw [hL]; decide) d_Mod_init_255 (fun H locs hP hD hS => ?_)
  have hP : va_P (dC, dI) CL ((h0, .inr (12, (F.set 48 (.ref q1)))) :: T2) H := hP
  have hD : va_D A ((h0, .inr (12, (F.set 48 (.ref q1)))) :: T2) := hD
  generalize eF3 : F.set 48 (.ref q1) = F3 at hP hD
  have hL : F3.length = 167 := by rw [← eF3, List.length_set]; exact hL
  refine lv_aload_n hx hb d_Mod_init_258 rfl (lv_at hl 0 rfl) ?_
  refine lv_sipush (v := 1000) hx hb d_Mod_init_259 (by decide) ?_
  refine nw_long (N' := 1000) hx hb hT w_2_41 hK hP hD hS hA (by decide) (by decide) (by decide) (by omega) (by omega) d_Mod_init_262 (fun q4 H hP hD hS => ?_)
  have hP : va_P (dC, dI) CL ((h0, .inr (12, F3)) :: (T2 ++ [(q4, .inl (cJ, 1000, .inr (.inl (fun _ => 0))))])) H := hP
  have hD : va_D A ((h0, .inr (12, F3)) :: (T2 ++ [(q4, .inl (cJ, 1000, .inr (.inl (fun _ => 0))))])) := hD
  generalize eT5 : (T2 ++ [(q4, .inl (cJ, 1000, .inr (.inl (fun _ => 0))))] : va_W) = T5 at hP hD
  refine W.widen (k := cells + 2) (n := slots + 2008) (by omega) (by omega) ?_
  refine f_putF (D := (dC, dI)) (ci := 12) (v := .ref q4) (ty := .array .long) (C := R_Mod) (T := F_Mod) (N := 167) hx hb hT in_Mod t_Mod t_Mod_ok n_Mod hown hK hP hD hS 0 rfl rfl 49 (by decide) fr_Mod_49 w_8_225 hin (by decide +kernel) rfl rfl (by rw [hL]; decide) d_Mod_init_264 (fun H locs hP hD hS => ?_)
  have hP : va_P (dC, dI) CL ((h0, .inr (12, (F3.set 49 (.ref q4)))) :: T5) H := hP
  have hD : va_D A ((h0, .inr (12, (F3.set 49 (.ref q4)))) :: T5) := hD
  generalize eF6 : F3.set 49 (.ref q4) = F6 at hP hD
  have hL : F6.length = 167 := by rw [← eF6, List.length_set]; exact hL
  refine lv_aload_n hx hb d_Mod_init_267 rfl (lv_at hl 0 rfl) ?_
  refine lv_sipush (v := 1000) hx hb d_Mod_init_268 (by decide) ?_
  refine nw_long (N' := 1000) hx hb hT w_2_41 hK hP hD hS hA (by decide) (by decide) (by decide) (by omega) (by omega) d_Mod_init_271 (fun q7 H hP hD hS => ?_)
  have hP : va_P (dC, dI) CL ((h0, .inr (12, F6)) :: (T5 ++ [(q7, .inl (cJ, 1000, .inr (.inl (fun _ => 0))))])) H := hP
  have hD : va_D A ((h0, .inr (12, F6)) :: (T5 ++ [(q7, .inl (cJ, 1000, .inr (.inl (fun _ => 0))))])) := hD
  generalize eT8 : (T5 ++ [(q7, .inl (cJ, 1000, .inr (.inl (fun _ => 0))))] : va_W) = T8 at hP hD
  refine W.widen (k := cells + 3) (n := slots + 3008) (by omega) (by omega) ?_
  refine f_putF (D := (dC, dI)) (ci := 12) (v := .ref q7) (ty := .array .long) (C := R_Mod) (T := F_Mod) (N := 167) hx hb hT in_Mod t_Mod t_Mod_ok n_Mod hown hK hP hD hS 0 rfl rfl 50 (by decide) fr_Mod_50 w_8_226 hin (by decide +kernel) rfl rfl (by rw [hL]; decide) d_Mod_init_273 (fun H locs hP hD hS => ?_)
  have hP : va_P (dC, dI) CL ((h0, .inr (12, (F6.set 50 (.ref q7)))) :: T8) H := hP
  have hD : va_D A ((h0, .inr (12, (F6.set 50 (.ref q7)))) :: T8) := hD
  generalize eF9 : F6.set 50 (.ref q7) = F9 at hP hD
  have hL : F9.length = 167 := by rw [← eF9, List.length_set]; exact hL
  refine lv_aload_n hx hb d_Mod_init_276 rfl (lv_at hl 0 rfl) ?_
  refine lv_sipush (v := 1000) hx hb d_Mod_init_277 (by decide) ?_
  refine nw_long (N' := 1000) hx hb hT w_2_41 hK hP hD hS hA (by decide) (by decide) (by decide) (by omega) (by omega) d_Mod_init_280 (fun q10 H hP hD hS => ?_)
  have hP : va_P (dC, dI) CL ((h0, .inr (12, F9)) :: (T8 ++ [(q10, .inl (cJ, 1000, .inr (.inl (fun _ => 0))))])) H := hP
  have hD : va_D A ((h0, .inr (12, F9)) :: (T8 ++ [(q10, .inl (cJ, 1000, .inr (.inl (fun _ => 0))))])) := hD
  generalize eT11 : (T8 ++ [(q10, .inl (cJ, 1000, .inr (.inl (fun _ => 0))))] : va_W) = T11 at hP hD
  refine W.widen (k := cells + 4) (n := slots + 4008) (by omega) (by omega) ?_
  refine f_putF (D := (dC, dI)) (ci := 12) (v := .ref q10) (ty := .array .long) (C := R_Mod) (T := F_Mod) (N := 167) hx hb hT in_Mod t_Mod t_Mod_ok n_Mod hown hK hP hD hS 0 rfl rfl 51 (by decide) fr_Mod_51 w_8_227 hin (by decide +kernel) rfl rfl (by rw [hL]; decide) d_Mod_init_282 (fun H locs hP hD hS => ?_)
  have hP : va_P (dC, dI) CL ((h0, .inr (12, (F9.set 51 (.ref q10)))) :: T11) H := hP
  have hD : va_D A ((h0, .inr (12, (F9.set 51 (.ref q10)))) :: T11) := hD
  generalize eF12 : F9.set 51 (.ref q10) = F12 at hP hD
  have hL : F12.length = 167 := by rw [← eF12, List.length_set]; exact hL
  subst eF12
  subst eT11
  subst eF9
  subst eT8
  subst eF6
  subst eT5
  subst eF3
  subst eT2
  exact kk q1 q4 q7 q10 H locs hP hD hS
set_option maxHeartbeats 4000000 in
set_option maxRecDepth 100000 in
theorem seg_Mod_8 {p : Program} {l : Launch} {e : Env} {R : Room} {s : State} {m : MethodId} {args : Array Value} {below : List Frame} {meth : Method} {c : Code} {Q : State → Prop} {dC : Nat → ClassId} {dI : Nat → Nat → Nat} {cI cB cJ cZ : ClassId} {A : Nat → Prop} {H0 : Heap} {H : Heap} {locs : List Loc} {cells slots h0 : Nat} {F : List Value} {T : va_W} {ls : Array Slot}
    (hx : p.tables.exec = Jvm.exec) (hb : c.code = b_Mod_init) (hT : ∀ w ∈ TG, w.before args s = true) (hown : s.vm.findClass R_Mod = some m.cls) (hin : meth.name = "<init>") (hK : va_K (dC, dI) CL (TY cI cB cJ cZ) s) (hA : ∀ q : Nat, H0.size ≤ q → A q)
    (hP : va_P (dC, dI) CL ((h0, .inr (12, F)) :: T) H) (hD : va_D A ((h0, .inr (12, F)) :: T)) (hS : va_S A H0 H locs) (hL : F.length = 167) (hl : lv_has ls 2 [(0, .ref h0)]) (hc1 : cells + 4 ≤ R.cells) (hs1 : slots + 23003 ≤ R.slots)
    (kk : ∀ (q1 q4 q7 q10 : Nat) (H : Heap) (locs : List Loc), va_P (dC, dI) CL ((h0, .inr (12, ((((F.set 52 (.ref q1)).set 53 (.ref q4)).set 54 (.ref q7)).set 55 (.ref q10)))) :: ((((T ++ [(q1, .inl (cI, 1001, .inl (fun _ => 0)))]) ++ [(q4, .inl (cI, 1001, .inl (fun _ => 0)))]) ++ [(q7, .inl (cI, 1001, .inl (fun _ => 0)))]) ++ [(q10, .inl (cI, 20000, .inl (fun _ => 0)))])) H → va_D A ((h0, .inr (12, ((((F.set 52 (.ref q1)).set 53 (.ref q4)).set 54 (.ref q7)).set 55 (.ref q10)))) :: ((((T ++ [(q1, .inl (cI, 1001, .inl (fun _ => 0)))]) ++ [(q4, .inl (cI, 1001, .inl (fun _ => 0)))]) ++ [(q7, .inl (cI, 1001, .inl (fun _ => 0)))]) ++ [(q10, .inl (cI, 20000, .inl (fun _ => 0)))])) → va_S A H0 H locs → W p l e R s m args below meth c H locs (cells + 4) (slots + 23003) Q (F0 m 321 ls [])) :
    W p l e R s m args below meth c H locs cells slots Q (F0 m 285 ls []) := by
  refine lv_aload_n hx hb d_Mod_init_285 rfl (lv_at hl 0 rfl) ?_
  refine lv_sipush (v := 1001) hx hb d_Mod_init_286 (by decide) ?_
  refine nw_int (N' := 1001) hx hb hT w_1_69 hK hP hD hS hA (by decide) (by decide) (by decide) (by omega) (by omega) d_Mod_init_289 (fun q1 H hP hD hS => ?_)
  have hP : va_P (dC, dI) CL ((h0, .inr (12, F)) :: (T ++ [(q1, .inl (cI, 1001, .inl (fun _ => 0)))])) H := hP
  have hD : va_D A ((h0, .inr (12, F)) :: (T ++ [(q1, .inl (cI, 1001, .inl (fun _ => 0)))])) := hD
  generalize eT2 : (T ++ [(q1, .inl (cI, 1001, .inl (fun _ => 0)))] : va_W) = T2 at hP hD
  refine W.widen (k := cells + 1) (n := slots + 1001) (by omega) (by omega) ?_
  refine f_putF (D := (dC, dI)) (ci := 12) (v := .ref q1) (ty := .array .int) (C := R_Mod) (T := F_Mod) (N := 167) hx hb hT in_Mod t_Mod t_Mod_ok n_Mod hown hK hP hD hS 0 rfl rfl 52 (by decide) fr_Mod_52 w_8_228 hin (by decide +kernel) rfl rfl (by rw [hL]; decide) d_Mod_init_291 (fun H locs hP hD hS => ?_)
  have hP : va_P (dC, dI) CL ((h0, .inr (12, (F.set 52 (.ref q1)))) :: T2) H := hP
  have hD : va_D A ((h0, .inr (12, (F.set 52 (.ref q1)))) :: T2) := hD
  generalize eF3 : F.set 52 (.ref q1) = F3 at hP hD
  have hL : F3.length = 167 := by rw [← eF3, List.length_set]; exact hL
  refine lv_aload_n hx hb d_Mod_init_294 rfl (lv_at hl 0 rfl) ?_
  refine lv_sipush (v := 1001) hx hb d_Mod_init_295 (by decide) ?_
  refine nw_int (N' := 1001) hx hb hT w_1_69 hK hP hD hS hA (by decide) (by decide) (by decide) (by omega) (by omega) d_Mod_init_298 (fun q4 H hP hD hS => ?_)
  have hP : va_P (dC, dI) CL ((h0, .inr (12, F3)) :: (T2 ++ [(q4, .inl (cI, 1001, .inl (fun _ => 0)))])) H := hP
  have hD : va_D A ((h0, .inr (12, F3)) :: (T2 ++ [(q4, .inl (cI, 1001, .inl (fun _ => 0)))])) := hD
  generalize eT5 : (T2 ++ [(q4, .inl (cI, 1001, .inl (fun _ => 0)))] : va_W) = T5 at hP hD
  refine W.widen (k := cells + 2) (n := slots + 2002) (by omega) (by omega) ?_
  refine f_putF (D := (dC, dI)) (ci := 12) (v := .ref q4) (ty := .array .int) (C := R_Mod) (T := F_Mod) (N := 167) hx hb hT in_Mod t_Mod t_Mod_ok n_Mod hown hK hP hD hS 0 rfl rfl 53 (by decide) fr_Mod_53 w_8_229 hin (by decide +kernel) rfl rfl (by rw [hL]; decide) d_Mod_init_300 (fun H locs hP hD hS => ?_)
  have hP : va_P (dC, dI) CL ((h0, .inr (12, (F3.set 53 (.ref q4)))) :: T5) H := hP
  have hD : va_D A ((h0, .inr (12, (F3.set 53 (.ref q4)))) :: T5) := hD
  generalize eF6 : F3.set 53 (.ref q4) = F6 at hP hD
  have hL : F6.length = 167 := by rw [← eF6, List.length_set]; exact hL
  refine lv_aload_n hx hb d_Mod_init_303 rfl (lv_at hl 0 rfl) ?_
  refine lv_sipush (v := 1001) hx hb d_Mod_init_304 (by decide) ?_
  refine nw_int (N' := 1001) hx hb hT w_1_69 hK hP hD hS hA (by decide) (by decide) (by decide) (by omega) (by omega) d_Mod_init_307 (fun q7 H hP hD hS => ?_)
  have hP : va_P (dC, dI) CL ((h0, .inr (12, F6)) :: (T5 ++ [(q7, .inl (cI, 1001, .inl (fun _ => 0)))])) H := hP
  have hD : va_D A ((h0, .inr (12, F6)) :: (T5 ++ [(q7, .inl (cI, 1001, .inl (fun _ => 0)))])) := hD
  generalize eT8 : (T5 ++ [(q7, .inl (cI, 1001, .inl (fun _ => 0)))] : va_W) = T8 at hP hD
  refine W.widen (k := cells + 3) (n := slots + 3003) (by omega) (by omega) ?_
  refine f_putF (D := (dC, dI)) (ci := 12) (v := .ref q7) (ty := .array .int) (C := R_Mod) (T := F_Mod) (N := 167) hx hb hT in_Mod t_Mod t_Mod_ok n_Mod hown hK hP hD hS 0 rfl rfl 54 (by decide) fr_Mod_54 w_8_230 hin (by decide +kernel) rfl rfl (by rw [hL]; decide) d_Mod_init_309 (fun H locs hP hD hS => ?_)
  have hP : va_P (dC, dI) CL ((h0, .inr (12, (F6.set 54 (.ref q7)))) :: T8) H := hP
  have hD : va_D A ((h0, .inr (12, (F6.set 54 (.ref q7)))) :: T8) := hD
  generalize eF9 : F6.set 54 (.ref q7) = F9 at hP hD
  have hL : F9.length = 167 := by rw [← eF9, List.length_set]; exact hL
  refine lv_aload_n hx hb d_Mod_init_312 rfl (lv_at hl 0 rfl) ?_
  refine lv_sipush (v := 20000) hx hb d_Mod_init_313 (by decide) ?_
  refine nw_int (N' := 20000) hx hb hT w_1_69 hK hP hD hS hA (by decide) (by decide) (by decide) (by omega) (by omega) d_Mod_init_316 (fun q10 H hP hD hS => ?_)
  have hP : va_P (dC, dI) CL ((h0, .inr (12, F9)) :: (T8 ++ [(q10, .inl (cI, 20000, .inl (fun _ => 0)))])) H := hP
  have hD : va_D A ((h0, .inr (12, F9)) :: (T8 ++ [(q10, .inl (cI, 20000, .inl (fun _ => 0)))])) := hD
  generalize eT11 : (T8 ++ [(q10, .inl (cI, 20000, .inl (fun _ => 0)))] : va_W) = T11 at hP hD
  refine W.widen (k := cells + 4) (n := slots + 23003) (by omega) (by omega) ?_
  refine f_putF (D := (dC, dI)) (ci := 12) (v := .ref q10) (ty := .array .int) (C := R_Mod) (T := F_Mod) (N := 167) hx hb hT in_Mod t_Mod t_Mod_ok n_Mod hown hK hP hD hS 0 rfl rfl 55 (by decide) fr_Mod_55 w_8_231 hin (by decide +kernel) rfl rfl (by rw [hL]; decide) d_Mod_init_318 (fun H locs hP hD hS => ?_)
  have hP : va_P (dC, dI) CL ((h0, .inr (12, (F9.set 55 (.ref q10)))) :: T11) H := hP
  have hD : va_D A ((h0, .inr (12, (F9.set 55 (.ref q10)))) :: T11) := hD
  generalize eF12 : F9.set 55 (.ref q10) = F12 at hP hD
  have hL : F12.length = 167 := by rw [← eF12, List.length_set]; exact hL
  subst eF12
  subst eT11
  subst eF9
  subst eT8
  subst eF6
  subst eT5
  subst eF3
  subst eT2
  exact kk q1 q4 q7 q10 H locs hP hD hS
set_option maxHeartbeats 4000000 in
set_option maxRecDepth 100000 in
theorem seg_Mod_9 {p : Program} {l : Launch} {e : Env} {R : Room} {s : State} {m : MethodId} {args : Array Value} {below : List Frame} {meth : Method} {c : Code} {Q : State → Prop} {dC : Nat → ClassId} {dI : Nat → Nat → Nat} {cI cB cJ cZ : ClassId} {A : Nat → Prop} {H0 : Heap} {H : Heap} {locs : List Loc} {cells slots h0 : Nat} {F : List Value} {T : va_W} {ls : Array Slot}
    (hx : p.tables.exec = Jvm.exec) (hb : c.code = b_Mod_init) (hT : ∀ w ∈ TG, w.before args s = true) (hown : s.vm.findClass R_Mod = some m.cls) (hin : meth.name = "<init>") (hK : va_K (dC, dI) CL (TY cI cB cJ cZ) s) (hA : ∀ q : Nat, H0.size ≤ q → A q)
    (hP : va_P (dC, dI) CL ((h0, .inr (12, F)) :: T) H) (hD : va_D A ((h0, .inr (12, F)) :: T)) (hS : va_S A H0 H locs) (hL : F.length = 167) (hl : lv_has ls 2 [(0, .ref h0)]) (hc1 : cells + 4 ≤ R.cells) (hs1 : slots + 160000 ≤ R.slots)
    (kk : ∀ (q1 q4 q7 q10 : Nat) (H : Heap) (locs : List Loc), va_P (dC, dI) CL ((h0, .inr (12, ((((F.set 56 (.ref q1)).set 57 (.ref q4)).set 60 (.ref q7)).set 61 (.ref q10)))) :: ((((T ++ [(q1, .inl (cI, 20000, .inl (fun _ => 0)))]) ++ [(q4, .inl (cI, 20000, .inl (fun _ => 0)))]) ++ [(q7, .inl (cI, 60000, .inl (fun _ => 0)))]) ++ [(q10, .inl (cI, 60000, .inl (fun _ => 0)))])) H → va_D A ((h0, .inr (12, ((((F.set 56 (.ref q1)).set 57 (.ref q4)).set 60 (.ref q7)).set 61 (.ref q10)))) :: ((((T ++ [(q1, .inl (cI, 20000, .inl (fun _ => 0)))]) ++ [(q4, .inl (cI, 20000, .inl (fun _ => 0)))]) ++ [(q7, .inl (cI, 60000, .inl (fun _ => 0)))]) ++ [(q10, .inl (cI, 60000, .inl (fun _ => 0)))])) → va_S A H0 H locs → W p l e R s m args below meth c H locs (cells + 4) (slots + 160000) Q (F0 m 355 ls [])) :
    W p l e R s m args below meth c H locs cells slots Q (F0 m 321 ls []) := by
  refine lv_aload_n hx hb d_Mod_init_321 rfl (lv_at hl 0 rfl) ?_
  refine lv_sipush (v := 20000) hx hb d_Mod_init_322 (by decide) ?_
  refine nw_int (N' := 20000) hx hb hT w_1_69 hK hP hD hS hA (by decide) (by decide) (by decide) (by omega) (by omega) d_Mod_init_325 (fun q1 H hP hD hS => ?_)
  have hP : va_P (dC, dI) CL ((h0, .inr (12, F)) :: (T ++ [(q1, .inl (cI, 20000, .inl (fun _ => 0)))])) H := hP
  have hD : va_D A ((h0, .inr (12, F)) :: (T ++ [(q1, .inl (cI, 20000, .inl (fun _ => 0)))])) := hD
  generalize eT2 : (T ++ [(q1, .inl (cI, 20000, .inl (fun _ => 0)))] : va_W) = T2 at hP hD
  refine W.widen (k := cells + 1) (n := slots + 20000) (by omega) (by omega) ?_
  refine f_putF (D := (dC, dI)) (ci := 12) (v := .ref q1) (ty := .array .int) (C := R_Mod) (T := F_Mod) (N := 167) hx hb hT in_Mod t_Mod t_Mod_ok n_Mod hown hK hP hD hS 0 rfl rfl 56 (by decide) fr_Mod_56 w_8_232 hin (by decide +kernel) rfl rfl (by rw [hL]; decide) d_Mod_init_327 (fun H locs hP hD hS => ?_)
  have hP : va_P (dC, dI) CL ((h0, .inr (12, (F.set 56 (.ref q1)))) :: T2) H := hP
  have hD : va_D A ((h0, .inr (12, (F.set 56 (.ref q1)))) :: T2) := hD
  generalize eF3 : F.set 56 (.ref q1) = F3 at hP hD
  have hL : F3.length = 167 := by rw [← eF3, List.length_set]; exact hL
  refine lv_aload_n hx hb d_Mod_init_330 rfl (lv_at hl 0 rfl) ?_
  refine lv_sipush (v := 20000) hx hb d_Mod_init_331 (by decide) ?_
  refine nw_int (N' := 20000) hx hb hT w_1_69 hK hP hD hS hA (by decide) (by decide) (by decide) (by omega) (by omega) d_Mod_init_334 (fun q4 H hP hD hS => ?_)
  have hP : va_P (dC, dI) CL ((h0, .inr (12, F3)) :: (T2 ++ [(q4, .inl (cI, 20000, .inl (fun _ => 0)))])) H := hP
  have hD : va_D A ((h0, .inr (12, F3)) :: (T2 ++ [(q4, .inl (cI, 20000, .inl (fun _ => 0)))])) := hD
  generalize eT5 : (T2 ++ [(q4, .inl (cI, 20000, .inl (fun _ => 0)))] : va_W) = T5 at hP hD
  refine W.widen (k := cells + 2) (n := slots + 40000) (by omega) (by omega) ?_
  refine f_putF (D := (dC, dI)) (ci := 12) (v := .ref q4) (ty := .array .int) (C := R_Mod) (T := F_Mod) (N := 167) hx hb hT in_Mod t_Mod t_Mod_ok n_Mod hown hK hP hD hS 0 rfl rfl 57 (by decide) fr_Mod_57 w_8_233 hin (by decide +kernel) rfl rfl (by rw [hL]; decide) d_Mod_init_336 (fun H locs hP hD hS => ?_)
  have hP : va_P (dC, dI) CL ((h0, .inr (12, (F3.set 57 (.ref q4)))) :: T5) H := hP
  have hD : va_D A ((h0, .inr (12, (F3.set 57 (.ref q4)))) :: T5) := hD
  generalize eF6 : F3.set 57 (.ref q4) = F6 at hP hD
  have hL : F6.length = 167 := by rw [← eF6, List.length_set]; exact hL
  refine lv_aload_n hx hb d_Mod_init_339 rfl (lv_at hl 0 rfl) ?_
  refine lv_ldc hx hb hown (hT _ w_8_172) d_Mod_init_340 ?_
  refine nw_int (N' := 60000) hx hb hT w_1_69 hK hP hD hS hA (by decide) (by decide) (by decide) (by omega) (by omega) d_Mod_init_342 (fun q7 H hP hD hS => ?_)
  have hP : va_P (dC, dI) CL ((h0, .inr (12, F6)) :: (T5 ++ [(q7, .inl (cI, 60000, .inl (fun _ => 0)))])) H := hP
  have hD : va_D A ((h0, .inr (12, F6)) :: (T5 ++ [(q7, .inl (cI, 60000, .inl (fun _ => 0)))])) := hD
  generalize eT8 : (T5 ++ [(q7, .inl (cI, 60000, .inl (fun _ => 0)))] : va_W) = T8 at hP hD
  refine W.widen (k := cells + 3) (n := slots + 100000) (by omega) (by omega) ?_
  refine f_putF (D := (dC, dI)) (ci := 12) (v := .ref q7) (ty := .array .int) (C := R_Mod) (T := F_Mod) (N := 167) hx hb hT in_Mod t_Mod t_Mod_ok n_Mod hown hK hP hD hS 0 rfl rfl 60 (by decide) fr_Mod_60 w_8_236 hin (by decide +kernel) rfl rfl (by rw [hL]; decide) d_Mod_init_344 (fun H locs hP hD hS => ?_)
  have hP : va_P (dC, dI) CL ((h0, .inr (12, (F6.set 60 (.ref q7)))) :: T8) H := hP
  have hD : va_D A ((h0, .inr (12, (F6.set 60 (.ref q7)))) :: T8) := hD
  generalize eF9 : F6.set 60 (.ref q7) = F9 at hP hD
  have hL : F9.length = 167 := by rw [← eF9, List.length_set]; exact hL
  refine lv_aload_n hx hb d_Mod_init_347 rfl (lv_at hl 0 rfl) ?_
  refine lv_ldc hx hb hown (hT _ w_8_172) d_Mod_init_348 ?_
  refine nw_int (N' := 60000) hx hb hT w_1_69 hK hP hD hS hA (by decide) (by decide) (by decide) (by omega) (by omega) d_Mod_init_350 (fun q10 H hP hD hS => ?_)
  have hP : va_P (dC, dI) CL ((h0, .inr (12, F9)) :: (T8 ++ [(q10, .inl (cI, 60000, .inl (fun _ => 0)))])) H := hP
  have hD : va_D A ((h0, .inr (12, F9)) :: (T8 ++ [(q10, .inl (cI, 60000, .inl (fun _ => 0)))])) := hD
  generalize eT11 : (T8 ++ [(q10, .inl (cI, 60000, .inl (fun _ => 0)))] : va_W) = T11 at hP hD
  refine W.widen (k := cells + 4) (n := slots + 160000) (by omega) (by omega) ?_
  refine f_putF (D := (dC, dI)) (ci := 12) (v := .ref q10) (ty := .array .int) (C := R_Mod) (T := F_Mod) (N := 167) hx hb hT in_Mod t_Mod t_Mod_ok n_Mod hown hK hP hD hS 0 rfl rfl 61 (by decide) fr_Mod_61 w_8_237 hin (by decide +kernel) rfl rfl (by rw [hL]; decide) d_Mod_init_352 (fun H locs hP hD hS => ?_)
  have hP : va_P (dC, dI) CL ((h0, .inr (12, (F9.set 61 (.ref q10)))) :: T11) H := hP
  have hD : va_D A ((h0, .inr (12, (F9.set 61 (.ref q10)))) :: T11) := hD
  generalize eF12 : F9.set 61 (.ref q10) = F12 at hP hD
  have hL : F12.length = 167 := by rw [← eF12, List.length_set]; exact hL
  subst eF12
  subst eT11
  subst eF9
  subst eT8
  subst eF6
  subst eT5
  subst eF3
  subst eT2
  exact kk q1 q4 q7 q10 H locs hP hD hS
set_option maxHeartbeats 4000000 in
set_option maxRecDepth 100000 in
theorem seg_Mod_10 {p : Program} {l : Launch} {e : Env} {R : Room} {s : State} {m : MethodId} {args : Array Value} {below : List Frame} {meth : Method} {c : Code} {Q : State → Prop} {dC : Nat → ClassId} {dI : Nat → Nat → Nat} {cI cB cJ cZ : ClassId} {A : Nat → Prop} {H0 : Heap} {H : Heap} {locs : List Loc} {cells slots h0 : Nat} {F : List Value} {T : va_W} {ls : Array Slot}
    (hx : p.tables.exec = Jvm.exec) (hb : c.code = b_Mod_init) (hT : ∀ w ∈ TG, w.before args s = true) (hown : s.vm.findClass R_Mod = some m.cls) (hin : meth.name = "<init>") (hK : va_K (dC, dI) CL (TY cI cB cJ cZ) s) (hA : ∀ q : Nat, H0.size ≤ q → A q)
    (hP : va_P (dC, dI) CL ((h0, .inr (12, F)) :: T) H) (hD : va_D A ((h0, .inr (12, F)) :: T)) (hS : va_S A H0 H locs) (hL : F.length = 167) (hl : lv_has ls 2 [(0, .ref h0)]) (hc1 : cells + 4 ≤ R.cells) (hs1 : slots + 83008 ≤ R.slots)
    (kk : ∀ (q1 q4 q7 q10 : Nat) (H : Heap) (locs : List Loc), va_P (dC, dI) CL ((h0, .inr (12, ((((F.set 62 (.ref q1)).set 63 (.ref q4)).set 70 (.ref q7)).set 72 (.ref q10)))) :: ((((T ++ [(q1, .inl (cI, 40000, .inl (fun _ => 0)))]) ++ [(q4, .inl (cI, 40000, .inl (fun _ => 0)))]) ++ [(q7, .inl (cJ, 2000, .inr (.inl (fun _ => 0))))]) ++ [(q10, .inl (cI, 1008, .inl (fun _ => 0)))])) H → va_D A ((h0, .inr (12, ((((F.set 62 (.ref q1)).set 63 (.ref q4)).set 70 (.ref q7)).set 72 (.ref q10)))) :: ((((T ++ [(q1, .inl (cI, 40000, .inl (fun _ => 0)))]) ++ [(q4, .inl (cI, 40000, .inl (fun _ => 0)))]) ++ [(q7, .inl (cJ, 2000, .inr (.inl (fun _ => 0))))]) ++ [(q10, .inl (cI, 1008, .inl (fun _ => 0)))])) → va_S A H0 H locs → W p l e R s m args below meth c H locs (cells + 4) (slots + 83008) Q (F0 m 389 ls [])) :
    W p l e R s m args below meth c H locs cells slots Q (F0 m 355 ls []) := by
  refine lv_aload_n hx hb d_Mod_init_355 rfl (lv_at hl 0 rfl) ?_
  refine lv_ldc hx hb hown (hT _ w_8_171) d_Mod_init_356 ?_
  refine nw_int (N' := 40000) hx hb hT w_1_69 hK hP hD hS hA (by decide) (by decide) (by decide) (by omega) (by omega) d_Mod_init_358 (fun q1 H hP hD hS => ?_)
  have hP : va_P (dC, dI) CL ((h0, .inr (12, F)) :: (T ++ [(q1, .inl (cI, 40000, .inl (fun _ => 0)))])) H := hP
  have hD : va_D A ((h0, .inr (12, F)) :: (T ++ [(q1, .inl (cI, 40000, .inl (fun _ => 0)))])) := hD
  generalize eT2 : (T ++ [(q1, .inl (cI, 40000, .inl (fun _ => 0)))] : va_W) = T2 at hP hD
  refine W.widen (k := cells + 1) (n := slots + 40000) (by omega) (by omega) ?_
  refine f_putF (D := (dC, dI)) (ci := 12) (v := .ref q1) (ty := .array .int) (C := R_Mod) (T := F_Mod) (N := 167) hx hb hT in_Mod t_Mod t_Mod_ok n_Mod hown hK hP hD hS 0 rfl rfl 62 (by decide) fr_Mod_62 w_8_238 hin (by decide +kernel) rfl rfl (by rw [hL]; decide) d_Mod_init_360 (fun H locs hP hD hS => ?_)
  have hP : va_P (dC, dI) CL ((h0, .inr (12, (F.set 62 (.ref q1)))) :: T2) H := hP
  have hD : va_D A ((h0, .inr (12, (F.set 62 (.ref q1)))) :: T2) := hD
  generalize eF3 : F.set 62 (.ref q1) = F3 at hP hD
  have hL : F3.length = 167 := by rw [← eF3, List.length_set]; exact hL
  refine lv_aload_n hx hb d_Mod_init_363 rfl (lv_at hl 0 rfl) ?_
  refine lv_ldc hx hb hown (hT _ w_8_171) d_Mod_init_364 ?_
  refine nw_int (N' := 40000) hx hb hT w_1_69 hK hP hD hS hA (by decide) (by decide) (by decide) (by omega) (by omega) d_Mod_init_366 (fun q4 H hP hD hS => ?_)
  have hP : va_P (dC, dI) CL ((h0, .inr (12, F3)) :: (T2 ++ [(q4, .inl (cI, 40000, .inl (fun _ => 0)))])) H := hP
  have hD : va_D A ((h0, .inr (12, F3)) :: (T2 ++ [(q4, .inl (cI, 40000, .inl (fun _ => 0)))])) := hD
  generalize eT5 : (T2 ++ [(q4, .inl (cI, 40000, .inl (fun _ => 0)))] : va_W) = T5 at hP hD
  refine W.widen (k := cells + 2) (n := slots + 80000) (by omega) (by omega) ?_
  refine f_putF (D := (dC, dI)) (ci := 12) (v := .ref q4) (ty := .array .int) (C := R_Mod) (T := F_Mod) (N := 167) hx hb hT in_Mod t_Mod t_Mod_ok n_Mod hown hK hP hD hS 0 rfl rfl 63 (by decide) fr_Mod_63 w_8_239 hin (by decide +kernel) rfl rfl (by rw [hL]; decide) d_Mod_init_368 (fun H locs hP hD hS => ?_)
  have hP : va_P (dC, dI) CL ((h0, .inr (12, (F3.set 63 (.ref q4)))) :: T5) H := hP
  have hD : va_D A ((h0, .inr (12, (F3.set 63 (.ref q4)))) :: T5) := hD
  generalize eF6 : F3.set 63 (.ref q4) = F6 at hP hD
  have hL : F6.length = 167 := by rw [← eF6, List.length_set]; exact hL
  refine lv_aload_n hx hb d_Mod_init_371 rfl (lv_at hl 0 rfl) ?_
  refine lv_sipush (v := 2000) hx hb d_Mod_init_372 (by decide) ?_
  refine nw_long (N' := 2000) hx hb hT w_2_41 hK hP hD hS hA (by decide) (by decide) (by decide) (by omega) (by omega) d_Mod_init_375 (fun q7 H hP hD hS => ?_)
  have hP : va_P (dC, dI) CL ((h0, .inr (12, F6)) :: (T5 ++ [(q7, .inl (cJ, 2000, .inr (.inl (fun _ => 0))))])) H := hP
  have hD : va_D A ((h0, .inr (12, F6)) :: (T5 ++ [(q7, .inl (cJ, 2000, .inr (.inl (fun _ => 0))))])) := hD
  generalize eT8 : (T5 ++ [(q7, .inl (cJ, 2000, .inr (.inl (fun _ => 0))))] : va_W) = T8 at hP hD
  refine W.widen (k := cells + 3) (n := slots + 82000) (by omega) (by omega) ?_
  refine f_putF (D := (dC, dI)) (ci := 12) (v := .ref q7) (ty := .array .long) (C := R_Mod) (T := F_Mod) (N := 167) hx hb hT in_Mod t_Mod t_Mod_ok n_Mod hown hK hP hD hS 0 rfl rfl 70 (by decide) fr_Mod_70 w_9_6 hin (by decide +kernel) rfl rfl (by rw [hL]; decide) d_Mod_init_377 (fun H locs hP hD hS => ?_)
  have hP : va_P (dC, dI) CL ((h0, .inr (12, (F6.set 70 (.ref q7)))) :: T8) H := hP
  have hD : va_D A ((h0, .inr (12, (F6.set 70 (.ref q7)))) :: T8) := hD
  generalize eF9 : F6.set 70 (.ref q7) = F9 at hP hD
  have hL : F9.length = 167 := by rw [← eF9, List.length_set]; exact hL
  refine lv_aload_n hx hb d_Mod_init_380 rfl (lv_at hl 0 rfl) ?_
  refine lv_sipush (v := 1008) hx hb d_Mod_init_381 (by decide) ?_
  refine nw_int (N' := 1008) hx hb hT w_1_69 hK hP hD hS hA (by decide) (by decide) (by decide) (by omega) (by omega) d_Mod_init_384 (fun q10 H hP hD hS => ?_)
  have hP : va_P (dC, dI) CL ((h0, .inr (12, F9)) :: (T8 ++ [(q10, .inl (cI, 1008, .inl (fun _ => 0)))])) H := hP
  have hD : va_D A ((h0, .inr (12, F9)) :: (T8 ++ [(q10, .inl (cI, 1008, .inl (fun _ => 0)))])) := hD
  generalize eT11 : (T8 ++ [(q10, .inl (cI, 1008, .inl (fun _ => 0)))] : va_W) = T11 at hP hD
  refine W.widen (k := cells + 4) (n := slots + 83008) (by omega) (by omega) ?_
  refine f_putF (D := (dC, dI)) (ci := 12) (v := .ref q10) (ty := .array .int) (C := R_Mod) (T := F_Mod) (N := 167) hx hb hT in_Mod t_Mod t_Mod_ok n_Mod hown hK hP hD hS 0 rfl rfl 72 (by decide) fr_Mod_72 w_9_8 hin (by decide +kernel) rfl rfl (by rw [hL]; decide) d_Mod_init_386 (fun H locs hP hD hS => ?_)
  have hP : va_P (dC, dI) CL ((h0, .inr (12, (F9.set 72 (.ref q10)))) :: T11) H := hP
  have hD : va_D A ((h0, .inr (12, (F9.set 72 (.ref q10)))) :: T11) := hD
  generalize eF12 : F9.set 72 (.ref q10) = F12 at hP hD
  have hL : F12.length = 167 := by rw [← eF12, List.length_set]; exact hL
  subst eF12
  subst eT11
  subst eF9
  subst eT8
  subst eF6
  subst eT5
  subst eF3
  subst eT2
  exact kk q1 q4 q7 q10 H locs hP hD hS
set_option maxHeartbeats 4000000 in
set_option maxRecDepth 100000 in
theorem seg_Mod_11 {p : Program} {l : Launch} {e : Env} {R : Room} {s : State} {m : MethodId} {args : Array Value} {below : List Frame} {meth : Method} {c : Code} {Q : State → Prop} {dC : Nat → ClassId} {dI : Nat → Nat → Nat} {cI cB cJ cZ : ClassId} {A : Nat → Prop} {H0 : Heap} {H : Heap} {locs : List Loc} {cells slots h0 : Nat} {F : List Value} {T : va_W} {ls : Array Slot}
    (hx : p.tables.exec = Jvm.exec) (hb : c.code = b_Mod_init) (hT : ∀ w ∈ TG, w.before args s = true) (hown : s.vm.findClass R_Mod = some m.cls) (hin : meth.name = "<init>") (hK : va_K (dC, dI) CL (TY cI cB cJ cZ) s) (hA : ∀ q : Nat, H0.size ≤ q → A q)
    (hP : va_P (dC, dI) CL ((h0, .inr (12, F)) :: T) H) (hD : va_D A ((h0, .inr (12, F)) :: T)) (hS : va_S A H0 H locs) (hL : F.length = 167) (hl : lv_has ls 2 [(0, .ref h0)]) (hc1 : cells + 4 ≤ R.cells) (hs1 : slots + 2004 ≤ R.slots)
    (kk : ∀ (q1 q4 q7 q10 : Nat) (H : Heap) (locs : List Loc), va_P (dC, dI) CL ((h0, .inr (12, ((((F.set 73 (.ref q1)).set 74 (.ref q4)).set 75 (.ref q7)).set 76 (.ref q10)))) :: ((((T ++ [(q1, .inl (cI, 1000, .inl (fun _ => 0)))]) ++ [(q4, .inl (cI, 1000, .inl (fun _ => 0)))]) ++ [(q7, .inl (cJ, 2, .inr (.inl (fun _ => 0))))]) ++ [(q10, .inl (cI, 2, .inl (fun _ => 0)))])) H → va_D A ((h0, .inr (12, ((((F.set 73 (.ref q1)).set 74 (.ref q4)).set 75 (.ref q7)).set 76 (.ref q10)))) :: ((((T ++ [(q1, .inl (cI, 1000, .inl (fun _ => 0)))]) ++ [(q4, .inl (cI, 1000, .inl (fun _ => 0)))]) ++ [(q7, .inl (cJ, 2, .inr (.inl (fun _ => 0))))]) ++ [(q10, .inl (cI, 2, .inl (fun _ => 0)))])) → va_S A H0 H locs → W p l e R s m args below meth c H locs (cells + 4) (slots + 2004) Q (F0 m 421 ls [])) :
    W p l e R s m args below meth c H locs cells slots Q (F0 m 389 ls []) := by
  refine lv_aload_n hx hb d_Mod_init_389 rfl (lv_at hl 0 rfl) ?_
  refine lv_sipush (v := 1000) hx hb d_Mod_init_390 (by decide) ?_
  refine nw_int (N' := 1000) hx hb hT w_1_69 hK hP hD hS hA (by decide) (by decide) (by decide) (by omega) (by omega) d_Mod_init_393 (fun q1 H hP hD hS => ?_)
  have hP : va_P (dC, dI) CL ((h0, .inr (12, F)) :: (T ++ [(q1, .inl (cI, 1000, .inl (fun _ => 0)))])) H := hP
  have hD : va_D A ((h0, .inr (12, F)) :: (T ++ [(q1, .inl (cI, 1000, .inl (fun _ => 0)))])) := hD
  generalize eT2 : (T ++ [(q1, .inl (cI, 1000, .inl (fun _ => 0)))] : va_W) = T2 at hP hD
  refine W.widen (k := cells + 1) (n := slots + 1000) (by omega) (by omega) ?_
  refine f_putF (D := (dC, dI)) (ci := 12) (v := .ref q1) (ty := .array .int) (C := R_Mod) (T := F_Mod) (N := 167) hx hb hT in_Mod t_Mod t_Mod_ok n_Mod hown hK hP hD hS 0 rfl rfl 73 (by decide) fr_Mod_73 w_9_9 hin (by decide +kernel) rfl rfl (by rw [hL]; decide) d_Mod_init_395 (fun H locs hP hD hS => ?_)
  have hP : va_P (dC, dI) CL ((h0, .inr (12, (F.set 73 (.ref q1)))) :: T2) H := hP
  have hD : va_D A ((h0, .inr (12, (F.set 73 (.ref q1)))) :: T2) := hD
  generalize eF3 : F.set 73 (.ref q1) = F3 at hP hD
  have hL : F3.length = 167 := by rw [← eF3, List.length_set]; exact hL
  refine lv_aload_n hx hb d_Mod_init_398 rfl (lv_at hl 0 rfl) ?_
  refine lv_sipush (v := 1000) hx hb d_Mod_init_399 (by decide) ?_
  refine nw_int (N' := 1000) hx hb hT w_1_69 hK hP hD hS hA (by decide) (by decide) (by decide) (by omega) (by omega) d_Mod_init_402 (fun q4 H hP hD hS => ?_)
  have hP : va_P (dC, dI) CL ((h0, .inr (12, F3)) :: (T2 ++ [(q4, .inl (cI, 1000, .inl (fun _ => 0)))])) H := hP
  have hD : va_D A ((h0, .inr (12, F3)) :: (T2 ++ [(q4, .inl (cI, 1000, .inl (fun _ => 0)))])) := hD
  generalize eT5 : (T2 ++ [(q4, .inl (cI, 1000, .inl (fun _ => 0)))] : va_W) = T5 at hP hD
  refine W.widen (k := cells + 2) (n := slots + 2000) (by omega) (by omega) ?_
  refine f_putF (D := (dC, dI)) (ci := 12) (v := .ref q4) (ty := .array .int) (C := R_Mod) (T := F_Mod) (N := 167) hx hb hT in_Mod t_Mod t_Mod_ok n_Mod hown hK hP hD hS 0 rfl rfl 74 (by decide) fr_Mod_74 w_9_10 hin (by decide +kernel) rfl rfl (by rw [hL]; decide) d_Mod_init_404 (fun H locs hP hD hS => ?_)
  have hP : va_P (dC, dI) CL ((h0, .inr (12, (F3.set 74 (.ref q4)))) :: T5) H := hP
  have hD : va_D A ((h0, .inr (12, (F3.set 74 (.ref q4)))) :: T5) := hD
  generalize eF6 : F3.set 74 (.ref q4) = F6 at hP hD
  have hL : F6.length = 167 := by rw [← eF6, List.length_set]; exact hL
  refine lv_aload_n hx hb d_Mod_init_407 rfl (lv_at hl 0 rfl) ?_
  refine lv_iconst (v := 2) hx hb d_Mod_init_408 (by decide) ?_
  refine nw_long (N' := 2) hx hb hT w_2_41 hK hP hD hS hA (by decide) (by decide) (by decide) (by omega) (by omega) d_Mod_init_409 (fun q7 H hP hD hS => ?_)
  have hP : va_P (dC, dI) CL ((h0, .inr (12, F6)) :: (T5 ++ [(q7, .inl (cJ, 2, .inr (.inl (fun _ => 0))))])) H := hP
  have hD : va_D A ((h0, .inr (12, F6)) :: (T5 ++ [(q7, .inl (cJ, 2, .inr (.inl (fun _ => 0))))])) := hD
  generalize eT8 : (T5 ++ [(q7, .inl (cJ, 2, .inr (.inl (fun _ => 0))))] : va_W) = T8 at hP hD
  refine W.widen (k := cells + 3) (n := slots + 2002) (by omega) (by omega) ?_
  refine f_putF (D := (dC, dI)) (ci := 12) (v := .ref q7) (ty := .array .long) (C := R_Mod) (T := F_Mod) (N := 167) hx hb hT in_Mod t_Mod t_Mod_ok n_Mod hown hK hP hD hS 0 rfl rfl 75 (by decide) fr_Mod_75 w_9_11 hin (by decide +kernel) rfl rfl (by rw [hL]; decide) d_Mod_init_411 (fun H locs hP hD hS => ?_)
  have hP : va_P (dC, dI) CL ((h0, .inr (12, (F6.set 75 (.ref q7)))) :: T8) H := hP
  have hD : va_D A ((h0, .inr (12, (F6.set 75 (.ref q7)))) :: T8) := hD
  generalize eF9 : F6.set 75 (.ref q7) = F9 at hP hD
  have hL : F9.length = 167 := by rw [← eF9, List.length_set]; exact hL
  refine lv_aload_n hx hb d_Mod_init_414 rfl (lv_at hl 0 rfl) ?_
  refine lv_iconst (v := 2) hx hb d_Mod_init_415 (by decide) ?_
  refine nw_int (N' := 2) hx hb hT w_1_69 hK hP hD hS hA (by decide) (by decide) (by decide) (by omega) (by omega) d_Mod_init_416 (fun q10 H hP hD hS => ?_)
  have hP : va_P (dC, dI) CL ((h0, .inr (12, F9)) :: (T8 ++ [(q10, .inl (cI, 2, .inl (fun _ => 0)))])) H := hP
  have hD : va_D A ((h0, .inr (12, F9)) :: (T8 ++ [(q10, .inl (cI, 2, .inl (fun _ => 0)))])) := hD
  generalize eT11 : (T8 ++ [(q10, .inl (cI, 2, .inl (fun _ => 0)))] : va_W) = T11 at hP hD
  refine W.widen (k := cells + 4) (n := slots + 2004) (by omega) (by omega) ?_
  refine f_putF (D := (dC, dI)) (ci := 12) (v := .ref q10) (ty := .array .int) (C := R_Mod) (T := F_Mod) (N := 167) hx hb hT in_Mod t_Mod t_Mod_ok n_Mod hown hK hP hD hS 0 rfl rfl 76 (by decide) fr_Mod_76 w_9_12 hin (by decide +kernel) rfl rfl (by rw [hL]; decide) d_Mod_init_418 (fun H locs hP hD hS => ?_)
  have hP : va_P (dC, dI) CL ((h0, .inr (12, (F9.set 76 (.ref q10)))) :: T11) H := hP
  have hD : va_D A ((h0, .inr (12, (F9.set 76 (.ref q10)))) :: T11) := hD
  generalize eF12 : F9.set 76 (.ref q10) = F12 at hP hD
  have hL : F12.length = 167 := by rw [← eF12, List.length_set]; exact hL
  subst eF12
  subst eT11
  subst eF9
  subst eT8
  subst eF6
  subst eT5
  subst eF3
  subst eT2
  exact kk q1 q4 q7 q10 H locs hP hD hS
set_option maxHeartbeats 4000000 in
set_option maxRecDepth 100000 in
theorem seg_Mod_12 {p : Program} {l : Launch} {e : Env} {R : Room} {s : State} {m : MethodId} {args : Array Value} {below : List Frame} {meth : Method} {c : Code} {Q : State → Prop} {dC : Nat → ClassId} {dI : Nat → Nat → Nat} {cI cB cJ cZ : ClassId} {A : Nat → Prop} {H0 : Heap} {H : Heap} {locs : List Loc} {cells slots h0 : Nat} {F : List Value} {T : va_W} {ls : Array Slot}
    (hx : p.tables.exec = Jvm.exec) (hb : c.code = b_Mod_init) (hT : ∀ w ∈ TG, w.before args s = true) (hown : s.vm.findClass R_Mod = some m.cls) (hin : meth.name = "<init>") (hK : va_K (dC, dI) CL (TY cI cB cJ cZ) s) (hA : ∀ q : Nat, H0.size ≤ q → A q)
    (hP : va_P (dC, dI) CL ((h0, .inr (12, F)) :: T) H) (hD : va_D A ((h0, .inr (12, F)) :: T)) (hS : va_S A H0 H locs) (hL : F.length = 167) (hl : lv_has ls 2 [(0, .ref h0)]) (hc1 : cells + 4 ≤ R.cells) (hs1 : slots + 27315 ≤ R.slots)
    (kk : ∀ (q1 q4 q7 q10 : Nat) (H : Heap) (locs : List Loc), va_P (dC, dI) CL ((h0, .inr (12, ((((F.set 77 (.ref q1)).set 78 (.ref q4)).set 79 (.ref q7)).set 80 (.ref q10)))) :: ((((T ++ [(q1, .inl (cI, 512, .inl (fun _ => 0)))]) ++ [(q4, .inl (cI, 13400, .inl (fun _ => 0)))]) ++ [(q7, .inl (cI, 13400, .inl (fun _ => 0)))]) ++ [(q10, .inl (cI, 3, .inl (fun _ => 0)))])) H → va_D A ((h0, .inr (12, ((((F.set 77 (.ref q1)).set 78 (.ref q4)).set 79 (.ref q7)).set 80 (.ref q10)))) :: ((((T ++ [(q1, .inl (cI, 512, .inl (fun _ => 0)))]) ++ [(q4, .inl (cI, 13400, .inl (fun _ => 0)))]) ++ [(q7, .inl (cI, 13400, .inl (fun _ => 0)))]) ++ [(q10, .inl (cI, 3, .inl (fun _ => 0)))])) → va_S A H0 H locs → W p l e R s m args below meth c H locs (cells + 4) (slots + 27315) Q (F0 m 455 ls [])) :
    W p l e R s m args below meth c H locs cells slots Q (F0 m 421 ls []) := by
  refine lv_aload_n hx hb d_Mod_init_421 rfl (lv_at hl 0 rfl) ?_
  refine lv_sipush (v := 512) hx hb d_Mod_init_422 (by decide) ?_
  refine nw_int (N' := 512) hx hb hT w_1_69 hK hP hD hS hA (by decide) (by decide) (by decide) (by omega) (by omega) d_Mod_init_425 (fun q1 H hP hD hS => ?_)
  have hP : va_P (dC, dI) CL ((h0, .inr (12, F)) :: (T ++ [(q1, .inl (cI, 512, .inl (fun _ => 0)))])) H := hP
  have hD : va_D A ((h0, .inr (12, F)) :: (T ++ [(q1, .inl (cI, 512, .inl (fun _ => 0)))])) := hD
  generalize eT2 : (T ++ [(q1, .inl (cI, 512, .inl (fun _ => 0)))] : va_W) = T2 at hP hD
  refine W.widen (k := cells + 1) (n := slots + 512) (by omega) (by omega) ?_
  refine f_putF (D := (dC, dI)) (ci := 12) (v := .ref q1) (ty := .array .int) (C := R_Mod) (T := F_Mod) (N := 167) hx hb hT in_Mod t_Mod t_Mod_ok n_Mod hown hK hP hD hS 0 rfl rfl 77 (by decide) fr_Mod_77 w_9_13 hin (by decide +kernel) rfl rfl (by rw [hL]; decide) d_Mod_init_427 (fun H locs hP hD hS => ?_)
  have hP : va_P (dC, dI) CL ((h0, .inr (12, (F.set 77 (.ref q1)))) :: T2) H := hP
  have hD : va_D A ((h0, .inr (12, (F.set 77 (.ref q1)))) :: T2) := hD
  generalize eF3 : F.set 77 (.ref q1) = F3 at hP hD
  have hL : F3.length = 167 := by rw [← eF3, List.length_set]; exact hL
  refine lv_aload_n hx hb d_Mod_init_430 rfl (lv_at hl 0 rfl) ?_
  refine lv_sipush (v := 13400) hx hb d_Mod_init_431 (by decide) ?_
  refine nw_int (N' := 13400) hx hb hT w_1_69 hK hP hD hS hA (by decide) (by decide) (by decide) (by omega) (by omega) d_Mod_init_434 (fun q4 H hP hD hS => ?_)
  have hP : va_P (dC, dI) CL ((h0, .inr (12, F3)) :: (T2 ++ [(q4, .inl (cI, 13400, .inl (fun _ => 0)))])) H := hP
  have hD : va_D A ((h0, .inr (12, F3)) :: (T2 ++ [(q4, .inl (cI, 13400, .inl (fun _ => 0)))])) := hD
  generalize eT5 : (T2 ++ [(q4, .inl (cI, 13400, .inl (fun _ => 0)))] : va_W) = T5 at hP hD
  refine W.widen (k := cells + 2) (n := slots + 13912) (by omega) (by omega) ?_
  refine f_putF (D := (dC, dI)) (ci := 12) (v := .ref q4) (ty := .array .int) (C := R_Mod) (T := F_Mod) (N := 167) hx hb hT in_Mod t_Mod t_Mod_ok n_Mod hown hK hP hD hS 0 rfl rfl 78 (by decide) fr_Mod_78 w_9_14 hin (by decide +kernel) rfl rfl (by rw [hL]; decide) d_Mod_init_436 (fun H locs hP hD hS => ?_)
  have hP : va_P (dC, dI) CL ((h0, .inr (12, (F3.set 78 (.ref q4)))) :: T5) H := hP
  have hD : va_D A ((h0, .inr (12, (F3.set 78 (.ref q4)))) :: T5) := hD
  generalize eF6 : F3.set 78 (.ref q4) = F6 at hP hD
  have hL : F6.length = 167 := by rw [← eF6, List.length_set]; exact hL
  refine lv_aload_n hx hb d_Mod_init_439 rfl (lv_at hl 0 rfl) ?_
  refine lv_sipush (v := 13400) hx hb d_Mod_init_440 (by decide) ?_
  refine nw_int (N' := 13400) hx hb hT w_1_69 hK hP hD hS hA (by decide) (by decide) (by decide) (by omega) (by omega) d_Mod_init_443 (fun q7 H hP hD hS => ?_)
  have hP : va_P (dC, dI) CL ((h0, .inr (12, F6)) :: (T5 ++ [(q7, .inl (cI, 13400, .inl (fun _ => 0)))])) H := hP
  have hD : va_D A ((h0, .inr (12, F6)) :: (T5 ++ [(q7, .inl (cI, 13400, .inl (fun _ => 0)))])) := hD
  generalize eT8 : (T5 ++ [(q7, .inl (cI, 13400, .inl (fun _ => 0)))] : va_W) = T8 at hP hD
  refine W.widen (k := cells + 3) (n := slots + 27312) (by omega) (by omega) ?_
  refine f_putF (D := (dC, dI)) (ci := 12) (v := .ref q7) (ty := .array .int) (C := R_Mod) (T := F_Mod) (N := 167) hx hb hT in_Mod t_Mod t_Mod_ok n_Mod hown hK hP hD hS 0 rfl rfl 79 (by decide) fr_Mod_79 w_9_15 hin (by decide +kernel) rfl rfl (by rw [hL]; decide) d_Mod_init_445 (fun H locs hP hD hS => ?_)
  have hP : va_P (dC, dI) CL ((h0, .inr (12, (F6.set 79 (.ref q7)))) :: T8) H := hP
  have hD : va_D A ((h0, .inr (12, (F6.set 79 (.ref q7)))) :: T8) := hD
  generalize eF9 : F6.set 79 (.ref q7) = F9 at hP hD
  have hL : F9.length = 167 := by rw [← eF9, List.length_set]; exact hL
  refine lv_aload_n hx hb d_Mod_init_448 rfl (lv_at hl 0 rfl) ?_
  refine lv_iconst (v := 3) hx hb d_Mod_init_449 (by decide) ?_
  refine nw_int (N' := 3) hx hb hT w_1_69 hK hP hD hS hA (by decide) (by decide) (by decide) (by omega) (by omega) d_Mod_init_450 (fun q10 H hP hD hS => ?_)
  have hP : va_P (dC, dI) CL ((h0, .inr (12, F9)) :: (T8 ++ [(q10, .inl (cI, 3, .inl (fun _ => 0)))])) H := hP
  have hD : va_D A ((h0, .inr (12, F9)) :: (T8 ++ [(q10, .inl (cI, 3, .inl (fun _ => 0)))])) := hD
  generalize eT11 : (T8 ++ [(q10, .inl (cI, 3, .inl (fun _ => 0)))] : va_W) = T11 at hP hD
  refine W.widen (k := cells + 4) (n := slots + 27315) (by omega) (by omega) ?_
  refine f_putF (D := (dC, dI)) (ci := 12) (v := .ref q10) (ty := .array .int) (C := R_Mod) (T := F_Mod) (N := 167) hx hb hT in_Mod t_Mod t_Mod_ok n_Mod hown hK hP hD hS 0 rfl rfl 80 (by decide) fr_Mod_80 w_9_16 hin (by decide +kernel) rfl rfl (by rw [hL]; decide) d_Mod_init_452 (fun H locs hP hD hS => ?_)
  have hP : va_P (dC, dI) CL ((h0, .inr (12, (F9.set 80 (.ref q10)))) :: T11) H := hP
  have hD : va_D A ((h0, .inr (12, (F9.set 80 (.ref q10)))) :: T11) := hD
  generalize eF12 : F9.set 80 (.ref q10) = F12 at hP hD
  have hL : F12.length = 167 := by rw [← eF12, List.length_set]; exact hL
  subst eF12
  subst eT11
  subst eF9
  subst eT8
  subst eF6
  subst eT5
  subst eF3
  subst eT2
  exact kk q1 q4 q7 q10 H locs hP hD hS
set_option maxHeartbeats 4000000 in
set_option maxRecDepth 100000 in
theorem seg_Mod_13 {p : Program} {l : Launch} {e : Env} {R : Room} {s : State} {m : MethodId} {args : Array Value} {below : List Frame} {meth : Method} {c : Code} {Q : State → Prop} {dC : Nat → ClassId} {dI : Nat → Nat → Nat} {cI cB cJ cZ : ClassId} {A : Nat → Prop} {H0 : Heap} {H : Heap} {locs : List Loc} {cells slots h0 : Nat} {F : List Value} {T : va_W} {ls : Array Slot}
    (hx : p.tables.exec = Jvm.exec) (hb : c.code = b_Mod_init) (hT : ∀ w ∈ TG, w.before args s = true) (hown : s.vm.findClass R_Mod = some m.cls) (hin : meth.name = "<init>") (hK : va_K (dC, dI) CL (TY cI cB cJ cZ) s) (hA : ∀ q : Nat, H0.size ≤ q → A q)
    (hP : va_P (dC, dI) CL ((h0, .inr (12, F)) :: T) H) (hD : va_D A ((h0, .inr (12, F)) :: T)) (hS : va_S A H0 H locs) (hL : F.length = 167) (hl : lv_has ls 2 [(0, .ref h0)]) (hc1 : cells + 4 ≤ R.cells) (hs1 : slots + 150500 ≤ R.slots)
    (kk : ∀ (q1 q4 q7 q10 : Nat) (H : Heap) (locs : List Loc), va_P (dC, dI) CL ((h0, .inr (12, ((((F.set 81 (.ref q1)).set 89 (.ref q4)).set 90 (.ref q7)).set 91 (.ref q10)))) :: ((((T ++ [(q1, .inl (cI, 500, .inl (fun _ => 0)))]) ++ [(q4, .inl (cJ, 50000, .inr (.inl (fun _ => 0))))]) ++ [(q7, .inl (cI, 50000, .inl (fun _ => 0)))]) ++ [(q10, .inl (cI, 50000, .inl (fun _ => 0)))])) H → va_D A ((h0, .inr (12, ((((F.set 81 (.ref q1)).set 89 (.ref q4)).set 90 (.ref q7)).set 91 (.ref q10)))) :: ((((T ++ [(q1, .inl (cI, 500, .inl (fun _ => 0)))]) ++ [(q4, .inl (cJ, 50000, .inr (.inl (fun _ => 0))))]) ++ [(q7, .inl (cI, 50000, .inl (fun _ => 0)))]) ++ [(q10, .inl (cI, 50000, .inl (fun _ => 0)))])) → va_S A H0 H locs → W p l e R s m args below meth c H locs (cells + 4) (slots + 150500) Q (F0 m 488 ls [])) :
    W p l e R s m args below meth c H locs cells slots Q (F0 m 455 ls []) := by
  refine lv_aload_n hx hb d_Mod_init_455 rfl (lv_at hl 0 rfl) ?_
  refine lv_sipush (v := 500) hx hb d_Mod_init_456 (by decide) ?_
  refine nw_int (N' := 500) hx hb hT w_1_69 hK hP hD hS hA (by decide) (by decide) (by decide) (by omega) (by omega) d_Mod_init_459 (fun q1 H hP hD hS => ?_)
  have hP : va_P (dC, dI) CL ((h0, .inr (12, F)) :: (T ++ [(q1, .inl (cI, 500, .inl (fun _ => 0)))])) H := hP
  have hD : va_D A ((h0, .inr (12, F)) :: (T ++ [(q1, .inl (cI, 500, .inl (fun _ => 0)))])) := hD
  generalize eT2 : (T ++ [(q1, .inl (cI, 500, .inl (fun _ => 0)))] : va_W) = T2 at hP hD
  refine W.widen (k := cells + 1) (n := slots + 500) (by omega) (by omega) ?_
  refine f_putF (D := (dC, dI)) (ci := 12) (v := .ref q1) (ty := .array .int) (C := R_Mod) (T := F_Mod) (N := 167) hx hb hT in_Mod t_Mod t_Mod_ok n_Mod hown hK hP hD hS 0 rfl rfl 81 (by decide) fr_Mod_81 w_9_17 hin (by decide +kernel) rfl rfl (by rw [hL]; decide) d_Mod_init_461 (fun H locs hP hD hS => ?_)
  have hP : va_P (dC, dI) CL ((h0, .inr (12, (F.set 81 (.ref q1)))) :: T2) H := hP
  have hD : va_D A ((h0, .inr (12, (F.set 81 (.ref q1)))) :: T2) := hD
  generalize eF3 : F.set 81 (.ref q1) = F3 at hP hD
  have hL : F3.length = 167 := by rw [← eF3, List.length_set]; exact hL
  refine lv_aload_n hx hb d_Mod_init_464 rfl (lv_at hl 0 rfl) ?_
  refine lv_ldc hx hb hown (hT _ w_8_173) d_Mod_init_465 ?_
  refine nw_long (N' := 50000) hx hb hT w_2_41 hK hP hD hS hA (by decide) (by decide) (by decide) (by omega) (by omega) d_Mod_init_467 (fun q4 H hP hD hS => ?_)
  have hP : va_P (dC, dI) CL ((h0, .inr (12, F3)) :: (T2 ++ [(q4, .inl (cJ, 50000, .inr (.inl (fun _ => 0))))])) H := hP
  have hD : va_D A ((h0, .inr (12, F3)) :: (T2 ++ [(q4, .inl (cJ, 50000, .inr (.inl (fun _ => 0))))])) := hD
  generalize eT5 : (T2 ++ [(q4, .inl (cJ, 50000, .inr (.inl (fun _ => 0))))] : va_W) = T5 at hP hD
  refine W.widen (k := cells + 2) (n := slots + 50500) (by omega) (by omega) ?_
  refine f_putF (D := (dC, dI)) (ci := 12) (v := .ref q4) (ty := .array .long) (C := R_Mod) (T := F_Mod) (N := 167) hx hb hT in_Mod t_Mod t_Mod_ok n_Mod hown hK hP hD hS 0 rfl rfl 89 (by decide) fr_Mod_89 w_9_25 hin (by decide +kernel) rfl rfl (by rw [hL]; decide) d_Mod_init_469 (fun H locs hP hD hS => ?_)
  have hP : va_P (dC, dI) CL ((h0, .inr (12, (F3.set 89 (.ref q4)))) :: T5) H := hP
  have hD : va_D A ((h0, .inr (12, (F3.set 89 (.ref q4)))) :: T5) := hD
  generalize eF6 : F3.set 89 (.ref q4) = F6 at hP hD
  have hL : F6.length = 167 := by rw [← eF6, List.length_set]; exact hL
  refine lv_aload_n hx hb d_Mod_init_472 rfl (lv_at hl 0 rfl) ?_
  refine lv_ldc hx hb hown (hT _ w_8_173) d_Mod_init_473 ?_
  refine nw_int (N' := 50000) hx hb hT w_1_69 hK hP hD hS hA (by decide) (by decide) (by decide) (by omega) (by omega) d_Mod_init_475 (fun q7 H hP hD hS => ?_)
  have hP : va_P (dC, dI) CL ((h0, .inr (12, F6)) :: (T5 ++ [(q7, .inl (cI, 50000, .inl (fun _ => 0)))])) H := hP
  have hD : va_D A ((h0, .inr (12, F6)) :: (T5 ++ [(q7, .inl (cI, 50000, .inl (fun _ => 0)))])) := hD
  generalize eT8 : (T5 ++ [(q7, .inl (cI, 50000, .inl (fun _ => 0)))] : va_W) = T8 at hP hD
  refine W.widen (k := cells + 3) (n := slots + 100500) (by omega) (by omega) ?_
  refine f_putF (D := (dC, dI)) (ci := 12) (v := .ref q7) (ty := .array .int) (C := R_Mod) (T := F_Mod) (N := 167) hx hb hT in_Mod t_Mod t_Mod_ok n_Mod hown hK hP hD hS 0 rfl rfl 90 (by decide) fr_Mod_90 w_9_26 hin (by decide +kernel) rfl rfl (by rw [hL]; decide) d_Mod_init_477 (fun H locs hP hD hS => ?_)
  have hP : va_P (dC, dI) CL ((h0, .inr (12, (F6.set 90 (.ref q7)))) :: T8) H := hP
  have hD : va_D A ((h0, .inr (12, (F6.set 90 (.ref q7)))) :: T8) := hD
  generalize eF9 : F6.set 90 (.ref q7) = F9 at hP hD
  have hL : F9.length = 167 := by rw [← eF9, List.length_set]; exact hL
  refine lv_aload_n hx hb d_Mod_init_480 rfl (lv_at hl 0 rfl) ?_
  refine lv_ldc hx hb hown (hT _ w_8_173) d_Mod_init_481 ?_
  refine nw_int (N' := 50000) hx hb hT w_1_69 hK hP hD hS hA (by decide) (by decide) (by decide) (by omega) (by omega) d_Mod_init_483 (fun q10 H hP hD hS => ?_)
  have hP : va_P (dC, dI) CL ((h0, .inr (12, F9)) :: (T8 ++ [(q10, .inl (cI, 50000, .inl (fun _ => 0)))])) H := hP
  have hD : va_D A ((h0, .inr (12, F9)) :: (T8 ++ [(q10, .inl (cI, 50000, .inl (fun _ => 0)))])) := hD
  generalize eT11 : (T8 ++ [(q10, .inl (cI, 50000, .inl (fun _ => 0)))] : va_W) = T11 at hP hD
  refine W.widen (k := cells + 4) (n := slots + 150500) (by omega) (by omega) ?_
  refine f_putF (D := (dC, dI)) (ci := 12) (v := .ref q10) (ty := .array .int) (C := R_Mod) (T := F_Mod) (N := 167) hx hb hT in_Mod t_Mod t_Mod_ok n_Mod hown hK hP hD hS 0 rfl rfl 91 (by decide) fr_Mod_91 w_9_27 hin (by decide +kernel) rfl rfl (by rw [hL]; decide) d_Mod_init_485 (fun H locs hP hD hS => ?_)
  have hP : va_P (dC, dI) CL ((h0, .inr (12, (F9.set 91 (.ref q10)))) :: T11) H := hP
  have hD : va_D A ((h0, .inr (12, (F9.set 91 (.ref q10)))) :: T11) := hD
  generalize eF12 : F9.set 91 (.ref q10) = F12 at hP hD
  have hL : F12.length = 167 := by rw [← eF12, List.length_set]; exact hL
  subst eF12
  subst eT11
  subst eF9
  subst eT8
  subst eF6
  subst eT5
  subst eF3
  subst eT2
  exact kk q1 q4 q7 q10 H locs hP hD hS
set_option maxHeartbeats 4000000 in
set_option maxRecDepth 100000 in
theorem seg_Mod_14 {p : Program} {l : Launch} {e : Env} {R : Room} {s : State} {m : MethodId} {args : Array Value} {below : List Frame} {meth : Method} {c : Code} {Q : State → Prop} {dC : Nat → ClassId} {dI : Nat → Nat → Nat} {cI cB cJ cZ : ClassId} {A : Nat → Prop} {H0 : Heap} {H : Heap} {locs : List Loc} {cells slots h0 : Nat} {F : List Value} {T : va_W} {ls : Array Slot}
    (hx : p.tables.exec = Jvm.exec) (hb : c.code = b_Mod_init) (hT : ∀ w ∈ TG, w.before args s = true) (hown : s.vm.findClass R_Mod = some m.cls) (hin : meth.name = "<init>") (hK : va_K (dC, dI) CL (TY cI cB cJ cZ) s) (hA : ∀ q : Nat, H0.size ≤ q → A q)
    (hP : va_P (dC, dI) CL ((h0, .inr (12, F)) :: T) H) (hD : va_D A ((h0, .inr (12, F)) :: T)) (hS : va_S A H0 H locs) (hL : F.length = 167) (hl : lv_has ls 2 [(0, .ref h0)]) (hc1 : cells + 4 ≤ R.cells) (hs1 : slots + 190000 ≤ R.slots)
    (kk : ∀ (q1 q4 q7 q10 : Nat) (H : Heap) (locs : List Loc), va_P (dC, dI) CL ((h0, .inr (12, ((((F.set 92 (.ref q1)).set 95 (.ref q4)).set 96 (.ref q7)).set 97 (.ref q10)))) :: ((((T ++ [(q1, .inl (cI, 160000, .inl (fun _ => 0)))]) ++ [(q4, .inl (cI, 10000, .inl (fun _ => 0)))]) ++ [(q7, .inl (cI, 10000, .inl (fun _ => 0)))]) ++ [(q10, .inl (cI, 10000, .inl (fun _ => 0)))])) H → va_D A ((h0, .inr (12, ((((F.set 92 (.ref q1)).set 95 (.ref q4)).set 96 (.ref q7)).set 97 (.ref q10)))) :: ((((T ++ [(q1, .inl (cI, 160000, .inl (fun _ => 0)))]) ++ [(q4, .inl (cI, 10000, .inl (fun _ => 0)))]) ++ [(q7, .inl (cI, 10000, .inl (fun _ => 0)))]) ++ [(q10, .inl (cI, 10000, .inl (fun _ => 0)))])) → va_S A H0 H locs → W p l e R s m args below meth c H locs (cells + 4) (slots + 190000) Q (F0 m 523 ls [])) :
    W p l e R s m args below meth c H locs cells slots Q (F0 m 488 ls []) := by
  refine lv_aload_n hx hb d_Mod_init_488 rfl (lv_at hl 0 rfl) ?_
  refine lv_ldc hx hb hown (hT _ w_8_174) d_Mod_init_489 ?_
  refine nw_int (N' := 160000) hx hb hT w_1_69 hK hP hD hS hA (by decide) (by decide) (by decide) (by omega) (by omega) d_Mod_init_491 (fun q1 H hP hD hS => ?_)
  have hP : va_P (dC, dI) CL ((h0, .inr (12, F)) :: (T ++ [(q1, .inl (cI, 160000, .inl (fun _ => 0)))])) H := hP
  have hD : va_D A ((h0, .inr (12, F)) :: (T ++ [(q1, .inl (cI, 160000, .inl (fun _ => 0)))])) := hD
  generalize eT2 : (T ++ [(q1, .inl (cI, 160000, .inl (fun _ => 0)))] : va_W) = T2 at hP hD
  refine W.widen (k := cells + 1) (n := slots + 160000) (by omega) (by omega) ?_
  refine f_putF (D := (dC, dI)) (ci := 12) (v := .ref q1) (ty := .array .int) (C := R_Mod) (T := F_Mod) (N := 167) hx hb hT in_Mod t_Mod t_Mod_ok n_Mod hown hK hP hD hS 0 rfl rfl 92 (by decide) fr_Mod_92 w_9_28 hin (by decide +kernel) rfl rfl (by rw [hL]; decide) d_Mod_init_493 (fun H locs hP hD hS => ?_)
  have hP : va_P (dC, dI) CL ((h0, .inr (12, (F.set 92 (.ref q1)))) :: T2) H := hP
  have hD : va_D A ((h0, .inr (12, (F.set 92 (.ref q1)))) :: T2) := hD
  generalize eF3 : F.set 92 (.ref q1) = F3 at hP hD
  have hL : F3.length = 167 := by rw [← eF3, List.length_set]; exact hL
  refine lv_aload_n hx hb d_Mod_init_496 rfl (lv_at hl 0 rfl) ?_
  refine lv_sipush (v := 10000) hx hb d_Mod_init_497 (by decide) ?_
  refine nw_int (N' := 10000) hx hb hT w_1_69 hK hP hD hS hA (by decide) (by decide) (by decide) (by omega) (by omega) d_Mod_init_500 (fun q4 H hP hD hS => ?_)
  have hP : va_P (dC, dI) CL ((h0, .inr (12, F3)) :: (T2 ++ [(q4, .inl (cI, 10000, .inl (fun _ => 0)))])) H := hP
  have hD : va_D A ((h0, .inr (12, F3)) :: (T2 ++ [(q4, .inl (cI, 10000, .inl (fun _ => 0)))])) := hD
  generalize eT5 : (T2 ++ [(q4, .inl (cI, 10000, .inl (fun _ => 0)))] : va_W) = T5 at hP hD
  refine W.widen (k := cells + 2) (n := slots + 170000) (by omega) (by omega) ?_
  refine f_putF (D := (dC, dI)) (ci := 12) (v := .ref q4) (ty := .array .int) (C := R_Mod) (T := F_Mod) (N := 167) hx hb hT in_Mod t_Mod t_Mod_ok n_Mod hown hK hP hD hS 0 rfl rfl 95 (by decide) fr_Mod_95 w_9_31 hin (by decide +kernel) rfl rfl (by rw [hL]; decide) d_Mod_init_502 (fun H locs hP hD hS => ?_)
  have hP : va_P (dC, dI) CL ((h0, .inr (12, (F3.set 95 (.ref q4)))) :: T5) H := hP
  have hD : va_D A ((h0, .inr (12, (F3.set 95 (.ref q4)))) :: T5) := hD
  generalize eF6 : F3.set 95 (.ref q4) = F6 at hP hD
  have hL : F6.length = 167 := by rw [← eF6, List.length_set]; exact hL
  refine lv_aload_n hx hb d_Mod_init_505 rfl (lv_at hl 0 rfl) ?_
  refine lv_sipush (v := 10000) hx hb d_Mod_init_506 (by decide) ?_
  refine nw_int (N' := 10000) hx hb hT w_1_69 hK hP hD hS hA (by decide) (by decide) (by decide) (by omega) (by omega) d_Mod_init_509 (fun q7 H hP hD hS => ?_)
  have hP : va_P (dC, dI) CL ((h0, .inr (12, F6)) :: (T5 ++ [(q7, .inl (cI, 10000, .inl (fun _ => 0)))])) H := hP
  have hD : va_D A ((h0, .inr (12, F6)) :: (T5 ++ [(q7, .inl (cI, 10000, .inl (fun _ => 0)))])) := hD
  generalize eT8 : (T5 ++ [(q7, .inl (cI, 10000, .inl (fun _ => 0)))] : va_W) = T8 at hP hD
  refine W.widen (k := cells + 3) (n := slots + 180000) (by omega) (by omega) ?_
  refine f_putF (D := (dC, dI)) (ci := 12) (v := .ref q7) (ty := .array .int) (C := R_Mod) (T := F_Mod) (N := 167) hx hb hT in_Mod t_Mod t_Mod_ok n_Mod hown hK hP hD hS 0 rfl rfl 96 (by decide) fr_Mod_96 w_9_32 hin (by decide +kernel) rfl rfl (by rw [hL]; decide) d_Mod_init_511 (fun H locs hP hD hS => ?_)
  have hP : va_P (dC, dI) CL ((h0, .inr (12, (F6.set 96 (.ref q7)))) :: T8) H := hP
  have hD : va_D A ((h0, .inr (12, (F6.set 96 (.ref q7)))) :: T8) := hD
  generalize eF9 : F6.set 96 (.ref q7) = F9 at hP hD
  have hL : F9.length = 167 := by rw [← eF9, List.length_set]; exact hL
  refine lv_aload_n hx hb d_Mod_init_514 rfl (lv_at hl 0 rfl) ?_
  refine lv_sipush (v := 10000) hx hb d_Mod_init_515 (by decide) ?_
  refine nw_int (N' := 10000) hx hb hT w_1_69 hK hP hD hS hA (by decide) (by decide) (by decide) (by omega) (by omega) d_Mod_init_518 (fun q10 H hP hD hS => ?_)
  have hP : va_P (dC, dI) CL ((h0, .inr (12, F9)) :: (T8 ++ [(q10, .inl (cI, 10000, .inl (fun _ => 0)))])) H := hP
  have hD : va_D A ((h0, .inr (12, F9)) :: (T8 ++ [(q10, .inl (cI, 10000, .inl (fun _ => 0)))])) := hD
  generalize eT11 : (T8 ++ [(q10, .inl (cI, 10000, .inl (fun _ => 0)))] : va_W) = T11 at hP hD
  refine W.widen (k := cells + 4) (n := slots + 190000) (by omega) (by omega) ?_
  refine f_putF (D := (dC, dI)) (ci := 12) (v := .ref q10) (ty := .array .int) (C := R_Mod) (T := F_Mod) (N := 167) hx hb hT in_Mod t_Mod t_Mod_ok n_Mod hown hK hP hD hS 0 rfl rfl 97 (by decide) fr_Mod_97 w_9_33 hin (by decide +kernel) rfl rfl (by rw [hL]; decide) d_Mod_init_520 (fun H locs hP hD hS => ?_)
  have hP : va_P (dC, dI) CL ((h0, .inr (12, (F9.set 97 (.ref q10)))) :: T11) H := hP
  have hD : va_D A ((h0, .inr (12, (F9.set 97 (.ref q10)))) :: T11) := hD
  generalize eF12 : F9.set 97 (.ref q10) = F12 at hP hD
  have hL : F12.length = 167 := by rw [← eF12, List.length_set]; exact hL
  subst eF12
  subst eT11
  subst eF9
  subst eT8
  subst eF6
  subst eT5
  subst eF3
  subst eT2
  exact kk q1 q4 q7 q10 H locs hP hD hS
set_option maxHeartbeats 4000000 in
set_option maxRecDepth 100000 in
theorem seg_Mod_15 {p : Program} {l : Launch} {e : Env} {R : Room} {s : State} {m : MethodId} {args : Array Value} {below : List Frame} {meth : Method} {c : Code} {Q : State → Prop} {dC : Nat → ClassId} {dI : Nat → Nat → Nat} {cI cB cJ cZ : ClassId} {A : Nat → Prop} {H0 : Heap} {H : Heap} {locs : List Loc} {cells slots h0 : Nat} {F : List Value} {T : va_W} {ls : Array Slot}
    (hx : p.tables.exec = Jvm.exec) (hb : c.code = b_Mod_init) (hT : ∀ w ∈ TG, w.before args s = true) (hown : s.vm.findClass R_Mod = some m.cls) (hin : meth.name = "<init>") (hK : va_K (dC, dI) CL (TY cI cB cJ cZ) s) (hA : ∀ q : Nat, H0.size ≤ q → A q)
    (hP : va_P (dC, dI) CL ((h0, .inr (12, F)) :: T) H) (hD : va_D A ((h0, .inr (12, F)) :: T)) (hS : va_S A H0 H locs) (hL : F.length = 167) (hl : lv_has ls 2 [(0, .ref h0)]) (hc1 : cells + 4 ≤ R.cells) (hs1 : slots + 53600 ≤ R.slots)
    (kk : ∀ (q1 q4 q7 q10 : Nat) (H : Heap) (locs : List Loc), va_P (dC, dI) CL ((h0, .inr (12, ((((F.set 98 (.ref q1)).set 99 (.ref q4)).set 100 (.ref q7)).set 101 (.ref q10)))) :: ((((T ++ [(q1, .inl (cI, 13400, .inl (fun _ => 0)))]) ++ [(q4, .inl (cI, 13400, .inl (fun _ => 0)))]) ++ [(q7, .inl (cI, 13400, .inl (fun _ => 0)))]) ++ [(q10, .inl (cI, 13400, .inl (fun _ => 0)))])) H → va_D A ((h0, .inr (12, ((((F.set 98 (.ref q1)).set 99 (.ref q4)).set 100 (.ref q7)).set 101 (.ref q10)))) :: ((((T ++ [(q1, .inl (cI, 13400, .inl (fun _ => 0)))]) ++ [(q4, .inl (cI, 13400, .inl (fun _ => 0)))]) ++ [(q7, .inl (cI, 13400, .inl (fun _ => 0)))]) ++ [(q10, .inl (cI, 13400, .inl (fun _ => 0)))])) → va_S A H0 H locs → W p l e R s m args below meth c H locs (cells + 4) (slots + 53600) Q (F0 m 559 ls [])) :
    W p l e R s m args below meth c H locs cells slots Q (F0 m 523 ls []) := by
  refine lv_aload_n hx hb d_Mod_init_523 rfl (lv_at hl 0 rfl) ?_
  refine lv_sipush (v := 13400) hx hb d_Mod_init_524 (by decide) ?_
  refine nw_int (N' := 13400) hx hb hT w_1_69 hK hP hD hS hA (by decide) (by decide) (by decide) (by omega) (by omega) d_Mod_init_527 (fun q1 H hP hD hS => ?_)
  have hP : va_P (dC, dI) CL ((h0, .inr (12, F)) :: (T ++ [(q1, .inl (cI, 13400, .inl (fun _ => 0)))])) H := hP
  have hD : va_D A ((h0, .inr (12, F)) :: (T ++ [(q1, .inl (cI, 13400, .inl (fun _ => 0)))])) := hD
  generalize eT2 : (T ++ [(q1, .inl (cI, 13400, .inl (fun _ => 0)))] : va_W) = T2 at hP hD
  refine W.widen (k := cells + 1) (n := slots + 13400) (by omega) (by omega) ?_
  refine f_putF (D := (dC, dI)) (ci := 12) (v := .ref q1) (ty := .array .int) (C := R_Mod) (T := F_Mod) (N := 167) hx hb hT in_Mod t_Mod t_Mod_ok n_Mod hown hK hP hD hS 0 rfl rfl 98 (by decide) fr_Mod_98 w_9_34 hin (by decide +kernel) rfl rfl (by rw [hL]; decide) d_Mod_init_529 (fun H locs hP hD hS => ?_)
  have hP : va_P (dC, dI) CL ((h0, .inr (12, (F.set 98 (.ref q1)))) :: T2) H := hP
  have hD : va_D A ((h0, .inr (12, (F.set 98 (.ref q1)))) :: T2) := hD
  generalize eF3 : F.set 98 (.ref q1) = F3 at hP hD
  have hL : F3.length = 167 := by rw [← eF3, List.length_set]; exact hL
  refine lv_aload_n hx hb d_Mod_init_532 rfl (lv_at hl 0 rfl) ?_
  refine lv_sipush (v := 13400) hx hb d_Mod_init_533 (by decide) ?_
  refine nw_int (N' := 13400) hx hb hT w_1_69 hK hP hD hS hA (by decide) (by decide) (by decide) (by omega) (by omega) d_Mod_init_536 (fun q4 H hP hD hS => ?_)
  have hP : va_P (dC, dI) CL ((h0, .inr (12, F3)) :: (T2 ++ [(q4, .inl (cI, 13400, .inl (fun _ => 0)))])) H := hP
  have hD : va_D A ((h0, .inr (12, F3)) :: (T2 ++ [(q4, .inl (cI, 13400, .inl (fun _ => 0)))])) := hD
  generalize eT5 : (T2 ++ [(q4, .inl (cI, 13400, .inl (fun _ => 0)))] : va_W) = T5 at hP hD
  refine W.widen (k := cells + 2) (n := slots + 26800) (by omega) (by omega) ?_
  refine f_putF (D := (dC, dI)) (ci := 12) (v := .ref q4) (ty := .array .int) (C := R_Mod) (T := F_Mod) (N := 167) hx hb hT in_Mod t_Mod t_Mod_ok n_Mod hown hK hP hD hS 0 rfl rfl 99 (by decide) fr_Mod_99 w_9_35 hin (by decide +kernel) rfl rfl (by rw [hL]; decide) d_Mod_init_538 (fun H locs hP hD hS => ?_)
  have hP : va_P (dC, dI) CL ((h0, .inr (12, (F3.set 99 (.ref q4)))) :: T5) H := hP
  have hD : va_D A ((h0, .inr (12, (F3.set 99 (.ref q4)))) :: T5) := hD
  generalize eF6 : F3.set 99 (.ref q4) = F6 at hP hD
  have hL : F6.length = 167 := by rw [← eF6, List.length_set]; exact hL
  refine lv_aload_n hx hb d_Mod_init_541 rfl (lv_at hl 0 rfl) ?_
  refine lv_sipush (v := 13400) hx hb d_Mod_init_542 (by decide) ?_
  refine nw_int (N' := 13400) hx hb hT w_1_69 hK hP hD hS hA (by decide) (by decide) (by decide) (by omega) (by omega) d_Mod_init_545 (fun q7 H hP hD hS => ?_)
  have hP : va_P (dC, dI) CL ((h0, .inr (12, F6)) :: (T5 ++ [(q7, .inl (cI, 13400, .inl (fun _ => 0)))])) H := hP
  have hD : va_D A ((h0, .inr (12, F6)) :: (T5 ++ [(q7, .inl (cI, 13400, .inl (fun _ => 0)))])) := hD
  generalize eT8 : (T5 ++ [(q7, .inl (cI, 13400, .inl (fun _ => 0)))] : va_W) = T8 at hP hD
  refine W.widen (k := cells + 3) (n := slots + 40200) (by omega) (by omega) ?_
  refine f_putF (D := (dC, dI)) (ci := 12) (v := .ref q7) (ty := .array .int) (C := R_Mod) (T := F_Mod) (N := 167) hx hb hT in_Mod t_Mod t_Mod_ok n_Mod hown hK hP hD hS 0 rfl rfl 100 (by decide) fr_Mod_100 w_9_36 hin (by decide +kernel) rfl rfl (by rw [hL]; decide) d_Mod_init_547 (fun H locs hP hD hS => ?_)
  have hP : va_P (dC, dI) CL ((h0, .inr (12, (F6.set 100 (.ref q7)))) :: T8) H := hP
  have hD : va_D A ((h0, .inr (12, (F6.set 100 (.ref q7)))) :: T8) := hD
  generalize eF9 : F6.set 100 (.ref q7) = F9 at hP hD
  have hL : F9.length = 167 := by rw [← eF9, List.length_set]; exact hL
  refine lv_aload_n hx hb d_Mod_init_550 rfl (lv_at hl 0 rfl) ?_
  refine lv_sipush (v := 13400) hx hb d_Mod_init_551 (by decide) ?_
  refine nw_int (N' := 13400) hx hb hT w_1_69 hK hP hD hS hA (by decide) (by decide) (by decide) (by omega) (by omega) d_Mod_init_554 (fun q10 H hP hD hS => ?_)
  have hP : va_P (dC, dI) CL ((h0, .inr (12, F9)) :: (T8 ++ [(q10, .inl (cI, 13400, .inl (fun _ => 0)))])) H := hP
  have hD : va_D A ((h0, .inr (12, F9)) :: (T8 ++ [(q10, .inl (cI, 13400, .inl (fun _ => 0)))])) := hD
  generalize eT11 : (T8 ++ [(q10, .inl (cI, 13400, .inl (fun _ => 0)))] : va_W) = T11 at hP hD
  refine W.widen (k := cells + 4) (n := slots + 53600) (by omega) (by omega) ?_
  refine f_putF (D := (dC, dI)) (ci := 12) (v := .ref q10) (ty := .array .int) (C := R_Mod) (T := F_Mod) (N := 167) hx hb hT in_Mod t_Mod t_Mod_ok n_Mod hown hK hP hD hS 0 rfl rfl 101 (by decide) fr_Mod_101 w_9_37 hin (by decide +kernel) rfl rfl (by rw [hL]; decide) d_Mod_init_556 (fun H locs hP hD hS => ?_)
  have hP : va_P (dC, dI) CL ((h0, .inr (12, (F9.set 101 (.ref q10)))) :: T11) H := hP
  have hD : va_D A ((h0, .inr (12, (F9.set 101 (.ref q10)))) :: T11) := hD
  generalize eF12 : F9.set 101 (.ref q10) = F12 at hP hD
  have hL : F12.length = 167 := by rw [← eF12, List.length_set]; exact hL
  subst eF12
  subst eT11
  subst eF9
  subst eT8
  subst eF6
  subst eT5
  subst eF3
  subst eT2
  exact kk q1 q4 q7 q10 H locs hP hD hS
set_option maxHeartbeats 4000000 in
set_option maxRecDepth 100000 in
theorem seg_Mod_16 {p : Program} {l : Launch} {e : Env} {R : Room} {s : State} {m : MethodId} {args : Array Value} {below : List Frame} {meth : Method} {c : Code} {Q : State → Prop} {dC : Nat → ClassId} {dI : Nat → Nat → Nat} {cI cB cJ cZ : ClassId} {A : Nat → Prop} {H0 : Heap} {H : Heap} {locs : List Loc} {cells slots h0 : Nat} {F : List Value} {T : va_W} {ls : Array Slot}
    (hx : p.tables.exec = Jvm.exec) (hb : c.code = b_Mod_init) (hT : ∀ w ∈ TG, w.before args s = true) (hown : s.vm.findClass R_Mod = some m.cls) (hin : meth.name = "<init>") (hK : va_K (dC, dI) CL (TY cI cB cJ cZ) s) (hA : ∀ q : Nat, H0.size ≤ q → A q)
    (hP : va_P (dC, dI) CL ((h0, .inr (12, F)) :: T) H) (hD : va_D A ((h0, .inr (12, F)) :: T)) (hS : va_S A H0 H locs) (hL : F.length = 167) (hl : lv_has ls 2 [(0, .ref h0)]) (hc1 : cells + 4 ≤ R.cells) (hs1 : slots + 43401 ≤ R.slots)
    (kk : ∀ (q1 q4 q7 q10 : Nat) (H : Heap) (locs : List Loc), va_P (dC, dI) CL ((h0, .inr (12, ((((F.set 102 (.ref q1)).set 103 (.ref q4)).set 104 (.ref q7)).set 105 (.ref q10)))) :: ((((T ++ [(q1, .inl (cI, 13401, .inl (fun _ => 0)))]) ++ [(q4, .inl (cI, 10000, .inl (fun _ => 0)))]) ++ [(q7, .inl (cI, 10000, .inl (fun _ => 0)))]) ++ [(q10, .inl (cI, 10000, .inl (fun _ => 0)))])) H → va_D A ((h0, .inr (12, ((((F.set 102 (.ref q1)).set 103 (.ref q4)).set 104 (.ref q7)).set 105 (.ref q10)))) :: ((((T ++ [(q1, .inl (cI, 13401, .inl (fun _ => 0)))]) ++ [(q4, .inl (cI, 10000, .inl (fun _ => 0)))]) ++ [(q7, .inl (cI, 10000, .inl (fun _ => 0)))]) ++ [(q10, .inl (cI, 10000, .inl (fun _ => 0)))])) → va_S A H0 H locs → W p l e R s m args below meth c H locs (cells + 4) (slots + 43401) Q (F0 m 595 ls [])) :
    W p l e R s m args below meth c H locs cells slots Q (F0 m 559 ls []) := by
  refine lv_aload_n hx hb d_Mod_init_559 rfl (lv_at hl 0 rfl) ?_
  refine lv_sipush (v := 13401) hx hb d_Mod_init_560 (by decide) ?_
  refine nw_int (N' := 13401) hx hb hT w_1_69 hK hP hD hS hA (by decide) (by decide) (by decide) (by omega) (by omega) d_Mod_init_563 (fun q1 H hP hD hS => ?_)
  have hP : va_P (dC, dI) CL ((h0, .inr (12, F)) :: (T ++ [(q1, .inl (cI, 13401, .inl (fun _ => 0)))])) H := hP
  have hD : va_D A ((h0, .inr (12, F)) :: (T ++ [(q1, .inl (cI, 13401, .inl (fun _ => 0)))])) := hD
  generalize eT2 : (T ++ [(q1, .inl (cI, 13401, .inl (fun _ => 0)))] : va_W) = T2 at hP hD
  refine W.widen (k := cells + 1) (n := slots + 13401) (by omega) (by omega) ?_
  refine f_putF (D := (dC, dI)) (ci := 12) (v := .ref q1) (ty := .array .int) (C := R_Mod) (T := F_Mod) (N := 167) hx hb hT in_Mod t_Mod t_Mod_ok n_Mod hown hK hP hD hS 0 rfl rfl 102 (by decide) fr_Mod_102 w_9_38 hin (by decide +kernel) rfl rfl (by rw [hL]; decide) d_Mod_init_565 (fun H locs hP hD hS => ?_)
  have hP : va_P (dC, dI) CL ((h0, .inr (12, (F.set 102 (.ref q1)))) :: T2) H := hP
  have hD : va_D A ((h0, .inr (12, (F.set 102 (.ref q1)))) :: T2) := hD
  generalize eF3 : F.set 102 (.ref q1) = F3 at hP hD
  have hL : F3.length = 167 := by rw [← eF3, List.length_set]; exact hL
  refine lv_aload_n hx hb d_Mod_init_568 rfl (lv_at hl 0 rfl) ?_
  refine lv_sipush (v := 10000) hx hb d_Mod_init_569 (by decide) ?_
  refine nw_int (N' := 10000) hx hb hT w_1_69 hK hP hD hS hA (by decide) (by decide) (by decide) (by omega) (by omega) d_Mod_init_572 (fun q4 H hP hD hS => ?_)
  have hP : va_P (dC, dI) CL ((h0, .inr (12, F3)) :: (T2 ++ [(q4, .inl (cI, 10000, .inl (fun _ => 0)))])) H := hP
  have hD : va_D A ((h0, .inr (12, F3)) :: (T2 ++ [(q4, .inl (cI, 10000, .inl (fun _ => 0)))])) := hD
  generalize eT5 : (T2 ++ [(q4, .inl (cI, 10000, .inl (fun _ => 0)))] : va_W) = T5 at hP hD
  refine W.widen (k := cells + 2) (n := slots + 23401) (by omega) (by omega) ?_
  refine f_putF (D := (dC, dI)) (ci := 12) (v := .ref q4) (ty := .array .int) (C := R_Mod) (T := F_Mod) (N := 167) hx hb hT in_Mod t_Mod t_Mod_ok n_Mod hown hK hP hD hS 0 rfl rfl 103 (by decide) fr_Mod_103 w_9_39 hin (by decide +kernel) rfl rfl (by rw [hL]; decide) d_Mod_init_574 (fun H locs hP hD hS => ?_)
  have hP : va_P (dC, dI) CL ((h0, .inr (12, (F3.set 103 (.ref q4)))) :: T5) H := hP
  have hD : va_D A ((h0, .inr (12, (F3.set 103 (.ref q4)))) :: T5) := hD
  generalize eF6 : F3.set 103 (.ref q4) = F6 at hP hD
  have hL : F6.length = 167 := by rw [← eF6, List.length_set]; exact hL
  refine lv_aload_n hx hb d_Mod_init_577 rfl (lv_at hl 0 rfl) ?_
  refine lv_sipush (v := 10000) hx hb d_Mod_init_578 (by decide) ?_
  refine nw_int (N' := 10000) hx hb hT w_1_69 hK hP hD hS hA (by decide) (by decide) (by decide) (by omega) (by omega) d_Mod_init_581 (fun q7 H hP hD hS => ?_)
  have hP : va_P (dC, dI) CL ((h0, .inr (12, F6)) :: (T5 ++ [(q7, .inl (cI, 10000, .inl (fun _ => 0)))])) H := hP
  have hD : va_D A ((h0, .inr (12, F6)) :: (T5 ++ [(q7, .inl (cI, 10000, .inl (fun _ => 0)))])) := hD
  generalize eT8 : (T5 ++ [(q7, .inl (cI, 10000, .inl (fun _ => 0)))] : va_W) = T8 at hP hD
  refine W.widen (k := cells + 3) (n := slots + 33401) (by omega) (by omega) ?_
  refine f_putF (D := (dC, dI)) (ci := 12) (v := .ref q7) (ty := .array .int) (C := R_Mod) (T := F_Mod) (N := 167) hx hb hT in_Mod t_Mod t_Mod_ok n_Mod hown hK hP hD hS 0 rfl rfl 104 (by decide) fr_Mod_104 w_9_40 hin (by decide +kernel) rfl rfl (by rw [hL]; decide) d_Mod_init_583 (fun H locs hP hD hS => ?_)
  have hP : va_P (dC, dI) CL ((h0, .inr (12, (F6.set 104 (.ref q7)))) :: T8) H := hP
  have hD : va_D A ((h0, .inr (12, (F6.set 104 (.ref q7)))) :: T8) := hD
  generalize eF9 : F6.set 104 (.ref q7) = F9 at hP hD
  have hL : F9.length = 167 := by rw [← eF9, List.length_set]; exact hL
  refine lv_aload_n hx hb d_Mod_init_586 rfl (lv_at hl 0 rfl) ?_
  refine lv_sipush (v := 10000) hx hb d_Mod_init_587 (by decide) ?_
  refine nw_int (N' := 10000) hx hb hT w_1_69 hK hP hD hS hA (by decide) (by decide) (by decide) (by omega) (by omega) d_Mod_init_590 (fun q10 H hP hD hS => ?_)
  have hP : va_P (dC, dI) CL ((h0, .inr (12, F9)) :: (T8 ++ [(q10, .inl (cI, 10000, .inl (fun _ => 0)))])) H := hP
  have hD : va_D A ((h0, .inr (12, F9)) :: (T8 ++ [(q10, .inl (cI, 10000, .inl (fun _ => 0)))])) := hD
  generalize eT11 : (T8 ++ [(q10, .inl (cI, 10000, .inl (fun _ => 0)))] : va_W) = T11 at hP hD
  refine W.widen (k := cells + 4) (n := slots + 43401) (by omega) (by omega) ?_
  refine f_putF (D := (dC, dI)) (ci := 12) (v := .ref q10) (ty := .array .int) (C := R_Mod) (T := F_Mod) (N := 167) hx hb hT in_Mod t_Mod t_Mod_ok n_Mod hown hK hP hD hS 0 rfl rfl 105 (by decide) fr_Mod_105 w_9_41 hin (by decide +kernel) rfl rfl (by rw [hL]; decide) d_Mod_init_592 (fun H locs hP hD hS => ?_)
  have hP : va_P (dC, dI) CL ((h0, .inr (12, (F9.set 105 (.ref q10)))) :: T11) H := hP
  have hD : va_D A ((h0, .inr (12, (F9.set 105 (.ref q10)))) :: T11) := hD
  generalize eF12 : F9.set 105 (.ref q10) = F12 at hP hD
  have hL : F12.length = 167 := by rw [← eF12, List.length_set]; exact hL
  subst eF12
  subst eT11
  subst eF9
  subst eT8
  subst eF6
  subst eT5
  subst eF3
  subst eT2
  exact kk q1 q4 q7 q10 H locs hP hD hS
set_option maxHeartbeats 4000000 in
set_option maxRecDepth 100000 in
theorem seg_Mod_17 {p : Program} {l : Launch} {e : Env} {R : Room} {s : State} {m : MethodId} {args : Array Value} {below : List Frame} {meth : Method} {c : Code} {Q : State → Prop} {dC : Nat → ClassId} {dI : Nat → Nat → Nat} {cI cB cJ cZ : ClassId} {A : Nat → Prop} {H0 : Heap} {H : Heap} {locs : List Loc} {cells slots h0 : Nat} {F : List Value} {T : va_W} {ls : Array Slot}
    (hx : p.tables.exec = Jvm.exec) (hb : c.code = b_Mod_init) (hT : ∀ w ∈ TG, w.before args s = true) (hown : s.vm.findClass R_Mod = some m.cls) (hin : meth.name = "<init>") (hK : va_K (dC, dI) CL (TY cI cB cJ cZ) s) (hA : ∀ q : Nat, H0.size ≤ q → A q)
    (hP : va_P (dC, dI) CL ((h0, .inr (12, F)) :: T) H) (hD : va_D A ((h0, .inr (12, F)) :: T)) (hS : va_S A H0 H locs) (hL : F.length = 167) (hl : lv_has ls 2 [(0, .ref h0)]) (hc1 : cells + 4 ≤ R.cells) (hs1 : slots + 40000 ≤ R.slots)
    (kk : ∀ (q1 q4 q7 q10 : Nat) (H : Heap) (locs : List Loc), va_P (dC, dI) CL ((h0, .inr (12, ((((F.set 106 (.ref q1)).set 107 (.ref q4)).set 108 (.ref q7)).set 109 (.ref q10)))) :: ((((T ++ [(q1, .inl (cI, 10000, .inl (fun _ => 0)))]) ++ [(q4, .inl (cI, 10000, .inl (fun _ => 0)))]) ++ [(q7, .inl (cI, 10000, .inl (fun _ => 0)))]) ++ [(q10, .inl (cI, 10000, .inl (fun _ => 0)))])) H → va_D A ((h0, .inr (12, ((((F.set 106 (.ref q1)).set 107 (.ref q4)).set 108 (.ref q7)).set 109 (.ref q10)))) :: ((((T ++ [(q1, .inl (cI, 10000, .inl (fun _ => 0)))]) ++ [(q4, .inl (cI, 10000, .inl (fun _ => 0)))]) ++ [(q7, .inl (cI, 10000, .inl (fun _ => 0)))]) ++ [(q10, .inl (cI, 10000, .inl (fun _ => 0)))])) → va_S A H0 H locs → W p l e R s m args below meth c H locs (cells + 4) (slots + 40000) Q (F0 m 631 ls [])) :
    W p l e R s m args below meth c H locs cells slots Q (F0 m 595 ls []) := by
  refine lv_aload_n hx hb d_Mod_init_595 rfl (lv_at hl 0 rfl) ?_
  refine lv_sipush (v := 10000) hx hb d_Mod_init_596 (by decide) ?_
  refine nw_int (N' := 10000) hx hb hT w_1_69 hK hP hD hS hA (by decide) (by decide) (by decide) (by omega) (by omega) d_Mod_init_599 (fun q1 H hP hD hS => ?_)
  have hP : va_P (dC, dI) CL ((h0, .inr (12, F)) :: (T ++ [(q1, .inl (cI, 10000, .inl (fun _ => 0)))])) H := hP
  have hD : va_D A ((h0, .inr (12, F)) :: (T ++ [(q1, .inl (cI, 10000, .inl (fun _ => 0)))])) := hD
  generalize eT2 : (T ++ [(q1, .inl (cI, 10000, .inl (fun _ => 0)))] : va_W) = T2 at hP hD
  refine W.widen (k := cells + 1) (n := slots + 10000) (by omega) (by omega) ?_
  refine f_putF (D := (dC, dI)) (ci := 12) (v := .ref q1) (ty := .array .int) (C := R_Mod) (T := F_Mod) (N := 167) hx hb hT in_Mod t_Mod t_Mod_ok n_Mod hown hK hP hD hS 0 rfl rfl 106 (by decide) fr_Mod_106 w_9_42 hin (by decide +kernel) rfl rfl (by rw [hL]; decide) d_Mod_init_601 (fun H locs hP hD hS => ?_)
  have hP : va_P (dC, dI) CL ((h0, .inr (12, (F.set 106 (.ref q1)))) :: T2) H := hP
  have hD : va_D A ((h0, .inr (12, (F.set 106 (.ref q1)))) :: T2) := hD
  generalize eF3 : F.set 106 (.ref q1) = F3 at hP hD
  have hL : F3.length = 167 := by rw [← eF3, List.length_set]; exact hL
  refine lv_aload_n hx hb d_Mod_init_604 rfl (lv_at hl 0 rfl) ?_
  refine lv_sipush (v := 10000) hx hb d_Mod_init_605 (by decide) ?_
  refine nw_int (N' := 10000) hx hb hT w_1_69 hK hP hD hS hA (by decide) (by decide) (by decide) (by omega) (by omega) d_Mod_init_608 (fun q4 H hP hD hS => ?_)
  have hP : va_P (dC, dI) CL ((h0, .inr (12, F3)) :: (T2 ++ [(q4, .inl (cI, 10000, .inl (fun _ => 0)))])) H := hP
  have hD : va_D A ((h0, .inr (12, F3)) :: (T2 ++ [(q4, .inl (cI, 10000, .inl (fun _ => 0)))])) := hD
  generalize eT5 : (T2 ++ [(q4, .inl (cI, 10000, .inl (fun _ => 0)))] : va_W) = T5 at hP hD
  refine W.widen (k := cells + 2) (n := slots + 20000) (by omega) (by omega) ?_
  refine f_putF (D := (dC, dI)) (ci := 12) (v := .ref q4) (ty := .array .int) (C := R_Mod) (T := F_Mod) (N := 167) hx hb hT in_Mod t_Mod t_Mod_ok n_Mod hown hK hP hD hS 0 rfl rfl 107 (by decide) fr_Mod_107 w_9_43 hin (by decide +kernel) rfl rfl (by rw [hL]; decide) d_Mod_init_610 (fun H locs hP hD hS => ?_)
  have hP : va_P (dC, dI) CL ((h0, .inr (12, (F3.set 107 (.ref q4)))) :: T5) H := hP
  have hD : va_D A ((h0, .inr (12, (F3.set 107 (.ref q4)))) :: T5) := hD
  generalize eF6 : F3.set 107 (.ref q4) = F6 at hP hD
  have hL : F6.length = 167 := by rw [← eF6, List.length_set]; exact hL
  refine lv_aload_n hx hb d_Mod_init_613 rfl (lv_at hl 0 rfl) ?_
  refine lv_sipush (v := 10000) hx hb d_Mod_init_614 (by decide) ?_
  refine nw_int (N' := 10000) hx hb hT w_1_69 hK hP hD hS hA (by decide) (by decide) (by decide) (by omega) (by omega) d_Mod_init_617 (fun q7 H hP hD hS => ?_)
  have hP : va_P (dC, dI) CL ((h0, .inr (12, F6)) :: (T5 ++ [(q7, .inl (cI, 10000, .inl (fun _ => 0)))])) H := hP
  have hD : va_D A ((h0, .inr (12, F6)) :: (T5 ++ [(q7, .inl (cI, 10000, .inl (fun _ => 0)))])) := hD
  generalize eT8 : (T5 ++ [(q7, .inl (cI, 10000, .inl (fun _ => 0)))] : va_W) = T8 at hP hD
  refine W.widen (k := cells + 3) (n := slots + 30000) (by omega) (by omega) ?_
  refine f_putF (D := (dC, dI)) (ci := 12) (v := .ref q7) (ty := .array .int) (C := R_Mod) (T := F_Mod) (N := 167) hx hb hT in_Mod t_Mod t_Mod_ok n_Mod hown hK hP hD hS 0 rfl rfl 108 (by decide) fr_Mod_108 w_9_44 hin (by decide +kernel) rfl rfl (by rw [hL]; decide) d_Mod_init_619 (fun H locs hP hD hS => ?_)
  have hP : va_P (dC, dI) CL ((h0, .inr (12, (F6.set 108 (.ref q7)))) :: T8) H := hP
  have hD : va_D A ((h0, .inr (12, (F6.set 108 (.ref q7)))) :: T8) := hD
  generalize eF9 : F6.set 108 (.ref q7) = F9 at hP hD
  have hL : F9.length = 167 := by rw [← eF9, List.length_set]; exact hL
  refine lv_aload_n hx hb d_Mod_init_622 rfl (lv_at hl 0 rfl) ?_
  refine lv_sipush (v := 10000) hx hb d_Mod_init_623 (by decide) ?_
  refine nw_int (N' := 10000) hx hb hT w_1_69 hK hP hD hS hA (by decide) (by decide) (by decide) (by omega) (by omega) d_Mod_init_626 (fun q10 H hP hD hS => ?_)
  have hP : va_P (dC, dI) CL ((h0, .inr (12, F9)) :: (T8 ++ [(q10, .inl (cI, 10000, .inl (fun _ => 0)))])) H := hP
  have hD : va_D A ((h0, .inr (12, F9)) :: (T8 ++ [(q10, .inl (cI, 10000, .inl (fun _ => 0)))])) := hD
  generalize eT11 : (T8 ++ [(q10, .inl (cI, 10000, .inl (fun _ => 0)))] : va_W) = T11 at hP hD
  refine W.widen (k := cells + 4) (n := slots + 40000) (by omega) (by omega) ?_
  refine f_putF (D := (dC, dI)) (ci := 12) (v := .ref q10) (ty := .array .int) (C := R_Mod) (T := F_Mod) (N := 167) hx hb hT in_Mod t_Mod t_Mod_ok n_Mod hown hK hP hD hS 0 rfl rfl 109 (by decide) fr_Mod_109 w_9_45 hin (by decide +kernel) rfl rfl (by rw [hL]; decide) d_Mod_init_628 (fun H locs hP hD hS => ?_)
  have hP : va_P (dC, dI) CL ((h0, .inr (12, (F9.set 109 (.ref q10)))) :: T11) H := hP
  have hD : va_D A ((h0, .inr (12, (F9.set 109 (.ref q10)))) :: T11) := hD
  generalize eF12 : F9.set 109 (.ref q10) = F12 at hP hD
  have hL : F12.length = 167 := by rw [← eF12, List.length_set]; exact hL
  subst eF12
  subst eT11
  subst eF9
  subst eT8
  subst eF6
  subst eT5
  subst eF3
  subst eT2
  exact kk q1 q4 q7 q10 H locs hP hD hS
set_option maxHeartbeats 4000000 in
set_option maxRecDepth 100000 in
theorem seg_Mod_18 {p : Program} {l : Launch} {e : Env} {R : Room} {s : State} {m : MethodId} {args : Array Value} {below : List Frame} {meth : Method} {c : Code} {Q : State → Prop} {dC : Nat → ClassId} {dI : Nat → Nat → Nat} {cI cB cJ cZ : ClassId} {A : Nat → Prop} {H0 : Heap} {H : Heap} {locs : List Loc} {cells slots h0 : Nat} {F : List Value} {T : va_W} {ls : Array Slot}
    (hx : p.tables.exec = Jvm.exec) (hb : c.code = b_Mod_init) (hT : ∀ w ∈ TG, w.before args s = true) (hown : s.vm.findClass R_Mod = some m.cls) (hin : meth.name = "<init>") (hK : va_K (dC, dI) CL (TY cI cB cJ cZ) s) (hA : ∀ q : Nat, H0.size ≤ q → A q)
    (hP : va_P (dC, dI) CL ((h0, .inr (12, F)) :: T) H) (hD : va_D A ((h0, .inr (12, F)) :: T)) (hS : va_S A H0 H locs) (hL : F.length = 167) (hl : lv_has ls 2 [(0, .ref h0)]) (hc1 : cells + 4 ≤ R.cells) (hs1 : slots + 120064 ≤ R.slots)
    (kk : ∀ (q1 q4 q7 q10 : Nat) (H : Heap) (locs : List Loc), va_P (dC, dI) CL ((h0, .inr (12, ((((F.set 110 (.ref q1)).set 111 (.ref q4)).set 112 (.ref q7)).set 114 (.ref q10)))) :: ((((T ++ [(q1, .inl (cI, 10000, .inl (fun _ => 0)))]) ++ [(q4, .inl (cI, 10000, .inl (fun _ => 0)))]) ++ [(q7, .inl (cB, 100000, .inl (fun _ => 0)))]) ++ [(q10, .inl (cI, 64, .inl (fun _ => 0)))])) H → va_D A ((h0, .inr (12, ((((F.set 110 (.ref q1)).set 111 (.ref q4)).set 112 (.ref q7)).set 114 (.ref q10)))) :: ((((T ++ [(q1, .inl (cI, 10000, .inl (fun _ => 0)))]) ++ [(q4, .inl (cI, 10000, .inl (fun _ => 0)))]) ++ [(q7, .inl (cB, 100000, .inl (fun _ => 0)))]) ++ [(q10, .inl (cI, 64, .inl (fun _ => 0)))])) → va_S A H0 H locs → W p l e R s m args below meth c H locs (cells + 4) (slots + 120064) Q (F0 m 665 ls [])) :
    W p l e R s m args below meth c H locs cells slots Q (F0 m 631 ls []) := by
  refine lv_aload_n hx hb d_Mod_init_631 rfl (lv_at hl 0 rfl) ?_
  refine lv_sipush (v := 10000) hx hb d_Mod_init_632 (by decide) ?_
  refine nw_int (N' := 10000) hx hb hT w_1_69 hK hP hD hS hA (by decide) (by decide) (by decide) (by omega) (by omega) d_Mod_init_635 (fun q1 H hP hD hS => ?_)
  have hP : va_P (dC, dI) CL ((h0, .inr (12, F)) :: (T ++ [(q1, .inl (cI, 10000, .inl (fun _ => 0)))])) H := hP
  have hD : va_D A ((h0, .inr (12, F)) :: (T ++ [(q1, .inl (cI, 10000, .inl (fun _ => 0)))])) := hD
  generalize eT2 : (T ++ [(q1, .inl (cI, 10000, .inl (fun _ => 0)))] : va_W) = T2 at hP hD
  refine W.widen (k := cells + 1) (n := slots + 10000) (by omega) (by omega) ?_
  refine f_putF (D := (dC, dI)) (ci := 12) (v := .ref q1) (ty := .array .int) (C := R_Mod) (T := F_Mod) (N := 167) hx hb hT in_Mod t_Mod t_Mod_ok n_Mod hown hK hP hD hS 0 rfl rfl 110 (by decide) fr_Mod_110 w_9_46 hin (by decide +kernel) rfl rfl (by rw [hL]; decide) d_Mod_init_637 (fun H locs hP hD hS => ?_)
  have hP : va_P (dC, dI) CL ((h0, .inr (12, (F.set 110 (.ref q1)))) :: T2) H := hP
  have hD : va_D A ((h0, .inr (12, (F.set 110 (.ref q1)))) :: T2) := hD
  generalize eF3 : F.set 110 (.ref q1) = F3 at hP hD
  have hL : F3.length = 167 := by rw [← eF3, List.length_set]; exact hL
  refine lv_aload_n hx hb d_Mod_init_640 rfl (lv_at hl 0 rfl) ?_
  refine lv_sipush (v := 10000) hx hb d_Mod_init_641 (by decide) ?_
  refine nw_int (N' := 10000) hx hb hT w_1_69 hK hP hD hS hA (by decide) (by decide) (by decide) (by omega) (by omega) d_Mod_init_644 (fun q4 H hP hD hS => ?_)
  have hP : va_P (dC, dI) CL ((h0, .inr (12, F3)) :: (T2 ++ [(q4, .inl (cI, 10000, .inl (fun _ => 0)))])) H := hP
  have hD : va_D A ((h0, .inr (12, F3)) :: (T2 ++ [(q4, .inl (cI, 10000, .inl (fun _ => 0)))])) := hD
  generalize eT5 : (T2 ++ [(q4, .inl (cI, 10000, .inl (fun _ => 0)))] : va_W) = T5 at hP hD
  refine W.widen (k := cells + 2) (n := slots + 20000) (by omega) (by omega) ?_
  refine f_putF (D := (dC, dI)) (ci := 12) (v := .ref q4) (ty := .array .int) (C := R_Mod) (T := F_Mod) (N := 167) hx hb hT in_Mod t_Mod t_Mod_ok n_Mod hown hK hP hD hS 0 rfl rfl 111 (by decide) fr_Mod_111 w_9_47 hin (by decide +kernel) rfl rfl (by rw [hL]; decide) d_Mod_init_646 (fun H locs hP hD hS => ?_)
  have hP : va_P (dC, dI) CL ((h0, .inr (12, (F3.set 111 (.ref q4)))) :: T5) H := hP
  have hD : va_D A ((h0, .inr (12, (F3.set 111 (.ref q4)))) :: T5) := hD
  generalize eF6 : F3.set 111 (.ref q4) = F6 at hP hD
  have hL : F6.length = 167 := by rw [← eF6, List.length_set]; exact hL
  refine lv_aload_n hx hb d_Mod_init_649 rfl (lv_at hl 0 rfl) ?_
  refine lv_ldc hx hb hown (hT _ w_8_175) d_Mod_init_650 ?_
  refine nw_byte (N' := 100000) hx hb hT w_1_70 hK hP hD hS hA (by decide) (by decide) (by decide) (by omega) (by omega) d_Mod_init_652 (fun q7 H hP hD hS => ?_)
  have hP : va_P (dC, dI) CL ((h0, .inr (12, F6)) :: (T5 ++ [(q7, .inl (cB, 100000, .inl (fun _ => 0)))])) H := hP
  have hD : va_D A ((h0, .inr (12, F6)) :: (T5 ++ [(q7, .inl (cB, 100000, .inl (fun _ => 0)))])) := hD
  generalize eT8 : (T5 ++ [(q7, .inl (cB, 100000, .inl (fun _ => 0)))] : va_W) = T8 at hP hD
  refine W.widen (k := cells + 3) (n := slots + 120000) (by omega) (by omega) ?_
  refine f_putF (D := (dC, dI)) (ci := 12) (v := .ref q7) (ty := .array .byte) (C := R_Mod) (T := F_Mod) (N := 167) hx hb hT in_Mod t_Mod t_Mod_ok n_Mod hown hK hP hD hS 0 rfl rfl 112 (by decide) fr_Mod_112 w_9_48 hin (by decide +kernel) rfl rfl (by rw [hL]; decide) d_Mod_init_654 (fun H locs hP hD hS => ?_)
  have hP : va_P (dC, dI) CL ((h0, .inr (12, (F6.set 112 (.ref q7)))) :: T8) H := hP
  have hD : va_D A ((h0, .inr (12, (F6.set 112 (.ref q7)))) :: T8) := hD
  generalize eF9 : F6.set 112 (.ref q7) = F9 at hP hD
  have hL : F9.length = 167 := by rw [← eF9, List.length_set]; exact hL
  refine lv_aload_n hx hb d_Mod_init_657 rfl (lv_at hl 0 rfl) ?_
  refine lv_bipush (v := 64) hx hb d_Mod_init_658 (by decide) ?_
  refine nw_int (N' := 64) hx hb hT w_1_69 hK hP hD hS hA (by decide) (by decide) (by decide) (by omega) (by omega) d_Mod_init_660 (fun q10 H hP hD hS => ?_)
  have hP : va_P (dC, dI) CL ((h0, .inr (12, F9)) :: (T8 ++ [(q10, .inl (cI, 64, .inl (fun _ => 0)))])) H := hP
  have hD : va_D A ((h0, .inr (12, F9)) :: (T8 ++ [(q10, .inl (cI, 64, .inl (fun _ => 0)))])) := hD
  generalize eT11 : (T8 ++ [(q10, .inl (cI, 64, .inl (fun _ => 0)))] : va_W) = T11 at hP hD
  refine W.widen (k := cells + 4) (n := slots + 120064) (by omega) (by omega) ?_
  refine f_putF (D := (dC, dI)) (ci := 12) (v := .ref q10) (ty := .array .int) (C := R_Mod) (T := F_Mod) (N := 167) hx hb hT in_Mod t_Mod t_Mod_ok n_Mod hown hK hP hD hS 0 rfl rfl 114 (by decide) fr_Mod_114 w_9_50 hin (by decide +kernel) rfl rfl (by rw [hL]; decide) d_Mod_init_662 (fun H locs hP hD hS => ?_)
  have hP : va_P (dC, dI) CL ((h0, .inr (12, (F9.set 114 (.ref q10)))) :: T11) H := hP
  have hD : va_D A ((h0, .inr (12, (F9.set 114 (.ref q10)))) :: T11) := hD
  generalize eF12 : F9.set 114 (.ref q10) = F12 at hP hD
  have hL : F12.length = 167 := by rw [← eF12, List.length_set]; exact hL
  subst eF12
  subst eT11
  subst eF9
  subst eT8
  subst eF6
  subst eT5
  subst eF3
  subst eT2
  exact kk q1 q4 q7 q10 H locs hP hD hS
set_option maxHeartbeats 4000000 in
set_option maxRecDepth 100000 in
theorem seg_Mod_19 {p : Program} {l : Launch} {e : Env} {R : Room} {s : State} {m : MethodId} {args : Array Value} {below : List Frame} {meth : Method} {c : Code} {Q : State → Prop} {dC : Nat → ClassId} {dI : Nat → Nat → Nat} {cI cB cJ cZ : ClassId} {A : Nat → Prop} {H0 : Heap} {H : Heap} {locs : List Loc} {cells slots h0 : Nat} {F : List Value} {T : va_W} {ls : Array Slot}
    (hx : p.tables.exec = Jvm.exec) (hb : c.code = b_Mod_init) (hT : ∀ w ∈ TG, w.before args s = true) (hown : s.vm.findClass R_Mod = some m.cls) (hin : meth.name = "<init>") (hK : va_K (dC, dI) CL (TY cI cB cJ cZ) s) (hA : ∀ q : Nat, H0.size ≤ q → A q)
    (hP : va_P (dC, dI) CL ((h0, .inr (12, F)) :: T) H) (hD : va_D A ((h0, .inr (12, F)) :: T)) (hS : va_S A H0 H locs) (hL : F.length = 167) (hl : lv_has ls 2 [(0, .ref h0)]) (hc1 : cells + 4 ≤ R.cells) (hs1 : slots + 188 ≤ R.slots)
    (kk : ∀ (q1 q4 q7 q10 : Nat) (H : Heap) (locs : List Loc), va_P (dC, dI) CL ((h0, .inr (12, ((((F.set 115 (.ref q1)).set 116 (.ref q4)).set 122 (.ref q7)).set 123 (.ref q10)))) :: ((((T ++ [(q1, .inl (cI, 64, .inl (fun _ => 0)))]) ++ [(q4, .inl (cZ, 64, .inl (fun _ => 0)))]) ++ [(q7, .inl (cI, 12, .inl (fun _ => 0)))]) ++ [(q10, .inl (cI, 48, .inl (fun _ => 0)))])) H → va_D A ((h0, .inr (12, ((((F.set 115 (.ref q1)).set 116 (.ref q4)).set 122 (.ref q7)).set 123 (.ref q10)))) :: ((((T ++ [(q1, .inl (cI, 64, .inl (fun _ => 0)))]) ++ [(q4, .inl (cZ, 64, .inl (fun _ => 0)))]) ++ [(q7, .inl (cI, 12, .inl (fun _ => 0)))]) ++ [(q10, .inl (cI, 48, .inl (fun _ => 0)))])) → va_S A H0 H locs → W p l e R s m args below meth c H locs (cells + 4) (slots + 188) Q (F0 m 697 ls [])) :
    W p l e R s m args below meth c H locs cells slots Q (F0 m 665 ls []) := by
  refine lv_aload_n hx hb d_Mod_init_665 rfl (lv_at hl 0 rfl) ?_
  refine lv_bipush (v := 64) hx hb d_Mod_init_666 (by decide) ?_
  refine nw_int (N' := 64) hx hb hT w_1_69 hK hP hD hS hA (by decide) (by decide) (by decide) (by omega) (by omega) d_Mod_init_668 (fun q1 H hP hD hS => ?_)
  have hP : va_P (dC, dI) CL ((h0, .inr (12, F)) :: (T ++ [(q1, .inl (cI, 64, .inl (fun _ => 0)))])) H := hP
  have hD : va_D A ((h0, .inr (12, F)) :: (T ++ [(q1, .inl (cI, 64, .inl (fun _ => 0)))])) := hD
  generalize eT2 : (T ++ [(q1, .inl (cI, 64, .inl (fun _ => 0)))] : va_W) = T2 at hP hD
  refine W.widen (k := cells + 1) (n := slots + 64) (by omega) (by omega) ?_
  refine f_putF (D := (dC, dI)) (ci := 12) (v := .ref q1) (ty := .array .int) (C := R_Mod) (T := F_Mod) (N := 167) hx hb hT in_Mod t_Mod t_Mod_ok n_Mod hown hK hP hD hS 0 rfl rfl 115 (by decide) fr_Mod_115 w_9_51 hin (by decide +kernel) rfl rfl (by rw [hL]; decide) d_Mod_init_670 (fun H locs hP hD hS => ?_)
  have hP : va_P (dC, dI) CL ((h0, .inr (12, (F.set 115 (.ref q1)))) :: T2) H := hP
  have hD : va_D A ((h0, .inr (12, (F.set 115 (.ref q1)))) :: T2) := hD
  generalize eF3 : F.set 115 (.ref q1) = F3 at hP hD
  have hL : F3.length = 167 := by rw [← eF3, List.length_set]; exact hL
  refine lv_aload_n hx hb d_Mod_init_673 rfl (lv_at hl 0 rfl) ?_
  refine lv_bipush (v := 64) hx hb d_Mod_init_674 (by decide) ?_
  refine nw_boolean (N' := 64) hx hb hT w_3_211 hK hP hD hS hA (by decide) (by decide) (by decide) (by omega) (by omega) d_Mod_init_676 (fun q4 H hP hD hS => ?_)
  have hP : va_P (dC, dI) CL ((h0, .inr (12, F3)) :: (T2 ++ [(q4, .inl (cZ, 64, .inl (fun _ => 0)))])) H := hP
  have hD : va_D A ((h0, .inr (12, F3)) :: (T2 ++ [(q4, .inl (cZ, 64, .inl (fun _ => 0)))])) := hD
  generalize eT5 : (T2 ++ [(q4, .inl (cZ, 64, .inl (fun _ => 0)))] : va_W) = T5 at hP hD
  refine W.widen (k := cells + 2) (n := slots + 128) (by omega) (by omega) ?_
  refine f_putF (D := (dC, dI)) (ci := 12) (v := .ref q4) (ty := .array .boolean) (C := R_Mod) (T := F_Mod) (N := 167) hx hb hT in_Mod t_Mod t_Mod_ok n_Mod hown hK hP hD hS 0 rfl rfl 116 (by decide) fr_Mod_116 w_9_52 hin (by decide +kernel) rfl rfl (by rw [hL]; decide) d_Mod_init_678 (fun H locs hP hD hS => ?_)
  have hP : va_P (dC, dI) CL ((h0, .inr (12, (F3.set 116 (.ref q4)))) :: T5) H := hP
  have hD : va_D A ((h0, .inr (12, (F3.set 116 (.ref q4)))) :: T5) := hD
  generalize eF6 : F3.set 116 (.ref q4) = F6 at hP hD
  have hL : F6.length = 167 := by rw [← eF6, List.length_set]; exact hL
  refine lv_aload_n hx hb d_Mod_init_681 rfl (lv_at hl 0 rfl) ?_
  refine lv_bipush (v := 12) hx hb d_Mod_init_682 (by decide) ?_
  refine nw_int (N' := 12) hx hb hT w_1_69 hK hP hD hS hA (by decide) (by decide) (by decide) (by omega) (by omega) d_Mod_init_684 (fun q7 H hP hD hS => ?_)
  have hP : va_P (dC, dI) CL ((h0, .inr (12, F6)) :: (T5 ++ [(q7, .inl (cI, 12, .inl (fun _ => 0)))])) H := hP
  have hD : va_D A ((h0, .inr (12, F6)) :: (T5 ++ [(q7, .inl (cI, 12, .inl (fun _ => 0)))])) := hD
  generalize eT8 : (T5 ++ [(q7, .inl (cI, 12, .inl (fun _ => 0)))] : va_W) = T8 at hP hD
  refine W.widen (k := cells + 3) (n := slots + 140) (by omega) (by omega) ?_
  refine f_putF (D := (dC, dI)) (ci := 12) (v := .ref q7) (ty := .array .int) (C := R_Mod) (T := F_Mod) (N := 167) hx hb hT in_Mod t_Mod t_Mod_ok n_Mod hown hK hP hD hS 0 rfl rfl 122 (by decide) fr_Mod_122 w_9_58 hin (by decide +kernel) rfl rfl (by rw [hL]; decide) d_Mod_init_686 (fun H locs hP hD hS => ?_)
  have hP : va_P (dC, dI) CL ((h0, .inr (12, (F6.set 122 (.ref q7)))) :: T8) H := hP
  have hD : va_D A ((h0, .inr (12, (F6.set 122 (.ref q7)))) :: T8) := hD
  generalize eF9 : F6.set 122 (.ref q7) = F9 at hP hD
  have hL : F9.length = 167 := by rw [← eF9, List.length_set]; exact hL
  refine lv_aload_n hx hb d_Mod_init_689 rfl (lv_at hl 0 rfl) ?_
  refine lv_bipush (v := 48) hx hb d_Mod_init_690 (by decide) ?_
  refine nw_int (N' := 48) hx hb hT w_1_69 hK hP hD hS hA (by decide) (by decide) (by decide) (by omega) (by omega) d_Mod_init_692 (fun q10 H hP hD hS => ?_)
  have hP : va_P (dC, dI) CL ((h0, .inr (12, F9)) :: (T8 ++ [(q10, .inl (cI, 48, .inl (fun _ => 0)))])) H := hP
  have hD : va_D A ((h0, .inr (12, F9)) :: (T8 ++ [(q10, .inl (cI, 48, .inl (fun _ => 0)))])) := hD
  generalize eT11 : (T8 ++ [(q10, .inl (cI, 48, .inl (fun _ => 0)))] : va_W) = T11 at hP hD
  refine W.widen (k := cells + 4) (n := slots + 188) (by omega) (by omega) ?_
  refine f_putF (D := (dC, dI)) (ci := 12) (v := .ref q10) (ty := .array .int) (C := R_Mod) (T := F_Mod) (N := 167) hx hb hT in_Mod t_Mod t_Mod_ok n_Mod hown hK hP hD hS 0 rfl rfl 123 (by decide) fr_Mod_123 w_9_59 hin (by decide +kernel) rfl rfl (by rw [hL]; decide) d_Mod_init_694 (fun H locs hP hD hS => ?_)
  have hP : va_P (dC, dI) CL ((h0, .inr (12, (F9.set 123 (.ref q10)))) :: T11) H := hP
  have hD : va_D A ((h0, .inr (12, (F9.set 123 (.ref q10)))) :: T11) := hD
  generalize eF12 : F9.set 123 (.ref q10) = F12 at hP hD
  have hL : F12.length = 167 := by rw [← eF12, List.length_set]; exact hL
  subst eF12
  subst eT11
  subst eF9
  subst eT8
  subst eF6
  subst eT5
  subst eF3
  subst eT2
  exact kk q1 q4 q7 q10 H locs hP hD hS
set_option maxHeartbeats 4000000 in
set_option maxRecDepth 100000 in
theorem seg_Mod_20 {p : Program} {l : Launch} {e : Env} {R : Room} {s : State} {m : MethodId} {args : Array Value} {below : List Frame} {meth : Method} {c : Code} {Q : State → Prop} {dC : Nat → ClassId} {dI : Nat → Nat → Nat} {cI cB cJ cZ : ClassId} {A : Nat → Prop} {H0 : Heap} {H : Heap} {locs : List Loc} {cells slots h0 : Nat} {F : List Value} {T : va_W} {ls : Array Slot}
    (hx : p.tables.exec = Jvm.exec) (hb : c.code = b_Mod_init) (hT : ∀ w ∈ TG, w.before args s = true) (hown : s.vm.findClass R_Mod = some m.cls) (hin : meth.name = "<init>") (hK : va_K (dC, dI) CL (TY cI cB cJ cZ) s) (hA : ∀ q : Nat, H0.size ≤ q → A q)
    (hP : va_P (dC, dI) CL ((h0, .inr (12, F)) :: T) H) (hD : va_D A ((h0, .inr (12, F)) :: T)) (hS : va_S A H0 H locs) (hL : F.length = 167) (hl : lv_has ls 2 [(0, .ref h0)]) (hc1 : cells + 4 ≤ R.cells) (hs1 : slots + 312 ≤ R.slots)
    (kk : ∀ (q1 q4 q7 q10 : Nat) (H : Heap) (locs : List Loc), va_P (dC, dI) CL ((h0, .inr (12, ((((F.set 124 (.ref q1)).set 125 (.ref q4)).set 126 (.ref q7)).set 127 (.ref q10)))) :: ((((T ++ [(q1, .inl (cI, 48, .inl (fun _ => 0)))]) ++ [(q4, .inl (cI, 48, .inl (fun _ => 0)))]) ++ [(q7, .inl (cI, 24, .inl (fun _ => 0)))]) ++ [(q10, .inl (cI, 192, .inl (fun _ => 0)))])) H → va_D A ((h0, .inr (12, ((((F.set 124 (.ref q1)).set 125 (.ref q4)).set 126 (.ref q7)).set 127 (.ref q10)))) :: ((((T ++ [(q1, .inl (cI, 48, .inl (fun _ => 0)))]) ++ [(q4, .inl (cI, 48, .inl (fun _ => 0)))]) ++ [(q7, .inl (cI, 24, .inl (fun _ => 0)))]) ++ [(q10, .inl (cI, 192, .inl (fun _ => 0)))])) → va_S A H0 H locs → W p l e R s m args below meth c H locs (cells + 4) (slots + 312) Q (F0 m 730 ls [])) :
    W p l e R s m args below meth c H locs cells slots Q (F0 m 697 ls []) := by
  refine lv_aload_n hx hb d_Mod_init_697 rfl (lv_at hl 0 rfl) ?_
  refine lv_bipush (v := 48) hx hb d_Mod_init_698 (by decide) ?_
  refine nw_int (N' := 48) hx hb hT w_1_69 hK hP hD hS hA (by decide) (by decide) (by decide) (by omega) (by omega) d_Mod_init_700 (fun q1 H hP hD hS => ?_)
  have hP : va_P (dC, dI) CL ((h0, .inr (12, F)) :: (T ++ [(q1, .inl (cI, 48, .inl (fun _ => 0)))])) H := hP
  have hD : va_D A ((h0, .inr (12, F)) :: (T ++ [(q1, .inl (cI, 48, .inl (fun _ => 0)))])) := hD
  generalize eT2 : (T ++ [(q1, .inl (cI, 48, .inl (fun _ => 0)))] : va_W) = T2 at hP hD
  refine W.widen (k := cells + 1) (n := slots + 48) (by omega) (by omega) ?_
  refine f_putF (D := (dC, dI)) (ci := 12) (v := .ref q1) (ty := .array .int) (C := R_Mod) (T := F_Mod) (N := 167) hx hb hT in_Mod t_Mod t_Mod_ok n_Mod hown hK hP hD hS 0 rfl rfl 124 (by decide) fr_Mod_124 w_9_60 hin (by decide +kernel) rfl rfl (by rw [hL]; decide) d_Mod_init_702 (fun H locs hP hD hS => ?_)
  have hP : va_P (dC, dI) CL ((h0, .inr (12, (F.set 124 (.ref q1)))) :: T2) H := hP
  have hD : va_D A ((h0, .inr (12, (F.set 124 (.ref q1)))) :: T2) := hD
  generalize eF3 : F.set 124 (.ref q1) = F3 at hP hD
  have hL : F3.length = 167 := by rw [← eF3, List.length_set]; exact hL
  refine lv_aload_n hx hb d_Mod_init_705 rfl (lv_at hl 0 rfl) ?_
  refine lv_bipush (v := 48) hx hb d_Mod_init_706 (by decide) ?_
  refine nw_int (N' := 48) hx hb hT w_1_69 hK hP hD hS hA (by decide) (by decide) (by decide) (by omega) (by omega) d_Mod_init_708 (fun q4 H hP hD hS => ?_)
  have hP : va_P (dC, dI) CL ((h0, .inr (12, F3)) :: (T2 ++ [(q4, .inl (cI, 48, .inl (fun _ => 0)))])) H := hP
  have hD : va_D A ((h0, .inr (12, F3)) :: (T2 ++ [(q4, .inl (cI, 48, .inl (fun _ => 0)))])) := hD
  generalize eT5 : (T2 ++ [(q4, .inl (cI, 48, .inl (fun _ => 0)))] : va_W) = T5 at hP hD
  refine W.widen (k := cells + 2) (n := slots + 96) (by omega) (by omega) ?_
  refine f_putF (D := (dC, dI)) (ci := 12) (v := .ref q4) (ty := .array .int) (C := R_Mod) (T := F_Mod) (N := 167) hx hb hT in_Mod t_Mod t_Mod_ok n_Mod hown hK hP hD hS 0 rfl rfl 125 (by decide) fr_Mod_125 w_9_61 hin (by decide +kernel) rfl rfl (by rw [hL]; decide) d_Mod_init_710 (fun H locs hP hD hS => ?_)
  have hP : va_P (dC, dI) CL ((h0, .inr (12, (F3.set 125 (.ref q4)))) :: T5) H := hP
  have hD : va_D A ((h0, .inr (12, (F3.set 125 (.ref q4)))) :: T5) := hD
  generalize eF6 : F3.set 125 (.ref q4) = F6 at hP hD
  have hL : F6.length = 167 := by rw [← eF6, List.length_set]; exact hL
  refine lv_aload_n hx hb d_Mod_init_713 rfl (lv_at hl 0 rfl) ?_
  refine lv_bipush (v := 24) hx hb d_Mod_init_714 (by decide) ?_
  refine nw_int (N' := 24) hx hb hT w_1_69 hK hP hD hS hA (by decide) (by decide) (by decide) (by omega) (by omega) d_Mod_init_716 (fun q7 H hP hD hS => ?_)
  have hP : va_P (dC, dI) CL ((h0, .inr (12, F6)) :: (T5 ++ [(q7, .inl (cI, 24, .inl (fun _ => 0)))])) H := hP
  have hD : va_D A ((h0, .inr (12, F6)) :: (T5 ++ [(q7, .inl (cI, 24, .inl (fun _ => 0)))])) := hD
  generalize eT8 : (T5 ++ [(q7, .inl (cI, 24, .inl (fun _ => 0)))] : va_W) = T8 at hP hD
  refine W.widen (k := cells + 3) (n := slots + 120) (by omega) (by omega) ?_
  refine f_putF (D := (dC, dI)) (ci := 12) (v := .ref q7) (ty := .array .int) (C := R_Mod) (T := F_Mod) (N := 167) hx hb hT in_Mod t_Mod t_Mod_ok n_Mod hown hK hP hD hS 0 rfl rfl 126 (by decide) fr_Mod_126 w_9_62 hin (by decide +kernel) rfl rfl (by rw [hL]; decide) d_Mod_init_718 (fun H locs hP hD hS => ?_)
  have hP : va_P (dC, dI) CL ((h0, .inr (12, (F6.set 126 (.ref q7)))) :: T8) H := hP
  have hD : va_D A ((h0, .inr (12, (F6.set 126 (.ref q7)))) :: T8) := hD
  generalize eF9 : F6.set 126 (.ref q7) = F9 at hP hD
  have hL : F9.length = 167 := by rw [← eF9, List.length_set]; exact hL
  refine lv_aload_n hx hb d_Mod_init_721 rfl (lv_at hl 0 rfl) ?_
  refine lv_sipush (v := 192) hx hb d_Mod_init_722 (by decide) ?_
  refine nw_int (N' := 192) hx hb hT w_1_69 hK hP hD hS hA (by decide) (by decide) (by decide) (by omega) (by omega) d_Mod_init_725 (fun q10 H hP hD hS => ?_)
  have hP : va_P (dC, dI) CL ((h0, .inr (12, F9)) :: (T8 ++ [(q10, .inl (cI, 192, .inl (fun _ => 0)))])) H := hP
  have hD : va_D A ((h0, .inr (12, F9)) :: (T8 ++ [(q10, .inl (cI, 192, .inl (fun _ => 0)))])) := hD
  generalize eT11 : (T8 ++ [(q10, .inl (cI, 192, .inl (fun _ => 0)))] : va_W) = T11 at hP hD
  refine W.widen (k := cells + 4) (n := slots + 312) (by omega) (by omega) ?_
  refine f_putF (D := (dC, dI)) (ci := 12) (v := .ref q10) (ty := .array .int) (C := R_Mod) (T := F_Mod) (N := 167) hx hb hT in_Mod t_Mod t_Mod_ok n_Mod hown hK hP hD hS 0 rfl rfl 127 (by decide) fr_Mod_127 w_9_63 hin (by decide +kernel) rfl rfl (by rw [hL]; decide) d_Mod_init_727 (fun H locs hP hD hS => ?_)
  have hP : va_P (dC, dI) CL ((h0, .inr (12, (F9.set 127 (.ref q10)))) :: T11) H := hP
  have hD : va_D A ((h0, .inr (12, (F9.set 127 (.ref q10)))) :: T11) := hD
  generalize eF12 : F9.set 127 (.ref q10) = F12 at hP hD
  have hL : F12.length = 167 := by rw [← eF12, List.length_set]; exact hL
  subst eF12
  subst eT11
  subst eF9
  subst eT8
  subst eF6
  subst eT5
  subst eF3
  subst eT2
  exact kk q1 q4 q7 q10 H locs hP hD hS
set_option maxHeartbeats 4000000 in
set_option maxRecDepth 100000 in
theorem seg_Mod_21 {p : Program} {l : Launch} {e : Env} {R : Room} {s : State} {m : MethodId} {args : Array Value} {below : List Frame} {meth : Method} {c : Code} {Q : State → Prop} {dC : Nat → ClassId} {dI : Nat → Nat → Nat} {cI cB cJ cZ : ClassId} {A : Nat → Prop} {H0 : Heap} {H : Heap} {locs : List Loc} {cells slots h0 : Nat} {F : List Value} {T : va_W} {ls : Array Slot}
    (hx : p.tables.exec = Jvm.exec) (hb : c.code = b_Mod_init) (hT : ∀ w ∈ TG, w.before args s = true) (hown : s.vm.findClass R_Mod = some m.cls) (hin : meth.name = "<init>") (hK : va_K (dC, dI) CL (TY cI cB cJ cZ) s) (hA : ∀ q : Nat, H0.size ≤ q → A q)
    (hP : va_P (dC, dI) CL ((h0, .inr (12, F)) :: T) H) (hD : va_D A ((h0, .inr (12, F)) :: T)) (hS : va_S A H0 H locs) (hL : F.length = 167) (hl : lv_has ls 2 [(0, .ref h0)]) (hc1 : cells + 4 ≤ R.cells) (hs1 : slots + 768 ≤ R.slots)
    (kk : ∀ (q1 q4 q7 q10 : Nat) (H : Heap) (locs : List Loc), va_P (dC, dI) CL ((h0, .inr (12, ((((F.set 128 (.ref q1)).set 129 (.ref q4)).set 130 (.ref q7)).set 131 (.ref q10)))) :: ((((T ++ [(q1, .inl (cI, 192, .inl (fun _ => 0)))]) ++ [(q4, .inl (cI, 192, .inl (fun _ => 0)))]) ++ [(q7, .inl (cI, 192, .inl (fun _ => 0)))]) ++ [(q10, .inl (cI, 192, .inl (fun _ => 0)))])) H → va_D A ((h0, .inr (12, ((((F.set 128 (.ref q1)).set 129 (.ref q4)).set 130 (.ref q7)).set 131 (.ref q10)))) :: ((((T ++ [(q1, .inl (cI, 192, .inl (fun _ => 0)))]) ++ [(q4, .inl (cI, 192, .inl (fun _ => 0)))]) ++ [(q7, .inl (cI, 192, .inl (fun _ => 0)))]) ++ [(q10, .inl (cI, 192, .inl (fun _ => 0)))])) → va_S A H0 H locs → W p l e R s m args below meth c H locs (cells + 4) (slots + 768) Q (F0 m 766 ls [])) :
    W p l e R s m args below meth c H locs cells slots Q (F0 m 730 ls []) := by
  refine lv_aload_n hx hb d_Mod_init_730 rfl (lv_at hl 0 rfl) ?_
  refine lv_sipush (v := 192) hx hb d_Mod_init_731 (by decide) ?_
  refine nw_int (N' := 192) hx hb hT w_1_69 hK hP hD hS hA (by decide) (by decide) (by decide) (by omega) (by omega) d_Mod_init_734 (fun q1 H hP hD hS => ?_)
  have hP : va_P (dC, dI) CL ((h0, .inr (12, F)) :: (T ++ [(q1, .inl (cI, 192, .inl (fun _ => 0)))])) H := hP
  have hD : va_D A ((h0, .inr (12, F)) :: (T ++ [(q1, .inl (cI, 192, .inl (fun _ => 0)))])) := hD
  generalize eT2 : (T ++ [(q1, .inl (cI, 192, .inl (fun _ => 0)))] : va_W) = T2 at hP hD
  refine W.widen (k := cells + 1) (n := slots + 192) (by omega) (by omega) ?_
  refine f_putF (D := (dC, dI)) (ci := 12) (v := .ref q1) (ty := .array .int) (C := R_Mod) (T := F_Mod) (N := 167) hx hb hT in_Mod t_Mod t_Mod_ok n_Mod hown hK hP hD hS 0 rfl rfl 128 (by decide) fr_Mod_128 w_9_64 hin (by decide +kernel) rfl rfl (by rw [hL]; decide) d_Mod_init_736 (fun H locs hP hD hS => ?_)
  have hP : va_P (dC, dI) CL ((h0, .inr (12, (F.set 128 (.ref q1)))) :: T2) H := hP
  have hD : va_D A ((h0, .inr (12, (F.set 128 (.ref q1)))) :: T2) := hD
  generalize eF3 : F.set 128 (.ref q1) = F3 at hP hD
  have hL : F3.length = 167 := by rw [← eF3, List.length_set]; exact hL
  refine lv_aload_n hx hb d_Mod_init_739 rfl (lv_at hl 0 rfl) ?_
  refine lv_sipush (v := 192) hx hb d_Mod_init_740 (by decide) ?_
  refine nw_int (N' := 192) hx hb hT w_1_69 hK hP hD hS hA (by decide) (by decide) (by decide) (by omega) (by omega) d_Mod_init_743 (fun q4 H hP hD hS => ?_)
  have hP : va_P (dC, dI) CL ((h0, .inr (12, F3)) :: (T2 ++ [(q4, .inl (cI, 192, .inl (fun _ => 0)))])) H := hP
  have hD : va_D A ((h0, .inr (12, F3)) :: (T2 ++ [(q4, .inl (cI, 192, .inl (fun _ => 0)))])) := hD
  generalize eT5 : (T2 ++ [(q4, .inl (cI, 192, .inl (fun _ => 0)))] : va_W) = T5 at hP hD
  refine W.widen (k := cells + 2) (n := slots + 384) (by omega) (by omega) ?_
  refine f_putF (D := (dC, dI)) (ci := 12) (v := .ref q4) (ty := .array .int) (C := R_Mod) (T := F_Mod) (N := 167) hx hb hT in_Mod t_Mod t_Mod_ok n_Mod hown hK hP hD hS 0 rfl rfl 129 (by decide) fr_Mod_129 w_9_65 hin (by decide +kernel) rfl rfl (by rw [hL]; decide) d_Mod_init_745 (fun H locs hP hD hS => ?_)
  have hP : va_P (dC, dI) CL ((h0, .inr (12, (F3.set 129 (.ref q4)))) :: T5) H := hP
  have hD : va_D A ((h0, .inr (12, (F3.set 129 (.ref q4)))) :: T5) := hD
  generalize eF6 : F3.set 129 (.ref q4) = F6 at hP hD
  have hL : F6.length = 167 := by rw [← eF6, List.length_set]; exact hL
  refine lv_aload_n hx hb d_Mod_init_748 rfl (lv_at hl 0 rfl) ?_
  refine lv_sipush (v := 192) hx hb d_Mod_init_749 (by decide) ?_
  refine nw_int (N' := 192) hx hb hT w_1_69 hK hP hD hS hA (by decide) (by decide) (by decide) (by omega) (by omega) d_Mod_init_752 (fun q7 H hP hD hS => ?_)
  have hP : va_P (dC, dI) CL ((h0, .inr (12, F6)) :: (T5 ++ [(q7, .inl (cI, 192, .inl (fun _ => 0)))])) H := hP
  have hD : va_D A ((h0, .inr (12, F6)) :: (T5 ++ [(q7, .inl (cI, 192, .inl (fun _ => 0)))])) := hD
  generalize eT8 : (T5 ++ [(q7, .inl (cI, 192, .inl (fun _ => 0)))] : va_W) = T8 at hP hD
  refine W.widen (k := cells + 3) (n := slots + 576) (by omega) (by omega) ?_
  refine f_putF (D := (dC, dI)) (ci := 12) (v := .ref q7) (ty := .array .int) (C := R_Mod) (T := F_Mod) (N := 167) hx hb hT in_Mod t_Mod t_Mod_ok n_Mod hown hK hP hD hS 0 rfl rfl 130 (by decide) fr_Mod_130 w_9_66 hin (by decide +kernel) rfl rfl (by rw [hL]; decide) d_Mod_init_754 (fun H locs hP hD hS => ?_)
  have hP : va_P (dC, dI) CL ((h0, .inr (12, (F6.set 130 (.ref q7)))) :: T8) H := hP
  have hD : va_D A ((h0, .inr (12, (F6.set 130 (.ref q7)))) :: T8) := hD
  generalize eF9 : F6.set 130 (.ref q7) = F9 at hP hD
  have hL : F9.length = 167 := by rw [← eF9, List.length_set]; exact hL
  refine lv_aload_n hx hb d_Mod_init_757 rfl (lv_at hl 0 rfl) ?_
  refine lv_sipush (v := 192) hx hb d_Mod_init_758 (by decide) ?_
  refine nw_int (N' := 192) hx hb hT w_1_69 hK hP hD hS hA (by decide) (by decide) (by decide) (by omega) (by omega) d_Mod_init_761 (fun q10 H hP hD hS => ?_)
  have hP : va_P (dC, dI) CL ((h0, .inr (12, F9)) :: (T8 ++ [(q10, .inl (cI, 192, .inl (fun _ => 0)))])) H := hP
  have hD : va_D A ((h0, .inr (12, F9)) :: (T8 ++ [(q10, .inl (cI, 192, .inl (fun _ => 0)))])) := hD
  generalize eT11 : (T8 ++ [(q10, .inl (cI, 192, .inl (fun _ => 0)))] : va_W) = T11 at hP hD
  refine W.widen (k := cells + 4) (n := slots + 768) (by omega) (by omega) ?_
  refine f_putF (D := (dC, dI)) (ci := 12) (v := .ref q10) (ty := .array .int) (C := R_Mod) (T := F_Mod) (N := 167) hx hb hT in_Mod t_Mod t_Mod_ok n_Mod hown hK hP hD hS 0 rfl rfl 131 (by decide) fr_Mod_131 w_9_67 hin (by decide +kernel) rfl rfl (by rw [hL]; decide) d_Mod_init_763 (fun H locs hP hD hS => ?_)
  have hP : va_P (dC, dI) CL ((h0, .inr (12, (F9.set 131 (.ref q10)))) :: T11) H := hP
  have hD : va_D A ((h0, .inr (12, (F9.set 131 (.ref q10)))) :: T11) := hD
  generalize eF12 : F9.set 131 (.ref q10) = F12 at hP hD
  have hL : F12.length = 167 := by rw [← eF12, List.length_set]; exact hL
  subst eF12
  subst eT11
  subst eF9
  subst eT8
  subst eF6
  subst eT5
  subst eF3
  subst eT2
  exact kk q1 q4 q7 q10 H locs hP hD hS
set_option maxHeartbeats 4000000 in
set_option maxRecDepth 100000 in
theorem seg_Mod_22 {p : Program} {l : Launch} {e : Env} {R : Room} {s : State} {m : MethodId} {args : Array Value} {below : List Frame} {meth : Method} {c : Code} {Q : State → Prop} {dC : Nat → ClassId} {dI : Nat → Nat → Nat} {cI cB cJ cZ : ClassId} {A : Nat → Prop} {H0 : Heap} {H : Heap} {locs : List Loc} {cells slots h0 : Nat} {F : List Value} {T : va_W} {ls : Array Slot}
    (hx : p.tables.exec = Jvm.exec) (hb : c.code = b_Mod_init) (hT : ∀ w ∈ TG, w.before args s = true) (hown : s.vm.findClass R_Mod = some m.cls) (hin : meth.name = "<init>") (hK : va_K (dC, dI) CL (TY cI cB cJ cZ) s) (hA : ∀ q : Nat, H0.size ≤ q → A q)
    (hP : va_P (dC, dI) CL ((h0, .inr (12, F)) :: T) H) (hD : va_D A ((h0, .inr (12, F)) :: T)) (hS : va_S A H0 H locs) (hL : F.length = 167) (hl : lv_has ls 2 [(0, .ref h0)]) (hc1 : cells + 4 ≤ R.cells) (hs1 : slots + 6576 ≤ R.slots)
    (kk : ∀ (q1 q4 q7 q10 : Nat) (H : Heap) (locs : List Loc), va_P (dC, dI) CL ((h0, .inr (12, ((((F.set 132 (.ref q1)).set 133 (.ref q4)).set 134 (.ref q7)).set 135 (.ref q10)))) :: ((((T ++ [(q1, .inl (cI, 192, .inl (fun _ => 0)))]) ++ [(q4, .inl (cI, 192, .inl (fun _ => 0)))]) ++ [(q7, .inl (cI, 192, .inl (fun _ => 0)))]) ++ [(q10, .inl (cI, 6000, .inl (fun _ => 0)))])) H → va_D A ((h0, .inr (12, ((((F.set 132 (.ref q1)).set 133 (.ref q4)).set 134 (.ref q7)).set 135 (.ref q10)))) :: ((((T ++ [(q1, .inl (cI, 192, .inl (fun _ => 0)))]) ++ [(q4, .inl (cI, 192, .inl (fun _ => 0)))]) ++ [(q7, .inl (cI, 192, .inl (fun _ => 0)))]) ++ [(q10, .inl (cI, 6000, .inl (fun _ => 0)))])) → va_S A H0 H locs → W p l e R s m args below meth c H locs (cells + 4) (slots + 6576) Q (F0 m 802 ls [])) :
    W p l e R s m args below meth c H locs cells slots Q (F0 m 766 ls []) := by
  refine lv_aload_n hx hb d_Mod_init_766 rfl (lv_at hl 0 rfl) ?_
  refine lv_sipush (v := 192) hx hb d_Mod_init_767 (by decide) ?_
  refine nw_int (N' := 192) hx hb hT w_1_69 hK hP hD hS hA (by decide) (by decide) (by decide) (by omega) (by omega) d_Mod_init_770 (fun q1 H hP hD hS => ?_)
  have hP : va_P (dC, dI) CL ((h0, .inr (12, F)) :: (T ++ [(q1, .inl (cI, 192, .inl (fun _ => 0)))])) H := hP
  have hD : va_D A ((h0, .inr (12, F)) :: (T ++ [(q1, .inl (cI, 192, .inl (fun _ => 0)))])) := hD
  generalize eT2 : (T ++ [(q1, .inl (cI, 192, .inl (fun _ => 0)))] : va_W) = T2 at hP hD
  refine W.widen (k := cells + 1) (n := slots + 192) (by omega) (by omega) ?_
  refine f_putF (D := (dC, dI)) (ci := 12) (v := .ref q1) (ty := .array .int) (C := R_Mod) (T := F_Mod) (N := 167) hx hb hT in_Mod t_Mod t_Mod_ok n_Mod hown hK hP hD hS 0 rfl rfl 132 (by decide) fr_Mod_132 w_9_68 hin (by decide +kernel) rfl rfl (by rw [hL]; decide) d_Mod_init_772 (fun H locs hP hD hS => ?_)
  have hP : va_P (dC, dI) CL ((h0, .inr (12, (F.set 132 (.ref q1)))) :: T2) H := hP
  have hD : va_D A ((h0, .inr (12, (F.set 132 (.ref q1)))) :: T2) := hD
  generalize eF3 : F.set 132 (.ref q1) = F3 at hP hD
  have hL : F3.length = 167 := by rw [← eF3, List.length_set]; exact hL
  refine lv_aload_n hx hb d_Mod_init_775 rfl (lv_at hl 0 rfl) ?_
  refine lv_sipush (v := 192) hx hb d_Mod_init_776 (by decide) ?_
  refine nw_int (N' := 192) hx hb hT w_1_69 hK hP hD hS hA (by decide) (by decide) (by decide) (by omega) (by omega) d_Mod_init_779 (fun q4 H hP hD hS => ?_)
  have hP : va_P (dC, dI) CL ((h0, .inr (12, F3)) :: (T2 ++ [(q4, .inl (cI, 192, .inl (fun _ => 0)))])) H := hP
  have hD : va_D A ((h0, .inr (12, F3)) :: (T2 ++ [(q4, .inl (cI, 192, .inl (fun _ => 0)))])) := hD
  generalize eT5 : (T2 ++ [(q4, .inl (cI, 192, .inl (fun _ => 0)))] : va_W) = T5 at hP hD
  refine W.widen (k := cells + 2) (n := slots + 384) (by omega) (by omega) ?_
  refine f_putF (D := (dC, dI)) (ci := 12) (v := .ref q4) (ty := .array .int) (C := R_Mod) (T := F_Mod) (N := 167) hx hb hT in_Mod t_Mod t_Mod_ok n_Mod hown hK hP hD hS 0 rfl rfl 133 (by decide) fr_Mod_133 w_9_69 hin (by decide +kernel) rfl rfl (by rw [hL]; decide) d_Mod_init_781 (fun H locs hP hD hS => ?_)
  have hP : va_P (dC, dI) CL ((h0, .inr (12, (F3.set 133 (.ref q4)))) :: T5) H := hP
  have hD : va_D A ((h0, .inr (12, (F3.set 133 (.ref q4)))) :: T5) := hD
  generalize eF6 : F3.set 133 (.ref q4) = F6 at hP hD
  have hL : F6.length = 167 := by rw [← eF6, List.length_set]; exact hL
  refine lv_aload_n hx hb d_Mod_init_784 rfl (lv_at hl 0 rfl) ?_
  refine lv_sipush (v := 192) hx hb d_Mod_init_785 (by decide) ?_
  refine nw_int (N' := 192) hx hb hT w_1_69 hK hP hD hS hA (by decide) (by decide) (by decide) (by omega) (by omega) d_Mod_init_788 (fun q7 H hP hD hS => ?_)
  have hP : va_P (dC, dI) CL ((h0, .inr (12, F6)) :: (T5 ++ [(q7, .inl (cI, 192, .inl (fun _ => 0)))])) H := hP
  have hD : va_D A ((h0, .inr (12, F6)) :: (T5 ++ [(q7, .inl (cI, 192, .inl (fun _ => 0)))])) := hD
  generalize eT8 : (T5 ++ [(q7, .inl (cI, 192, .inl (fun _ => 0)))] : va_W) = T8 at hP hD
  refine W.widen (k := cells + 3) (n := slots + 576) (by omega) (by omega) ?_
  refine f_putF (D := (dC, dI)) (ci := 12) (v := .ref q7) (ty := .array .int) (C := R_Mod) (T := F_Mod) (N := 167) hx hb hT in_Mod t_Mod t_Mod_ok n_Mod hown hK hP hD hS 0 rfl rfl 134 (by decide) fr_Mod_134 w_9_70 hin (by decide +kernel) rfl rfl (by rw [hL]; decide) d_Mod_init_790 (fun H locs hP hD hS => ?_)
  have hP : va_P (dC, dI) CL ((h0, .inr (12, (F6.set 134 (.ref q7)))) :: T8) H := hP
  have hD : va_D A ((h0, .inr (12, (F6.set 134 (.ref q7)))) :: T8) := hD
  generalize eF9 : F6.set 134 (.ref q7) = F9 at hP hD
  have hL : F9.length = 167 := by rw [← eF9, List.length_set]; exact hL
  refine lv_aload_n hx hb d_Mod_init_793 rfl (lv_at hl 0 rfl) ?_
  refine lv_sipush (v := 6000) hx hb d_Mod_init_794 (by decide) ?_
  refine nw_int (N' := 6000) hx hb hT w_1_69 hK hP hD hS hA (by decide) (by decide) (by decide) (by omega) (by omega) d_Mod_init_797 (fun q10 H hP hD hS => ?_)
  have hP : va_P (dC, dI) CL ((h0, .inr (12, F9)) :: (T8 ++ [(q10, .inl (cI, 6000, .inl (fun _ => 0)))])) H := hP
  have hD : va_D A ((h0, .inr (12, F9)) :: (T8 ++ [(q10, .inl (cI, 6000, .inl (fun _ => 0)))])) := hD
  generalize eT11 : (T8 ++ [(q10, .inl (cI, 6000, .inl (fun _ => 0)))] : va_W) = T11 at hP hD
  refine W.widen (k := cells + 4) (n := slots + 6576) (by omega) (by omega) ?_
  refine f_putF (D := (dC, dI)) (ci := 12) (v := .ref q10) (ty := .array .int) (C := R_Mod) (T := F_Mod) (N := 167) hx hb hT in_Mod t_Mod t_Mod_ok n_Mod hown hK hP hD hS 0 rfl rfl 135 (by decide) fr_Mod_135 w_9_71 hin (by decide +kernel) rfl rfl (by rw [hL]; decide) d_Mod_init_799 (fun H locs hP hD hS => ?_)
  have hP : va_P (dC, dI) CL ((h0, .inr (12, (F9.set 135 (.ref q10)))) :: T11) H := hP
  have hD : va_D A ((h0, .inr (12, (F9.set 135 (.ref q10)))) :: T11) := hD
  generalize eF12 : F9.set 135 (.ref q10) = F12 at hP hD
  have hL : F12.length = 167 := by rw [← eF12, List.length_set]; exact hL
  subst eF12
  subst eT11
  subst eF9
  subst eT8
  subst eF6
  subst eT5
  subst eF3
  subst eT2
  exact kk q1 q4 q7 q10 H locs hP hD hS
set_option maxHeartbeats 4000000 in
set_option maxRecDepth 100000 in
theorem seg_Mod_23 {p : Program} {l : Launch} {e : Env} {R : Room} {s : State} {m : MethodId} {args : Array Value} {below : List Frame} {meth : Method} {c : Code} {Q : State → Prop} {dC : Nat → ClassId} {dI : Nat → Nat → Nat} {cI cB cJ cZ : ClassId} {A : Nat → Prop} {H0 : Heap} {H : Heap} {locs : List Loc} {cells slots h0 : Nat} {F : List Value} {T : va_W} {ls : Array Slot}
    (hx : p.tables.exec = Jvm.exec) (hb : c.code = b_Mod_init) (hT : ∀ w ∈ TG, w.before args s = true) (hown : s.vm.findClass R_Mod = some m.cls) (hin : meth.name = "<init>") (hK : va_K (dC, dI) CL (TY cI cB cJ cZ) s) (hA : ∀ q : Nat, H0.size ≤ q → A q)
    (hP : va_P (dC, dI) CL ((h0, .inr (12, F)) :: T) H) (hD : va_D A ((h0, .inr (12, F)) :: T)) (hS : va_S A H0 H locs) (hL : F.length = 167) (hl : lv_has ls 2 [(0, .ref h0)]) (hc1 : cells + 4 ≤ R.cells) (hs1 : slots + 496 ≤ R.slots)
    (kk : ∀ (q1 q4 q7 q10 : Nat) (H : Heap) (locs : List Loc), va_P (dC, dI) CL ((h0, .inr (12, ((((F.set 136 (.ref q1)).set 137 (.ref q4)).set 138 (.ref q7)).set 141 (.ref q10)))) :: ((((T ++ [(q1, .inl (cJ, 192, .inr (.inl (fun _ => 0))))]) ++ [(q4, .inl (cI, 120, .inl (fun _ => 0)))]) ++ [(q7, .inl (cI, 120, .inl (fun _ => 0)))]) ++ [(q10, .inl (cI, 64, .inl (fun _ => 0)))])) H → va_D A ((h0, .inr (12, ((((F.set 136 (.ref q1)).set 137 (.ref q4)).set 138 (.ref q7)).set 141 (.ref q10)))) :: ((((T ++ [(q1, .inl (cJ, 192, .inr (.inl (fun _ => 0))))]) ++ [(q4, .inl (cI, 120, .inl (fun _ => 0)))]) ++ [(q7, .inl (cI, 120, .inl (fun _ => 0)))]) ++ [(q10, .inl (cI, 64, .inl (fun _ => 0)))])) → va_S A H0 H locs → W p l e R s m args below meth c H locs (cells + 4) (slots + 496) Q (F0 m 835 ls [])) :
    W p l e R s m args below meth c H locs cells slots Q (F0 m 802 ls []) := by
  refine lv_aload_n hx hb d_Mod_init_802 rfl (lv_at hl 0 rfl) ?_
  refine lv_sipush (v := 192) hx hb d_Mod_init_803 (by decide) ?_
  refine nw_long (N' := 192) hx hb hT w_2_41 hK hP hD hS hA (by decide) (by decide) (by decide) (by omega) (by omega) d_Mod_init_806 (fun q1 H hP hD hS => ?_)
  have hP : va_P (dC, dI) CL ((h0, .inr (12, F)) :: (T ++ [(q1, .inl (cJ, 192, .inr (.inl (fun _ => 0))))])) H := hP
  have hD : va_D A ((h0, .inr (12, F)) :: (T ++ [(q1, .inl (cJ, 192, .inr (.inl (fun _ => 0))))])) := hD
  generalize eT2 : (T ++ [(q1, .inl (cJ, 192, .inr (.inl (fun _ => 0))))] : va_W) = T2 at hP hD
  refine W.widen (k := cells + 1) (n := slots + 192) (by omega) (by omega) ?_
  refine f_putF (D := (dC, dI)) (ci := 12) (v := .ref q1) (ty := .array .long) (C := R_Mod) (T := F_Mod) (N := 167) hx hb hT in_Mod t_Mod t_Mod_ok n_Mod hown hK hP hD hS 0 rfl rfl 136 (by decide) fr_Mod_136 w_9_72 hin (by decide +kernel) rfl rfl (by rw [hL]; decide) d_Mod_init_808 (fun H locs hP hD hS => ?_)
  have hP : va_P (dC, dI) CL ((h0, .inr (12, (F.set 136 (.ref q1)))) :: T2) H := hP
  have hD : va_D A ((h0, .inr (12, (F.set 136 (.ref q1)))) :: T2) := hD
  generalize eF3 : F.set 136 (.ref q1) = F3 at hP hD
  have hL : F3.length = 167 := by rw [← eF3, List.length_set]; exact hL
  refine lv_aload_n hx hb d_Mod_init_811 rfl (lv_at hl 0 rfl) ?_
  refine lv_bipush (v := 120) hx hb d_Mod_init_812 (by decide) ?_
  refine nw_int (N' := 120) hx hb hT w_1_69 hK hP hD hS hA (by decide) (by decide) (by decide) (by omega) (by omega) d_Mod_init_814 (fun q4 H hP hD hS => ?_)
  have hP : va_P (dC, dI) CL ((h0, .inr (12, F3)) :: (T2 ++ [(q4, .inl (cI, 120, .inl (fun _ => 0)))])) H := hP
  have hD : va_D A ((h0, .inr (12, F3)) :: (T2 ++ [(q4, .inl (cI, 120, .inl (fun _ => 0)))])) := hD
  generalize eT5 : (T2 ++ [(q4, .inl (cI, 120, .inl (fun _ => 0)))] : va_W) = T5 at hP hD
  refine W.widen (k := cells + 2) (n := slots + 312) (by omega) (by omega) ?_
  refine f_putF (D := (dC, dI)) (ci := 12) (v := .ref q4) (ty := .array .int) (C := R_Mod) (T := F_Mod) (N := 167) hx hb hT in_Mod t_Mod t_Mod_ok n_Mod hown hK hP hD hS 0 rfl rfl 137 (by decide) fr_Mod_137 w_9_73 hin (by decide +kernel) rfl rfl (by rw [hL]; decide) d_Mod_init_816 (fun H locs hP hD hS => ?_)
  have hP : va_P (dC, dI) CL ((h0, .inr (12, (F3.set 137 (.ref q4)))) :: T5) H := hP
  have hD : va_D A ((h0, .inr (12, (F3.set 137 (.ref q4)))) :: T5) := hD
  generalize eF6 : F3.set 137 (.ref q4) = F6 at hP hD
  have hL : F6.length = 167 := by rw [← eF6, List.length_set]; exact hL
  refine lv_aload_n hx hb d_Mod_init_819 rfl (lv_at hl 0 rfl) ?_
  refine lv_bipush (v := 120) hx hb d_Mod_init_820 (by decide) ?_
  refine nw_int (N' := 120) hx hb hT w_1_69 hK hP hD hS hA (by decide) (by decide) (by decide) (by omega) (by omega) d_Mod_init_822 (fun q7 H hP hD hS => ?_)
  have hP : va_P (dC, dI) CL ((h0, .inr (12, F6)) :: (T5 ++ [(q7, .inl (cI, 120, .inl (fun _ => 0)))])) H := hP
  have hD : va_D A ((h0, .inr (12, F6)) :: (T5 ++ [(q7, .inl (cI, 120, .inl (fun _ => 0)))])) := hD
  generalize eT8 : (T5 ++ [(q7, .inl (cI, 120, .inl (fun _ => 0)))] : va_W) = T8 at hP hD
  refine W.widen (k := cells + 3) (n := slots + 432) (by omega) (by omega) ?_
  refine f_putF (D := (dC, dI)) (ci := 12) (v := .ref q7) (ty := .array .int) (C := R_Mod) (T := F_Mod) (N := 167) hx hb hT in_Mod t_Mod t_Mod_ok n_Mod hown hK hP hD hS 0 rfl rfl 138 (by decide) fr_Mod_138 w_9_74 hin (by decide +kernel) rfl rfl (by rw [hL]; decide) d_Mod_init_824 (fun H locs hP hD hS => ?_)
  have hP : va_P (dC, dI) CL ((h0, .inr (12, (F6.set 138 (.ref q7)))) :: T8) H := hP
  have hD : va_D A ((h0, .inr (12, (F6.set 138 (.ref q7)))) :: T8) := hD
  generalize eF9 : F6.set 138 (.ref q7) = F9 at hP hD
  have hL : F9.length = 167 := by rw [← eF9, List.length_set]; exact hL
  refine lv_aload_n hx hb d_Mod_init_827 rfl (lv_at hl 0 rfl) ?_
  refine lv_bipush (v := 64) hx hb d_Mod_init_828 (by decide) ?_
  refine nw_int (N' := 64) hx hb hT w_1_69 hK hP hD hS hA (by decide) (by decide) (by decide) (by omega) (by omega) d_Mod_init_830 (fun q10 H hP hD hS => ?_)
  have hP : va_P (dC, dI) CL ((h0, .inr (12, F9)) :: (T8 ++ [(q10, .inl (cI, 64, .inl (fun _ => 0)))])) H := hP
  have hD : va_D A ((h0, .inr (12, F9)) :: (T8 ++ [(q10, .inl (cI, 64, .inl (fun _ => 0)))])) := hD
  generalize eT11 : (T8 ++ [(q10, .inl (cI, 64, .inl (fun _ => 0)))] : va_W) = T11 at hP hD
  refine W.widen (k := cells + 4) (n := slots + 496) (by omega) (by omega) ?_
  refine f_putF (D := (dC, dI)) (ci := 12) (v := .ref q10) (ty := .array .int) (C := R_Mod) (T := F_Mod) (N := 167) hx hb hT in_Mod t_Mod t_Mod_ok n_Mod hown hK hP hD hS 0 rfl rfl 141 (by decide) fr_Mod_141 w_9_77 hin (by decide +kernel) rfl rfl (by rw [hL]; decide) d_Mod_init_832 (fun H locs hP hD hS => ?_)
  have hP : va_P (dC, dI) CL ((h0, .inr (12, (F9.set 141 (.ref q10)))) :: T11) H := hP
  have hD : va_D A ((h0, .inr (12, (F9.set 141 (.ref q10)))) :: T11) := hD
  generalize eF12 : F9.set 141 (.ref q10) = F12 at hP hD
  have hL : F12.length = 167 := by rw [← eF12, List.length_set]; exact hL
  subst eF12
  subst eT11
  subst eF9
  subst eT8
  subst eF6
  subst eT5
  subst eF3
  subst eT2
  exact kk q1 q4 q7 q10 H locs hP hD hS
set_option maxHeartbeats 4000000 in
set_option maxRecDepth 100000 in
theorem seg_Mod_24 {p : Program} {l : Launch} {e : Env} {R : Room} {s : State} {m : MethodId} {args : Array Value} {below : List Frame} {meth : Method} {c : Code} {Q : State → Prop} {dC : Nat → ClassId} {dI : Nat → Nat → Nat} {cI cB cJ cZ : ClassId} {A : Nat → Prop} {H0 : Heap} {H : Heap} {locs : List Loc} {cells slots h0 : Nat} {F : List Value} {T : va_W} {ls : Array Slot}
    (hx : p.tables.exec = Jvm.exec) (hb : c.code = b_Mod_init) (hT : ∀ w ∈ TG, w.before args s = true) (hown : s.vm.findClass R_Mod = some m.cls) (hin : meth.name = "<init>") (hK : va_K (dC, dI) CL (TY cI cB cJ cZ) s) (hA : ∀ q : Nat, H0.size ≤ q → A q)
    (hP : va_P (dC, dI) CL ((h0, .inr (12, F)) :: T) H) (hD : va_D A ((h0, .inr (12, F)) :: T)) (hS : va_S A H0 H locs) (hL : F.length = 167) (hl : lv_has ls 2 [(0, .ref h0)]) (hc1 : cells + 4 ≤ R.cells) (hs1 : slots + 256 ≤ R.slots)
    (kk : ∀ (q1 q4 q7 q10 : Nat) (H : Heap) (locs : List Loc), va_P (dC, dI) CL ((h0, .inr (12, ((((F.set 142 (.ref q1)).set 143 (.ref q4)).set 144 (.ref q7)).set 145 (.ref q10)))) :: ((((T ++ [(q1, .inl (cI, 64, .inl (fun _ => 0)))]) ++ [(q4, .inl (cI, 64, .inl (fun _ => 0)))]) ++ [(q7, .inl (cI, 64, .inl (fun _ => 0)))]) ++ [(q10, .inl (cI, 64, .inl (fun _ => 0)))])) H → va_D A ((h0, .inr (12, ((((F.set 142 (.ref q1)).set 143 (.ref q4)).set 144 (.ref q7)).set 145 (.ref q10)))) :: ((((T ++ [(q1, .inl (cI, 64, .inl (fun _ => 0)))]) ++ [(q4, .inl (cI, 64, .inl (fun _ => 0)))]) ++ [(q7, .inl (cI, 64, .inl (fun _ => 0)))]) ++ [(q10, .inl (cI, 64, .inl (fun _ => 0)))])) → va_S A H0 H locs → W p l e R s m args below meth c H locs (cells + 4) (slots + 256) Q (F0 m 867 ls [])) :
    W p l e R s m args below meth c H locs cells slots Q (F0 m 835 ls []) := by
  refine lv_aload_n hx hb d_Mod_init_835 rfl (lv_at hl 0 rfl) ?_
  refine lv_bipush (v := 64) hx hb d_Mod_init_836 (by decide) ?_
  refine nw_int (N' := 64) hx hb hT w_1_69 hK hP hD hS hA (by decide) (by decide) (by decide) (by omega) (by omega) d_Mod_init_838 (fun q1 H hP hD hS => ?_)
  have hP : va_P (dC, dI) CL ((h0, .inr (12, F)) :: (T ++ [(q1, .inl (cI, 64, .inl (fun _ => 0)))])) H := hP
  have hD : va_D A ((h0, .inr (12, F)) :: (T ++ [(q1, .inl (cI, 64, .inl (fun _ => 0)))])) := hD
  generalize eT2 : (T ++ [(q1, .inl (cI, 64, .inl (fun _ => 0)))] : va_W) = T2 at hP hD
  refine W.widen (k := cells + 1) (n := slots + 64) (by omega) (by omega) ?_
  refine f_putF (D := (dC, dI)) (ci := 12) (v := .ref q1) (ty := .array .int) (C := R_Mod) (T := F_Mod) (N := 167) hx hb hT in_Mod t_Mod t_Mod_ok n_Mod hown hK hP hD hS 0 rfl rfl 142 (by decide) fr_Mod_142 w_9_78 hin (by decide +kernel) rfl rfl (by rw [hL]; decide) d_Mod_init_840 (fun H locs hP hD hS => ?_)
  have hP : va_P (dC, dI) CL ((h0, .inr (12, (F.set 142 (.ref q1)))) :: T2) H := hP
  have hD : va_D A ((h0, .inr (12, (F.set 142 (.ref q1)))) :: T2) := hD
  generalize eF3 : F.set 142 (.ref q1) = F3 at hP hD
  have hL : F3.length = 167 := by rw [← eF3, List.length_set]; exact hL
  refine lv_aload_n hx hb d_Mod_init_843 rfl (lv_at hl 0 rfl) ?_
  refine lv_bipush (v := 64) hx hb d_Mod_init_844 (by decide) ?_
  refine nw_int (N' := 64) hx hb hT w_1_69 hK hP hD hS hA (by decide) (by decide) (by decide) (by omega) (by omega) d_Mod_init_846 (fun q4 H hP hD hS => ?_)
  have hP : va_P (dC, dI) CL ((h0, .inr (12, F3)) :: (T2 ++ [(q4, .inl (cI, 64, .inl (fun _ => 0)))])) H := hP
  have hD : va_D A ((h0, .inr (12, F3)) :: (T2 ++ [(q4, .inl (cI, 64, .inl (fun _ => 0)))])) := hD
  generalize eT5 : (T2 ++ [(q4, .inl (cI, 64, .inl (fun _ => 0)))] : va_W) = T5 at hP hD
  refine W.widen (k := cells + 2) (n := slots + 128) (by omega) (by omega) ?_
  refine f_putF (D := (dC, dI)) (ci := 12) (v := .ref q4) (ty := .array .int) (C := R_Mod) (T := F_Mod) (N := 167) hx hb hT in_Mod t_Mod t_Mod_ok n_Mod hown hK hP hD hS 0 rfl rfl 143 (by decide) fr_Mod_143 w_9_79 hin (by decide +kernel) rfl rfl (by rw [hL]; decide) d_Mod_init_848 (fun H locs hP hD hS => ?_)
  have hP : va_P (dC, dI) CL ((h0, .inr (12, (F3.set 143 (.ref q4)))) :: T5) H := hP
  have hD : va_D A ((h0, .inr (12, (F3.set 143 (.ref q4)))) :: T5) := hD
  generalize eF6 : F3.set 143 (.ref q4) = F6 at hP hD
  have hL : F6.length = 167 := by rw [← eF6, List.length_set]; exact hL
  refine lv_aload_n hx hb d_Mod_init_851 rfl (lv_at hl 0 rfl) ?_
  refine lv_bipush (v := 64) hx hb d_Mod_init_852 (by decide) ?_
  refine nw_int (N' := 64) hx hb hT w_1_69 hK hP hD hS hA (by decide) (by decide) (by decide) (by omega) (by omega) d_Mod_init_854 (fun q7 H hP hD hS => ?_)
  have hP : va_P (dC, dI) CL ((h0, .inr (12, F6)) :: (T5 ++ [(q7, .inl (cI, 64, .inl (fun _ => 0)))])) H := hP
  have hD : va_D A ((h0, .inr (12, F6)) :: (T5 ++ [(q7, .inl (cI, 64, .inl (fun _ => 0)))])) := hD
  generalize eT8 : (T5 ++ [(q7, .inl (cI, 64, .inl (fun _ => 0)))] : va_W) = T8 at hP hD
  refine W.widen (k := cells + 3) (n := slots + 192) (by omega) (by omega) ?_
  refine f_putF (D := (dC, dI)) (ci := 12) (v := .ref q7) (ty := .array .int) (C := R_Mod) (T := F_Mod) (N := 167) hx hb hT in_Mod t_Mod t_Mod_ok n_Mod hown hK hP hD hS 0 rfl rfl 144 (by decide) fr_Mod_144 w_9_80 hin (by decide +kernel) rfl rfl (by rw [hL]; decide) d_Mod_init_856 (fun H locs hP hD hS => ?_)
  have hP : va_P (dC, dI) CL ((h0, .inr (12, (F6.set 144 (.ref q7)))) :: T8) H := hP
  have hD : va_D A ((h0, .inr (12, (F6.set 144 (.ref q7)))) :: T8) := hD
  generalize eF9 : F6.set 144 (.ref q7) = F9 at hP hD
  have hL : F9.length = 167 := by rw [← eF9, List.length_set]; exact hL
  refine lv_aload_n hx hb d_Mod_init_859 rfl (lv_at hl 0 rfl) ?_
  refine lv_bipush (v := 64) hx hb d_Mod_init_860 (by decide) ?_
  refine nw_int (N' := 64) hx hb hT w_1_69 hK hP hD hS hA (by decide) (by decide) (by decide) (by omega) (by omega) d_Mod_init_862 (fun q10 H hP hD hS => ?_)
  have hP : va_P (dC, dI) CL ((h0, .inr (12, F9)) :: (T8 ++ [(q10, .inl (cI, 64, .inl (fun _ => 0)))])) H := hP
  have hD : va_D A ((h0, .inr (12, F9)) :: (T8 ++ [(q10, .inl (cI, 64, .inl (fun _ => 0)))])) := hD
  generalize eT11 : (T8 ++ [(q10, .inl (cI, 64, .inl (fun _ => 0)))] : va_W) = T11 at hP hD
  refine W.widen (k := cells + 4) (n := slots + 256) (by omega) (by omega) ?_
  refine f_putF (D := (dC, dI)) (ci := 12) (v := .ref q10) (ty := .array .int) (C := R_Mod) (T := F_Mod) (N := 167) hx hb hT in_Mod t_Mod t_Mod_ok n_Mod hown hK hP hD hS 0 rfl rfl 145 (by decide) fr_Mod_145 w_9_81 hin (by decide +kernel) rfl rfl (by rw [hL]; decide) d_Mod_init_864 (fun H locs hP hD hS => ?_)
  have hP : va_P (dC, dI) CL ((h0, .inr (12, (F9.set 145 (.ref q10)))) :: T11) H := hP
  have hD : va_D A ((h0, .inr (12, (F9.set 145 (.ref q10)))) :: T11) := hD
  generalize eF12 : F9.set 145 (.ref q10) = F12 at hP hD
  have hL : F12.length = 167 := by rw [← eF12, List.length_set]; exact hL
  subst eF12
  subst eT11
  subst eF9
  subst eT8
  subst eF6
  subst eT5
  subst eF3
  subst eT2
  exact kk q1 q4 q7 q10 H locs hP hD hS
set_option maxHeartbeats 4000000 in
set_option maxRecDepth 100000 in
theorem seg_Mod_25 {p : Program} {l : Launch} {e : Env} {R : Room} {s : State} {m : MethodId} {args : Array Value} {below : List Frame} {meth : Method} {c : Code} {Q : State → Prop} {dC : Nat → ClassId} {dI : Nat → Nat → Nat} {cI cB cJ cZ : ClassId} {A : Nat → Prop} {H0 : Heap} {H : Heap} {locs : List Loc} {cells slots h0 : Nat} {F : List Value} {T : va_W} {ls : Array Slot}
    (hx : p.tables.exec = Jvm.exec) (hb : c.code = b_Mod_init) (hT : ∀ w ∈ TG, w.before args s = true) (hown : s.vm.findClass R_Mod = some m.cls) (hin : meth.name = "<init>") (hK : va_K (dC, dI) CL (TY cI cB cJ cZ) s) (hA : ∀ q : Nat, H0.size ≤ q → A q)
    (hP : va_P (dC, dI) CL ((h0, .inr (12, F)) :: T) H) (hD : va_D A ((h0, .inr (12, F)) :: T)) (hS : va_S A H0 H locs) (hL : F.length = 167) (hl : lv_has ls 2 [(0, .ref h0)]) (hc1 : cells + 4 ≤ R.cells) (hs1 : slots + 4128 ≤ R.slots)
    (kk : ∀ (q1 q4 q7 q10 : Nat) (H : Heap) (locs : List Loc), va_P (dC, dI) CL ((h0, .inr (12, ((((F.set 146 (.ref q1)).set 147 (.ref q4)).set 148 (.ref q7)).set 149 (.ref q10)))) :: ((((T ++ [(q1, .inl (cI, 64, .inl (fun _ => 0)))]) ++ [(q4, .inl (cI, 64, .inl (fun _ => 0)))]) ++ [(q7, .inl (cI, 2000, .inl (fun _ => 0)))]) ++ [(q10, .inl (cI, 2000, .inl (fun _ => 0)))])) H → va_D A ((h0, .inr (12, ((((F.set 146 (.ref q1)).set 147 (.ref q4)).set 148 (.ref q7)).set 149 (.ref q10)))) :: ((((T ++ [(q1, .inl (cI, 64, .inl (fun _ => 0)))]) ++ [(q4, .inl (cI, 64, .inl (fun _ => 0)))]) ++ [(q7, .inl (cI, 2000, .inl (fun _ => 0)))]) ++ [(q10, .inl (cI, 2000, .inl (fun _ => 0)))])) → va_S A H0 H locs → W p l e R s m args below meth c H locs (cells + 4) (slots + 4128) Q (F0 m 901 ls [])) :
    W p l e R s m args below meth c H locs cells slots Q (F0 m 867 ls []) := by
  refine lv_aload_n hx hb d_Mod_init_867 rfl (lv_at hl 0 rfl) ?_
  refine lv_bipush (v := 64) hx hb d_Mod_init_868 (by decide) ?_
  refine nw_int (N' := 64) hx hb hT w_1_69 hK hP hD hS hA (by decide) (by decide) (by decide) (by omega) (by omega) d_Mod_init_870 (fun q1 H hP hD hS => ?_)
  have hP : va_P (dC, dI) CL ((h0, .inr (12, F)) :: (T ++ [(q1, .inl (cI, 64, .inl (fun _ => 0)))])) H := hP
  have hD : va_D A ((h0, .inr (12, F)) :: (T ++ [(q1, .inl (cI, 64, .inl (fun _ => 0)))])) := hD
  generalize eT2 : (T ++ [(q1, .inl (cI, 64, .inl (fun _ => 0)))] : va_W) = T2 at hP hD
  refine W.widen (k := cells + 1) (n := slots + 64) (by omega) (by omega) ?_
  refine f_putF (D := (dC, dI)) (ci := 12) (v := .ref q1) (ty := .array .int) (C := R_Mod) (T := F_Mod) (N := 167) hx hb hT in_Mod t_Mod t_Mod_ok n_Mod hown hK hP hD hS 0 rfl rfl 146 (by decide) fr_Mod_146 w_9_82 hin (by decide +kernel) rfl rfl (by rw [hL]; decide) d_Mod_init_872 (fun H locs hP hD hS => ?_)
  have hP : va_P (dC, dI) CL ((h0, .inr (12, (F.set 146 (.ref q1)))) :: T2) H := hP
  have hD : va_D A ((h0, .inr (12, (F.set 146 (.ref q1)))) :: T2) := hD
  generalize eF3 : F.set 146 (.ref q1) = F3 at hP hD
  have hL : F3.length = 167 := by rw [← eF3, List.length_set]; exact hL
  refine lv_aload_n hx hb d_Mod_init_875 rfl (lv_at hl 0 rfl) ?_
  refine lv_bipush (v := 64) hx hb d_Mod_init_876 (by decide) ?_
  refine nw_int (N' := 64) hx hb hT w_1_69 hK hP hD hS hA (by decide) (by decide) (by decide) (by omega) (by omega) d_Mod_init_878 (fun q4 H hP hD hS => ?_)
  have hP : va_P (dC, dI) CL ((h0, .inr (12, F3)) :: (T2 ++ [(q4, .inl (cI, 64, .inl (fun _ => 0)))])) H := hP
  have hD : va_D A ((h0, .inr (12, F3)) :: (T2 ++ [(q4, .inl (cI, 64, .inl (fun _ => 0)))])) := hD
  generalize eT5 : (T2 ++ [(q4, .inl (cI, 64, .inl (fun _ => 0)))] : va_W) = T5 at hP hD
  refine W.widen (k := cells + 2) (n := slots + 128) (by omega) (by omega) ?_
  refine f_putF (D := (dC, dI)) (ci := 12) (v := .ref q4) (ty := .array .int) (C := R_Mod) (T := F_Mod) (N := 167) hx hb hT in_Mod t_Mod t_Mod_ok n_Mod hown hK hP hD hS 0 rfl rfl 147 (by decide) fr_Mod_147 w_9_83 hin (by decide +kernel) rfl rfl (by rw [hL]; decide) d_Mod_init_880 (fun H locs hP hD hS => ?_)
  have hP : va_P (dC, dI) CL ((h0, .inr (12, (F3.set 147 (.ref q4)))) :: T5) H := hP
  have hD : va_D A ((h0, .inr (12, (F3.set 147 (.ref q4)))) :: T5) := hD
  generalize eF6 : F3.set 147 (.ref q4) = F6 at hP hD
  have hL : F6.length = 167 := by rw [← eF6, List.length_set]; exact hL
  refine lv_aload_n hx hb d_Mod_init_883 rfl (lv_at hl 0 rfl) ?_
  refine lv_sipush (v := 2000) hx hb d_Mod_init_884 (by decide) ?_
  refine nw_int (N' := 2000) hx hb hT w_1_69 hK hP hD hS hA (by decide) (by decide) (by decide) (by omega) (by omega) d_Mod_init_887 (fun q7 H hP hD hS => ?_)
  have hP : va_P (dC, dI) CL ((h0, .inr (12, F6)) :: (T5 ++ [(q7, .inl (cI, 2000, .inl (fun _ => 0)))])) H := hP
  have hD : va_D A ((h0, .inr (12, F6)) :: (T5 ++ [(q7, .inl (cI, 2000, .inl (fun _ => 0)))])) := hD
  generalize eT8 : (T5 ++ [(q7, .inl (cI, 2000, .inl (fun _ => 0)))] : va_W) = T8 at hP hD
  refine W.widen (k := cells + 3) (n := slots + 2128) (by omega) (by omega) ?_
  refine f_putF (D := (dC, dI)) (ci := 12) (v := .ref q7) (ty := .array .int) (C := R_Mod) (T := F_Mod) (N := 167) hx hb hT in_Mod t_Mod t_Mod_ok n_Mod hown hK hP hD hS 0 rfl rfl 148 (by decide) fr_Mod_148 w_9_84 hin (by decide +kernel) rfl rfl (by rw [hL]; decide) d_Mod_init_889 (fun H locs hP hD hS => ?_)
  have hP : va_P (dC, dI) CL ((h0, .inr (12, (F6.set 148 (.ref q7)))) :: T8) H := hP
  have hD : va_D A ((h0, .inr (12, (F6.set 148 (.ref q7)))) :: T8) := hD
  generalize eF9 : F6.set 148 (.ref q7) = F9 at hP hD
  have hL : F9.length = 167 := by rw [← eF9, List.length_set]; exact hL
  refine lv_aload_n hx hb d_Mod_init_892 rfl (lv_at hl 0 rfl) ?_
  refine lv_sipush (v := 2000) hx hb d_Mod_init_893 (by decide) ?_
  refine nw_int (N' := 2000) hx hb hT w_1_69 hK hP hD hS hA (by decide) (by decide) (by decide) (by omega) (by omega) d_Mod_init_896 (fun q10 H hP hD hS => ?_)
  have hP : va_P (dC, dI) CL ((h0, .inr (12, F9)) :: (T8 ++ [(q10, .inl (cI, 2000, .inl (fun _ => 0)))])) H := hP
  have hD : va_D A ((h0, .inr (12, F9)) :: (T8 ++ [(q10, .inl (cI, 2000, .inl (fun _ => 0)))])) := hD
  generalize eT11 : (T8 ++ [(q10, .inl (cI, 2000, .inl (fun _ => 0)))] : va_W) = T11 at hP hD
  refine W.widen (k := cells + 4) (n := slots + 4128) (by omega) (by omega) ?_
  refine f_putF (D := (dC, dI)) (ci := 12) (v := .ref q10) (ty := .array .int) (C := R_Mod) (T := F_Mod) (N := 167) hx hb hT in_Mod t_Mod t_Mod_ok n_Mod hown hK hP hD hS 0 rfl rfl 149 (by decide) fr_Mod_149 w_9_85 hin (by decide +kernel) rfl rfl (by rw [hL]; decide) d_Mod_init_898 (fun H locs hP hD hS => ?_)
  have hP : va_P (dC, dI) CL ((h0, .inr (12, (F9.set 149 (.ref q10)))) :: T11) H := hP
  have hD : va_D A ((h0, .inr (12, (F9.set 149 (.ref q10)))) :: T11) := hD
  generalize eF12 : F9.set 149 (.ref q10) = F12 at hP hD
  have hL : F12.length = 167 := by rw [← eF12, List.length_set]; exact hL
  subst eF12
  subst eT11
  subst eF9
  subst eT8
  subst eF6
  subst eT5
  subst eF3
  subst eT2
  exact kk q1 q4 q7 q10 H locs hP hD hS
set_option maxHeartbeats 4000000 in
set_option maxRecDepth 100000 in
theorem seg_Mod_26 {p : Program} {l : Launch} {e : Env} {R : Room} {s : State} {m : MethodId} {args : Array Value} {below : List Frame} {meth : Method} {c : Code} {Q : State → Prop} {dC : Nat → ClassId} {dI : Nat → Nat → Nat} {cI cB cJ cZ : ClassId} {A : Nat → Prop} {H0 : Heap} {H : Heap} {locs : List Loc} {cells slots h0 : Nat} {F : List Value} {T : va_W} {ls : Array Slot}
    (hx : p.tables.exec = Jvm.exec) (hb : c.code = b_Mod_init) (hT : ∀ w ∈ TG, w.before args s = true) (hown : s.vm.findClass R_Mod = some m.cls) (hin : meth.name = "<init>") (hK : va_K (dC, dI) CL (TY cI cB cJ cZ) s) (hA : ∀ q : Nat, H0.size ≤ q → A q)
    (hP : va_P (dC, dI) CL ((h0, .inr (12, F)) :: T) H) (hD : va_D A ((h0, .inr (12, F)) :: T)) (hS : va_S A H0 H locs) (hL : F.length = 167) (hl : lv_has ls 2 [(0, .ref h0)]) (hc1 : cells + 4 ≤ R.cells) (hs1 : slots + 17000 ≤ R.slots)
    (kk : ∀ (q1 q4 q7 q10 : Nat) (H : Heap) (locs : List Loc), va_P (dC, dI) CL ((h0, .inr (12, ((((F.set 150 (.ref q1)).set 151 (.ref q4)).set 152 (.ref q7)).set 153 (.ref q10)))) :: ((((T ++ [(q1, .inl (cI, 500, .inl (fun _ => 0)))]) ++ [(q4, .inl (cI, 500, .inl (fun _ => 0)))]) ++ [(q7, .inl (cI, 8000, .inl (fun _ => 0)))]) ++ [(q10, .inl (cI, 8000, .inl (fun _ => 0)))])) H → va_D A ((h0, .inr (12, ((((F.set 150 (.ref q1)).set 151 (.ref q4)).set 152 (.ref q7)).set 153 (.ref q10)))) :: ((((T ++ [(q1, .inl (cI, 500, .inl (fun _ => 0)))]) ++ [(q4, .inl (cI, 500, .inl (fun _ => 0)))]) ++ [(q7, .inl (cI, 8000, .inl (fun _ => 0)))]) ++ [(q10, .inl (cI, 8000, .inl (fun _ => 0)))])) → va_S A H0 H locs → W p l e R s m args below meth c H locs (cells + 4) (slots + 17000) Q (F0 m 937 ls [])) :
    W p l e R s m args below meth c H locs cells slots Q (F0 m 901 ls []) := by
  refine lv_aload_n hx hb d_Mod_init_901 rfl (lv_at hl 0 rfl) ?_
  refine lv_sipush (v := 500) hx hb d_Mod_init_902 (by decide) ?_
  refine nw_int (N' := 500) hx hb hT w_1_69 hK hP hD hS hA (by decide) (by decide) (by decide) (by omega) (by omega) d_Mod_init_905 (fun q1 H hP hD hS => ?_)
  have hP : va_P (dC, dI) CL ((h0, .inr (12, F)) :: (T ++ [(q1, .inl (cI, 500, .inl (fun _ => 0)))])) H := hP
  have hD : va_D A ((h0, .inr (12, F)) :: (T ++ [(q1, .inl (cI, 500, .inl (fun _ => 0)))])) := hD
  generalize eT2 : (T ++ [(q1, .inl (cI, 500, .inl (fun _ => 0)))] : va_W) = T2 at hP hD
  refine W.widen (k := cells + 1) (n := slots + 500) (by omega) (by omega) ?_
  refine f_putF (D := (dC, dI)) (ci := 12) (v := .ref q1) (ty := .array .int) (C := R_Mod) (T := F_Mod) (N := 167) hx hb hT in_Mod t_Mod t_Mod_ok n_Mod hown hK hP hD hS 0 rfl rfl 150 (by decide) fr_Mod_150 w_9_86 hin (by decide +kernel) rfl rfl (by rw [hL]; decide) d_Mod_init_907 (fun H locs hP hD hS => ?_)
  have hP : va_P (dC, dI) CL ((h0, .inr (12, (F.set 150 (.ref q1)))) :: T2) H := hP
  have hD : va_D A ((h0, .inr (12, (F.set 150 (.ref q1)))) :: T2) := hD
  generalize eF3 : F.set 150 (.ref q1) = F3 at hP hD
  have hL : F3.length = 167 := by rw [← eF3, List.length_set]; exact hL
  refine lv_aload_n hx hb d_Mod_init_910 rfl (lv_at hl 0 rfl) ?_
  refine lv_sipush (v := 500) hx hb d_Mod_init_911 (by decide) ?_
  refine nw_int (N' := 500) hx hb hT w_1_69 hK hP hD hS hA (by decide) (by decide) (by decide) (by omega) (by omega) d_Mod_init_914 (fun q4 H hP hD hS => ?_)
  have hP : va_P (dC, dI) CL ((h0, .inr (12, F3)) :: (T2 ++ [(q4, .inl (cI, 500, .inl (fun _ => 0)))])) H := hP
  have hD : va_D A ((h0, .inr (12, F3)) :: (T2 ++ [(q4, .inl (cI, 500, .inl (fun _ => 0)))])) := hD
  generalize eT5 : (T2 ++ [(q4, .inl (cI, 500, .inl (fun _ => 0)))] : va_W) = T5 at hP hD
  refine W.widen (k := cells + 2) (n := slots + 1000) (by omega) (by omega) ?_
  refine f_putF (D := (dC, dI)) (ci := 12) (v := .ref q4) (ty := .array .int) (C := R_Mod) (T := F_Mod) (N := 167) hx hb hT in_Mod t_Mod t_Mod_ok n_Mod hown hK hP hD hS 0 rfl rfl 151 (by decide) fr_Mod_151 w_9_87 hin (by decide +kernel) rfl rfl (by rw [hL]; decide) d_Mod_init_916 (fun H locs hP hD hS => ?_)
  have hP : va_P (dC, dI) CL ((h0, .inr (12, (F3.set 151 (.ref q4)))) :: T5) H := hP
  have hD : va_D A ((h0, .inr (12, (F3.set 151 (.ref q4)))) :: T5) := hD
  generalize eF6 : F3.set 151 (.ref q4) = F6 at hP hD
  have hL : F6.length = 167 := by rw [← eF6, List.length_set]; exact hL
  refine lv_aload_n hx hb d_Mod_init_919 rfl (lv_at hl 0 rfl) ?_
  refine lv_sipush (v := 8000) hx hb d_Mod_init_920 (by decide) ?_
  refine nw_int (N' := 8000) hx hb hT w_1_69 hK hP hD hS hA (by decide) (by decide) (by decide) (by omega) (by omega) d_Mod_init_923 (fun q7 H hP hD hS => ?_)
  have hP : va_P (dC, dI) CL ((h0, .inr (12, F6)) :: (T5 ++ [(q7, .inl (cI, 8000, .inl (fun _ => 0)))])) H := hP
  have hD : va_D A ((h0, .inr (12, F6)) :: (T5 ++ [(q7, .inl (cI, 8000, .inl (fun _ => 0)))])) := hD
  generalize eT8 : (T5 ++ [(q7, .inl (cI, 8000, .inl (fun _ => 0)))] : va_W) = T8 at hP hD
  refine W.widen (k := cells + 3) (n := slots + 9000) (by omega) (by omega) ?_
  refine f_putF (D := (dC, dI)) (ci := 12) (v := .ref q7) (ty := .array .int) (C := R_Mod) (T := F_Mod) (N := 167) hx hb hT in_Mod t_Mod t_Mod_ok n_Mod hown hK hP hD hS 0 rfl rfl 152 (by decide) fr_Mod_152 w_9_88 hin (by decide +kernel) rfl rfl (by rw [hL]; decide) d_Mod_init_925 (fun H locs hP hD hS => ?_)
  have hP : va_P (dC, dI) CL ((h0, .inr (12, (F6.set 152 (.ref q7)))) :: T8) H := hP
  have hD : va_D A ((h0, .inr (12, (F6.set 152 (.ref q7)))) :: T8) := hD
  generalize eF9 : F6.set 152 (.ref q7) = F9 at hP hD
  have hL : F9.length = 167 := by rw [← eF9, List.length_set]; exact hL
  refine lv_aload_n hx hb d_Mod_init_928 rfl (lv_at hl 0 rfl) ?_
  refine lv_sipush (v := 8000) hx hb d_Mod_init_929 (by decide) ?_
  refine nw_int (N' := 8000) hx hb hT w_1_69 hK hP hD hS hA (by decide) (by decide) (by decide) (by omega) (by omega) d_Mod_init_932 (fun q10 H hP hD hS => ?_)
  have hP : va_P (dC, dI) CL ((h0, .inr (12, F9)) :: (T8 ++ [(q10, .inl (cI, 8000, .inl (fun _ => 0)))])) H := hP
  have hD : va_D A ((h0, .inr (12, F9)) :: (T8 ++ [(q10, .inl (cI, 8000, .inl (fun _ => 0)))])) := hD
  generalize eT11 : (T8 ++ [(q10, .inl (cI, 8000, .inl (fun _ => 0)))] : va_W) = T11 at hP hD
  refine W.widen (k := cells + 4) (n := slots + 17000) (by omega) (by omega) ?_
  refine f_putF (D := (dC, dI)) (ci := 12) (v := .ref q10) (ty := .array .int) (C := R_Mod) (T := F_Mod) (N := 167) hx hb hT in_Mod t_Mod t_Mod_ok n_Mod hown hK hP hD hS 0 rfl rfl 153 (by decide) fr_Mod_153 w_9_89 hin (by decide +kernel) rfl rfl (by rw [hL]; decide) d_Mod_init_934 (fun H locs hP hD hS => ?_)
  have hP : va_P (dC, dI) CL ((h0, .inr (12, (F9.set 153 (.ref q10)))) :: T11) H := hP
  have hD : va_D A ((h0, .inr (12, (F9.set 153 (.ref q10)))) :: T11) := hD
  generalize eF12 : F9.set 153 (.ref q10) = F12 at hP hD
  have hL : F12.length = 167 := by rw [← eF12, List.length_set]; exact hL
  subst eF12
  subst eT11
  subst eF9
  subst eT8
  subst eF6
  subst eT5
  subst eF3
  subst eT2
  exact kk q1 q4 q7 q10 H locs hP hD hS
set_option maxHeartbeats 4000000 in
set_option maxRecDepth 100000 in
theorem seg_Mod_27 {p : Program} {l : Launch} {e : Env} {R : Room} {s : State} {m : MethodId} {args : Array Value} {below : List Frame} {meth : Method} {c : Code} {Q : State → Prop} {dC : Nat → ClassId} {dI : Nat → Nat → Nat} {cI cB cJ cZ : ClassId} {A : Nat → Prop} {H0 : Heap} {H : Heap} {locs : List Loc} {cells slots h0 : Nat} {F : List Value} {T : va_W} {ls : Array Slot}
    (hx : p.tables.exec = Jvm.exec) (hb : c.code = b_Mod_init) (hT : ∀ w ∈ TG, w.before args s = true) (hown : s.vm.findClass R_Mod = some m.cls) (hin : meth.name = "<init>") (hK : va_K (dC, dI) CL (TY cI cB cJ cZ) s) (hA : ∀ q : Nat, H0.size ≤ q → A q)
    (hP : va_P (dC, dI) CL ((h0, .inr (12, F)) :: T) H) (hD : va_D A ((h0, .inr (12, F)) :: T)) (hS : va_S A H0 H locs) (hL : F.length = 167) (hl : lv_has ls 2 [(0, .ref h0)]) (hc1 : cells + 4 ≤ R.cells) (hs1 : slots + 17000 ≤ R.slots)
    (kk : ∀ (q1 q4 q7 q10 : Nat) (H : Heap) (locs : List Loc), va_P (dC, dI) CL ((h0, .inr (12, ((((F.set 154 (.ref q1)).set 155 (.ref q4)).set 156 (.ref q7)).set 157 (.ref q10)))) :: ((((T ++ [(q1, .inl (cI, 500, .inl (fun _ => 0)))]) ++ [(q4, .inl (cI, 500, .inl (fun _ => 0)))]) ++ [(q7, .inl (cI, 8000, .inl (fun _ => 0)))]) ++ [(q10, .inl (cI, 8000, .inl (fun _ => 0)))])) H → va_D A ((h0, .inr (12, ((((F.set 154 (.ref q1)).set 155 (.ref q4)).set 156 (.ref q7)).set 157 (.ref q10)))) :: ((((T ++ [(q1, .inl (cI, 500, .inl (fun _ => 0)))]) ++ [(q4, .inl (cI, 500, .inl (fun _ => 0)))]) ++ [(q7, .inl (cI, 8000, .inl (fun _ => 0)))]) ++ [(q10, .inl (cI, 8000, .inl (fun _ => 0)))])) → va_S A H0 H locs → W p l e R s m args below meth c H locs (cells + 4) (slots + 17000) Q (F0 m 973 ls [])) :
    W p l e R s m args below meth c H locs cells slots Q (F0 m 937 ls []) := by
  refine lv_aload_n hx hb d_Mod_init_937 rfl (lv_at hl 0 rfl) ?_
  refine lv_sipush (v := 500) hx hb d_Mod_init_938 (by decide) ?_
  refine nw_int (N' := 500) hx hb hT w_1_69 hK hP hD hS hA (by decide) (by decide) (by decide) (by omega) (by omega) d_Mod_init_941 (fun q1 H hP hD hS => ?_)
  have hP : va_P (dC, dI) CL ((h0, .inr (12, F)) :: (T ++ [(q1, .inl (cI, 500, .inl (fun _ => 0)))])) H := hP
  have hD : va_D A ((h0, .inr (12, F)) :: (T ++ [(q1, .inl (cI, 500, .inl (fun _ => 0)))])) := hD
  generalize eT2 : (T ++ [(q1, .inl (cI, 500, .inl (fun _ => 0)))] : va_W) = T2 at hP hD
  refine W.widen (k := cells + 1) (n := slots + 500) (by omega) (by omega) ?_
  refine f_putF (D := (dC, dI)) (ci := 12) (v := .ref q1) (ty := .array .int) (C := R_Mod) (T := F_Mod) (N := 167) hx hb hT in_Mod t_Mod t_Mod_ok n_Mod hown hK hP hD hS 0 rfl rfl 154 (by decide) fr_Mod_154 w_9_90 hin (by decide +kernel) rfl rfl (by rw [hL]; decide) d_Mod_init_943 (fun H locs hP hD hS => ?_)
  have hP : va_P (dC, dI) CL ((h0, .inr (12, (F.set 154 (.ref q1)))) :: T2) H := hP
  have hD : va_D A ((h0, .inr (12, (F.set 154 (.ref q1)))) :: T2) := hD
  generalize eF3 : F.set 154 (.ref q1) = F3 at hP hD
  have hL : F3.length = 167 := by rw [← eF3, List.length_set]; exact hL
  refine lv_aload_n hx hb d_Mod_init_946 rfl (lv_at hl 0 rfl) ?_
  refine lv_sipush (v := 500) hx hb d_Mod_init_947 (by decide) ?_
  refine nw_int (N' := 500) hx hb hT w_1_69 hK hP hD hS hA (by decide) (by decide) (by decide) (by omega) (by omega) d_Mod_init_950 (fun q4 H hP hD hS => ?_)
  have hP : va_P (dC, dI) CL ((h0, .inr (12, F3)) :: (T2 ++ [(q4, .inl (cI, 500, .inl (fun _ => 0)))])) H := hP
  have hD : va_D A ((h0, .inr (12, F3)) :: (T2 ++ [(q4, .inl (cI, 500, .inl (fun _ => 0)))])) := hD
  generalize eT5 : (T2 ++ [(q4, .inl (cI, 500, .inl (fun _ => 0)))] : va_W) = T5 at hP hD
  refine W.widen (k := cells + 2) (n := slots + 1000) (by omega) (by omega) ?_
  refine f_putF (D := (dC, dI)) (ci := 12) (v := .ref q4) (ty := .array .int) (C := R_Mod) (T := F_Mod) (N := 167) hx hb hT in_Mod t_Mod t_Mod_ok n_Mod hown hK hP hD hS 0 rfl rfl 155 (by decide) fr_Mod_155 w_9_91 hin (by decide +kernel) rfl rfl (by rw [hL]; decide) d_Mod_init_952 (fun H locs hP hD hS => ?_)
  have hP : va_P (dC, dI) CL ((h0, .inr (12, (F3.set 155 (.ref q4)))) :: T5) H := hP
  have hD : va_D A ((h0, .inr (12, (F3.set 155 (.ref q4)))) :: T5) := hD
  generalize eF6 : F3.set 155 (.ref q4) = F6 at hP hD
  have hL : F6.length = 167 := by rw [← eF6, List.length_set]; exact hL
  refine lv_aload_n hx hb d_Mod_init_955 rfl (lv_at hl 0 rfl) ?_
  refine lv_sipush (v := 8000) hx hb d_Mod_init_956 (by decide) ?_
  refine nw_int (N' := 8000) hx hb hT w_1_69 hK hP hD hS hA (by decide) (by decide) (by decide) (by omega) (by omega) d_Mod_init_959 (fun q7 H hP hD hS => ?_)
  have hP : va_P (dC, dI) CL ((h0, .inr (12, F6)) :: (T5 ++ [(q7, .inl (cI, 8000, .inl (fun _ => 0)))])) H := hP
  have hD : va_D A ((h0, .inr (12, F6)) :: (T5 ++ [(q7, .inl (cI, 8000, .inl (fun _ => 0)))])) := hD
  generalize eT8 : (T5 ++ [(q7, .inl (cI, 8000, .inl (fun _ => 0)))] : va_W) = T8 at hP hD
  refine W.widen (k := cells + 3) (n := slots + 9000) (by omega) (by omega) ?_
  refine f_putF (D := (dC, dI)) (ci := 12) (v := .ref q7) (ty := .array .int) (C := R_Mod) (T := F_Mod) (N := 167) hx hb hT in_Mod t_Mod t_Mod_ok n_Mod hown hK hP hD hS 0 rfl rfl 156 (by decide) fr_Mod_156 w_9_92 hin (by decide +kernel) rfl rfl (by rw [hL]; decide) d_Mod_init_961 (fun H locs hP hD hS => ?_)
  have hP : va_P (dC, dI) CL ((h0, .inr (12, (F6.set 156 (.ref q7)))) :: T8) H := hP
  have hD : va_D A ((h0, .inr (12, (F6.set 156 (.ref q7)))) :: T8) := hD
  generalize eF9 : F6.set 156 (.ref q7) = F9 at hP hD
  have hL : F9.length = 167 := by rw [← eF9, List.length_set]; exact hL
  refine lv_aload_n hx hb d_Mod_init_964 rfl (lv_at hl 0 rfl) ?_
  refine lv_sipush (v := 8000) hx hb d_Mod_init_965 (by decide) ?_
  refine nw_int (N' := 8000) hx hb hT w_1_69 hK hP hD hS hA (by decide) (by decide) (by decide) (by omega) (by omega) d_Mod_init_968 (fun q10 H hP hD hS => ?_)
  have hP : va_P (dC, dI) CL ((h0, .inr (12, F9)) :: (T8 ++ [(q10, .inl (cI, 8000, .inl (fun _ => 0)))])) H := hP
  have hD : va_D A ((h0, .inr (12, F9)) :: (T8 ++ [(q10, .inl (cI, 8000, .inl (fun _ => 0)))])) := hD
  generalize eT11 : (T8 ++ [(q10, .inl (cI, 8000, .inl (fun _ => 0)))] : va_W) = T11 at hP hD
  refine W.widen (k := cells + 4) (n := slots + 17000) (by omega) (by omega) ?_
  refine f_putF (D := (dC, dI)) (ci := 12) (v := .ref q10) (ty := .array .int) (C := R_Mod) (T := F_Mod) (N := 167) hx hb hT in_Mod t_Mod t_Mod_ok n_Mod hown hK hP hD hS 0 rfl rfl 157 (by decide) fr_Mod_157 w_9_93 hin (by decide +kernel) rfl rfl (by rw [hL]; decide) d_Mod_init_970 (fun H locs hP hD hS => ?_)
  have hP : va_P (dC, dI) CL ((h0, .inr (12, (F9.set 157 (.ref q10)))) :: T11) H := hP
  have hD : va_D A ((h0, .inr (12, (F9.set 157 (.ref q10)))) :: T11) := hD
  generalize eF12 : F9.set 157 (.ref q10) = F12 at hP hD
  have hL : F12.length = 167 := by rw [← eF12, List.length_set]; exact hL
  subst eF12
  subst eT11
  subst eF9
  subst eT8
  subst eF6
  subst eT5
  subst eF3
  subst eT2
  exact kk q1 q4 q7 q10 H locs hP hD hS
set_option maxHeartbeats 4000000 in
set_option maxRecDepth 100000 in
theorem seg_Mod_28 {p : Program} {l : Launch} {e : Env} {R : Room} {s : State} {m : MethodId} {args : Array Value} {below : List Frame} {meth : Method} {c : Code} {Q : State → Prop} {dC : Nat → ClassId} {dI : Nat → Nat → Nat} {cI cB cJ cZ : ClassId} {A : Nat → Prop} {H0 : Heap} {H : Heap} {locs : List Loc} {cells slots h0 : Nat} {F : List Value} {T : va_W} {ls : Array Slot}
    (hx : p.tables.exec = Jvm.exec) (hb : c.code = b_Mod_init) (hT : ∀ w ∈ TG, w.before args s = true) (hown : s.vm.findClass R_Mod = some m.cls) (hin : meth.name = "<init>") (hK : va_K (dC, dI) CL (TY cI cB cJ cZ) s) (hA : ∀ q : Nat, H0.size ≤ q → A q)
    (hP : va_P (dC, dI) CL ((h0, .inr (12, F)) :: T) H) (hD : va_D A ((h0, .inr (12, F)) :: T)) (hS : va_S A H0 H locs) (hL : F.length = 167) (hl : lv_has ls 2 [(0, .ref h0)]) (hc1 : cells + 2 ≤ R.cells) (hs1 : slots + 16000 ≤ R.slots)
    (kk : ∀ (q1 q4 : Nat) (H : Heap) (locs : List Loc), va_P (dC, dI) CL ((h0, .inr (12, ((F.set 158 (.ref q1)).set 159 (.ref q4)))) :: ((T ++ [(q1, .inl (cJ, 8000, .inr (.inl (fun _ => 0))))]) ++ [(q4, .inl (cJ, 8000, .inr (.inl (fun _ => 0))))])) H → va_D A ((h0, .inr (12, ((F.set 158 (.ref q1)).set 159 (.ref q4)))) :: ((T ++ [(q1, .inl (cJ, 8000, .inr (.inl (fun _ => 0))))]) ++ [(q4, .inl (cJ, 8000, .inr (.inl (fun _ => 0))))])) → va_S A H0 H locs → W p l e R s m args below meth c H locs (cells + 2) (slots + 16000) Q (F0 m 991 ls [])) :
    W p l e R s m args below meth c H locs cells slots Q (F0 m 973 ls []) := by
  refine lv_aload_n hx hb d_Mod_init_973 rfl (lv_at hl 0 rfl) ?_
  refine lv_sipush (v := 8000) hx hb d_Mod_init_974 (by decide) ?_
  refine nw_long (N' := 8000) hx hb hT w_2_41 hK hP hD hS hA (by decide) (by decide) (by decide) (by omega) (by omega) d_Mod_init_977 (fun q1 H hP hD hS => ?_)
  have hP : va_P (dC, dI) CL ((h0, .inr (12, F)) :: (T ++ [(q1, .inl (cJ, 8000, .inr (.inl (fun _ => 0))))])) H := hP
  have hD : va_D A ((h0, .inr (12, F)) :: (T ++ [(q1, .inl (cJ, 8000, .inr (.inl (fun _ => 0))))])) := hD
  generalize eT2 : (T ++ [(q1, .inl (cJ, 8000, .inr (.inl (fun _ => 0))))] : va_W) = T2 at hP hD
  refine W.widen (k := cells + 1) (n := slots + 8000) (by omega) (by omega) ?_
  refine f_putF (D := (dC, dI)) (ci := 12) (v := .ref q1) (ty := .array .long) (C := R_Mod) (T := F_Mod) (N := 167) hx hb hT in_Mod t_Mod t_Mod_ok n_Mod hown hK hP hD hS 0 rfl rfl 158 (by decide) fr_Mod_158 w_9_94 hin (by decide +kernel) rfl rfl (by rw [hL]; decide) d_Mod_init_979 (fun H locs hP hD hS => ?_)
  have hP : va_P (dC, dI) CL ((h0, .inr (12, (F.set 158 (.ref q1)))) :: T2) H := hP
  have hD : va_D A ((h0, .inr (12, (F.set 158 (.ref q1)))) :: T2) := hD
  generalize eF3 : F.set 158 (.ref q1) = F3 at hP hD
  have hL : F3.length = 167 := by rw [← eF3, List.length_set]; exact hL
  refine lv_aload_n hx hb d_Mod_init_982 rfl (lv_at hl 0 rfl) ?_
  refine lv_sipush (v := 8000) hx hb d_Mod_init_983 (by decide) ?_
  refine nw_long (N' := 8000) hx hb hT w_2_41 hK hP hD hS hA (by decide) (by decide) (by decide) (by omega) (by omega) d_Mod_init_986 (fun q4 H hP hD hS => ?_)
  have hP : va_P (dC, dI) CL ((h0, .inr (12, F3)) :: (T2 ++ [(q4, .inl (cJ, 8000, .inr (.inl (fun _ => 0))))])) H := hP
  have hD : va_D A ((h0, .inr (12, F3)) :: (T2 ++ [(q4, .inl (cJ, 8000, .inr (.inl (fun _ => 0))))])) := hD
  generalize eT5 : (T2 ++ [(q4, .inl (cJ, 8000, .inr (.inl (fun _ => 0))))] : va_W) = T5 at hP hD
  refine W.widen (k := cells + 2) (n := slots + 16000) (by omega) (by omega) ?_
  refine f_putF (D := (dC, dI)) (ci := 12) (v := .ref q4) (ty := .array .long) (C := R_Mod) (T := F_Mod) (N := 167) hx hb hT in_Mod t_Mod t_Mod_ok n_Mod hown hK hP hD hS 0 rfl rfl 159 (by decide) fr_Mod_159 w_9_95 hin (by decide +kernel) rfl rfl (by rw [hL]; decide) d_Mod_init_988 (fun H locs hP hD hS => ?_)
  have hP : va_P (dC, dI) CL ((h0, .inr (12, (F3.set 159 (.ref q4)))) :: T5) H := hP
  have hD : va_D A ((h0, .inr (12, (F3.set 159 (.ref q4)))) :: T5) := hD
  generalize eF6 : F3.set 159 (.ref q4) = F6 at hP hD
  have hL : F6.length = 167 := by rw [← eF6, List.length_set]; exact hL
  subst eF6
  subst eT5
  subst eF3
  subst eT2
  exact kk q1 q4 H locs hP hD hS
end
