

section
variable (l : Launch) (dC : Nat → ClassId) (dI : Nat → Nat → Nat) (cI cB cJ cZ : ClassId)
set_option maxHeartbeats 4000000 in
set_option maxRecDepth 100000 in
theorem seg_Mod_0 {p : Program} {l : Launch} {e : Env} {R : Room} {s : State} {m : MethodId} {args : Array Value} {below : List Frame} {meth : Method} {c : Code} {Q : State → Prop} {dC : Nat → ClassId} {dI : Nat → Nat → Nat} {cI cB cJ cZ : ClassId} {A : Nat → Prop} {H0 : Heap} {H : Heap} {locs : List Loc} {cells slots h0 : Nat} {F : List Value} {T : va_W} {ls : Array Slot}
    (hx : p.tables.exec = Jvm.exec) (hb : c.code = b_Mod_init) (hT : ∀ w ∈ TG, w.before args s = true) (hown : s.vm.findClass R_Mod = some m.cls) (hin : meth.name = "<init>") (hK : va_K (dC, dI) CL (TY cI cB cJ cZ) s) (hA : ∀ q : Nat, H0.size ≤ q → A q)
    (hP : va_P (dC, dI) CL ((h0, .inr (12, F)) :: T) H) (hD : va_D A ((h0, .inr (12, F)) :: T)) (hS : va_S A H0 H locs) (hL : F.length = 167) (hl : lv_has ls 2 [(0, .ref h0)]) (hc1 : cells + 12 ≤ R.cells) (hs1 : slots + 92362 ≤ R.slots)
    (kk : ∀ (q1 q4 q7 q10 q13 q16 q19 q22 q25 q28 q31 q34 : Nat) (H : Heap) (locs : List Loc), va_P (dC, dI) CL ((h0, .inr (12, ((((((((((((F.set 1 (.ref q1)).set 2 (.ref q4)).set 5 (.ref q7)).set 6 (.ref q10)).set 7 (.ref q13)).set 8 (.ref q16)).set 9 (.ref q19)).set 10 (.ref q22)).set 11 (.ref q25)).set 12 (.ref q28)).set 13 (.ref q31)).set 18 (.ref q34)))) :: ((((((((((((T ++ [(q1, .inl (cI, 40000, .inl (fun _ => 0)))]) ++ [(q4, .inl (cI, 40000, .inl (fun _ => 0)))]) ++ [(q7, .inl (cI, 384, .inl (fun _ => 0)))]) ++ [(q10, .inl (cI, 384, .inl (fun _ => 0)))]) ++ [(q13, .inl (cI, 384, .inl (fun _ => 0)))]) ++ [(q16, .inl (cI, 384, .inl (fun _ => 0)))]) ++ [(q19, .inl (cI, 384, .inl (fun _ => 0)))]) ++ [(q22, .inl (cI, 6144, .inl (fun _ => 0)))]) ++ [(q25, .inl (cI, 3, .inl (fun _ => 0)))]) ++ [(q28, .inl (cI, 3, .inl (fun _ => 0)))]) ++ [(q31, .inl (cI, 192, .inl (fun _ => 0)))]) ++ [(q34, .inl (cI, 4100, .inl (fun _ => 0)))])) H → va_D A ((h0, .inr (12, ((((((((((((F.set 1 (.ref q1)).set 2 (.ref q4)).set 5 (.ref q7)).set 6 (.ref q10)).set 7 (.ref q13)).set 8 (.ref q16)).set 9 (.ref q19)).set 10 (.ref q22)).set 11 (.ref q25)).set 12 (.ref q28)).set 13 (.ref q31)).set 18 (.ref q34)))) :: ((((((((((((T ++ [(q1, .inl (cI, 40000, .inl (fun _ => 0)))]) ++ [(q4, .inl (cI, 40000, .inl (fun _ => 0)))]) ++ [(q7, .inl (cI, 384, .inl (fun _ => 0)))]) ++ [(q10, .inl (cI, 384, .inl (fun _ => 0)))]) ++ [(q13, .inl (cI, 384, .inl (fun _ => 0)))]) ++ [(q16, .inl (cI, 384, .inl (fun _ => 0)))]) ++ [(q19, .inl (cI, 384, .inl (fun _ => 0)))]) ++ [(q22, .inl (cI, 6144, .inl (fun _ => 0)))]) ++ [(q25, .inl (cI, 3, .inl (fun _ => 0)))]) ++ [(q28, .inl (cI, 3, .inl (fun _ => 0)))]) ++ [(q31, .inl (cI, 192, .inl (fun _ => 0)))]) ++ [(q34, .inl (cI, 4100, .inl (fun _ => 0)))])) → va_S A H0 H locs → W p l e R s m args below meth c H locs (cells + 12) (slots + 92362) Q (F0 m 106 ls [])) :
    W p l e R s m args below meth c H locs cells slots Q (F0 m 4 ls []) := by
  refine lv_aload_n hx hb d_Mod_init_4 rfl (lv_at hl 0 rfl) ?_
  refine lv_ldc hx hb hown (hT _ w_8_175) d_Mod_init_5 ?_
  refine nw_int (N' := 40000) hx hb hT w_1_69 hK hP hD hS hA (by decide) (by decide) (by decide) (by omega) (by omega) d_Mod_init_7 (fun q1 H hP hD hS => ?_)
  have hP : va_P (dC, dI) CL ((h0, .inr (12, F)) :: (T ++ [(q1, .inl (cI, 40000, .inl (fun _ => 0)))])) H := hP
  have hD : va_D A ((h0, .inr (12, F)) :: (T ++ [(q1, .inl (cI, 40000, .inl (fun _ => 0)))])) := hD
  generalize eT2 : (T ++ [(q1, .inl (cI, 40000, .inl (fun _ => 0)))] : va_W) = T2 at hP hD
  refine W.widen (k := cells + 1) (n := slots + 40000) (by omega) (by omega) ?_
  refine f_putF (D := (dC, dI)) (ci := 12) (v := .ref q1) (ty := .array .int) (C := R_Mod) (T := F_Mod) (N := 167) hx hb hT in_Mod t_Mod t_Mod_ok n_Mod hown hK hP hD hS 0 rfl rfl 1 (by decide) fr_Mod_1 w_8_181 hin (by decide +kernel) rfl rfl (by rw [hL]; decide) d_Mod_init_9 (fun H locs hP hD hS => ?_)
  have hP : va_P (dC, dI) CL ((h0, .inr (12, (F.set 1 (.ref q1)))) :: T2) H := hP
  have hD : va_D A ((h0, .inr (12, (F.set 1 (.ref q1)))) :: T2) := hD
  generalize eF3 : F.set 1 (.ref q1) = F3 at hP hD
  have hL : F3.length = 167 := by rw [← eF3, List.length_set]; exact hL
  refine lv_aload_n hx hb d_Mod_init_12 rfl (lv_at hl 0 rfl) ?_
  refine lv_ldc hx hb hown (hT _ w_8_175) d_Mod_init_13 ?_
  refine nw_int (N' := 40000) hx hb hT w_1_69 hK hP hD hS hA (by decide) (by decide) (by decide) (by omega) (by omega) d_Mod_init_15 (fun q4 H hP hD hS => ?_)
  have hP : va_P (dC, dI) CL ((h0, .inr (12, F3)) :: (T2 ++ [(q4, .inl (cI, 40000, .inl (fun _ => 0)))])) H := hP
  have hD : va_D A ((h0, .inr (12, F3)) :: (T2 ++ [(q4, .inl (cI, 40000, .inl (fun _ => 0)))])) := hD
  generalize eT5 : (T2 ++ [(q4, .inl (cI, 40000, .inl (fun _ => 0)))] : va_W) = T5 at hP hD
  refine W.widen (k := cells + 2) (n := slots + 80000) (by omega) (by omega) ?_
  refine f_putF (D := (dC, dI)) (ci := 12) (v := .ref q4) (ty := .array .int) (C := R_Mod) (T := F_Mod) (N := 167) hx hb hT in_Mod t_Mod t_Mod_ok n_Mod hown hK hP hD hS 0 rfl rfl 2 (by decide) fr_Mod_2 w_8_182 hin (by decide +kernel) rfl rfl (by rw [hL]; decide) d_Mod_init_17 (fun H locs hP hD hS => ?_)
  have hP : va_P (dC, dI) CL ((h0, .inr (12, (F3.set 2 (.ref q4)))) :: T5) H := hP
  have hD : va_D A ((h0, .inr (12, (F3.set 2 (.ref q4)))) :: T5) := hD
  generalize eF6 : F3.set 2 (.ref q4) = F6 at hP hD
  have hL : F6.length = 167 := by rw [← eF6, List.length_set]; exact hL
  refine lv_aload_n hx hb d_Mod_init_20 rfl (lv_at hl 0 rfl) ?_
  refine lv_sipush (v := 384) hx hb d_Mod_init_21 (by decide) ?_
  refine nw_int (N' := 384) hx hb hT w_1_69 hK hP hD hS hA (by decide) (by decide) (by decide) (by omega) (by omega) d_Mod_init_24 (fun q7 H hP hD hS => ?_)
  have hP : va_P (dC, dI) CL ((h0, .inr (12, F6)) :: (T5 ++ [(q7, .inl (cI, 384, .inl (fun _ => 0)))])) H := hP
  have hD : va_D A ((h0, .inr (12, F6)) :: (T5 ++ [(q7, .inl (cI, 384, .inl (fun _ => 0)))])) := hD
  generalize eT8 : (T5 ++ [(q7, .inl (cI, 384, .inl (fun _ => 0)))] : va_W) = T8 at hP hD
  refine W.widen (k := cells + 3) (n := slots + 80384) (by omega) (by omega) ?_
  refine f_putF (D := (dC, dI)) (ci := 12) (v := .ref q7) (ty := .array .int) (C := R_Mod) (T := F_Mod) (N := 167) hx hb hT in_Mod t_Mod t_Mod_ok n_Mod hown hK hP hD hS 0 rfl rfl 5 (by decide) fr_Mod_5 w_8_185 hin (by decide +kernel) rfl rfl (by rw [hL]; decide) d_Mod_init_26 (fun H locs hP hD hS => ?_)
  have hP : va_P (dC, dI) CL ((h0, .inr (12, (F6.set 5 (.ref q7)))) :: T8) H := hP
  have hD : va_D A ((h0, .inr (12, (F6.set 5 (.ref q7)))) :: T8) := hD
  generalize eF9 : F6.set 5 (.ref q7) = F9 at hP hD
  have hL : F9.length = 167 := by rw [← eF9, List.length_set]; exact hL
  refine lv_aload_n hx hb d_Mod_init_29 rfl (lv_at hl 0 rfl) ?_
  refine lv_sipush (v := 384) hx hb d_Mod_init_30 (by decide) ?_
  refine nw_int (N' := 384) hx hb hT w_1_69 hK hP hD hS hA (by decide) (by decide) (by decide) (by omega) (by omega) d_Mod_init_33 (fun q10 H hP hD hS => ?_)
  have hP : va_P (dC, dI) CL ((h0, .inr (12, F9)) :: (T8 ++ [(q10, .inl (cI, 384, .inl (fun _ => 0)))])) H := hP
  have hD : va_D A ((h0, .inr (12, F9)) :: (T8 ++ [(q10, .inl (cI, 384, .inl (fun _ => 0)))])) := hD
  generalize eT11 : (T8 ++ [(q10, .inl (cI, 384, .inl (fun _ => 0)))] : va_W) = T11 at hP hD
  refine W.widen (k := cells + 4) (n := slots + 80768) (by omega) (by omega) ?_
  refine f_putF (D := (dC, dI)) (ci := 12) (v := .ref q10) (ty := .array .int) (C := R_Mod) (T := F_Mod) (N := 167) hx hb hT in_Mod t_Mod t_Mod_ok n_Mod hown hK hP hD hS 0 rfl rfl 6 (by decide) fr_Mod_6 w_8_186 hin (by decide +kernel) rfl rfl (by rw [hL]; decide) d_Mod_init_35 (fun H locs hP hD hS => ?_)
  have hP : va_P (dC, dI) CL ((h0, .inr (12, (F9.set 6 (.ref q10)))) :: T11) H := hP
  have hD : va_D A ((h0, .inr (12, (F9.set 6 (.ref q10)))) :: T11) := hD
  generalize eF12 : F9.set 6 (.ref q10) = F12 at hP hD
  have hL : F12.length = 167 := by rw [← eF12, List.length_set]; exact hL
  refine lv_aload_n hx hb d_Mod_init_38 rfl (lv_at hl 0 rfl) ?_
  refine lv_sipush (v := 384) hx hb d_Mod_init_39 (by decide) ?_
  refine nw_int (N' := 384) hx hb hT w_1_69 hK hP hD hS hA (by decide) (by decide) (by decide) (by omega) (by omega) d_Mod_init_42 (fun q13 H hP hD hS => ?_)
  have hP : va_P (dC, dI) CL ((h0, .inr (12, F12)) :: (T11 ++ [(q13, .inl (cI, 384, .inl (fun _ => 0)))])) H := hP
  have hD : va_D A ((h0, .inr (12, F12)) :: (T11 ++ [(q13, .inl (cI, 384, .inl (fun _ => 0)))])) := hD
  generalize eT14 : (T11 ++ [(q13, .inl (cI, 384, .inl (fun _ => 0)))] : va_W) = T14 at hP hD
  refine W.widen (k := cells + 5) (n := slots + 81152) (by omega) (by omega) ?_
  refine f_putF (D := (dC, dI)) (ci := 12) (v := .ref q13) (ty := .array .int) (C := R_Mod) (T := F_Mod) (N := 167) hx hb hT in_Mod t_Mod t_Mod_ok n_Mod hown hK hP hD hS 0 rfl rfl 7 (by decide) fr_Mod_7 w_8_187 hin (by decide +kernel) rfl rfl (by rw [hL]; decide) d_Mod_init_44 (fun H locs hP hD hS => ?_)
  have hP : va_P (dC, dI) CL ((h0, .inr (12, (F12.set 7 (.ref q13)))) :: T14) H := hP
  have hD : va_D A ((h0, .inr (12, (F12.set 7 (.ref q13)))) :: T14) := hD
  generalize eF15 : F12.set 7 (.ref q13) = F15 at hP hD
  have hL : F15.length = 167 := by rw [← eF15, List.length_set]; exact hL
  refine lv_aload_n hx hb d_Mod_init_47 rfl (lv_at hl 0 rfl) ?_
  refine lv_sipush (v := 384) hx hb d_Mod_init_48 (by decide) ?_
  refine nw_int (N' := 384) hx hb hT w_1_69 hK hP hD hS hA (by decide) (by decide) (by decide) (by omega) (by omega) d_Mod_init_51 (fun q16 H hP hD hS => ?_)
  have hP : va_P (dC, dI) CL ((h0, .inr (12, F15)) :: (T14 ++ [(q16, .inl (cI, 384, .inl (fun _ => 0)))])) H := hP
  have hD : va_D A ((h0, .inr (12, F15)) :: (T14 ++ [(q16, .inl (cI, 384, .inl (fun _ => 0)))])) := hD
  generalize eT17 : (T14 ++ [(q16, .inl (cI, 384, .inl (fun _ => 0)))] : va_W) = T17 at hP hD
  refine W.widen (k := cells + 6) (n := slots + 81536) (by omega) (by omega) ?_
  refine f_putF (D := (dC, dI)) (ci := 12) (v := .ref q16) (ty := .array .int) (C := R_Mod) (T := F_Mod) (N := 167) hx hb hT in_Mod t_Mod t_Mod_ok n_Mod hown hK hP hD hS 0 rfl rfl 8 (by decide) fr_Mod_8 w_8_188 hin (by decide +kernel) rfl rfl (by rw [hL]; decide) d_Mod_init_53 (fun H locs hP hD hS => ?_)
  have hP : va_P (dC, dI) CL ((h0, .inr (12, (F15.set 8 (.ref q16)))) :: T17) H := hP
  have hD : va_D A ((h0, .inr (12, (F15.set 8 (.ref q16)))) :: T17) := hD
  generalize eF18 : F15.set 8 (.ref q16) = F18 at hP hD
  have hL : F18.length = 167 := by rw [← eF18, List.length_set]; exact hL
  refine lv_aload_n hx hb d_Mod_init_56 rfl (lv_at hl 0 rfl) ?_
  refine lv_sipush (v := 384) hx hb d_Mod_init_57 (by decide) ?_
  refine nw_int (N' := 384) hx hb hT w_1_69 hK hP hD hS hA (by decide) (by decide) (by decide) (by omega) (by omega) d_Mod_init_60 (fun q19 H hP hD hS => ?_)
  have hP : va_P (dC, dI) CL ((h0, .inr (12, F18)) :: (T17 ++ [(q19, .inl (cI, 384, .inl (fun _ => 0)))])) H := hP
  have hD : va_D A ((h0, .inr (12, F18)) :: (T17 ++ [(q19, .inl (cI, 384, .inl (fun _ => 0)))])) := hD
  generalize eT20 : (T17 ++ [(q19, .inl (cI, 384, .inl (fun _ => 0)))] : va_W) = T20 at hP hD
  refine W.widen (k := cells + 7) (n := slots + 81920) (by omega) (by omega) ?_
  refine f_putF (D := (dC, dI)) (ci := 12) (v := .ref q19) (ty := .array .int) (C := R_Mod) (T := F_Mod) (N := 167) hx hb hT in_Mod t_Mod t_Mod_ok n_Mod hown hK hP hD hS 0 rfl rfl 9 (by decide) fr_Mod_9 w_8_189 hin (by decide +kernel) rfl rfl (by rw [hL]; decide) d_Mod_init_62 (fun H locs hP hD hS => ?_)
  have hP : va_P (dC, dI) CL ((h0, .inr (12, (F18.set 9 (.ref q19)))) :: T20) H := hP
  have hD : va_D A ((h0, .inr (12, (F18.set 9 (.ref q19)))) :: T20) := hD
  generalize eF21 : F18.set 9 (.ref q19) = F21 at hP hD
  have hL : F21.length = 167 := by rw [← eF21, List.length_set]; exact hL
  refine lv_aload_n hx hb d_Mod_init_65 rfl (lv_at hl 0 rfl) ?_
  refine lv_sipush (v := 6144) hx hb d_Mod_init_66 (by decide) ?_
  refine nw_int (N' := 6144) hx hb hT w_1_69 hK hP hD hS hA (by decide) (by decide) (by decide) (by omega) (by omega) d_Mod_init_69 (fun q22 H hP hD hS => ?_)
  have hP : va_P (dC, dI) CL ((h0, .inr (12, F21)) :: (T20 ++ [(q22, .inl (cI, 6144, .inl (fun _ => 0)))])) H := hP
  have hD : va_D A ((h0, .inr (12, F21)) :: (T20 ++ [(q22, .inl (cI, 6144, .inl (fun _ => 0)))])) := hD
  generalize eT23 : (T20 ++ [(q22, .inl (cI, 6144, .inl (fun _ => 0)))] : va_W) = T23 at hP hD
  refine W.widen (k := cells + 8) (n := slots + 88064) (by omega) (by omega) ?_
  refine f_putF (D := (dC, dI)) (ci := 12) (v := .ref q22) (ty := .array .int) (C := R_Mod) (T := F_Mod) (N := 167) hx hb hT in_Mod t_Mod t_Mod_ok n_Mod hown hK hP hD hS 0 rfl rfl 10 (by decide) fr_Mod_10 w_8_190 hin (by decide +kernel) rfl rfl (by rw [hL]; decide) d_Mod_init_71 (fun H locs hP hD hS => ?_)
  have hP : va_P (dC, dI) CL ((h0, .inr (12, (F21.set 10 (.ref q22)))) :: T23) H := hP
  have hD : va_D A ((h0, .inr (12, (F21.set 10 (.ref q22)))) :: T23) := hD
  generalize eF24 : F21.set 10 (.ref q22) = F24 at hP hD
  have hL : F24.length = 167 := by rw [← eF24, List.length_set]; exact hL
  refine lv_aload_n hx hb d_Mod_init_74 rfl (lv_at hl 0 rfl) ?_
  refine lv_iconst (v := 3) hx hb d_Mod_init_75 (by decide) ?_
  refine nw_int (N' := 3) hx hb hT w_1_69 hK hP hD hS hA (by decide) (by decide) (by decide) (by omega) (by omega) d_Mod_init_76 (fun q25 H hP hD hS => ?_)
  have hP : va_P (dC, dI) CL ((h0, .inr (12, F24)) :: (T23 ++ [(q25, .inl (cI, 3, .inl (fun _ => 0)))])) H := hP
  have hD : va_D A ((h0, .inr (12, F24)) :: (T23 ++ [(q25, .inl (cI, 3, .inl (fun _ => 0)))])) := hD
  generalize eT26 : (T23 ++ [(q25, .inl (cI, 3, .inl (fun _ => 0)))] : va_W) = T26 at hP hD
  refine W.widen (k := cells + 9) (n := slots + 88067) (by omega) (by omega) ?_
  refine f_putF (D := (dC, dI)) (ci := 12) (v := .ref q25) (ty := .array .int) (C := R_Mod) (T := F_Mod) (N := 167) hx hb hT in_Mod t_Mod t_Mod_ok n_Mod hown hK hP hD hS 0 rfl rfl 11 (by decide) fr_Mod_11 w_8_191 hin (by decide +kernel) rfl rfl (by rw [hL]; decide) d_Mod_init_78 (fun H locs hP hD hS => ?_)
  have hP : va_P (dC, dI) CL ((h0, .inr (12, (F24.set 11 (.ref q25)))) :: T26) H := hP
  have hD : va_D A ((h0, .inr (12, (F24.set 11 (.ref q25)))) :: T26) := hD
  generalize eF27 : F24.set 11 (.ref q25) = F27 at hP hD
  have hL : F27.length = 167 := by rw [← eF27, List.length_set]; exact hL
  refine lv_aload_n hx hb d_Mod_init_81 rfl (lv_at hl 0 rfl) ?_
  refine lv_iconst (v := 3) hx hb d_Mod_init_82 (by decide) ?_
  refine nw_int (N' := 3) hx hb hT w_1_69 hK hP hD hS hA (by decide) (by decide) (by decide) (by omega) (by omega) d_Mod_init_83 (fun q28 H hP hD hS => ?_)
  have hP : va_P (dC, dI) CL ((h0, .inr (12, F27)) :: (T26 ++ [(q28, .inl (cI, 3, .inl (fun _ => 0)))])) H := hP
  have hD : va_D A ((h0, .inr (12, F27)) :: (T26 ++ [(q28, .inl (cI, 3, .inl (fun _ => 0)))])) := hD
  generalize eT29 : (T26 ++ [(q28, .inl (cI, 3, .inl (fun _ => 0)))] : va_W) = T29 at hP hD
  refine W.widen (k := cells + 10) (n := slots + 88070) (by omega) (by omega) ?_
  refine f_putF (D := (dC, dI)) (ci := 12) (v := .ref q28) (ty := .array .int) (C := R_Mod) (T := F_Mod) (N := 167) hx hb hT in_Mod t_Mod t_Mod_ok n_Mod hown hK hP hD hS 0 rfl rfl 12 (by decide) fr_Mod_12 w_8_192 hin (by decide +kernel) rfl rfl (by rw [hL]; decide) d_Mod_init_85 (fun H locs hP hD hS => ?_)
  have hP : va_P (dC, dI) CL ((h0, .inr (12, (F27.set 12 (.ref q28)))) :: T29) H := hP
  have hD : va_D A ((h0, .inr (12, (F27.set 12 (.ref q28)))) :: T29) := hD
  generalize eF30 : F27.set 12 (.ref q28) = F30 at hP hD
  have hL : F30.length = 167 := by rw [← eF30, List.length_set]; exact hL
  refine lv_aload_n hx hb d_Mod_init_88 rfl (lv_at hl 0 rfl) ?_
  refine lv_sipush (v := 192) hx hb d_Mod_init_89 (by decide) ?_
  refine nw_int (N' := 192) hx hb hT w_1_69 hK hP hD hS hA (by decide) (by decide) (by decide) (by omega) (by omega) d_Mod_init_92 (fun q31 H hP hD hS => ?_)
  have hP : va_P (dC, dI) CL ((h0, .inr (12, F30)) :: (T29 ++ [(q31, .inl (cI, 192, .inl (fun _ => 0)))])) H := hP
  have hD : va_D A ((h0, .inr (12, F30)) :: (T29 ++ [(q31, .inl (cI, 192, .inl (fun _ => 0)))])) := hD
  generalize eT32 : (T29 ++ [(q31, .inl (cI, 192, .inl (fun _ => 0)))] : va_W) = T32 at hP hD
  refine W.widen (k := cells + 11) (n := slots + 88262) (by omega) (by omega) ?_
  refine f_putF (D := (dC, dI)) (ci := 12) (v := .ref q31) (ty := .array .int) (C := R_Mod) (T := F_Mod) (N := 167) hx hb hT in_Mod t_Mod t_Mod_ok n_Mod hown hK hP hD hS 0 rfl rfl 13 (by decide) fr_Mod_13 w_8_193 hin (by decide +kernel) rfl rfl (by rw [hL]; decide) d_Mod_init_94 (fun H locs hP hD hS => ?_)
  have hP : va_P (dC, dI) CL ((h0, .inr (12, (F30.set 13 (.ref q31)))) :: T32) H := hP
  have hD : va_D A ((h0, .inr (12, (F30.set 13 (.ref q31)))) :: T32) := hD
  generalize eF33 : F30.set 13 (.ref q31) = F33 at hP hD
  have hL : F33.length = 167 := by rw [← eF33, List.length_set]; exact hL
  refine lv_aload_n hx hb d_Mod_init_97 rfl (lv_at hl 0 rfl) ?_
  refine lv_sipush (v := 4100) hx hb d_Mod_init_98 (by decide) ?_
  refine nw_int (N' := 4100) hx hb hT w_1_69 hK hP hD hS hA (by decide) (by decide) (by decide) (by omega) (by omega) d_Mod_init_101 (fun q34 H hP hD hS => ?_)
  have hP : va_P (dC, dI) CL ((h0, .inr (12, F33)) :: (T32 ++ [(q34, .inl (cI, 4100, .inl (fun _ => 0)))])) H := hP
  have hD : va_D A ((h0, .inr (12, F33)) :: (T32 ++ [(q34, .inl (cI, 4100, .inl (fun _ => 0)))])) := hD
  generalize eT35 : (T32 ++ [(q34, .inl (cI, 4100, .inl (fun _ => 0)))] : va_W) = T35 at hP hD
  refine W.widen (k := cells + 12) (n := slots + 92362) (by omega) (by omega) ?_
  refine f_putF (D := (dC, dI)) (ci := 12) (v := .ref q34) (ty := .array .int) (C := R_Mod) (T := F_Mod) (N := 167) hx hb hT in_Mod t_Mod t_Mod_ok n_Mod hown hK hP hD hS 0 rfl rfl 18 (by decide) fr_Mod_18 w_8_198 hin (by decide +kernel) rfl rfl (by rw [hL]; decide) d_Mod_init_103 (fun H locs hP hD hS => ?_)
  have hP : va_P (dC, dI) CL ((h0, .inr (12, (F33.set 18 (.ref q34)))) :: T35) H := hP
  have hD : va_D A ((h0, .inr (12, (F33.set 18 (.ref q34)))) :: T35) := hD
  generalize eF36 : F33.set 18 (.ref q34) = F36 at hP hD
  have hL : F36.length = 167 := by rw [← eF36, List.length_set]; exact hL
  subst eF36
  subst eT35
  subst eF33
  subst eT32
  subst eF30
  subst eT29
  subst eF27
  subst eT26
  subst eF24
  subst eT23
  subst eF21
  subst eT20
  subst eF18
  subst eT17
  subst eF15
  subst eT14
  subst eF12
  subst eT11
  subst eF9
  subst eT8
  subst eF6
  subst eT5
  subst eF3
  subst eT2
  exact kk q1 q4 q7 q10 q13 q16 q19 q22 q25 q28 q31 q34 H locs hP hD hS
end
