theorem fr_Mod_4 : F_Mod 4 = (R_Mod, "inputSize", "I", false) := rfl
theorem w_8_184 : (Jvm.Cond.fieldLink "StripedVaultModel" (367 : Nat) "StripedVaultModel" "inputSize" "I") ∈ TG := tw_8 184 (by decide +kernel) (by decide +kernel)
theorem d_Mod_end_21 : decode b_Mod_end 21 = .ok (.iload_n 2, 1) := by decide +kernel
theorem d_Mod_end_22 : decode b_Mod_end 22 = .ok (.iload_n 1, 1) := by decide +kernel
theorem d_Mod_end_23 : decode b_Mod_end 23 = .ok (.if_icmp .ge 21, 3) := by decide +kernel
theorem d_Mod_end_26 : decode b_Mod_end 26 = .ok (.aload_n 0, 1) := by decide +kernel
theorem d_Mod_end_27 : decode b_Mod_end 27 = .ok (.getfield 14, 3) := by decide +kernel
theorem d_Mod_end_30 : decode b_Mod_end 30 = .ok (.iload_n 2, 1) := by decide +kernel
theorem d_Mod_end_31 : decode b_Mod_end 31 = .ok (.aload_n 0, 1) := by decide +kernel
theorem d_Mod_end_32 : decode b_Mod_end 32 = .ok (.getfield 8, 3) := by decide +kernel
theorem d_Mod_end_35 : decode b_Mod_end 35 = .ok (.iload_n 2, 1) := by decide +kernel
theorem d_Mod_end_36 : decode b_Mod_end 36 = .ok (.iaload, 1) := by decide +kernel
theorem d_Mod_end_37 : decode b_Mod_end 37 = .ok (.iastore, 1) := by decide +kernel
theorem d_Mod_end_38 : decode b_Mod_end 38 = .ok (.iinc 2 1, 3) := by decide +kernel
theorem d_Mod_end_41 : decode b_Mod_end 41 = .ok (.goto (-20), 3) := by decide +kernel
theorem d_Mod_take_7 : decode b_Mod_take 7 = .ok (.iload_n 1, 1) := by decide +kernel
theorem d_Mod_take_8 : decode b_Mod_take 8 = .ok (.aload_n 0, 1) := by decide +kernel
theorem d_Mod_take_9 : decode b_Mod_take 9 = .ok (.getfield 367, 3) := by decide +kernel
theorem d_Mod_take_12 : decode b_Mod_take 12 = .ok (.if_icmp .ge 21, 3) := by decide +kernel
theorem d_Mod_take_15 : decode b_Mod_take 15 = .ok (.aload_n 0, 1) := by decide +kernel
theorem d_Mod_take_16 : decode b_Mod_take 16 = .ok (.getfield 133, 3) := by decide +kernel
theorem d_Mod_take_19 : decode b_Mod_take 19 = .ok (.iload_n 1, 1) := by decide +kernel
theorem d_Mod_take_20 : decode b_Mod_take 20 = .ok (.aload_n 0, 1) := by decide +kernel
theorem d_Mod_take_21 : decode b_Mod_take 21 = .ok (.getfield 14, 3) := by decide +kernel
theorem d_Mod_take_24 : decode b_Mod_take 24 = .ok (.iload_n 1, 1) := by decide +kernel
theorem d_Mod_take_25 : decode b_Mod_take 25 = .ok (.iaload, 1) := by decide +kernel
theorem d_Mod_take_26 : decode b_Mod_take 26 = .ok (.iastore, 1) := by decide +kernel
theorem d_Mod_take_27 : decode b_Mod_take 27 = .ok (.iinc 1 1, 3) := by decide +kernel
theorem d_Mod_take_30 : decode b_Mod_take 30 = .ok (.goto (-23), 3) := by decide +kernel
def cpyN (g t : Nat → Int32) (n : Nat) : Nat → Int32 := fun j => if j < n then t j else g j
theorem cpy_0 (g t : Nat → Int32) : cpyN g t 0 = g := by funext j; simp [cpyN]
theorem cpy_step {g t : Nat → Int32} {i : Nat} (h : i < 2 ^ 31) : upd (cpyN g t i) (nI i : Int32).toNatClampNeg (t (nI i : Int32).toNatClampNeg) = cpyN g t (i + 1) := by
  rw [nI_clamp h]
  funext j
  by_cases e : j = i
  · subst e; simp [upd, cpyN]
  · simp only [upd, if_neg e, cpyN]
    by_cases q : j < i
    · rw [if_pos q, if_pos (by omega)]
    · rw [if_neg q, if_neg (by omega)]
theorem nat_of {k n : Int32} {z : Nat} (h0 : ¬ k < 0) (h : k ≤ n) (hn : n.toInt ≤ z) : ∃ N : Nat, N ≤ z ∧ N < 2 ^ 31 ∧ k = nI N := by
  obtain ⟨N, hN, e⟩ := nI_of h0
  refine ⟨N, ?_, hN, e⟩
  rw [Int32.le_iff_toInt_le, e, nI_toInt hN] at h
  omega
section
variable (l : Launch) (dC : Nat → ClassId) (dI : Nat → Nat → Nat) (cI cB cJ cZ : ClassId)
set_option maxHeartbeats 4000000 in
set_option maxRecDepth 100000 in
theorem lp_Mod_end {p : Program} {l : Launch} {e : Env} {R : Room} {s : State} {m : MethodId} {args : Array Value} {below : List Frame} {meth : Method} {c : Code} {cells slots : Nat} {Q : State → Prop} {dC : Nat → ClassId} {dI : Nat → Nat → Nat} {cI cB cJ cZ : ClassId} {A : Nat → Prop} {H0 : Heap} {h a b N : Nat} {F : List Value} {t g : Nat → Int32}
    (hx : p.tables.exec = Jvm.exec) (hb : c.code = b_Mod_end) (hT : ∀ w ∈ TG, w.before args s = true) (hown : s.vm.findClass R_Mod = some m.cls) (hK : va_K (dC, dI) CL (TY cI cB cJ cZ) s) (hN0 : N ≤ 40000) (hN1 : N < 2 ^ 31) (nF : F.length = 167) (gF_2 : F[2]? = some (.ref b)) (gF_1 : F[1]? = some (.ref a))
    (kend : ∀ (H : Heap) (locs : List Loc) (ls : Array Slot), va_P (dC, dI) CL [(h, .inr (12, F)), (a, .inl (cI, 40000, .inl t)), (b, .inl (cI, 40000, .inl (cpyN g t N)))] H → va_D A [(h, .inr (12, F)), (a, .inl (cI, 40000, .inl t)), (b, .inl (cI, 40000, .inl (cpyN g t N)))] → va_S A H0 H locs → lv_has ls 3 [(2, .int (nI N)), (1, .int (nI N)), (0, .ref h)] → W p l e R s m args below meth c H locs cells slots Q (F0 m 44 ls [])) :
    ∀ (k i : Nat) (H : Heap) (locs : List Loc) (ls : Array Slot), i ≤ N → N + 1 ≤ i + k → va_P (dC, dI) CL [(h, .inr (12, F)), (a, .inl (cI, 40000, .inl t)), (b, .inl (cI, 40000, .inl (cpyN g t i)))] H → va_D A [(h, .inr (12, F)), (a, .inl (cI, 40000, .inl t)), (b, .inl (cI, 40000, .inl (cpyN g t i)))] → va_S A H0 H locs → lv_has ls 3 [(2, .int (nI i)), (1, .int (nI N)), (0, .ref h)] → W p l e R s m args below meth c H locs cells slots Q (F0 m 21 ls []) := by
  intro k
  induction k with
  | zero => intro i H locs ls h1 h2; exact absurd h2 (by omega)
  | succ k ih =>
    intro i H locs ls hi hik hP hD hS hl
    refine lv_iload_n hx hb d_Mod_end_21 rfl (lv_at hl 0 rfl) ?_
    refine lv_iload_n hx hb d_Mod_end_22 rfl (lv_at hl 1 rfl) ?_
    refine lv_icmp_ge (tgt := 44) hx hb d_Mod_end_23 (by decide) (fun c_1 => ?_) (fun c_1 => ?_)
    · have hge : N ≤ i := (nI_leI hN1 (by omega)).mp c_1
      have he : i = N := by omega
      subst he
      exact kend H locs ls hP hD hS hl
    · have hlt : i < N := by
        rcases Nat.lt_or_ge i N with z | z
        · exact z
        · exact absurd (nI_le z (by omega)) c_1
      refine lv_aload_n hx hb d_Mod_end_26 rfl (lv_at hl 2 rfl) ?_
      refine f_get (D := (dC, dI)) (ci := 12) (v := .ref b) (C := R_Mod) (T := F_Mod) (N := 167) hx hb hT in_Mod hown hK hP 0 rfl rfl 2 (by decide) fr_Mod_2 w_8_182 gF_2 d_Mod_end_27 ?_
      refine lv_iload_n hx hb d_Mod_end_30 rfl (lv_at hl 0 rfl) ?_
      refine lv_aload_n hx hb d_Mod_end_31 rfl (lv_at hl 2 rfl) ?_
      refine f_get (D := (dC, dI)) (ci := 12) (v := .ref a) (C := R_Mod) (T := F_Mod) (N := 167) hx hb hT in_Mod hown hK hP 0 rfl rfl 1 (by decide) fr_Mod_1 w_8_181 gF_1 d_Mod_end_32 ?_
      refine lv_iload_n hx hb d_Mod_end_35 rfl (lv_at hl 0 rfl) ?_
      refine va_iald hx hb hK hP 1 0 rfl rfl (vp_in_nI (by omega) (by decide)) d_Mod_end_36 ?_
      refine va_iast hx hb hK hP hD hS 2 0 rfl rfl (vp_in_nI (by omega) (by decide)) d_Mod_end_37 (fun H locs hP hD hS => ?_)
      have hP : va_P (dC, dI) CL [(h, .inr (12, F)), (a, .inl (cI, 40000, .inl t)), (b, .inl (cI, 40000, .inl (upd (cpyN g t i) ((nI i) : Int32).toNatClampNeg (t ((nI i) : Int32).toNatClampNeg))))] H := hP
      have hD : va_D A [(h, .inr (12, F)), (a, .inl (cI, 40000, .inl t)), (b, .inl (cI, 40000, .inl (upd (cpyN g t i) ((nI i) : Int32).toNatClampNeg (t ((nI i) : Int32).toNatClampNeg))))] := hD
      refine lv_iinc (v := ((nI i) + 1)) (lv' := [(2, .int ((nI i) + 1)), (1, .int (nI N)), (0, .ref h)]) hx hb d_Mod_end_38 hl (k := 0) rfl rfl (by decide) rfl (fun ls hl => ?_)
      refine lv_goto (tgt := 21) hx hb d_Mod_end_41 (by decide) ?_
      rw [cpy_step (by omega)] at hP hD
      rw [nI_1] at hl
      exact ih (i + 1) H locs ls hlt (by omega) hP hD hS (lv_sub hl [0, 1, 2] rfl)
set_option maxHeartbeats 4000000 in
set_option maxRecDepth 100000 in
theorem lp_Mod_take {p : Program} {l : Launch} {e : Env} {R : Room} {s : State} {m : MethodId} {args : Array Value} {below : List Frame} {meth : Method} {c : Code} {cells slots : Nat} {Q : State → Prop} {dC : Nat → ClassId} {dI : Nat → Nat → Nat} {cI cB cJ cZ : ClassId} {A : Nat → Prop} {H0 : Heap} {h a b N : Nat} {F : List Value} {t g : Nat → Int32}
    (hx : p.tables.exec = Jvm.exec) (hb : c.code = b_Mod_take) (hT : ∀ w ∈ TG, w.before args s = true) (hown : s.vm.findClass R_Mod = some m.cls) (hK : va_K (dC, dI) CL (TY cI cB cJ cZ) s) (hN0 : N ≤ 40000) (hN1 : N < 2 ^ 31) (nF : F.length = 167) (gF_62 : F[62]? = some (.ref b)) (gF_2 : F[2]? = some (.ref a)) (gF_4 : F[4]? = some (.int (nI N)))
    (kend : ∀ (H : Heap) (locs : List Loc) (ls : Array Slot), va_P (dC, dI) CL [(h, .inr (12, F)), (a, .inl (cI, 40000, .inl t)), (b, .inl (cI, 40000, .inl (cpyN g t N)))] H → va_D A [(h, .inr (12, F)), (a, .inl (cI, 40000, .inl t)), (b, .inl (cI, 40000, .inl (cpyN g t N)))] → va_S A H0 H locs → lv_has ls 2 [(1, .int (nI N)), (0, .ref h)] → W p l e R s m args below meth c H locs cells slots Q (F0 m 33 ls [])) :
    ∀ (k i : Nat) (H : Heap) (locs : List Loc) (ls : Array Slot), i ≤ N → N + 1 ≤ i + k → va_P (dC, dI) CL [(h, .inr (12, F)), (a, .inl (cI, 40000, .inl t)), (b, .inl (cI, 40000, .inl (cpyN g t i)))] H → va_D A [(h, .inr (12, F)), (a, .inl (cI, 40000, .inl t)), (b, .inl (cI, 40000, .inl (cpyN g t i)))] → va_S A H0 H locs → lv_has ls 2 [(1, .int (nI i)), (0, .ref h)] → W p l e R s m args below meth c H locs cells slots Q (F0 m 7 ls []) := by
  intro k
  induction k with
  | zero => intro i H locs ls h1 h2; exact absurd h2 (by omega)
  | succ k ih =>
    intro i H locs ls hi hik hP hD hS hl
    refine lv_iload_n hx hb d_Mod_take_7 rfl (lv_at hl 0 rfl) ?_
    refine lv_aload_n hx hb d_Mod_take_8 rfl (lv_at hl 1 rfl) ?_
    refine f_get (D := (dC, dI)) (ci := 12) (v := .int (nI N)) (C := R_Mod) (T := F_Mod) (N := 167) hx hb hT in_Mod hown hK hP 0 rfl rfl 4 (by decide) fr_Mod_4 w_8_184 gF_4 d_Mod_take_9 ?_
    refine lv_icmp_ge (tgt := 33) hx hb d_Mod_take_12 (by decide) (fun c_1 => ?_) (fun c_1 => ?_)
    · have hge : N ≤ i := (nI_leI hN1 (by omega)).mp c_1
      have he : i = N := by omega
      subst he
      exact kend H locs ls hP hD hS hl
    · have hlt : i < N := by
        rcases Nat.lt_or_ge i N with z | z
        · exact z
        · exact absurd (nI_le z (by omega)) c_1
      refine lv_aload_n hx hb d_Mod_take_15 rfl (lv_at hl 1 rfl) ?_
      refine f_get (D := (dC, dI)) (ci := 12) (v := .ref b) (C := R_Mod) (T := F_Mod) (N := 167) hx hb hT in_Mod hown hK hP 0 rfl rfl 62 (by decide) fr_Mod_62 w_9_2 gF_62 d_Mod_take_16 ?_
      refine lv_iload_n hx hb d_Mod_take_19 rfl (lv_at hl 0 rfl) ?_
      refine lv_aload_n hx hb d_Mod_take_20 rfl (lv_at hl 1 rfl) ?_
      refine f_get (D := (dC, dI)) (ci := 12) (v := .ref a) (C := R_Mod) (T := F_Mod) (N := 167) hx hb hT in_Mod hown hK hP 0 rfl rfl 2 (by decide) fr_Mod_2 w_8_182 gF_2 d_Mod_take_21 ?_
      refine lv_iload_n hx hb d_Mod_take_24 rfl (lv_at hl 0 rfl) ?_
      refine va_iald hx hb hK hP 1 0 rfl rfl (vp_in_nI (by omega) (by decide)) d_Mod_take_25 ?_
      refine va_iast hx hb hK hP hD hS 2 0 rfl rfl (vp_in_nI (by omega) (by decide)) d_Mod_take_26 (fun H locs hP hD hS => ?_)
      have hP : va_P (dC, dI) CL [(h, .inr (12, F)), (a, .inl (cI, 40000, .inl t)), (b, .inl (cI, 40000, .inl (upd (cpyN g t i) ((nI i) : Int32).toNatClampNeg (t ((nI i) : Int32).toNatClampNeg))))] H := hP
      have hD : va_D A [(h, .inr (12, F)), (a, .inl (cI, 40000, .inl t)), (b, .inl (cI, 40000, .inl (upd (cpyN g t i) ((nI i) : Int32).toNatClampNeg (t ((nI i) : Int32).toNatClampNeg))))] := hD
      refine lv_iinc (v := ((nI i) + 1)) (lv' := [(1, .int ((nI i) + 1)), (0, .ref h)]) hx hb d_Mod_take_27 hl (k := 0) rfl rfl (by decide) rfl (fun ls hl => ?_)
      refine lv_goto (tgt := 7) hx hb d_Mod_take_30 (by decide) ?_
      rw [cpy_step (by omega)] at hP hD
      rw [nI_1] at hl
      exact ih (i + 1) H locs ls hlt (by omega) hP hD hS (lv_sub hl [0, 1] rfl)
end
