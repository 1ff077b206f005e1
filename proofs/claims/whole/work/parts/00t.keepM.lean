/-! the model keeps a schema: slot 2 is copied to slot q -/
/-- the world with other rows of ints -/
def rowsW (x : St) (R : Nat → Nat → Int32) : St := (x.1, x.2.1, x.2.2.1, R, x.2.2.2.2)
theorem rowsW_self {x : St} : rowsW x x.2.2.2.1 = x := rfl
theorem setA_rowsW {x : St} {R : Nat → Nat → Int32} {o : Nat} {i v : Int32} : setA (rowsW x R) o i v = rowsW x (fun a => if a = o then upd (R o) i.toNatClampNeg v else R a) := rfl
theorem rowsW_eq {x : St} {R S : Nat → Nat → Int32} (h : ∀ a, R a = S a) : rowsW x R = rowsW x S := by rw [show R = S from funext h]
/-- f fields and i letters of the next one are copied, c fields of columns -/
def kpR (X : Nat → Nat → Int32) (q f i c : Nat) : Nat → Nat → Int32 := fun a =>
  if a = 3 ∨ a = 4 ∨ a = 5 ∨ a = 6 ∨ a = 7 then va_cpy (X a) (X a) 256 (128 * q) f
  else if a = 8 then va_cpy (X 8) (X 8) 4096 (2048 * q) i
  else if a = 11 then va_cpy (X 11) (X 11) 128 (64 * q) c
  else X a
theorem cpy_old {f g : Nat → Int32} {s d n j : Nat} (h : ¬ (d ≤ j ∧ j < d + n)) : va_cpy f g s d n j = g j := if_neg h
theorem s_keepSchema {post : St → Prop} {x : St} {q N C : Nat} (hL : LM x) (hq : q < 2) (hN : fA x 9 2 = nI N) (hN2 : N ≤ 128) (hC : fA x 10 2 = nI C) (hC2 : C ≤ 64)
    (p : post (rowsW x (kpR (fun a => if a = 9 then upd (x.2.2.2.1 9) q (nI N) else if a = 10 then upd (x.2.2.2.1 10) q (nI C) else x.2.2.2.1 a) q N (16 * N) C))) : wp_Mod_keepSchema post (nI q) x := by
  have n2 : (2 : Int32) = nI 2 := rfl
  have l9 : fN x 9 = 3 := hL 9
  have l10 : fN x 10 = 3 := hL 10
  have l11 : fN x 11 = 192 := hL 11
  have l8 : fN x 8 = 6144 := hL 8
  have l3 : fN x 3 = 384 := hL 3
  have l4 : fN x 4 = 384 := hL 4
  have l5 : fN x 5 = 384 := hL 5
  have l6 : fN x 6 = 384 := hL 6
  have l7 : fN x 7 = 384 := hL 7
  unfold wp_Mod_keepSchema
  rw [n2, l9]
  refine ⟨vp_in_nI (by decide) (by decide), vp_in_nI (by omega) (by decide), nm_e ⟨?_, ?_, ?_⟩⟩
  · show vp_in _ (fN x 10)
    rw [l10]; exact vp_in_nI (by decide) (by decide)
  · show vp_in _ (fN x 10)
    rw [l10]; exact vp_in_nI (by omega) (by decide)
  generalize hX : (fun a => if a = 9 then upd (x.2.2.2.1 9) q (nI N) else if a = 10 then upd (x.2.2.2.1 10) q (nI C) else x.2.2.2.1 a) = X at p
  refine nm_r (e' := rowsW x X) ?_ ?_
  · rw [rA_nI (by decide), rA_nI (by decide), hN, gA_ne (by decide), hC, ← hX]
    refine w_eq rfl rfl rfl ?_ rfl rfl
    funext a
    show (if a = 10 then upd (if 10 = 9 then upd (x.2.2.2.1 9) (nI q).toNatClampNeg (nI N) else x.2.2.2.1 10) (nI q).toNatClampNeg (nI C) else (if a = 9 then upd (x.2.2.2.1 9) (nI q).toNatClampNeg (nI N) else x.2.2.2.1 a)) = if a = 9 then upd (x.2.2.2.1 9) q (nI N) else if a = 10 then upd (x.2.2.2.1 10) q (nI C) else x.2.2.2.1 a
    rw [nI_clamp (by omega), if_neg (show ¬ 10 = 9 by decide)]
    by_cases a9 : a = 9
    · subst a9; rfl
    · rw [if_neg a9, if_neg a9]
  have X9 : X 9 2 = nI N := by
    rw [← hX]
    show upd (x.2.2.2.1 9) q (nI N) 2 = _
    rw [upd_ne (by omega)]; exact hN
  have X10 : X 10 2 = nI C := by
    rw [← hX]
    show upd (x.2.2.2.1 10) q (nI C) 2 = _
    rw [upd_ne (by omega)]; exact hC
  clear hX hN hC
  have start : rowsW x X = rowsW x (kpR X q 0 0 0) := rowsW_eq (fun a => by
    unfold kpR
    rw [cpy_0, cpy_0, cpy_0]
    split
    · rfl
    · split
      · rename_i e; rw [e]
      · split
        · rename_i e; rw [e]
        · rfl)
  rw [start]
  refine lp_Mod_keepSchema_26 (fun a0 a1 y => nI q = a0 ∧ ∃ f, f ≤ N ∧ nI f = a1 ∧ rowsW x (kpR X q f (16 * f) 0) = y) (fun _ a1 _ => N - a1.toNatClampNeg) ?_ _ _ _ ⟨rfl, 0, Nat.zero_le _, rfl, rfl⟩
  rintro R a0 a1 y ⟨rfl, f, hf, rfl, rfl⟩ ih
  unfold j_Mod_keepSchema_26
  have k9 : ∀ f i c, rA (rowsW x (kpR X q f i c)) 9 (nI 2) = nI N := fun f i c => by rw [rA_nI (by decide)]; exact X9
  have k10 : ∀ f i c, rA (rowsW x (kpR X q f i c)) 10 (nI 2) = nI C := fun f i c => by rw [rA_nI (by decide)]; exact X10
  have eN : ∀ (S : Nat → Nat → Int32) (o : Nat), fN (rowsW x S) o = fN x o := fun _ _ => rfl
  rw [n2, k9, eN, l9]
  refine ⟨vp_in_nI (by decide) (by decide), ?_⟩
  by_cases c : f < N
  · refine br_f (by (first | omega | (simp (disch := omega) only [Int32.le_iff_toInt_le, Int32.lt_iff_toInt_lt, z_eq, z_in, nI_toInt, z_cl, z_m1, z_sg, z_255, Int32.reduceToInt] <;> omega) | (simp only [Int32.le_iff_toInt_le, Int32.lt_iff_toInt_lt, z_eq, z_in, z_add, z_sub, z_mul, z_neg, z_nI, z_cl, z_sg, z_255, z_lit, Int32.reduceToInt] <;> omega))) ?_
    unfold wp_Mod_place
    dsimp only
    rw [pl_eq, pl_eq, show 128 * 2 + f = 256 + f by omega]
    have step : ∀ (o : Nat) (S : Nat → Nat → Int32), o = 3 ∨ o = 4 ∨ o = 5 ∨ o = 6 ∨ o = 7 → S o = va_cpy (X o) (X o) 256 (128 * q) f → setA (rowsW x S) o (nI (128 * q + f)) (rA (rowsW x S) o (nI (256 + f))) = rowsW x (fun a => if a = o then va_cpy (X o) (X o) 256 (128 * q) (f + 1) else S a) := by
      intro o S ho hS
      rw [rA_nI (by omega), setA_rowsW, nI_clamp (by omega)]
      refine rowsW_eq (fun a => ?_)
      by_cases e : a = o
      · rw [if_pos e, if_pos e]
        show upd (S o) (128 * q + f) (S o (256 + f)) = _
        rw [hS, cpy_old (by omega), cpy_s]
      · rw [if_neg e, if_neg e]
    refine ⟨by rw [eN, l3]; exact vp_in_nI (by omega) (by decide), by rw [eN, l3]; exact vp_in_nI (by omega) (by decide), nm_r (step 3 _ (by decide) rfl) ?_⟩
    refine ⟨by rw [eN, l4]; exact vp_in_nI (by omega) (by decide), by rw [eN, l4]; exact vp_in_nI (by omega) (by decide), nm_r (step 4 _ (by decide) rfl) ?_⟩
    refine ⟨by rw [eN, l5]; exact vp_in_nI (by omega) (by decide), by rw [eN, l5]; exact vp_in_nI (by omega) (by decide), nm_r (step 5 _ (by decide) rfl) ?_⟩
    refine ⟨by rw [eN, l7]; exact vp_in_nI (by omega) (by decide), by rw [eN, l7]; exact vp_in_nI (by omega) (by decide), nm_r (step 7 _ (by decide) rfl) ?_⟩
    refine ⟨by rw [eN, l6]; exact vp_in_nI (by omega) (by decide), by rw [eN, l6]; exact vp_in_nI (by omega) (by decide), nm_r (step 6 _ (by decide) rfl) ?_⟩
    have e5 : rowsW x (fun a => if a = 6 then va_cpy (X 6) (X 6) 256 (128 * q) (f + 1) else if a = 7 then va_cpy (X 7) (X 7) 256 (128 * q) (f + 1) else if a = 5 then va_cpy (X 5) (X 5) 256 (128 * q) (f + 1) else if a = 4 then va_cpy (X 4) (X 4) 256 (128 * q) (f + 1) else if a = 3 then va_cpy (X 3) (X 3) 256 (128 * q) (f + 1) else kpR X q f (16 * f) 0 a) = rowsW x (kpR X q (f + 1) (16 * f) 0) := rowsW_eq (fun a => by
      unfold kpR
      by_cases h3 : a = 3
      · subst h3; rfl
      by_cases h4 : a = 4
      · subst h4; rfl
      by_cases h5 : a = 5
      · subst h5; rfl
      by_cases h6 : a = 6
      · subst h6; rfl
      by_cases h7 : a = 7
      · subst h7; rfl
      simp only [h3, h4, h5, h6, h7, if_false, false_or])
    rw [e5]
    refine lp_Mod_keepSchema_117 (fun a0 a1 a2 a3 a4 y => nI q = a0 ∧ nI f = a1 ∧ nI (256 + f) = a2 ∧ nI (128 * q + f) = a3 ∧ ∃ i, i ≤ 16 ∧ nI i = a4 ∧ rowsW x (kpR X q (f + 1) (16 * f + i) 0) = y) (fun _ _ _ _ a4 _ => 16 - a4.toNatClampNeg) ?_ _ _ _ _ _ _ ⟨rfl, rfl, rfl, rfl, 0, by decide, rfl, rfl⟩
    rintro R2 a0 a1 a2 a3 a4 y ⟨rfl, rfl, rfl, rfl, i, hi, rfl, rfl⟩ ih2
    unfold j_Mod_keepSchema_117
    by_cases d : i < 16
    · refine br_f (by (first | omega | (simp (disch := omega) only [Int32.le_iff_toInt_le, Int32.lt_iff_toInt_lt, z_eq, z_in, nI_toInt, z_cl, z_m1, z_sg, z_255, Int32.reduceToInt] <;> omega) | (simp only [Int32.le_iff_toInt_le, Int32.lt_iff_toInt_lt, z_eq, z_in, z_add, z_sub, z_mul, z_neg, z_nI, z_cl, z_sg, z_255, z_lit, Int32.reduceToInt] <;> omega))) ?_
      rw [s16_eq, s16_eq, eN, l8]
      refine ⟨vp_in_nI (by omega) (by decide), vp_in_nI (by omega) (by decide), nm_r (e' := rowsW x (kpR X q (f + 1) (16 * f + (i + 1)) 0)) ?_ ?_⟩
      · rw [rA_nI (by omega), setA_rowsW, nI_clamp (by omega)]
        refine rowsW_eq (fun a => ?_)
        by_cases e : a = 8
        · subst e
          rw [if_pos rfl]
          show upd (va_cpy (X 8) (X 8) 4096 (2048 * q) (16 * f + i)) (16 * (128 * q + f) + i) (va_cpy (X 8) (X 8) 4096 (2048 * q) (16 * f + i) (16 * (256 + f) + i)) = va_cpy (X 8) (X 8) 4096 (2048 * q) (16 * f + (i + 1))
          rw [cpy_old (by omega), show 16 * (128 * q + f) + i = 2048 * q + (16 * f + i) by omega, show 16 * (256 + f) + i = 4096 + (16 * f + i) by omega, cpy_s]
          rfl
        · rw [if_neg e]
          unfold kpR
          rw [if_neg e, if_neg e]
      · rw [nI_1]
        refine ih2 _ _ _ _ _ _ ⟨rfl, rfl, rfl, rfl, i + 1, by omega, rfl, rfl⟩ ?_
        show 16 - (nI (i + 1)).toNatClampNeg < 16 - (nI i).toNatClampNeg
        rw [nI_clamp (by omega), nI_clamp (by omega)]
        omega
    · have e : i = 16 := by omega
      subst e
      refine br_t (by decide) ?_
      rw [nI_1]
      refine ih _ _ _ ⟨rfl, f + 1, by omega, rfl, by rw [show 16 * (f + 1) = 16 * f + 16 by omega]⟩ ?_
      show N - (nI (f + 1)).toNatClampNeg < N - (nI f).toNatClampNeg
      rw [nI_clamp (by omega), nI_clamp (by omega)]
      omega
  · have e : f = N := by omega
    subst e
    refine br_t (by (first | omega | (simp (disch := omega) only [Int32.le_iff_toInt_le, Int32.lt_iff_toInt_lt, z_eq, z_in, nI_toInt, z_cl, z_m1, z_sg, z_255, Int32.reduceToInt] <;> omega) | (simp only [Int32.le_iff_toInt_le, Int32.lt_iff_toInt_lt, z_eq, z_in, z_add, z_sub, z_mul, z_neg, z_nI, z_cl, z_sg, z_255, z_lit, Int32.reduceToInt] <;> omega))) ?_
    refine lp_Mod_keepSchema_163 (fun a0 a1 y => nI q = a0 ∧ ∃ c, c ≤ C ∧ nI c = a1 ∧ rowsW x (kpR X q f (16 * f) c) = y) (fun _ a1 _ => C - a1.toNatClampNeg) ?_ _ _ _ ⟨rfl, 0, Nat.zero_le _, rfl, rfl⟩
    rintro R2 a0 a1 y ⟨rfl, c, hc, rfl, rfl⟩ ih2
    unfold j_Mod_keepSchema_163
    rw [n2, k10, eN, l10, eN, l11]
    refine ⟨vp_in_nI (by decide) (by decide), ?_⟩
    by_cases d : c < C
    · refine br_f (by (first | omega | (simp (disch := omega) only [Int32.le_iff_toInt_le, Int32.lt_iff_toInt_lt, z_eq, z_in, nI_toInt, z_cl, z_m1, z_sg, z_255, Int32.reduceToInt] <;> omega) | (simp only [Int32.le_iff_toInt_le, Int32.lt_iff_toInt_lt, z_eq, z_in, z_add, z_sub, z_mul, z_neg, z_nI, z_cl, z_sg, z_255, z_lit, Int32.reduceToInt] <;> omega))) ?_
      rw [show (128 : Int32) = nI 128 from rfl, nI_add, show (64 : Int32) = nI 64 from rfl, nI_mul, nI_add]
      refine ⟨vp_in_nI (by omega) (by decide), vp_in_nI (by omega) (by decide), nm_r (e' := rowsW x (kpR X q f (16 * f) (c + 1))) ?_ ?_⟩
      · rw [rA_nI (by omega), setA_rowsW, nI_clamp (by omega)]
        refine rowsW_eq (fun a => ?_)
        by_cases e : a = 11
        · subst e
          rw [if_pos rfl]
          show upd (va_cpy (X 11) (X 11) 128 (64 * q) c) (64 * q + c) (va_cpy (X 11) (X 11) 128 (64 * q) c (128 + c)) = va_cpy (X 11) (X 11) 128 (64 * q) (c + 1)
          rw [cpy_old (by omega), cpy_s]
        · rw [if_neg e]
          unfold kpR
          rw [if_neg e, if_neg e]
      · rw [nI_1]
        refine ih2 _ _ _ ⟨rfl, c + 1, by omega, rfl, rfl⟩ ?_
        show C - (nI (c + 1)).toNatClampNeg < C - (nI c).toNatClampNeg
        rw [nI_clamp (by omega), nI_clamp (by omega)]
        omega
    · have e : c = C := by omega
      subst e
      exact br_t (by (first | omega | (simp (disch := omega) only [Int32.le_iff_toInt_le, Int32.lt_iff_toInt_lt, z_eq, z_in, nI_toInt, z_cl, z_m1, z_sg, z_255, Int32.reduceToInt] <;> omega) | (simp only [Int32.le_iff_toInt_le, Int32.lt_iff_toInt_lt, z_eq, z_in, z_add, z_sub, z_mul, z_neg, z_nI, z_cl, z_sg, z_255, z_lit, Int32.reduceToInt] <;> omega))) p
