/-! the model: one more field -/
theorem cpy_0 {f g : Nat → Int32} {s d : Nat} : va_cpy f g s d 0 = g := by
  funext j
  show (if d ≤ j ∧ j < d + 0 then _ else _) = _
  rw [if_neg (by omega)]
theorem cpy_s {f g : Nat → Int32} {s d i : Nat} : upd (va_cpy f g s d i) (d + i) (f (s + i)) = va_cpy f g s d (i + 1) := by
  funext j
  show (if j = d + i then f (s + i) else if d ≤ j ∧ j < d + i then f (s + (j - d)) else g j) = if d ≤ j ∧ j < d + (i + 1) then f (s + (j - d)) else g j
  by_cases c : j = d + i
  · subst c
    rw [if_pos rfl, if_pos (by omega), show s + (d + i - d) = s + i by omega]
  · rw [if_neg c]
    by_cases e : d ≤ j ∧ j < d + i
    · rw [if_pos e, if_pos (by omega)]
    · rw [if_neg e, if_neg (by omega)]
theorem setW_self {x : St} {o : Nat} {f : Nat → Int32} (h : fA x o = f) : setW x o f = x := by
  refine w_eq rfl rfl rfl ?_ rfl rfl
  funext a
  show (if a = o then f else x.2.2.2.1 a) = x.2.2.2.1 a
  split
  · rename_i c
    rw [c, ← h]
  · rfl
theorem setA_setW {x : St} {o : Nat} {f : Nat → Int32} {i v : Int32} : setA (setW x o f) o i v = setW x o (upd f i.toNatClampNeg v) := by
  refine w_eq rfl rfl rfl ?_ rfl rfl
  funext a
  show (if a = o then upd (if o = o then f else x.2.2.2.1 o) i.toNatClampNeg v else (if a = o then f else x.2.2.2.1 a)) = if a = o then upd f i.toNatClampNeg v else x.2.2.2.1 a
  rw [if_pos rfl]
  split <;> rfl
section GetW
variable {x : St} {o a : Nat} {f : Nat → Int32}
theorem gWI : (setW x o f).1 = x.1 := rfl
theorem gWA : (setW x o f).2.2.2.1 a = if a = o then f else x.2.2.2.1 a := rfl
theorem gWN : (setW x o f).2.2.2.2.2 = x.2.2.2.2.2 := rfl
end GetW
theorem gA_ne {x : St} {o a : Nat} {i v : Int32} (h : a ≠ o) : fA (setA x o i v) a = fA x a := by
  show (if a = o then _ else x.2.2.2.1 a) = _
  rw [if_neg h]
theorem gA_at {x : St} {o : Nat} {i v : Int32} : fA (setA x o i v) o = upd (fA x o) i.toNatClampNeg v := by
  show (if o = o then _ else _) = _
  rw [if_pos rfl]
theorem gW_ne {x : St} {o a : Nat} {f : Nat → Int32} (h : a ≠ o) : fA (setW x o f) a = fA x a := by
  show (if a = o then _ else x.2.2.2.1 a) = _
  rw [if_neg h]
theorem gW_at {x : St} {o : Nat} {f : Nat → Int32} : fA (setW x o f) o = f := by
  show (if o = o then _ else _) = _
  rw [if_pos rfl]
theorem upd_at {f : Nat → Int32} {k : Nat} {v : Int32} : upd f k v k = v := by
  show (if k = k then _ else _) = _
  rw [if_pos rfl]
theorem upd_ne {f : Nat → Int32} {k j : Nat} {v : Int32} (h : j ≠ k) : upd f k v j = f j := by
  show (if j = k then _ else _) = _
  rw [if_neg h]
theorem rA2 {x : St} {o : Nat} : rA x o 2 = fA x o 2 := rfl
/-- the world with one field more (slot 2 has N fields, C columns) -/
def adF (x : St) (kd ty g : Int32) (r fr n N C : Nat) : St :=
  let y := setA (setA (setA (setA x 3 (nI (256 + N)) kd) 4 (nI (256 + N)) ty) 5 (nI (256 + N)) g) 7 (nI (256 + N)) (nI n)
  let z := setW y 8 (va_cpy (fA y r) (fA y 8) fr (16 * (256 + N)) n)
  if ty = 4 then setA (setA z 6 (nI (256 + N)) (-1)) 9 2 (nI (N + 1))
  else setA (setA (setA (setA z 6 (nI (256 + N)) (nI C)) 11 (nI (128 + C)) (nI N)) 10 2 (nI (C + 1))) 9 2 (nI (N + 1))
theorem s_addField {post : St → Prop} {x : St} {kd ty g : Int32} {r fr n N C : Nat} (hL : LM x) (hN : fA x 9 2 = nI N) (hN2 : N < 128) (hC : fA x 10 2 = nI C) (hC2 : ty = 4 ∨ C < 64) (hn : n ≤ 16) (hr : fr + n ≤ fN x r) (hr2 : fN x r < 2 ^ 31) (hr8 : r ≠ 8)
    (p : post (adF x kd ty g r fr n N C)) : wp_Mod_addField post kd ty g r (nI fr) (nI n) x := by
  have l9 : fN x 9 = 3 := hL 9
  unfold wp_Mod_addField
  rw [rA2, hN, l9]
  refine ⟨vp_in_nI (n := 2) (by decide) (by decide), ?_⟩
  unfold wp_Mod_place
  dsimp only
  rw [show (2 : Int32) = nI 2 from rfl, pl_eq, show 128 * 2 + N = 256 + N by omega]
  refine ⟨by rw [hL 3]; exact vp_in_nI (by show _ < 384; omega) (by decide), nm_e ⟨?_, nm_e ⟨?_, nm_e ⟨?_, nm_e ?_⟩⟩⟩⟩
  · show vp_in _ (fN x 4)
    rw [hL 4]; exact vp_in_nI (by show _ < 384; omega) (by decide)
  · show vp_in _ (fN x 5)
    rw [hL 5]; exact vp_in_nI (by show _ < 384; omega) (by decide)
  · show vp_in _ (fN x 7)
    rw [hL 7]; exact vp_in_nI (by show _ < 384; omega) (by decide)
  unfold adF at p
  generalize hy : setA (setA (setA (setA x 3 (nI (256 + N)) kd) 4 (nI (256 + N)) ty) 5 (nI (256 + N)) g) 7 (nI (256 + N)) (nI n) = y at *
  have hyN : ∀ o, fN y o = lenM.getD o 0 := by intro o; rw [← hy]; exact hL o
  have y9 : fA y 9 2 = nI N := by rw [← hy, gA_ne (by decide), gA_ne (by decide), gA_ne (by decide), gA_ne (by decide)]; exact hN
  have y10 : fA y 10 2 = nI C := by rw [← hy, gA_ne (by decide), gA_ne (by decide), gA_ne (by decide), gA_ne (by decide)]; exact hC
  have hry : fN y r = fN x r := by rw [hyN, hL]
  refine lp_Mod_addField_48 (fun a0 a1 a2 a3 a4 a5 a6 a7 w => kd = a0 ∧ ty = a1 ∧ g = a2 ∧ r = a3 ∧ nI fr = a4 ∧ nI n = a5 ∧ nI (256 + N) = a6 ∧ ∃ i, i ≤ n ∧ nI i = a7 ∧ setW y 8 (va_cpy (fA y r) (fA y 8) fr (16 * (256 + N)) i) = w) (fun _ _ _ _ _ _ _ a7 _ => n - a7.toNatClampNeg) ?_ _ _ _ _ _ _ _ _ _ ⟨rfl, rfl, rfl, rfl, rfl, rfl, rfl, 0, Nat.zero_le _, rfl, by rw [cpy_0, setW_self rfl]⟩
  rintro R a0 a1 a2 a3 a4 a5 a6 a7 w ⟨rfl, rfl, rfl, rfl, rfl, rfl, rfl, i, hi, rfl, rfl⟩ ih
  unfold j_Mod_addField_48
  by_cases c : i < n
  · refine br_f (by (first | omega | (simp (disch := omega) only [Int32.le_iff_toInt_le, Int32.lt_iff_toInt_lt, z_eq, z_in, nI_toInt, z_cl, z_m1, z_sg, z_255, Int32.reduceToInt] <;> omega) | (simp only [Int32.le_iff_toInt_le, Int32.lt_iff_toInt_lt, z_eq, z_in, z_add, z_sub, z_mul, z_neg, z_nI, z_cl, z_sg, z_255, z_lit, Int32.reduceToInt] <;> omega))) ?_
    rw [nI_add, s16_eq, rA_nI (by omega)]
    refine ⟨by show vp_in _ (fN y r); rw [hry]; exact vp_in_nI (by omega) hr2, by show vp_in _ (fN y 8); rw [hyN 8]; exact vp_in_nI (by show _ < 6144; omega) (by decide), ?_⟩
    refine nm_r (e' := setW y 8 (va_cpy (fA y r) (fA y 8) fr (16 * (256 + N)) (i + 1))) ?_ ?_
    · rw [setA_setW, nI_clamp (by omega), gW_ne hr8, cpy_s]
    · rw [nI_1]
      refine ih _ _ _ _ _ _ _ _ _ ⟨rfl, rfl, rfl, rfl, rfl, rfl, rfl, i + 1, by omega, rfl, rfl⟩ ?_
      show n - (nI (i + 1)).toNatClampNeg < n - (nI i).toNatClampNeg
      rw [nI_clamp (by omega), nI_clamp (by omega)]
      omega
  · have e : i = n := by omega
    subst e
    refine br_t (by (first | omega | (simp (disch := omega) only [Int32.le_iff_toInt_le, Int32.lt_iff_toInt_lt, z_eq, z_in, nI_toInt, z_cl, z_m1, z_sg, z_255, Int32.reduceToInt] <;> omega) | (simp only [Int32.le_iff_toInt_le, Int32.lt_iff_toInt_lt, z_eq, z_in, z_add, z_sub, z_mul, z_neg, z_nI, z_cl, z_sg, z_255, z_lit, Int32.reduceToInt] <;> omega))) ?_
    generalize hz : setW y 8 (va_cpy (fA y r) (fA y 8) fr (16 * (256 + N)) i) = z
    have hzN : ∀ o, fN z o = lenM.getD o 0 := by intro o; rw [← hz]; exact hyN o
    have z9 : fA z 9 2 = nI N := by rw [← hz, gW_ne (by decide)]; exact y9
    have z10 : fA z 10 2 = nI C := by rw [← hz, gW_ne (by decide)]; exact y10
    unfold j_Mod_addField_103 j_Mod_addField_140
    by_cases d : ty = 4
    · rw [if_pos d, hz] at p
      refine bn_t d ⟨by rw [hzN 6]; exact vp_in_nI (by show _ < 384; omega) (by decide), nm_e (br_t d ⟨?_, ?_, nm_r (e' := setA (setA z 6 (nI (256 + N)) (-1)) 9 2 (nI (N + 1))) ?_ p⟩)⟩
      · show vp_in _ (fN z 9)
        rw [hzN 9]; exact vp_in_nI (n := 2) (by decide) (by decide)
      · show vp_in _ (fN z 9)
        rw [hzN 9]; exact vp_in_nI (n := 2) (by decide) (by decide)
      · rw [rA2, gA_ne (by decide), z9, nI_1]
    · rw [if_neg d, hz] at p
      have hC4 : C < 64 := hC2.resolve_left d
      refine bn_f d ⟨by rw [hzN 10]; exact vp_in_nI (n := 2) (by decide) (by decide), ?_⟩
      rw [rA2, z10]
      refine ⟨by rw [hzN 6]; exact vp_in_nI (by show _ < 384; omega) (by decide), nm_e (br_f d ⟨?_, ?_, ?_, ?_⟩)⟩
      · show vp_in _ (fN z 10)
        rw [hzN 10]; exact vp_in_nI (n := 2) (by decide) (by decide)
      · show vp_in _ (fN z 9)
        rw [hzN 9]; exact vp_in_nI (n := 2) (by decide) (by decide)
      · rw [rA2, gA_ne (by decide), z10, show (128 : Int32) = nI 128 from rfl, nI_add]
        show vp_in _ (fN z 11)
        rw [hzN 11]; exact vp_in_nI (by show _ < 192; omega) (by decide)
      · refine nm_r (e' := setA (setA z 6 (nI (256 + N)) (nI C)) 11 (nI (128 + C)) (nI N)) ?_ ⟨?_, ?_, nm_r (e' := setA (setA (setA z 6 (nI (256 + N)) (nI C)) 11 (nI (128 + C)) (nI N)) 10 2 (nI (C + 1))) ?_ ⟨?_, ?_, nm_r (e' := setA (setA (setA (setA z 6 (nI (256 + N)) (nI C)) 11 (nI (128 + C)) (nI N)) 10 2 (nI (C + 1))) 9 2 (nI (N + 1))) ?_ p⟩⟩
        · rw [rA2, rA2, gA_ne (by decide), gA_ne (by decide), z10, z9, show (128 : Int32) = nI 128 from rfl, nI_add]
        · show vp_in _ (fN z 10)
          rw [hzN 10]; exact vp_in_nI (n := 2) (by decide) (by decide)
        · show vp_in _ (fN z 10)
          rw [hzN 10]; exact vp_in_nI (n := 2) (by decide) (by decide)
        · rw [rA2, gA_ne (by decide), gA_ne (by decide), z10, nI_1]
        · show vp_in _ (fN z 9)
          rw [hzN 9]; exact vp_in_nI (n := 2) (by decide) (by decide)
        · show vp_in _ (fN z 9)
          rw [hzN 9]; exact vp_in_nI (n := 2) (by decide) (by decide)
        · rw [rA2, gA_ne (by decide), gA_ne (by decide), gA_ne (by decide), z9, nI_1]
