/-! write of the model: the end of the file -/
def Fil (y : St) (B : List Nat) : Prop := fI y 0 65 = nI B.length ∧ B.length ≤ 40000 ∧ (∀ b, b ∈ B → b < 256) ∧ ∀ i, i < B.length → fA y 41 i = nI (B.getD i 0)
theorem fx_eq (n : Nat) : fixB n 4 = [n / 2 ^ (8 * 0) % 256, n / 2 ^ (8 * 1) % 256, n / 2 ^ (8 * 2) % 256, n / 2 ^ (8 * 3) % 256] := rfl
theorem fx_take {n k : Nat} (hk : k < 4) : (fixB n 4).take (k + 1) = (fixB n 4).take k ++ [n / 2 ^ (8 * k) % 256] := by
  have hk' : k = 0 ∨ k = 1 ∨ k = 2 ∨ k = 3 := by omega
  rcases hk' with rfl | rfl | rfl | rfl <;> rfl
theorem fx_arg {v : Int32} {k : Nat} (hk : k < 4) : (v >>> ((8 * nI k) &&& 31)) &&& 255 = nI (uL v.toInt64 / 2 ^ (8 * k) % 256) := by
  rw [fx_by hk, show (8 : Int32) * nI k = nI (8 * k) from by rw [show (8 : Int32) = nI 8 from rfl, nI_mul], sshr_by (by omega)]
theorem s_wr204 {post : Int32 → St → Prop} {x : St} {l1 l2 l3 v r : Int32} {W : List Nat} (h : Wk x W) (hW : W.length < 2 ^ 28) (p : ∀ y, FrW x y → Wk y (W ++ fixB (uL v.toInt64) 4) → ∃ n : Nat, wl_Mod_write_235 post n l1 l2 l3 v r 0 y) : ∃ n : Nat, wl_Mod_write_204 post n l1 l2 l3 v r 0 x := by
  refine lp_Mod_write_204 (fun a0 a1 a2 a3 a4 a5 y => l1 = a0 ∧ l2 = a1 ∧ l3 = a2 ∧ v = a3 ∧ r = a4 ∧ ∃ k, nI k = a5 ∧ k ≤ 4 ∧ FrW x y ∧ Wk y (W ++ (fixB (uL v.toInt64) 4).take k)) (fun _ _ _ _ _ a5 _ => 4 - a5.toNatClampNeg) ?_ _ _ _ _ _ _ _ ⟨rfl, rfl, rfl, rfl, rfl, 0, rfl, Nat.zero_le _, Fg.refl x, by rw [List.take_zero, List.append_nil]; exact h⟩
  rintro Q a0 a1 a2 a3 a4 a5 y ⟨rfl, rfl, rfl, rfl, rfl, k, rfl, k1, y1, y2⟩ ih
  unfold j_Mod_write_204
  by_cases c : k < 4
  · refine br_f (by (first | omega | (simp (disch := omega) only [Int32.le_iff_toInt_le, Int32.lt_iff_toInt_lt, z_eq, z_in, nI_toInt, z_cl, z_m1, z_sg, z_255, Int32.reduceToInt] <;> omega) | (simp only [Int32.le_iff_toInt_le, Int32.lt_iff_toInt_lt, z_eq, z_in, z_add, z_sub, z_mul, z_neg, z_nI, z_cl, z_sg, z_255, z_lit, Int32.reduceToInt] <;> omega))) ?_
    rw [fx_arg c]
    refine s_addByte y2 ?_ (Nat.mod_lt _ (by decide)) (fun z z1 z2 => ?_)
    · rw [List.length_append, List.length_take]; omega
    · rw [nI_1]
      rw [List.append_assoc, ← fx_take c] at z2
      exact ih _ _ _ _ _ _ _ ⟨rfl, rfl, rfl, rfl, rfl, k + 1, rfl, c, Fg.trans y1 z1, z2⟩ (by rw [nI_clamp (by omega), nI_clamp (by omega)]; omega)
  · have e : k = 4 := by omega
    subst e
    refine br_t (by decide) (p y y1 ?_)
    rw [show (fixB (uL v.toInt64) 4).take 4 = fixB (uL v.toInt64) 4 from rfl] at y2
    exact y2
theorem s_wr235 {post : Int32 → St → Prop} {x : St} {l1 l2 l3 v r : Int32} {W : List Nat} (h : Wk x W) (hW : W.length < 2 ^ 28) (p : ∀ y, FrW x y → Wk y (W ++ (fixB (uL r.toInt64) 4 ++ magB)) → ∃ n : Nat, wl_Mod_write_270 post n l1 l2 l3 v r 0 y) : ∃ n : Nat, wl_Mod_write_235 post n l1 l2 l3 v r 0 x := by
  refine lp_Mod_write_235 (fun a0 a1 a2 a3 a4 a5 y => l1 = a0 ∧ l2 = a1 ∧ l3 = a2 ∧ v = a3 ∧ r = a4 ∧ ∃ k, nI k = a5 ∧ k ≤ 4 ∧ FrW x y ∧ Wk y (W ++ (fixB (uL r.toInt64) 4).take k)) (fun _ _ _ _ _ a5 _ => 4 - a5.toNatClampNeg) ?_ _ _ _ _ _ _ _ ⟨rfl, rfl, rfl, rfl, rfl, 0, rfl, Nat.zero_le _, Fg.refl x, by rw [List.take_zero, List.append_nil]; exact h⟩
  rintro Q a0 a1 a2 a3 a4 a5 y ⟨rfl, rfl, rfl, rfl, rfl, k, rfl, k1, y1, y2⟩ ih
  unfold j_Mod_write_235
  by_cases c : k < 4
  · refine br_f (by (first | omega | (simp (disch := omega) only [Int32.le_iff_toInt_le, Int32.lt_iff_toInt_lt, z_eq, z_in, nI_toInt, z_cl, z_m1, z_sg, z_255, Int32.reduceToInt] <;> omega) | (simp only [Int32.le_iff_toInt_le, Int32.lt_iff_toInt_lt, z_eq, z_in, z_add, z_sub, z_mul, z_neg, z_nI, z_cl, z_sg, z_255, z_lit, Int32.reduceToInt] <;> omega))) ?_
    rw [fx_arg c]
    refine s_addByte y2 ?_ (Nat.mod_lt _ (by decide)) (fun z z1 z2 => ?_)
    · rw [List.length_append, List.length_take]; omega
    · rw [nI_1]
      rw [List.append_assoc, ← fx_take c] at z2
      exact ih _ _ _ _ _ _ _ ⟨rfl, rfl, rfl, rfl, rfl, k + 1, rfl, c, Fg.trans y1 z1, z2⟩ (by rw [nI_clamp (by omega), nI_clamp (by omega)]; omega)
  · have e : k = 4 := by omega
    subst e
    rw [show (fixB (uL r.toInt64) 4).take 4 = fixB (uL r.toInt64) 4 from rfl] at y2
    refine br_t (by decide) (s_addFrame y2 (by rw [List.length_append]; show _ + 4 < _; omega) (fun z z1 z2 => p z (Fg.trans y1 z1) ?_))
    rw [List.append_assoc] at z2
    exact z2
theorem s_wr270 {post : Int32 → St → Prop} {x : St} {l1 l2 l3 v r : Int32} {W : List Nat} (hL : LM x) (h : Wk x W) (hW : W.length ≤ 40000) (p : ∀ y, FrWx x y → (∀ a, ¬ a = 41 → fA y a = fA x a) → Fil y W → post (nI W.length) y) : ∃ n : Nat, wl_Mod_write_270 post n l1 l2 l3 v r 0 x := by
  have e41 : fN x 41 = 40000 := hL 41
  refine lp_Mod_write_270 (fun a0 a1 a2 a3 a4 a5 y => l1 = a0 ∧ l2 = a1 ∧ l3 = a2 ∧ v = a3 ∧ r = a4 ∧ ∃ i, nI i = a5 ∧ i ≤ W.length ∧ Fg no2 no2 no2 (fun a => a = 41) no1 x y ∧ ∀ j, j < i → fA y 41 j = nI (W.getD j 0)) (fun _ _ _ _ _ a5 _ => W.length - a5.toNatClampNeg) ?_ _ _ _ _ _ _ _ ⟨rfl, rfl, rfl, rfl, rfl, 0, rfl, Nat.zero_le _, Fg.refl x, fun j hj => absurd hj (Nat.not_lt_zero _)⟩
  rintro Q a0 a1 a2 a3 a4 a5 y ⟨rfl, rfl, rfl, rfl, rfl, i, rfl, i1, y1, y2⟩ ih
  have e66 : fI y 0 66 = nI W.length := (y1.1 0 66 id).trans h.1
  have n41 : fN y 41 = 40000 := by show y.2.2.2.2.2 41 = _; rw [y1.2.2.2.2.2]; exact e41
  have n42 : fN y 42 = 40000 := by show y.2.2.2.2.2 42 = _; rw [y1.2.2.2.2.2]; exact h.2.1
  have a42 : fA y 42 = fA x 42 := y1.2.2.2.1 42 (by decide)
  unfold j_Mod_write_270
  rw [e66]
  by_cases c : i < W.length
  · refine br_f (by (first | omega | (simp (disch := omega) only [Int32.le_iff_toInt_le, Int32.lt_iff_toInt_lt, z_eq, z_in, nI_toInt, z_cl, z_m1, z_sg, z_255, Int32.reduceToInt] <;> omega) | (simp only [Int32.le_iff_toInt_le, Int32.lt_iff_toInt_lt, z_eq, z_in, z_add, z_sub, z_mul, z_neg, z_nI, z_cl, z_sg, z_255, z_lit, Int32.reduceToInt] <;> omega))) ⟨vp_in_nI (by omega) (by omega), vp_in_nI (by omega) (by omega), nm_e ?_⟩
    rw [nI_1, rA_nI (by omega), a42, h.2.2.2 i c (by omega)]
    refine ih _ _ _ _ _ _ _ ⟨rfl, rfl, rfl, rfl, rfl, i + 1, rfl, c, Fg.trans y1 (Fg.a rfl), fun j hj => ?_⟩ (by rw [nI_clamp (by omega), nI_clamp (by omega)]; omega)
    rw [gA_at, nI_clamp (by omega)]
    by_cases e : j = i
    · rw [e, upd_at]
    · rw [upd_ne (by omega)]; exact y2 j (by omega)
  · have e : i = W.length := by omega
    subst e
    refine br_t (by (first | omega | (simp (disch := omega) only [Int32.le_iff_toInt_le, Int32.lt_iff_toInt_lt, z_eq, z_in, nI_toInt, z_cl, z_m1, z_sg, z_255, Int32.reduceToInt] <;> omega) | (simp only [Int32.le_iff_toInt_le, Int32.lt_iff_toInt_lt, z_eq, z_in, z_add, z_sub, z_mul, z_neg, z_nI, z_cl, z_sg, z_255, z_lit, Int32.reduceToInt] <;> omega))) (nm_e ?_)
    rw [gI_at]
    refine p _ (Fg.trans (y1.mono (fun _ _ z => z.elim) (fun _ _ z => z) (fun _ _ z => z) (fun _ z => by omega) (fun _ z => z.elim)) (Fg.i ⟨rfl, by decide⟩)) (fun a ha => y1.2.2.2.1 a ha) ⟨gI_at, hW, h.2.2.1, fun j hj => y2 j hj⟩
