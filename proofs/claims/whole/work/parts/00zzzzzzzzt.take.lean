/-! take, end -/
section
variable {x : St} {m : Nat} {l1 : Int32}
theorem s_take {post : St → Prop} (hL : LM x) (hm : m ≤ 40000) (h4 : fI x 0 4 = nI m) (p : ∀ y, Fg (fun o k => o = 0 ∧ (k = 0 ∨ k = 65 ∨ k = 4)) no2 no2 (fun a => a = 41) no1 x y → fI y 0 0 = 0 → fI y 0 65 = nI m → fI y 0 4 = 0 → (∀ i, i < m → fA y 41 i = fA x 2 i) → post y) : wp_Mod_take post x := by
  unfold wp_Mod_take
  refine nm_e ?_
  have f0 : Fg (fun o k => o = 0 ∧ k = 0) no2 no2 (fun a => a = 41) no1 x (setI x 0 0 0) := Fg.i ⟨rfl, rfl⟩
  have a0 : fI (setI x 0 0 0) 0 0 = 0 := gI_at
  generalize setI x 0 0 0 = a at *
  refine lp_Mod_take_7 (fun b0 y => Fg (fun o k => o = 0 ∧ k = 0) no2 no2 (fun a => a = 41) no1 x y ∧ fI y 0 0 = 0 ∧ ∃ k, nI k = b0 ∧ k ≤ m ∧ ∀ i, i < k → fA y 41 i = fA x 2 i) (fun b0 _ => m - b0.toNatClampNeg) ?_ _ _ ⟨f0, a0, 0, rfl, Nat.zero_le _, fun i hi => absurd hi (Nat.not_lt_zero _)⟩
  clear f0 a0
  clear a
  rintro R b0 y ⟨y1, y0, k, rfl, k1, y2⟩ ih
  have l2 : fN y 2 = 40000 := (y1.len 2).trans (hL 2)
  have l41 : fN y 41 = 40000 := (y1.len 41).trans (hL 41)
  have e4 : fI y 0 4 = nI m := (y1.ii (by decide)).trans h4
  unfold j_Mod_take_7
  rw [e4, l2, l41]
  by_cases ck : k < m
  · refine br_f (by (first | omega | (simp (disch := omega) only [Int32.le_iff_toInt_le, Int32.lt_iff_toInt_lt, z_eq, z_in, nI_toInt, z_cl, z_m1, z_sg, z_255, Int32.reduceToInt] <;> omega) | (simp only [Int32.le_iff_toInt_le, Int32.lt_iff_toInt_lt, z_eq, z_in, z_add, z_sub, z_mul, z_neg, z_nI, z_cl, z_sg, z_255, z_lit, Int32.reduceToInt] <;> omega))) ⟨vp_in_nI (by omega) (by decide), vp_in_nI (by omega) (by decide), nm_e ?_⟩
    rw [nI_1]
    refine ih _ _ ⟨Fg.trans y1 (Fg.a rfl), y0, k + 1, rfl, ck, fun i hi => ?_⟩ (by rw [nI_clamp (by omega), nI_clamp (by omega)]; omega)
    by_cases e : i = k
    · rw [e, gA_on (by omega), rA_nI (by omega), y1.aa (show ¬ 2 = 41 by decide)]
    · rw [gA_off (by omega) e]; exact y2 i (by omega)
  · have ek : k = m := by omega
    subst ek
    refine br_t (by (first | omega | (simp (disch := omega) only [Int32.le_iff_toInt_le, Int32.lt_iff_toInt_lt, z_eq, z_in, nI_toInt, z_cl, z_m1, z_sg, z_255, Int32.reduceToInt] <;> omega) | (simp only [Int32.le_iff_toInt_le, Int32.lt_iff_toInt_lt, z_eq, z_in, z_add, z_sub, z_mul, z_neg, z_nI, z_cl, z_sg, z_255, z_lit, Int32.reduceToInt] <;> omega))) (nm_e (nm_e ?_))
    refine p _ (Fg.trans (y1.mono (fun _ _ h => ⟨h.1, Or.inl h.2⟩) (fun _ _ h => h) (fun _ _ h => h) (fun _ h => h) (fun _ h => h)) (Fg.trans (Fg.i ⟨rfl, Or.inr (Or.inl rfl)⟩) (Fg.i ⟨rfl, Or.inr (Or.inr rfl)⟩))) ?_ ?_ gI_at (fun i hi => y2 i hi)
    · rw [gI_ne (by decide), gI_ne (by decide)]; exact y0
    · rw [gI_ne (by decide), gI_at]
theorem s_end {post : Int32 → St → Prop} {c : Nat} (hL : LM x) (hc : c ≤ 40000) (h3 : fI x 0 3 = nI c)
    (p0 : ¬ (0 ≤ l1 ∧ l1 ≤ nI c) → post 0 (setI x 0 0 0))
    (p1 : ∀ n, l1 = nI n → n ≤ c → ∀ y, Fg (fun o k => o = 0 ∧ (k = 0 ∨ k = 3 ∨ k = 4)) no2 no2 (fun a => a = 2) no1 x y → fI y 0 0 = 0 → fI y 0 4 = nI n → fI y 0 3 = 0 → (∀ i, i < n → fA y 2 i = fA x 1 i) → post 1 y) : wp_Mod_end post l1 x := by
  unfold wp_Mod_end
  refine nm_e ?_
  rw [show fI (setI x 0 0 0) 0 3 = fI x 0 3 from gI_ne (by decide), h3]
  by_cases c1 : l1 < 0
  · exact br_t c1 (p0 (fun z => absurd c1 (Int32.not_lt.mpr z.1)))
  refine br_f c1 ?_
  by_cases c2 : l1 ≤ nI c
  rotate_left
  · exact br_f c2 (p0 (fun z => c2 z.2))
  refine br_t c2 ?_
  obtain ⟨n, rfl, hn⟩ : ∃ n, l1 = nI n ∧ n < c + 1 := by
    refine nn_is c1 ?_ (by omega)
    rw [Int32.lt_iff_toInt_lt]
    rw [Int32.le_iff_toInt_le] at c2
    rw [nI_toInt (by omega)] at c2 ⊢
    omega
  have f0 : Fg (fun o k => o = 0 ∧ k = 0) no2 no2 (fun a => a = 2) no1 x (setI x 0 0 0) := Fg.i ⟨rfl, rfl⟩
  have a0 : fI (setI x 0 0 0) 0 0 = 0 := gI_at
  clear p0
  generalize setI x 0 0 0 = a at *
  refine lp_Mod_end_21 (fun b0 b1 y => nI n = b0 ∧ Fg (fun o k => o = 0 ∧ k = 0) no2 no2 (fun a => a = 2) no1 x y ∧ fI y 0 0 = 0 ∧ ∃ k, nI k = b1 ∧ k ≤ n ∧ ∀ i, i < k → fA y 2 i = fA x 1 i) (fun _ b1 _ => n - b1.toNatClampNeg) ?_ _ _ _ ⟨rfl, f0, a0, 0, rfl, Nat.zero_le _, fun i hi => absurd hi (Nat.not_lt_zero _)⟩
  clear f0 a0
  clear a
  rintro R b0 b1 y ⟨rfl, y1, y0, k, rfl, k1, y2⟩ ih
  have l1' : fN y 1 = 40000 := (y1.len 1).trans (hL 1)
  have l2 : fN y 2 = 40000 := (y1.len 2).trans (hL 2)
  unfold j_Mod_end_21
  rw [l1', l2]
  by_cases ck : k < n
  · refine br_f (by (first | omega | (simp (disch := omega) only [Int32.le_iff_toInt_le, Int32.lt_iff_toInt_lt, z_eq, z_in, nI_toInt, z_cl, z_m1, z_sg, z_255, Int32.reduceToInt] <;> omega) | (simp only [Int32.le_iff_toInt_le, Int32.lt_iff_toInt_lt, z_eq, z_in, z_add, z_sub, z_mul, z_neg, z_nI, z_cl, z_sg, z_255, z_lit, Int32.reduceToInt] <;> omega))) ⟨vp_in_nI (by omega) (by decide), vp_in_nI (by omega) (by decide), nm_e ?_⟩
    rw [nI_1]
    refine ih _ _ _ ⟨rfl, Fg.trans y1 (Fg.a rfl), y0, k + 1, rfl, ck, fun i hi => ?_⟩ (by rw [nI_clamp (by omega), nI_clamp (by omega)]; omega)
    by_cases e : i = k
    · rw [e, gA_on (by omega), rA_nI (by omega), y1.aa (show ¬ 1 = 2 by decide)]
    · rw [gA_off (by omega) e]; exact y2 i (by omega)
  · have ek : k = n := by omega
    subst ek
    refine br_t (by (first | omega | (simp (disch := omega) only [Int32.le_iff_toInt_le, Int32.lt_iff_toInt_lt, z_eq, z_in, nI_toInt, z_cl, z_m1, z_sg, z_255, Int32.reduceToInt] <;> omega) | (simp only [Int32.le_iff_toInt_le, Int32.lt_iff_toInt_lt, z_eq, z_in, z_add, z_sub, z_mul, z_neg, z_nI, z_cl, z_sg, z_255, z_lit, Int32.reduceToInt] <;> omega))) (nm_e (nm_e ?_))
    refine p1 k rfl (by omega) _ (Fg.trans (y1.mono (fun _ _ h => ⟨h.1, Or.inl h.2⟩) (fun _ _ h => h) (fun _ _ h => h) (fun _ h => h) (fun _ h => h)) (Fg.trans (Fg.i ⟨rfl, Or.inr (Or.inr rfl)⟩) (Fg.i ⟨rfl, Or.inr (Or.inl rfl)⟩))) ?_ ?_ gI_at (fun i hi => y2 i hi)
    · rw [gI_ne (by decide), gI_ne (by decide)]; exact y0
    · rw [gI_ne (by decide), gI_at]
end
