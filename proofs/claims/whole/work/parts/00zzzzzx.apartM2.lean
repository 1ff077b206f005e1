/-! columns that are apart, model -/
abbrev aprt (F : List SFd) (a b : Nat) (A B : List SEn) : Prop := arnd F a b ≠ -1 ∧ fl2 (rF F (arnd F a b).toNatClampNeg) (dG F (arnd F a b)) A ≠ fl2 (rF F (arnd F a b).toNatClampNeg) (dG F (arnd F a b)) B
section
variable {x : St} {F : List SFd}
theorem fl2_ne {r d i j : Nat} {A B : List SEn} (h : fl2 r d (A.take i) = fl2 r d (B.take j)) (hi : i < A.length) (hr : (A.getD i en0).2.1 ≤ r) (hj : j = B.length ∨ (j < B.length ∧ (B.getD j en0).2.1 ≤ r ∧ ((A.getD i en0).2.1, min (A.getD i en0).2.2.1 d) ≠ ((B.getD j en0).2.1, min (B.getD j en0).2.2.1 d))) : fl2 r d A ≠ fl2 r d B := by
  obtain ⟨Z, hZ⟩ := fl2_cut (d := d) hi hr
  rw [hZ, h]
  rcases hj with z | ⟨z1, z2, z3⟩
  · rw [z, List.take_of_length_le (Nat.le_refl _)]
    intro w
    have := congrArg List.length w
    rw [List.length_append, List.length_cons] at this
    omega
  · obtain ⟨Y, hY⟩ := fl2_cut (d := d) z1 z2
    rw [hY]
    intro w
    exact z3 (List.cons.inj (List.append_cancel_left w)).1
theorem s_aprtL {post : St → Prop} {w g r d a0 : Nat} {l2 : Int32} {A B : List SEn} (hL : LM x) (h0 : fI x 0 69 = 0) (hr : r ≤ 17) (hd : d ≤ 17) (hw1 : w < 13401) (h65 : fA x 65 w = nI (a0 + A.length)) (h87 : fI x 0 87 = nI (a0 + A.length + B.length)) (he : a0 + A.length + B.length ≤ 10000)
    (hrow : ∀ k, k < A.length + B.length → fA x 58 (a0 + k) = nI ((A ++ B).getD k en0).2.1 ∧ fA x 59 (a0 + k) = nI ((A ++ B).getD k en0).2.2.1 ∧ ((A ++ B).getD k en0).2.1 < 128 ∧ ((A ++ B).getD k en0).2.2.1 < 128)
    (p0 : fl2 r d A = fl2 r d B → post x) (p1 : fl2 r d A ≠ fl2 r d B → post (setI x 0 69 21)) : ∃ n : Nat, wl_Mod_apart_67 post n (nI w) l2 (nI g) (nI r) (nI d) (nI (a0 + A.length)) (nI a0) x := by
  have l65 : fN x 65 = 13401 := hL 65
  have l58 : fN x 58 = 10000 := hL 58
  have l59 : fN x 59 = 10000 := hL 59
  have gA : ∀ i, i < A.length → (A ++ B).getD i en0 = A.getD i en0 := fun i hi => by rw [List.getD_eq_getElem?_getD, List.getElem?_append_left hi, List.getD_eq_getElem?_getD]
  have gB : ∀ j, (A ++ B).getD (A.length + j) en0 = B.getD j en0 := fun j => by rw [List.getD_eq_getElem?_getD, List.getElem?_append_right (by omega), Nat.add_sub_cancel_left, List.getD_eq_getElem?_getD]
  refine lp_Mod_apart_67 (fun b0 b1 b2 b3 b4 b5 b6 y => nI w = b0 ∧ l2 = b1 ∧ nI g = b2 ∧ nI r = b3 ∧ nI d = b4 ∧ ∃ i, nI (a0 + i) = b6 ∧ i ≤ A.length ∧ ((x = y ∧ ∃ j, nI (a0 + (A.length + j)) = b5 ∧ j ≤ B.length ∧ fl2 r d (A.take i) = fl2 r d (B.take j)) ∨ (setI x 0 69 21 = y ∧ fl2 r d A ≠ fl2 r d B ∧ ∃ j, nI (a0 + (A.length + j)) = b5 ∧ j ≤ B.length + i))) (fun _ _ _ _ _ _ b6 _ => a0 + A.length - b6.toNatClampNeg) ?_ _ _ _ _ _ _ _ _ ⟨rfl, rfl, rfl, rfl, rfl, 0, rfl, Nat.zero_le _, Or.inl ⟨rfl, 0, rfl, Nat.zero_le _, rfl⟩⟩
  rintro Q b0 b1 b2 b3 b4 b5 b6 y ⟨rfl, rfl, rfl, rfl, rfl, i, rfl, i1, hy⟩ ih
  obtain ⟨j, rfl, j1⟩ : ∃ j, nI (a0 + (A.length + j)) = b5 ∧ j ≤ B.length + i := by
    rcases hy with ⟨-, j, a, b, -⟩ | ⟨-, -, j, a, b⟩
    · exact ⟨j, a, by omega⟩
    · exact ⟨j, a, b⟩
  have hy' : (x = y ∧ j ≤ B.length ∧ fl2 r d (A.take i) = fl2 r d (B.take j)) ∨ (setI x 0 69 21 = y ∧ fl2 r d A ≠ fl2 r d B) := by
    rcases hy with ⟨z, j', a, b, e⟩ | ⟨z, e, -⟩
    · have := nI_inj (by omega) (by omega) a
      have : j' = j := by omega
      subst this
      exact Or.inl ⟨z, b, e⟩
    · exact Or.inr ⟨z, e⟩
  clear hy
  have y87 : fI y 0 87 = nI (a0 + A.length + B.length) := by
    rcases hy' with ⟨z, -⟩ | ⟨z, -⟩ <;> rw [← z]
    · exact h87
    · exact (gI_ne (by decide)).trans h87
  have yA : ∀ a, fA y a = fA x a := fun a => by rcases hy' with ⟨z, -⟩ | ⟨z, -⟩ <;> rw [← z] <;> rfl
  have yN : ∀ a, fN y a = fN x a := fun a => by rcases hy' with ⟨z, -⟩ | ⟨z, -⟩ <;> rw [← z] <;> rfl
  have y69 : setI x 0 69 21 = y → ¬ fI y 0 69 = 0 := fun z => by rw [← z, gI_at]; decide
  have v58 : ∀ k, k < A.length + B.length → vp_in (nI (a0 + k)) (fN y 58) := fun k hk => by rw [yN]; exact vp_in_nI (by omega) (by omega)
  have v59 : ∀ k, k < A.length + B.length → vp_in (nI (a0 + k)) (fN y 59) := fun k hk => by rw [yN]; exact vp_in_nI (by omega) (by omega)
  have r58 : ∀ k, k < A.length + B.length → rA y 58 (nI (a0 + k)) = nI ((A ++ B).getD k en0).2.1 := fun k hk => by rw [rA_nI (by omega), yA]; exact (hrow k hk).1
  have r59 : ∀ k, k < A.length + B.length → rA y 59 (nI (a0 + k)) = nI ((A ++ B).getD k en0).2.2.1 := fun k hk => by rw [rA_nI (by omega), yA]; exact (hrow k hk).2.1
  unfold j_Mod_apart_67
  rw [yN, show rA y 65 (nI w) = nI (a0 + A.length) from by rw [rA_nI (by omega), yA]; exact h65]
  refine ⟨vp_in_nI (by omega) (by omega), ?_⟩
  by_cases ci : i < A.length
  · have ai := gA i ci
    have bi := hrow i (by omega)
    rw [ai] at bi
    refine br_f (by (first | omega | (simp (disch := omega) only [Int32.le_iff_toInt_le, Int32.lt_iff_toInt_lt, z_eq, z_in, nI_toInt, z_cl, z_m1, z_sg, z_255, Int32.reduceToInt] <;> omega) | (simp only [Int32.le_iff_toInt_le, Int32.lt_iff_toInt_lt, z_eq, z_in, z_add, z_sub, z_mul, z_neg, z_nI, z_cl, z_sg, z_255, z_lit, Int32.reduceToInt] <;> omega))) ⟨v58 i (by omega), ?_⟩
    rw [r58 i (by omega), ai]
    -- the next one
    have nx : ∀ (z : St) j', ((x = z ∧ ∃ j, nI (a0 + (A.length + j)) = j' ∧ j ≤ B.length ∧ fl2 r d (A.take (i + 1)) = fl2 r d (B.take j)) ∨ (setI x 0 69 21 = z ∧ fl2 r d A ≠ fl2 r d B ∧ ∃ j, nI (a0 + (A.length + j)) = j' ∧ j ≤ B.length + (i + 1))) → j_Mod_apart_223 post Q (nI w) l2 (nI g) (nI r) (nI d) j' (nI (a0 + i)) z := fun z j' hz => by
      unfold j_Mod_apart_223
      rw [nI_1]
      exact ih _ _ _ _ _ _ _ _ ⟨rfl, rfl, rfl, rfl, rfl, i + 1, rfl, by omega, hz⟩ (by rw [nI_clamp (by omega), nI_clamp (by omega)]; omega)
    by_cases cr : (A.getD i en0).2.1 ≤ r
    · refine br_t (by (first | omega | (simp (disch := omega) only [Int32.le_iff_toInt_le, Int32.lt_iff_toInt_lt, z_eq, z_in, nI_toInt, z_cl, z_m1, z_sg, z_255, Int32.reduceToInt] <;> omega) | (simp only [Int32.le_iff_toInt_le, Int32.lt_iff_toInt_lt, z_eq, z_in, z_add, z_sub, z_mul, z_neg, z_nI, z_cl, z_sg, z_255, z_lit, Int32.reduceToInt] <;> omega))) ?_
      refine lp_Mod_apart_93 (fun b0 b1 b2 b3 b4 b5 b6 u => nI w = b0 ∧ l2 = b1 ∧ nI g = b2 ∧ nI r = b3 ∧ nI d = b4 ∧ nI (a0 + i) = b6 ∧ y = u ∧ ∃ j, nI (a0 + (A.length + j)) = b5 ∧ j ≤ B.length + i ∧ (setI x 0 69 21 ≠ y → j ≤ B.length ∧ fl2 r d (A.take i) = fl2 r d (B.take j))) (fun _ _ _ _ _ b5 _ _ => 30000 - b5.toNatClampNeg) ?_ _ _ _ _ _ _ _ _ ⟨rfl, rfl, rfl, rfl, rfl, rfl, rfl, j, rfl, j1, fun z => by
        rcases hy' with ⟨-, a, b⟩ | ⟨a, -⟩
        · exact ⟨a, b⟩
        · exact absurd a z⟩
      rintro Q2 b0 b1 b2 b3 b4 b5 b6 u ⟨rfl, rfl, rfl, rfl, rfl, rfl, rfl, j, rfl, j1, j2⟩ ih2
      unfold j_Mod_apart_93
      rw [y87]
      -- what is found
      have ne21 : x = y → setI x 0 69 21 ≠ y := fun z w => by
        have := congrArg (fun s => fI s 0 69) (w.trans z.symm)
        simp only [gI_at] at this
        rw [h0] at this
        exact absurd this (by decide)
      have good : x = y → j < B.length → (B.getD j en0).2.1 ≤ r → ((A.getD i en0).2.1, min (A.getD i en0).2.2.1 d) = ((B.getD j en0).2.1, min (B.getD j en0).2.2.1 d) → j_Mod_apart_223 post Q (nI w) l2 (nI g) (nI r) (nI d) (nI (a0 + (A.length + j)) + 1) (nI (a0 + i)) y := fun z k1 k2 k3 => by
        rw [nI_1]
        refine nx y _ (Or.inl ⟨z, j + 1, rfl, by omega, ?_⟩)
        rw [fl2_take ci, fl2_take k1, if_pos cr, if_pos k2, k3, (j2 (ne21 z)).2]
      have bad0 : setI x 0 69 21 = y → ∀ s0 l8, j_Mod_apart_215 post Q (nI w) l2 (nI g) (nI r) (nI d) (nI (a0 + (A.length + j))) (nI (a0 + i)) l8 s0 y := fun z s0 l8 => by
        unfold j_Mod_apart_215
        refine s_flt (y69 z) ?_
        rw [nI_1]
        refine nx y _ (Or.inr ⟨z, ?_, j + 1, rfl, by omega⟩)
        rcases hy' with ⟨a, -⟩ | ⟨-, a⟩
        · exact absurd z (ne21 a)
        · exact a
      have bad1 : x = y → fl2 r d A ≠ fl2 r d B → ∀ l8, j_Mod_apart_215 post Q (nI w) l2 (nI g) (nI r) (nI d) (nI (a0 + (A.length + j))) (nI (a0 + i)) l8 1 y := fun z hne l8 => by
        unfold j_Mod_apart_215
        refine s_fl1 (by rw [← z]; exact h0) ?_
        rw [nI_1]
        exact nx _ _ (Or.inr ⟨by rw [← z], hne, j + 1, rfl, by omega⟩)
      have cs : x = y ∨ setI x 0 69 21 = y := by
        rcases hy' with ⟨a, -⟩ | ⟨a, -⟩
        · exact Or.inl a
        · exact Or.inr a
      -- no match
      have j201 : (x = y → fl2 r d A ≠ fl2 r d B) → j_Mod_apart_201 post Q (nI w) l2 (nI g) (nI r) (nI d) (nI (a0 + (A.length + j))) (nI (a0 + i)) y := fun hne => by
        unfold j_Mod_apart_201 j_Mod_apart_202
        refine ⟨fun z => absurd rfl z, fun _ => ?_⟩
        rcases cs with z | z
        · exact bad1 z (hne z) _
        · exact bad0 z _ _
      have j202 : (x = y → j_Mod_apart_223 post Q (nI w) l2 (nI g) (nI r) (nI d) (nI (a0 + (A.length + j)) + 1) (nI (a0 + i)) y) → j_Mod_apart_202 post Q (nI w) l2 (nI g) (nI r) (nI d) (nI (a0 + (A.length + j))) (nI (a0 + i)) 1 y := fun hg => by
        unfold j_Mod_apart_202
        refine ⟨fun _ => ?_, fun z => absurd z (by decide)⟩
        rcases cs with z | z
        · unfold j_Mod_apart_215
          exact s_fl0 (hg z)
        · exact bad0 z _ _
      have look : (j = B.length ∨ B.length < j ∨ (j < B.length ∧ (B.getD j en0).2.1 ≤ r)) → j_Mod_apart_120 post Q (nI w) l2 (nI g) (nI r) (nI d) (nI (a0 + (A.length + j))) (nI (a0 + i)) y := fun hj => by
        unfold j_Mod_apart_120
        rw [y87]
        by_cases cj : j < B.length
        · have kr : (B.getD j en0).2.1 ≤ r := by rcases hj with z | z | z; omega; omega; exact z.2
          have bj := hrow (A.length + j) (by omega)
          rw [gB] at bj
          refine br_f (by (first | omega | (simp (disch := omega) only [Int32.le_iff_toInt_le, Int32.lt_iff_toInt_lt, z_eq, z_in, nI_toInt, z_cl, z_m1, z_sg, z_255, Int32.reduceToInt] <;> omega) | (simp only [Int32.le_iff_toInt_le, Int32.lt_iff_toInt_lt, z_eq, z_in, z_add, z_sub, z_mul, z_neg, z_nI, z_cl, z_sg, z_255, z_lit, Int32.reduceToInt] <;> omega))) ⟨v58 i (by omega), v58 (A.length + j) (by omega), ?_⟩
          rw [r58 i (by omega), r58 (A.length + j) (by omega), ai, gB]
          by_cases e1 : (A.getD i en0).2.1 = (B.getD j en0).2.1
          · refine bn_t (by rw [e1]) ⟨v59 i (by omega), ?_⟩
            rw [r59 i (by omega), ai]
            have h170 : j_Mod_apart_170 post Q (nI w) l2 (nI g) (nI r) (nI d) (nI (a0 + (A.length + j))) (nI (a0 + i)) (nI (min (A.getD i en0).2.2.1 d)) y := by
              unfold j_Mod_apart_170
              have h194 : j_Mod_apart_194 post Q (nI w) l2 (nI g) (nI r) (nI d) (nI (a0 + (A.length + j))) (nI (a0 + i)) (nI (min (B.getD j en0).2.2.1 d)) (nI (min (A.getD i en0).2.2.1 d)) y := by
                unfold j_Mod_apart_194
                refine ⟨fun z => j201 (fun w => fl2_ne (j2 (ne21 w)).2 ci cr (Or.inr ⟨cj, kr, fun v => z (by rw [(Prod.mk.inj v).2])⟩)), fun z => j202 (fun w => good w cj kr ?_)⟩
                rw [e1, nI_inj (by omega) (by omega) z]
              refine ⟨v59 (A.length + j) (by omega), ?_⟩
              rw [r59 (A.length + j) (by omega), gB]
              by_cases cd : d ≤ (B.getD j en0).2.2.1
              · rw [Nat.min_eq_right cd] at h194
                exact br_t (by (first | omega | (simp (disch := omega) only [Int32.le_iff_toInt_le, Int32.lt_iff_toInt_lt, z_eq, z_in, nI_toInt, z_cl, z_m1, z_sg, z_255, Int32.reduceToInt] <;> omega) | (simp only [Int32.le_iff_toInt_le, Int32.lt_iff_toInt_lt, z_eq, z_in, z_add, z_sub, z_mul, z_neg, z_nI, z_cl, z_sg, z_255, z_lit, Int32.reduceToInt] <;> omega))) h194
              · rw [Nat.min_eq_left (by omega)] at h194
                exact br_f (by (first | omega | (simp (disch := omega) only [Int32.le_iff_toInt_le, Int32.lt_iff_toInt_lt, z_eq, z_in, nI_toInt, z_cl, z_m1, z_sg, z_255, Int32.reduceToInt] <;> omega) | (simp only [Int32.le_iff_toInt_le, Int32.lt_iff_toInt_lt, z_eq, z_in, z_add, z_sub, z_mul, z_neg, z_nI, z_cl, z_sg, z_255, z_lit, Int32.reduceToInt] <;> omega))) ⟨v59 (A.length + j) (by omega), h194⟩
            by_cases cd : d ≤ (A.getD i en0).2.2.1
            · rw [Nat.min_eq_right cd] at h170
              exact br_t (by (first | omega | (simp (disch := omega) only [Int32.le_iff_toInt_le, Int32.lt_iff_toInt_lt, z_eq, z_in, nI_toInt, z_cl, z_m1, z_sg, z_255, Int32.reduceToInt] <;> omega) | (simp only [Int32.le_iff_toInt_le, Int32.lt_iff_toInt_lt, z_eq, z_in, z_add, z_sub, z_mul, z_neg, z_nI, z_cl, z_sg, z_255, z_lit, Int32.reduceToInt] <;> omega))) h170
            · rw [Nat.min_eq_left (by omega)] at h170
              exact br_f (by (first | omega | (simp (disch := omega) only [Int32.le_iff_toInt_le, Int32.lt_iff_toInt_lt, z_eq, z_in, nI_toInt, z_cl, z_m1, z_sg, z_255, Int32.reduceToInt] <;> omega) | (simp only [Int32.le_iff_toInt_le, Int32.lt_iff_toInt_lt, z_eq, z_in, z_add, z_sub, z_mul, z_neg, z_nI, z_cl, z_sg, z_255, z_lit, Int32.reduceToInt] <;> omega))) ⟨v59 i (by omega), h170⟩
          · exact bn_f (fun z => e1 (nI_inj (by omega) (by omega) z)) (j201 (fun w => fl2_ne (j2 (ne21 w)).2 ci cr (Or.inr ⟨cj, kr, fun v => e1 (Prod.mk.inj v).1⟩)))
        · exact br_t (by (first | omega | (simp (disch := omega) only [Int32.le_iff_toInt_le, Int32.lt_iff_toInt_lt, z_eq, z_in, nI_toInt, z_cl, z_m1, z_sg, z_255, Int32.reduceToInt] <;> omega) | (simp only [Int32.le_iff_toInt_le, Int32.lt_iff_toInt_lt, z_eq, z_in, z_add, z_sub, z_mul, z_neg, z_nI, z_cl, z_sg, z_255, z_lit, Int32.reduceToInt] <;> omega))) (j201 (fun w => fl2_ne (j2 (ne21 w)).2 ci cr (Or.inl (by have := (j2 (ne21 w)).1; omega))))
      by_cases cj : j < B.length
      · have bj := hrow (A.length + j) (by omega)
        rw [gB] at bj
        refine br_f (by (first | omega | (simp (disch := omega) only [Int32.le_iff_toInt_le, Int32.lt_iff_toInt_lt, z_eq, z_in, nI_toInt, z_cl, z_m1, z_sg, z_255, Int32.reduceToInt] <;> omega) | (simp only [Int32.le_iff_toInt_le, Int32.lt_iff_toInt_lt, z_eq, z_in, z_add, z_sub, z_mul, z_neg, z_nI, z_cl, z_sg, z_255, z_lit, Int32.reduceToInt] <;> omega))) ⟨v58 (A.length + j) (by omega), ?_⟩
        rw [r58 (A.length + j) (by omega), gB]
        by_cases kr : (B.getD j en0).2.1 ≤ r
        · exact br_t (by (first | omega | (simp (disch := omega) only [Int32.le_iff_toInt_le, Int32.lt_iff_toInt_lt, z_eq, z_in, nI_toInt, z_cl, z_m1, z_sg, z_255, Int32.reduceToInt] <;> omega) | (simp only [Int32.le_iff_toInt_le, Int32.lt_iff_toInt_lt, z_eq, z_in, z_add, z_sub, z_mul, z_neg, z_nI, z_cl, z_sg, z_255, z_lit, Int32.reduceToInt] <;> omega))) (look (Or.inr (Or.inr ⟨cj, kr⟩)))
        · refine br_f (by (first | omega | (simp (disch := omega) only [Int32.le_iff_toInt_le, Int32.lt_iff_toInt_lt, z_eq, z_in, nI_toInt, z_cl, z_m1, z_sg, z_255, Int32.reduceToInt] <;> omega) | (simp only [Int32.le_iff_toInt_le, Int32.lt_iff_toInt_lt, z_eq, z_in, z_add, z_sub, z_mul, z_neg, z_nI, z_cl, z_sg, z_255, z_lit, Int32.reduceToInt] <;> omega))) ?_
          rw [nI_1]
          refine ih2 _ _ _ _ _ _ _ _ ⟨rfl, rfl, rfl, rfl, rfl, rfl, rfl, j + 1, rfl, by omega, fun z => ⟨by omega, ?_⟩⟩ (by rw [nI_clamp (by omega), nI_clamp (by omega)]; omega)
          rw [fl2_take cj, if_neg kr, List.append_nil]
          exact (j2 z).2
      · exact br_t (by (first | omega | (simp (disch := omega) only [Int32.le_iff_toInt_le, Int32.lt_iff_toInt_lt, z_eq, z_in, nI_toInt, z_cl, z_m1, z_sg, z_255, Int32.reduceToInt] <;> omega) | (simp only [Int32.le_iff_toInt_le, Int32.lt_iff_toInt_lt, z_eq, z_in, z_add, z_sub, z_mul, z_neg, z_nI, z_cl, z_sg, z_255, z_lit, Int32.reduceToInt] <;> omega))) (look (by omega))
    · refine br_f (by (first | omega | (simp (disch := omega) only [Int32.le_iff_toInt_le, Int32.lt_iff_toInt_lt, z_eq, z_in, nI_toInt, z_cl, z_m1, z_sg, z_255, Int32.reduceToInt] <;> omega) | (simp only [Int32.le_iff_toInt_le, Int32.lt_iff_toInt_lt, z_eq, z_in, z_add, z_sub, z_mul, z_neg, z_nI, z_cl, z_sg, z_255, z_lit, Int32.reduceToInt] <;> omega))) (nx y _ ?_)
      rcases hy' with ⟨z, a, b⟩ | ⟨z, a⟩
      · refine Or.inl ⟨z, j, rfl, a, ?_⟩
        rw [fl2_take ci, if_neg cr, List.append_nil]
        exact b
      · exact Or.inr ⟨z, a, j, rfl, by omega⟩
  · have ei : i = A.length := by omega
    subst ei
    refine br_t (by (first | omega | (simp (disch := omega) only [Int32.le_iff_toInt_le, Int32.lt_iff_toInt_lt, z_eq, z_in, nI_toInt, z_cl, z_m1, z_sg, z_255, Int32.reduceToInt] <;> omega) | (simp only [Int32.le_iff_toInt_le, Int32.lt_iff_toInt_lt, z_eq, z_in, z_add, z_sub, z_mul, z_neg, z_nI, z_cl, z_sg, z_255, z_lit, Int32.reduceToInt] <;> omega))) ?_
    rw [List.take_of_length_le (Nat.le_refl _)] at hy'
    refine lp_Mod_apart_229 (fun b0 b1 b2 b3 b4 b5 b6 u => nI w = b0 ∧ l2 = b1 ∧ nI g = b2 ∧ nI r = b3 ∧ nI d = b4 ∧ nI (a0 + A.length) = b6 ∧ y = u ∧ ∃ j, nI (a0 + (A.length + j)) = b5 ∧ j ≤ B.length + A.length ∧ (setI x 0 69 21 ≠ y → j ≤ B.length ∧ fl2 r d A = fl2 r d (B.take j))) (fun _ _ _ _ _ b5 _ _ => 30000 - b5.toNatClampNeg) ?_ _ _ _ _ _ _ _ _ ⟨rfl, rfl, rfl, rfl, rfl, rfl, rfl, j, rfl, j1, fun z => by
      rcases hy' with ⟨-, a, b⟩ | ⟨a, -⟩
      · exact ⟨a, b⟩
      · exact absurd a z⟩
    rintro Q2 b0 b1 b2 b3 b4 b5 b6 u ⟨rfl, rfl, rfl, rfl, rfl, rfl, rfl, j, rfl, j1, j2⟩ ih2
    unfold j_Mod_apart_229
    rw [y87]
    have ne21 : x = y → setI x 0 69 21 ≠ y := fun z w => by
      have := congrArg (fun s => fI s 0 69) (w.trans z.symm)
      simp only [gI_at] at this
      rw [h0] at this
      exact absurd this (by decide)
    have fin : (j < B.length → (B.getD j en0).2.1 ≤ r) → j_Mod_apart_256 post (nI w) l2 (nI g) (nI r) (nI d) (nI (a0 + (A.length + j))) (nI (a0 + A.length)) y := fun hb => by
      unfold j_Mod_apart_256 j_Mod_apart_271
      rw [y87]
      rcases hy' with ⟨z, -⟩ | ⟨z, a⟩
      · obtain ⟨k1, k2⟩ := j2 (ne21 z)
        by_cases cj : j < B.length
        · refine br_f (by (first | omega | (simp (disch := omega) only [Int32.le_iff_toInt_le, Int32.lt_iff_toInt_lt, z_eq, z_in, nI_toInt, z_cl, z_m1, z_sg, z_255, Int32.reduceToInt] <;> omega) | (simp only [Int32.le_iff_toInt_le, Int32.lt_iff_toInt_lt, z_eq, z_in, z_add, z_sub, z_mul, z_neg, z_nI, z_cl, z_sg, z_255, z_lit, Int32.reduceToInt] <;> omega))) (s_fl1 (by rw [← z]; exact h0) ?_)
          rw [← z]
          refine p1 (fun e => ?_)
          obtain ⟨Y, hY⟩ := fl2_cut (d := d) cj (hb cj)
          rw [hY, k2] at e
          have := congrArg List.length e
          rw [List.length_append, List.length_cons] at this
          omega
        · refine br_t (by (first | omega | (simp (disch := omega) only [Int32.le_iff_toInt_le, Int32.lt_iff_toInt_lt, z_eq, z_in, nI_toInt, z_cl, z_m1, z_sg, z_255, Int32.reduceToInt] <;> omega) | (simp only [Int32.le_iff_toInt_le, Int32.lt_iff_toInt_lt, z_eq, z_in, z_add, z_sub, z_mul, z_neg, z_nI, z_cl, z_sg, z_255, z_lit, Int32.reduceToInt] <;> omega))) (s_fl0 ?_)
          rw [← z]
          refine p0 ?_
          rw [k2, List.take_of_length_le (by omega)]
      · have := p1 a
        rw [z] at this
        exact ⟨fun _ => s_fl0 this, fun _ => s_flt (y69 z) this⟩
    by_cases cj : j < B.length
    · have bj := hrow (A.length + j) (by omega)
      rw [gB] at bj
      refine br_f (by (first | omega | (simp (disch := omega) only [Int32.le_iff_toInt_le, Int32.lt_iff_toInt_lt, z_eq, z_in, nI_toInt, z_cl, z_m1, z_sg, z_255, Int32.reduceToInt] <;> omega) | (simp only [Int32.le_iff_toInt_le, Int32.lt_iff_toInt_lt, z_eq, z_in, z_add, z_sub, z_mul, z_neg, z_nI, z_cl, z_sg, z_255, z_lit, Int32.reduceToInt] <;> omega))) ⟨v58 (A.length + j) (by omega), ?_⟩
      rw [r58 (A.length + j) (by omega), gB]
      by_cases kr : (B.getD j en0).2.1 ≤ r
      · exact br_t (by (first | omega | (simp (disch := omega) only [Int32.le_iff_toInt_le, Int32.lt_iff_toInt_lt, z_eq, z_in, nI_toInt, z_cl, z_m1, z_sg, z_255, Int32.reduceToInt] <;> omega) | (simp only [Int32.le_iff_toInt_le, Int32.lt_iff_toInt_lt, z_eq, z_in, z_add, z_sub, z_mul, z_neg, z_nI, z_cl, z_sg, z_255, z_lit, Int32.reduceToInt] <;> omega))) (fin (fun _ => kr))
      · refine br_f (by (first | omega | (simp (disch := omega) only [Int32.le_iff_toInt_le, Int32.lt_iff_toInt_lt, z_eq, z_in, nI_toInt, z_cl, z_m1, z_sg, z_255, Int32.reduceToInt] <;> omega) | (simp only [Int32.le_iff_toInt_le, Int32.lt_iff_toInt_lt, z_eq, z_in, z_add, z_sub, z_mul, z_neg, z_nI, z_cl, z_sg, z_255, z_lit, Int32.reduceToInt] <;> omega))) ?_
        rw [nI_1]
        refine ih2 _ _ _ _ _ _ _ _ ⟨rfl, rfl, rfl, rfl, rfl, rfl, rfl, j + 1, rfl, by omega, fun z => ⟨by omega, ?_⟩⟩ (by rw [nI_clamp (by omega), nI_clamp (by omega)]; omega)
        rw [fl2_take cj, if_neg kr, List.append_nil]
        exact (j2 z).2
    · exact br_t (by (first | omega | (simp (disch := omega) only [Int32.le_iff_toInt_le, Int32.lt_iff_toInt_lt, z_eq, z_in, nI_toInt, z_cl, z_m1, z_sg, z_255, Int32.reduceToInt] <;> omega) | (simp only [Int32.le_iff_toInt_le, Int32.lt_iff_toInt_lt, z_eq, z_in, z_add, z_sub, z_mul, z_neg, z_nI, z_cl, z_sg, z_255, z_lit, Int32.reduceToInt] <;> omega))) (fin (fun z => absurd z cj))
theorem s_apart {post : St → Prop} {w c a0 : Nat} {A B : List SEn} (hL : LM x) (hw : WfS F) (hR : RepM x 1 F) (h0 : fI x 0 69 = 0) (hc : c + 1 < ncol F) (hw1 : w + 1 < 13401) (h64 : fA x 65 w = nI a0) (h65 : fA x 65 (w + 1) = nI (a0 + A.length)) (h87 : fI x 0 87 = nI (a0 + A.length + B.length)) (he : a0 + A.length + B.length ≤ 10000)
    (hrow : ∀ k, k < A.length + B.length → fA x 58 (a0 + k) = nI ((A ++ B).getD k en0).2.1 ∧ fA x 59 (a0 + k) = nI ((A ++ B).getD k en0).2.2.1 ∧ ((A ++ B).getD k en0).2.1 < 128 ∧ ((A ++ B).getD k en0).2.2.1 < 128)
    (p0 : ¬ aprt F (lfC F c) (lfC F (c + 1)) A B → post x) (p1 : aprt F (lfC F c) (lfC F (c + 1)) A B → post (setI x 0 69 21)) : wp_Mod_apart post (nI (w + 1)) (nI (c + 1)) x := by
  have l11 : fN x 11 = 192 := hL 11
  have l65 : fN x 65 = 13401 := hL 65
  have hF := hw.1
  have hC := hw.2.1
  have k0 := lfC_ok (F := F) (c := c) (by omega)
  have k1 := lfC_ok hc
  have lt : lfC F c < lfC F (c + 1) := by
    have := cB_iff (a := lfC F (c + 1)) (show c < ncol F by omega)
    rw [k1.2.2] at this
    rcases Nat.lt_or_ge (lfC F c) (lfC F (c + 1)) with z | z
    · exact z
    · have := this.mpr z
      omega
  unfold wp_Mod_apart
  rw [i64, show (1 : Int32) = nI 1 from rfl, nI_sub (by omega), show 64 + (c + 1) - 1 = 64 + c by omega, nI_sub (by omega), Nat.add_sub_cancel]
  refine ⟨vp_in_nI (by omega) (by omega), vp_in_nI (by omega) (by omega), ?_⟩
  rw [rA_nI (by omega), rA_nI (by omega), show fA x 11 (64 + c) = nI (lfC F c) from col11q (q := 1) hR (by omega), show fA x 11 (64 + (c + 1)) = nI (lfC F (c + 1)) from col11q (q := 1) hR hc]
  refine s_around hL hw hR lt k1.1 ?_
  rcases fnd_is (p := fun g => decide (dsc F g (lfC F c) ∧ dsc F g (lfC F (c + 1)))) (N := lfC F c) with z | ⟨g, g1, g2, -⟩
  · have z' : arnd F (lfC F c) (lfC F (c + 1)) = -1 := z
    exact bn_t z' (p0 (fun w => w.1 z'))
  · have z' : arnd F (lfC F c) (lfC F (c + 1)) = nI g := g2
    have up : rF F g ≤ 17 ∧ dG F (nI g) ≤ 17 := by
      have gk : gOk F.length (nI g) := Or.inr ⟨g, by omega, rfl⟩
      exact ⟨up17 hw gk (fun _ => by unfold wRep; split <;> decide), up17 hw gk (fun _ => by unfold wDef; split <;> decide)⟩
    unfold aprt at p0 p1
    rw [z', nI_clamp (by omega)] at p0 p1
    rw [z']
    refine bn_f (nI_nm1 (by omega)) (s_lev1 hL hw hR (by omega) ?_)
    rw [if_neg (by decide)]
    refine s_lev1 hL hw hR (by omega) ?_
    rw [if_pos rfl]
    refine ⟨vp_in_nI (by omega) (by omega), nm_r (e' := nI (a0 + A.length)) (by rw [rA_nI (by omega)]; exact h65) ⟨vp_in_nI (by omega) (by omega), nm_r (e' := nI a0) (by rw [rA_nI (by omega)]; exact h64) ?_⟩⟩
    exact s_aprtL hL h0 up.1 up.2 hw1 h65 h87 he hrow (fun e => p0 (fun w => w.2 e)) (fun e => p1 ⟨nI_nm1 (by omega), e⟩)
end
