/-! texts in parts; the DICTIONARY of the model -/
section
variable {x : St} {ty : Nat} {P : List PV}
/-- a row of longs is filled -/
theorem s_front {post : St → Prop} {B : List Nat} (h : PgM x ty P) (h3 : ty = 3) (hS : Sh x B) (hB : B.length ≤ 2 ^ 20) (p : ∀ y, FrV x y → Sh y (B ++ frontB P) → post y) : wp_Mod_writeFront post x := by
  have hl := h.2.2.2.2.1
  have c1 := cdB_len (V := fun k => lN (cm P k)) (m := P.length)
  have c2 := cdB_len (V := lesV (cm P) P) (m := P.length)
  have hof := h.2.2.2.2.2.2.2.2.2
  unfold wp_Mod_writeFront
  rw [h.2.1]
  refine nm_e ?_
  refine lp_Mod_writeFront_10 (fun a0 z => ∃ k, nI k = a0 ∧ k ≤ P.length ∧ FrV x z ∧ Sh z B ∧ fI z 0 71 = nI P.length ∧ ∀ i, i < k → fL z 43 i = lN (cm P i)) (fun a0 _ => P.length - a0.toNatClampNeg) ?_ _ _ ⟨0, rfl, Nat.zero_le _, Fg.i ⟨rfl, Or.inr rfl⟩, ⟨(gI_ne (by decide)).trans hS.1, hS.2⟩, gI_at, fun i hi => absurd hi (Nat.not_lt_zero _)⟩
  rintro Q a0 z ⟨k, rfl, k1, z1, z2, z3, z4⟩ ih
  have hz := h.v z1
  have e43 : fN z 43 = 2000 := hz.2.2.2.2.2.1 43
  unfold j_Mod_writeFront_10
  rw [hz.2.1]
  by_cases c : k < P.length
  · have l1 := (h.ok h3 c).1
    have l2 := cm_le (P := P) k
    refine br_f (by (first | omega | (simp (disch := omega) only [Int32.le_iff_toInt_le, Int32.lt_iff_toInt_lt, z_eq, z_in, nI_toInt, z_cl, z_m1, z_sg, z_255, Int32.reduceToInt] <;> omega) | (simp only [Int32.le_iff_toInt_le, Int32.lt_iff_toInt_lt, z_eq, z_in, z_add, z_sub, z_mul, z_neg, z_nI, z_cl, z_sg, z_255, z_lit, Int32.reduceToInt] <;> omega))) (s_inCommon hz h3 c ⟨vp_in_nI (by omega) (by omega), nm_e ?_⟩)
    rw [nI_1, nI_l (by omega)]
    refine ih _ _ ⟨k + 1, rfl, by omega, Fg.trans z1 (Fg.l rfl), z2, z3, fun i hi => ?_⟩ (by rw [nI_clamp (by omega), nI_clamp (by omega)]; omega)
    rw [gL_at, nI_clamp (by omega)]
    by_cases e : i = k
    · rw [e, updL_at]
    · rw [updL_ne e]; exact z4 i (by omega)
  · have ek : k = P.length := by omega
    subst ek
    refine br_t (by (first | omega | (simp (disch := omega) only [Int32.le_iff_toInt_le, Int32.lt_iff_toInt_lt, z_eq, z_in, nI_toInt, z_cl, z_m1, z_sg, z_255, Int32.reduceToInt] <;> omega) | (simp only [Int32.le_iff_toInt_le, Int32.lt_iff_toInt_lt, z_eq, z_in, z_add, z_sub, z_mul, z_neg, z_nI, z_cl, z_sg, z_255, z_lit, Int32.reduceToInt] <;> omega))) (s_writeCode (V := fun k => lN (cm P k)) (m := P.length) ⟨z3, by omega, e43, z4⟩ z2 (by omega) (fun y y1 y2 => ?_))
    have y2 : Sh y (B ++ cdB (fun k => lN (cm P k)) P.length) := y2
    refine lp_Mod_writeFront_42 (fun a0 w => ∃ k, nI k = a0 ∧ k ≤ P.length ∧ FrV x w ∧ Sh w (B ++ cdB (fun k => lN (cm P k)) P.length) ∧ fI w 0 71 = nI P.length ∧ ∀ i, i < k → fL w 43 i = lesV (cm P) P i) (fun a0 _ => P.length - a0.toNatClampNeg) ?_ _ _ ⟨0, rfl, Nat.zero_le _, Fg.trans z1 y1.v, y2, (y1.1 0 71 (by decide)).trans z3, fun i hi => absurd hi (Nat.not_lt_zero _)⟩
    rintro Q' a0 w ⟨k, rfl, k1, w1, w2, w3, w4⟩ ih'
    have hw := h.v w1
    have f43 : fN w 43 = 2000 := hw.2.2.2.2.2.1 43
    unfold j_Mod_writeFront_42
    rw [hw.2.1]
    by_cases c : k < P.length
    · have l1 := (h.ok h3 c).1
      have l2 := cm_le (P := P) k
      refine br_f (by (first | omega | (simp (disch := omega) only [Int32.le_iff_toInt_le, Int32.lt_iff_toInt_lt, z_eq, z_in, nI_toInt, z_cl, z_m1, z_sg, z_255, Int32.reduceToInt] <;> omega) | (simp only [Int32.le_iff_toInt_le, Int32.lt_iff_toInt_lt, z_eq, z_in, z_add, z_sub, z_mul, z_neg, z_nI, z_cl, z_sg, z_255, z_lit, Int32.reduceToInt] <;> omega))) (s_lengthOf hw c (s_inCommon hw h3 c ⟨vp_in_nI (by omega) (by omega), nm_e ?_⟩))
      rw [nI_1, nI_sub l2, nI_l (by omega)]
      refine ih' _ _ ⟨k + 1, rfl, by omega, Fg.trans w1 (Fg.l rfl), w2, w3, fun i hi => ?_⟩ (by rw [nI_clamp (by omega), nI_clamp (by omega)]; omega)
      rw [gL_at, nI_clamp (by omega)]
      by_cases e : i = k
      · rw [e, updL_at]; rfl
      · rw [updL_ne e]; exact w4 i (by omega)
    · have ek : k = P.length := by omega
      subst ek
      refine br_t (by (first | omega | (simp (disch := omega) only [Int32.le_iff_toInt_le, Int32.lt_iff_toInt_lt, z_eq, z_in, nI_toInt, z_cl, z_m1, z_sg, z_255, Int32.reduceToInt] <;> omega) | (simp only [Int32.le_iff_toInt_le, Int32.lt_iff_toInt_lt, z_eq, z_in, z_add, z_sub, z_mul, z_neg, z_nI, z_cl, z_sg, z_255, z_lit, Int32.reduceToInt] <;> omega))) (s_writeCode (V := lesV (cm P) P) (m := P.length) ⟨w3, by omega, f43, w4⟩ w2 (by rw [List.length_append]; omega) (fun v v1 v2 => ?_))
      have v2 : Sh v (B ++ cdB (fun k => lN (cm P k)) P.length ++ cdB (lesV (cm P) P) P.length) := v2
      refine lp_Mod_writeFront_80 (fun a0 u => ∃ k, nI k = a0 ∧ k ≤ P.length ∧ FrV x u ∧ Sh u (B ++ cdB (fun k => lN (cm P k)) P.length ++ cdB (lesV (cm P) P) P.length ++ rsF (cm P) P k 0)) (fun a0 _ => P.length - a0.toNatClampNeg) ?_ _ _ ⟨0, rfl, Nat.zero_le _, Fg.trans w1 v1.v, by show Sh v (_ ++ []); rw [List.append_nil]; exact v2⟩
      rintro Q2 a0 u ⟨k, rfl, k1, u1, u2⟩ ih2
      have hu := h.v u1
      unfold j_Mod_writeFront_80
      rw [hu.2.1]
      by_cases c : k < P.length
      · have ok := h.ok h3 c
        have l1 := ok.1
        have l2 := cm_le (P := P) k
        have ee := hu.end c
        refine br_f (by (first | omega | (simp (disch := omega) only [Int32.le_iff_toInt_le, Int32.lt_iff_toInt_lt, z_eq, z_in, nI_toInt, z_cl, z_m1, z_sg, z_255, Int32.reduceToInt] <;> omega) | (simp only [Int32.le_iff_toInt_le, Int32.lt_iff_toInt_lt, z_eq, z_in, z_add, z_sub, z_mul, z_neg, z_nI, z_cl, z_sg, z_255, z_lit, Int32.reduceToInt] <;> omega))) ⟨ee.2.2.1, s_inCommon hu h3 c ?_⟩
        rw [ee.2.2.2.1, nI_add]
        refine nm_e ?_
        refine lp_Mod_writeFront_101 (fun b0 b1 t => nI k = b0 ∧ ∃ j, nI (oF P k + (cm P k + j)) = b1 ∧ cm P k + j ≤ (pvd P k).2.length ∧ FrV x t ∧ Sh t (B ++ cdB (fun k => lN (cm P k)) P.length ++ cdB (lesV (cm P) P) P.length ++ rsF (cm P) P k 0 ++ tB (((pvd P k).2.drop (cm P k)).take j))) (fun _ b1 _ => 20001 - b1.toNatClampNeg) ?_ _ _ _ ⟨rfl, 0, rfl, by omega, u1, by rw [List.take_zero]; show Sh u (_ ++ []); rw [List.append_nil]; exact u2⟩
        rintro Q3 b0 b1 t ⟨rfl, j, rfl, j1, t1, t2⟩ ih3
        have ht := h.v t1
        have et := ht.end c
        have rl := rsF_len (P := P) (c := cm P) k
        have ol := oF_le (P := P) (show k ≤ P.length by omega)
        unfold j_Mod_writeFront_101
        refine ⟨et.1, ?_⟩
        rw [et.2.1]
        by_cases cj : cm P k + j < (pvd P k).2.length
        · have r := ht.rd2 c cj
          have okj := ok.2 _ cj
          refine br_f (by (first | omega | (simp (disch := omega) only [Int32.le_iff_toInt_le, Int32.lt_iff_toInt_lt, z_eq, z_in, nI_toInt, z_cl, z_m1, z_sg, z_255, Int32.reduceToInt] <;> omega) | (simp only [Int32.le_iff_toInt_le, Int32.lt_iff_toInt_lt, z_eq, z_in, z_add, z_sub, z_mul, z_neg, z_nI, z_cl, z_sg, z_255, z_lit, Int32.reduceToInt] <;> omega))) ⟨r.1, ?_⟩
          rw [r.2, nI_1]
          refine s_put t2 ?_ (uI_by okj) (by_and okj) (fun q q1 q2 => ih3 _ _ _ ⟨rfl, j + 1, rfl, by omega, Fg.trans t1 q1.v, ?_⟩ (by rw [nI_clamp (by omega), nI_clamp (by omega)]; omega))
          · rw [List.length_append, List.length_append, List.length_append, List.length_append, tB_len, List.length_take, List.length_drop]
            omega
          · rw [tk_s (by rw [List.length_drop]; omega), ← List.append_assoc]
            have : ((pvd P k).2.drop (cm P k)).getD j 0 = (pvd P k).2.getD (cm P k + j) 0 := by
              rw [List.getD_eq_getElem?_getD, List.getElem?_drop, List.getD_eq_getElem?_getD]
            rw [this]
            exact q2
        · refine br_t (by (first | omega | (simp (disch := omega) only [Int32.le_iff_toInt_le, Int32.lt_iff_toInt_lt, z_eq, z_in, nI_toInt, z_cl, z_m1, z_sg, z_255, Int32.reduceToInt] <;> omega) | (simp only [Int32.le_iff_toInt_le, Int32.lt_iff_toInt_lt, z_eq, z_in, z_add, z_sub, z_mul, z_neg, z_nI, z_cl, z_sg, z_255, z_lit, Int32.reduceToInt] <;> omega))) ?_
          rw [nI_1]
          refine ih2 _ _ ⟨k + 1, rfl, by omega, t1, ?_⟩ (by rw [nI_clamp (by omega), nI_clamp (by omega)]; omega)
          rw [rsF_snoc, Nat.zero_add, ← List.append_assoc]
          rw [show ((pvd P k).2.drop (cm P k)).take j = (pvd P k).2.drop (cm P k) from List.take_of_length_le (by rw [List.length_drop]; omega)] at t2
          exact t2
      · refine br_t (by (first | omega | (simp (disch := omega) only [Int32.le_iff_toInt_le, Int32.lt_iff_toInt_lt, z_eq, z_in, nI_toInt, z_cl, z_m1, z_sg, z_255, Int32.reduceToInt] <;> omega) | (simp only [Int32.le_iff_toInt_le, Int32.lt_iff_toInt_lt, z_eq, z_in, z_add, z_sub, z_mul, z_neg, z_nI, z_cl, z_sg, z_255, z_lit, Int32.reduceToInt] <;> omega))) (p u u1 ?_)
        have ek : k = P.length := by omega
        subst ek
        unfold frontB
        rw [← List.append_assoc, ← List.append_assoc]
        exact u2
/-- the DICTIONARY's values so far -/
theorem mem_dI : ∀ k i, i < k → kk ty P i ∈ (dI ty P k).map (kk ty P) := by
  intro k
  induction k with
  | zero => intro i h; exact absurd h (Nat.not_lt_zero _)
  | succ k ih =>
    intro i h
    by_cases c : kk ty P k ∈ (dI ty P k).map (kk ty P)
    · have e : dI ty P (k + 1) = dI ty P k := if_pos c
      rw [e]
      by_cases z : i = k
      · rw [z]; exact c
      · exact ih i (by omega)
    · have e : dI ty P (k + 1) = dI ty P k ++ [k] := if_neg c
      rw [e, List.map_append]
      by_cases z : i = k
      · rw [z]; exact List.mem_append_right _ (List.mem_singleton.mpr rfl)
      · exact List.mem_append_left _ (ih i (by omega))
theorem dI_lt : ∀ k g, g ∈ dI ty P k → g < k := by
  intro k
  induction k with
  | zero => intro g h; exact absurd h (by show ¬ g ∈ []; simp)
  | succ k ih =>
    intro g h
    by_cases c : kk ty P k ∈ (dI ty P k).map (kk ty P)
    · have e : dI ty P (k + 1) = dI ty P k := if_pos c
      rw [e] at h
      have := ih g h
      omega
    · have e : dI ty P (k + 1) = dI ty P k ++ [k] := if_neg c
      rw [e] at h
      rcases List.mem_append.mp h with z | z
      · have := ih g z; omega
      · rw [List.mem_singleton.mp z]; omega
/-- new, or there -/
theorem dI_step {j k : Nat} (h1 : j ≤ k) (h2 : kk ty P j = kk ty P k) (h3 : ∀ i, i < j → kk ty P i ≠ kk ty P k) : (j = k ∧ ¬ kk ty P k ∈ (dI ty P k).map (kk ty P) ∧ dI ty P (k + 1) = dI ty P k ++ [k]) ∨ (j < k ∧ kk ty P k ∈ (dI ty P k).map (kk ty P) ∧ dI ty P (k + 1) = dI ty P k) := by
  by_cases c : j = k
  · have hn : ¬ kk ty P k ∈ (dI ty P k).map (kk ty P) := fun z => by
      obtain ⟨g, g1, g2⟩ := List.mem_map.mp z
      exact h3 g (by rw [c]; exact dI_lt k g g1) g2
    exact Or.inl ⟨c, hn, if_neg hn⟩
  · have hm : kk ty P k ∈ (dI ty P k).map (kk ty P) := by
      rw [← h2]
      exact mem_dI k j (by omega)
    exact Or.inr ⟨by omega, hm, if_pos hm⟩
end
