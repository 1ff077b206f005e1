/-! the page of the model: its values -/
def oF (P : List PV) : Nat → Nat
  | 0 => 0
  | k + 1 => oF P k + (pvd P k).2.length
theorem oF_le {P : List PV} : ∀ {k n}, k ≤ n → oF P k ≤ oF P n := by
  intro k n h
  induction n with
  | zero => rw [show k = 0 by omega]; exact Nat.le_refl _
  | succ n ih =>
    by_cases c : k = n + 1
    · rw [c]; exact Nat.le_refl _
    · exact Nat.le_trans (ih (by omega)) (Nat.le_add_right _ _)
/-- a page of the model -/
def PgM (x : St) (ty : Nat) (P : List PV) : Prop := fI x 0 38 = nI ty ∧ fI x 0 42 = nI P.length ∧ ty < 4 ∧ okP ty P ∧ P.length ≤ 1000 ∧ LM x ∧ (∀ k, k < P.length → fL x 30 k = (pvd P k).1) ∧ (∀ k, k ≤ P.length → fA x 33 k = nI (oF P k)) ∧ (∀ k j, k < P.length → j < (pvd P k).2.length → fA x 36 (oF P k + j) = (pvd P k).2.getD j 0) ∧ oF P P.length ≤ 20000
abbrev FrV (x y : St) : Prop := Fg (fun o k => o = 0 ∧ (k = 64 ∨ k = 71)) no2 no2 (fun a => a = 39 ∨ a = 44) (fun a => a = 43) x y
theorem FrSh.v {x y : St} (h : FrSh x y) : FrV x y := h.mono (fun _ _ z => ⟨z.1, Or.inl z.2⟩) (fun _ _ z => z) (fun _ _ z => z) (fun _ z => Or.inl z) (fun _ z => z.elim)
theorem PgM.v {x y : St} {ty : Nat} {P : List PV} (h : PgM x ty P) (f : FrV x y) : PgM y ty P := by
  obtain ⟨h1, h2, h3, h4, h5, h6, h7, h8, h9, h10⟩ := h
  obtain ⟨f1, f2, f3, f4, f5, f6⟩ := f
  have e30 : fL y 30 = fL x 30 := f5 30 (by decide)
  have e33 : fA y 33 = fA x 33 := f4 33 (by decide)
  have e36 : fA y 36 = fA x 36 := f4 36 (by decide)
  refine ⟨(f1 0 38 (by decide)).trans h1, (f1 0 42 (by decide)).trans h2, h3, h4, h5, fun o => ?_, fun k hk => ?_, fun k hk => ?_, fun k j hk hj => ?_, h10⟩
  · show y.2.2.2.2.2 o = _
    rw [f6]
    exact h6 o
  · rw [e30]; exact h7 k hk
  · rw [e33]; exact h8 k hk
  · rw [e36]; exact h9 k j hk hj
section
variable {x : St} {ty : Nat} {P : List PV}
theorem s_lengthOf {post : Int32 → St → Prop} {k : Nat} (h : PgM x ty P) (hk : k < P.length) (p : post (nI (pvd P k).2.length) x) : wp_Mod_lengthOf post (nI k) x := by
  obtain ⟨h1, h2, h3, h4, h5, h6, h7, h8, h9, h10⟩ := h
  have e33 : fN x 33 = 1001 := h6 33
  unfold wp_Mod_lengthOf
  rw [nI_1]
  refine ⟨vp_in_nI (by omega) (by omega), vp_in_nI (by omega) (by omega), ?_⟩
  rw [rA_nI (by omega), rA_nI (by omega), h8 _ (by omega), h8 _ (by omega), nI_sub (oF_le (by omega))]
  rw [show oF P (k + 1) - oF P k = (pvd P k).2.length by show oF P k + (pvd P k).2.length - oF P k = _; omega]
  exact p
/-- a byte of a text -/
theorem PgM.rd {k j : Nat} (h : PgM x ty P) (hk : k < P.length) (hj : j < (pvd P k).2.length) : vp_in (nI k) (fN x 33) ∧ vp_in (rA x 33 (nI k) + nI j) (fN x 36) ∧ rA x 36 (rA x 33 (nI k) + nI j) = (pvd P k).2.getD j 0 := by
  obtain ⟨h1, h2, h3, h4, h5, h6, h7, h8, h9, h10⟩ := h
  have e33 : fN x 33 = 1001 := h6 33
  have e36 : fN x 36 = 20000 := h6 36
  have := oF_le (P := P) (show k + 1 ≤ P.length by omega)
  have e : oF P (k + 1) = oF P k + (pvd P k).2.length := rfl
  refine ⟨vp_in_nI (by omega) (by omega), ?_, ?_⟩
  · rw [rA_nI (by omega), h8 k (by omega), nI_add]
    exact vp_in_nI (by omega) (by omega)
  · rw [rA_nI (by omega), h8 k (by omega), nI_add, rA_nI (by omega)]
    exact h9 k j hk hj
theorem PgM.ok (h : PgM x ty P) {k : Nat} (h3 : ty = 3) (hk : k < P.length) : okT (pvd P k).2 := (h.2.2.2.1.2 k hk).2 h3
theorem s_sameText {post : Int32 → St → Prop} {j k : Nat} (h : PgM x ty P) (h3 : ty = 3) (hj : j < P.length) (hk : k < P.length) (p1 : (pvd P j).2 = (pvd P k).2 → post 1 x) (p0 : (pvd P j).2 ≠ (pvd P k).2 → post 0 x) : wp_Mod_sameText post (nI j) (nI k) x := by
  have lj := (h.ok h3 hj).1
  have lk := (h.ok h3 hk).1
  have key : ∀ b : Int32, (b = 0 ∧ (pvd P j).2 ≠ (pvd P k).2) ∨ (b = 1 ∧ (pvd P j).2.length = (pvd P k).2.length) → j_Mod_sameText_18 post (nI j) (nI k) b x := by
    intro b hb
    unfold j_Mod_sameText_18
    refine lp_Mod_sameText_22 (fun a0 a1 a2 a3 y => nI j = a0 ∧ nI k = a1 ∧ x = y ∧ ∃ i, nI i = a3 ∧ i ≤ 256 ∧ ((a2 = 0 ∧ (pvd P j).2 ≠ (pvd P k).2) ∨ (a2 = 1 ∧ (pvd P j).2.length = (pvd P k).2.length ∧ i ≤ (pvd P k).2.length ∧ ∀ q, q < i → (pvd P j).2.getD q 0 = (pvd P k).2.getD q 0))) (fun _ _ _ a3 _ => 257 - a3.toNatClampNeg) ?_ _ _ _ _ _ ⟨rfl, rfl, rfl, 0, rfl, by decide, by
      rcases hb with z | z
      · exact Or.inl z
      · exact Or.inr ⟨z.1, z.2, Nat.zero_le _, fun q hq => absurd hq (Nat.not_lt_zero _)⟩⟩
    rintro Q a0 a1 a2 a3 y ⟨rfl, rfl, rfl, i, rfl, i1, hi⟩ ih
    unfold j_Mod_sameText_22
    rcases hi with ⟨rfl, hne⟩ | ⟨rfl, hl, hi, hq⟩
    · refine br_t rfl ?_
      unfold j_Mod_sameText_79
      exact ⟨rfl, p0 hne⟩
    · refine br_f (by decide) (s_lengthOf h hk ?_)
      by_cases c : i < (pvd P k).2.length
      · have r1 := h.rd hj (show i < (pvd P j).2.length by omega)
        have r2 := h.rd hk c
        refine br_f (by (first | omega | (simp (disch := omega) only [Int32.le_iff_toInt_le, Int32.lt_iff_toInt_lt, z_eq, z_in, nI_toInt, z_cl, z_m1, z_sg, z_255, Int32.reduceToInt] <;> omega) | (simp only [Int32.le_iff_toInt_le, Int32.lt_iff_toInt_lt, z_eq, z_in, z_add, z_sub, z_mul, z_neg, z_nI, z_cl, z_sg, z_255, z_lit, Int32.reduceToInt] <;> omega))) ⟨r1.1, r1.2.1, r2.1, r2.2.1, ?_⟩
        rw [r1.2.2, r2.2.2]
        unfold j_Mod_sameText_72
        rw [nI_1]
        by_cases e : (pvd P j).2.getD i 0 = (pvd P k).2.getD i 0
        · refine bn_t e (ih _ _ _ _ _ ⟨rfl, rfl, rfl, i + 1, rfl, by omega, Or.inr ⟨rfl, hl, by omega, fun q hq' => ?_⟩⟩ (by rw [nI_clamp (by omega), nI_clamp (by omega)]; omega))
          by_cases z : q = i
          · rw [z]; exact e
          · exact hq q (by omega)
        · exact bn_f e (ih _ _ _ _ _ ⟨rfl, rfl, rfl, i + 1, rfl, by omega, Or.inl ⟨rfl, fun z => e (by rw [z])⟩⟩ (by rw [nI_clamp (by omega), nI_clamp (by omega)]; omega))
      · refine br_t (by (first | omega | (simp (disch := omega) only [Int32.le_iff_toInt_le, Int32.lt_iff_toInt_lt, z_eq, z_in, nI_toInt, z_cl, z_m1, z_sg, z_255, Int32.reduceToInt] <;> omega) | (simp only [Int32.le_iff_toInt_le, Int32.lt_iff_toInt_lt, z_eq, z_in, z_add, z_sub, z_mul, z_neg, z_nI, z_cl, z_sg, z_255, z_lit, Int32.reduceToInt] <;> omega))) ?_
        unfold j_Mod_sameText_79
        refine ⟨rfl, p1 ?_⟩
        have ec := cpl_is (s := (pvd P j).2) (t := (pvd P k).2) (c := i) (by omega) (by omega) hq (Or.inr (Or.inl (by omega)))
        exact cpl_full (by omega) hl
  unfold wp_Mod_sameText
  refine s_lengthOf h hj (s_lengthOf h hk ?_)
  by_cases e : (pvd P j).2.length = (pvd P k).2.length
  · exact bn_t (by rw [e]) (key 1 (Or.inr ⟨rfl, e⟩))
  · refine bn_f (fun z => e ?_) (key 0 (Or.inl ⟨rfl, fun z => e (by rw [z])⟩))
    have := congrArg uI z
    rw [uI_nI (by omega), uI_nI (by omega)] at this
    exact this
theorem kk3 {j k : Nat} (h : ty = 3) : kk ty P j = kk ty P k ↔ (pvd P j).2 = (pvd P k).2 := by
  unfold kk kv
  rw [if_pos h, if_pos h]
  exact ⟨fun z => (Prod.mk.inj z).2, fun z => by rw [z]⟩
theorem kkw {j k : Nat} (h : ty ≠ 3) : kk ty P j = kk ty P k ↔ (pvd P j).1 = (pvd P k).1 := by
  unfold kk kv
  rw [if_neg h, if_neg h]
  exact ⟨fun z => (Prod.mk.inj z).1, fun z => by rw [z]⟩
theorem s_firstLike {post : Int32 → St → Prop} {k : Nat} (h : PgM x ty P) (h3 : ty = 3) (hk : k < P.length) (p : ∀ j, j ≤ k → kk ty P j = kk ty P k → (∀ i, i < j → kk ty P i ≠ kk ty P k) → post (nI j) x) : wp_Mod_firstLike post (nI k) x := by
  unfold wp_Mod_firstLike
  have hl := h.2.2.2.2.1
  refine lp_Mod_firstLike_2 (fun a0 a1 y => nI k = a0 ∧ x = y ∧ ∃ j, nI j = a1 ∧ j ≤ k ∧ ∀ i, i < j → kk ty P i ≠ kk ty P k) (fun _ a1 _ => k - a1.toNatClampNeg) ?_ _ _ _ ⟨rfl, rfl, 0, rfl, Nat.zero_le _, fun i hi => absurd hi (Nat.not_lt_zero _)⟩
  rintro Q a0 a1 y ⟨rfl, rfl, j, rfl, j1, j2⟩ ih
  unfold j_Mod_firstLike_2
  refine s_sameText h h3 (by omega) hk (fun e => bn_f (by decide) (p j j1 ((kk3 h3).mpr e) j2)) (fun e => bn_t rfl ?_)
  have hj : j ≠ k := fun z => e (by rw [z])
  rw [nI_1]
  refine ih _ _ _ ⟨rfl, rfl, j + 1, rfl, by omega, fun i hi => ?_⟩ (by rw [nI_clamp (by omega), nI_clamp (by omega)]; omega)
  by_cases z : i = j
  · rw [z]; exact fun w => e ((kk3 h3).mp w)
  · exact j2 i (by omega)
theorem s_firstWhole {post : Int32 → St → Prop} {k : Nat} (h : PgM x ty P) (h3 : ty ≠ 3) (hk : k < P.length) (p : ∀ j, j ≤ k → kk ty P j = kk ty P k → (∀ i, i < j → kk ty P i ≠ kk ty P k) → post (nI j) x) : wp_Mod_firstWhole post (nI k) x := by
  unfold wp_Mod_firstWhole
  obtain ⟨h1, h2, -, h4, h5, h6, h7, -⟩ := h
  have e30 : fN x 30 = 1000 := h6 30
  refine lp_Mod_firstWhole_2 (fun a0 a1 y => nI k = a0 ∧ x = y ∧ ∃ j, nI j = a1 ∧ j ≤ k ∧ ∀ i, i < j → kk ty P i ≠ kk ty P k) (fun _ a1 _ => k - a1.toNatClampNeg) ?_ _ _ _ ⟨rfl, rfl, 0, rfl, Nat.zero_le _, fun i hi => absurd hi (Nat.not_lt_zero _)⟩
  rintro Q a0 a1 y ⟨rfl, rfl, j, rfl, j1, j2⟩ ih
  unfold j_Mod_firstWhole_2
  refine ⟨vp_in_nI (by omega) (by omega), vp_in_nI (by omega) (by omega), ?_⟩
  rw [rL_nI (by omega), rL_nI (by omega), h7 j (by omega), h7 k hk]
  by_cases e : (pvd P j).1 = (pvd P k).1
  · exact br_t ((lg_cmp_eq _ _).mpr e) (p j j1 ((kkw h3).mpr e) j2)
  · refine br_f (fun z => e ((lg_cmp_eq _ _).mp z)) ?_
    have hj : j ≠ k := fun z => e (by rw [z])
    rw [nI_1]
    refine ih _ _ _ ⟨rfl, rfl, j + 1, rfl, by omega, fun i hi => ?_⟩ (by rw [nI_clamp (by omega), nI_clamp (by omega)]; omega)
    by_cases z : i = j
    · rw [z]; exact fun w => e ((kkw h3).mp w)
    · exact j2 i (by omega)
theorem s_inCommon {post : Int32 → St → Prop} {k : Nat} (h : PgM x ty P) (h3 : ty = 3) (hk : k < P.length) (p : post (nI (cm P k)) x) : wp_Mod_inCommon post (nI k) x := by
  unfold wp_Mod_inCommon
  have hl := h.2.2.2.2.1
  refine lp_Mod_inCommon_2 (fun a0 a1 y => nI k = a0 ∧ x = y ∧ ∃ i, nI i = a1 ∧ i ≤ 256 ∧ (k = 0 → i = 0) ∧ (¬ k = 0 → i ≤ (pvd P (k - 1)).2.length ∧ i ≤ (pvd P k).2.length ∧ ∀ q, q < i → (pvd P (k - 1)).2.getD q 0 = (pvd P k).2.getD q 0)) (fun _ a1 _ => 257 - a1.toNatClampNeg) ?_ _ _ _ ⟨rfl, rfl, 0, rfl, by decide, fun _ => rfl, fun _ => ⟨Nat.zero_le _, Nat.zero_le _, fun q hq => absurd hq (Nat.not_lt_zero _)⟩⟩
  rintro Q a0 a1 y ⟨rfl, rfl, i, rfl, i1, i2, i3⟩ ih
  unfold j_Mod_inCommon_2
  by_cases c0 : k = 0
  · refine br_t (by (first | omega | (simp (disch := omega) only [Int32.le_iff_toInt_le, Int32.lt_iff_toInt_lt, z_eq, z_in, nI_toInt, z_cl, z_m1, z_sg, z_255, Int32.reduceToInt] <;> omega) | (simp only [Int32.le_iff_toInt_le, Int32.lt_iff_toInt_lt, z_eq, z_in, z_add, z_sub, z_mul, z_neg, z_nI, z_cl, z_sg, z_255, z_lit, Int32.reduceToInt] <;> omega))) ?_
    unfold j_Mod_inCommon_63
    have e : cm P k = i := by unfold cm; rw [if_pos c0, i2 c0]
    rw [← e]
    exact p
  · obtain ⟨i4, i5, i6⟩ := i3 c0
    have lk := (h.ok h3 hk).1
    have lj := (h.ok h3 (show k - 1 < P.length by omega)).1
    have out : (i = (pvd P (k - 1)).2.length ∨ i = (pvd P k).2.length ∨ (pvd P (k - 1)).2.getD i 0 ≠ (pvd P k).2.getD i 0) → j_Mod_inCommon_63 post (nI k) (nI i) x := fun z => by
      unfold j_Mod_inCommon_63
      have e : cm P k = i := by unfold cm; rw [if_neg c0]; exact (cpl_is i4 i5 i6 z).symm
      rw [← e]
      exact p
    refine br_f (by (first | omega | (simp (disch := omega) only [Int32.le_iff_toInt_le, Int32.lt_iff_toInt_lt, z_eq, z_in, nI_toInt, z_cl, z_m1, z_sg, z_255, Int32.reduceToInt] <;> omega) | (simp only [Int32.le_iff_toInt_le, Int32.lt_iff_toInt_lt, z_eq, z_in, z_add, z_sub, z_mul, z_neg, z_nI, z_cl, z_sg, z_255, z_lit, Int32.reduceToInt] <;> omega))) (s_lengthOf h hk ?_)
    by_cases c1 : i < (pvd P k).2.length
    · refine br_f (by (first | omega | (simp (disch := omega) only [Int32.le_iff_toInt_le, Int32.lt_iff_toInt_lt, z_eq, z_in, nI_toInt, z_cl, z_m1, z_sg, z_255, Int32.reduceToInt] <;> omega) | (simp only [Int32.le_iff_toInt_le, Int32.lt_iff_toInt_lt, z_eq, z_in, z_add, z_sub, z_mul, z_neg, z_nI, z_cl, z_sg, z_255, z_lit, Int32.reduceToInt] <;> omega))) ?_
      rw [show nI k - 1 = nI (k - 1) from by rw [show (1 : Int32) = nI 1 from rfl, nI_sub (by omega)]]
      refine s_lengthOf h (by omega) ?_
      by_cases c2 : i < (pvd P (k - 1)).2.length
      · have r1 := h.rd (show k - 1 < P.length by omega) c2
        have r2 := h.rd hk c1
        refine br_f (by (first | omega | (simp (disch := omega) only [Int32.le_iff_toInt_le, Int32.lt_iff_toInt_lt, z_eq, z_in, nI_toInt, z_cl, z_m1, z_sg, z_255, Int32.reduceToInt] <;> omega) | (simp only [Int32.le_iff_toInt_le, Int32.lt_iff_toInt_lt, z_eq, z_in, z_add, z_sub, z_mul, z_neg, z_nI, z_cl, z_sg, z_255, z_lit, Int32.reduceToInt] <;> omega))) ⟨r2.1, r2.2.1, r1.1, r1.2.1, ?_⟩
        rw [r1.2.2, r2.2.2]
        by_cases e : (pvd P k).2.getD i 0 = (pvd P (k - 1)).2.getD i 0
        · refine bn_t e ?_
          rw [nI_1]
          refine ih _ _ _ ⟨rfl, rfl, i + 1, rfl, by omega, fun z => absurd z c0, fun _ => ⟨by omega, by omega, fun q hq => ?_⟩⟩ (by rw [nI_clamp (by omega), nI_clamp (by omega)]; omega)
          by_cases z : q = i
          · rw [z]; exact e.symm
          · exact i6 q (by omega)
        · exact bn_f e (out (Or.inr (Or.inr (fun z => e z.symm))))
      · exact br_t (by (first | omega | (simp (disch := omega) only [Int32.le_iff_toInt_le, Int32.lt_iff_toInt_lt, z_eq, z_in, nI_toInt, z_cl, z_m1, z_sg, z_255, Int32.reduceToInt] <;> omega) | (simp only [Int32.le_iff_toInt_le, Int32.lt_iff_toInt_lt, z_eq, z_in, z_add, z_sub, z_mul, z_neg, z_nI, z_cl, z_sg, z_255, z_lit, Int32.reduceToInt] <;> omega))) (out (by omega))
    · exact br_t (by (first | omega | (simp (disch := omega) only [Int32.le_iff_toInt_le, Int32.lt_iff_toInt_lt, z_eq, z_in, nI_toInt, z_cl, z_m1, z_sg, z_255, Int32.reduceToInt] <;> omega) | (simp only [Int32.le_iff_toInt_le, Int32.lt_iff_toInt_lt, z_eq, z_in, z_add, z_sub, z_mul, z_neg, z_nI, z_cl, z_sg, z_255, z_lit, Int32.reduceToInt] <;> omega))) (out (by omega))
theorem s_compareValues {post : Int32 → St → Prop} {j k : Nat} (h : PgM x ty P) (hj : j < P.length) (hk : k < P.length) (p : post (cmpV ty (pvd P j) (pvd P k)) x) : wp_Mod_compareValues post (nI j) (nI k) x := by
  unfold wp_Mod_compareValues
  have hty := h.2.2.1
  rw [h.1]
  by_cases c3 : ty = 3
  · have lk := (h.ok c3 hk).1
    have lj := (h.ok c3 hj).1
    have hl := h.2.2.2.2.1
    unfold cmpV at p
    rw [if_pos c3] at p
    unfold cmpT at p
    refine br_t (by rw [c3]; rfl) ?_
    refine lp_Mod_compareValues_52 (fun a0 a1 a2 y => nI j = a0 ∧ nI k = a1 ∧ x = y ∧ ∃ i, nI i = a2 ∧ i ≤ (pvd P j).2.length ∧ i ≤ (pvd P k).2.length ∧ ∀ q, q < i → (pvd P j).2.getD q 0 = (pvd P k).2.getD q 0) (fun _ _ a2 _ => 257 - a2.toNatClampNeg) ?_ _ _ _ _ ⟨rfl, rfl, rfl, 0, rfl, Nat.zero_le _, Nat.zero_le _, fun q hq => absurd hq (Nat.not_lt_zero _)⟩
    rintro Q a0 a1 a2 y ⟨rfl, rfl, rfl, i, rfl, i4, i5, i6⟩ ih
    have out : (i = (pvd P j).2.length ∨ i = (pvd P k).2.length) → j_Mod_compareValues_133 post (nI j) (nI k) (nI i) x := fun z => by
      unfold j_Mod_compareValues_133
      refine s_lengthOf h hj (s_lengthOf h hk ?_)
      have ec := cpl_is i4 i5 i6 (by omega)
      rw [← ec, if_neg (by omega)] at p
      exact p
    unfold j_Mod_compareValues_52
    refine s_lengthOf h hj ?_
    by_cases c1 : i < (pvd P j).2.length
    · refine br_f (by (first | omega | (simp (disch := omega) only [Int32.le_iff_toInt_le, Int32.lt_iff_toInt_lt, z_eq, z_in, nI_toInt, z_cl, z_m1, z_sg, z_255, Int32.reduceToInt] <;> omega) | (simp only [Int32.le_iff_toInt_le, Int32.lt_iff_toInt_lt, z_eq, z_in, z_add, z_sub, z_mul, z_neg, z_nI, z_cl, z_sg, z_255, z_lit, Int32.reduceToInt] <;> omega))) (s_lengthOf h hk ?_)
      by_cases c2 : i < (pvd P k).2.length
      · have r1 := h.rd hj c1
        have r2 := h.rd hk c2
        refine br_f (by (first | omega | (simp (disch := omega) only [Int32.le_iff_toInt_le, Int32.lt_iff_toInt_lt, z_eq, z_in, nI_toInt, z_cl, z_m1, z_sg, z_255, Int32.reduceToInt] <;> omega) | (simp only [Int32.le_iff_toInt_le, Int32.lt_iff_toInt_lt, z_eq, z_in, z_add, z_sub, z_mul, z_neg, z_nI, z_cl, z_sg, z_255, z_lit, Int32.reduceToInt] <;> omega))) ⟨r1.1, r1.2.1, r2.1, r2.2.1, ?_⟩
        rw [r1.2.2, r2.2.2]
        by_cases e : (pvd P j).2.getD i 0 = (pvd P k).2.getD i 0
        · refine br_t e ?_
          rw [nI_1]
          refine ih _ _ _ _ ⟨rfl, rfl, rfl, i + 1, rfl, by omega, by omega, fun q hq => ?_⟩ (by rw [nI_clamp (by omega), nI_clamp (by omega)]; omega)
          by_cases z : q = i
          · rw [z]; exact e
          · exact i6 q (by omega)
        · refine br_f e ⟨r1.1, r1.2.1, r2.1, r2.2.1, ?_⟩
          have ec := cpl_is i4 i5 i6 (Or.inr (Or.inr e))
          rw [← ec, if_pos ⟨c1, c2⟩] at p
          exact p
      · exact br_t (by (first | omega | (simp (disch := omega) only [Int32.le_iff_toInt_le, Int32.lt_iff_toInt_lt, z_eq, z_in, nI_toInt, z_cl, z_m1, z_sg, z_255, Int32.reduceToInt] <;> omega) | (simp only [Int32.le_iff_toInt_le, Int32.lt_iff_toInt_lt, z_eq, z_in, z_add, z_sub, z_mul, z_neg, z_nI, z_cl, z_sg, z_255, z_lit, Int32.reduceToInt] <;> omega))) (out (by omega))
    · exact br_t (by (first | omega | (simp (disch := omega) only [Int32.le_iff_toInt_le, Int32.lt_iff_toInt_lt, z_eq, z_in, nI_toInt, z_cl, z_m1, z_sg, z_255, Int32.reduceToInt] <;> omega) | (simp only [Int32.le_iff_toInt_le, Int32.lt_iff_toInt_lt, z_eq, z_in, z_add, z_sub, z_mul, z_neg, z_nI, z_cl, z_sg, z_255, z_lit, Int32.reduceToInt] <;> omega))) (out (by omega))
  · obtain ⟨h1, h2, -, h4, h5, h6, h7, -⟩ := h
    have e30 : fN x 30 = 1000 := h6 30
    have v1 : vp_in (nI j) (fN x 30) := vp_in_nI (by omega) (by omega)
    have v2 : vp_in (nI k) (fN x 30) := vp_in_nI (by omega) (by omega)
    refine br_f (by (first | omega | (simp (disch := omega) only [Int32.le_iff_toInt_le, Int32.lt_iff_toInt_lt, z_eq, z_in, nI_toInt, z_cl, z_m1, z_sg, z_255, Int32.reduceToInt] <;> omega) | (simp only [Int32.le_iff_toInt_le, Int32.lt_iff_toInt_lt, z_eq, z_in, z_add, z_sub, z_mul, z_neg, z_nI, z_cl, z_sg, z_255, z_lit, Int32.reduceToInt] <;> omega))) ⟨v1, v2, ?_⟩
    rw [rL_nI (by omega), rL_nI (by omega), h7 j hj, h7 k hk]
    unfold cmpV at p
    rw [if_neg c3] at p
    by_cases c : (pvd P j).1 < (pvd P k).1
    · rw [if_pos c] at p
      exact br_f (fun z => by have := (lg_cmp_ge _ _).mp z; rw [Int64.le_iff_toInt_le] at this; rw [Int64.lt_iff_toInt_lt] at c; omega) p
    · rw [if_neg c] at p
      refine br_t ((lg_cmp_ge _ _).mpr (by rw [Int64.le_iff_toInt_le]; rw [Int64.lt_iff_toInt_lt] at c; omega)) ⟨v1, v2, ?_⟩
      by_cases c2 : (pvd P k).1 < (pvd P j).1
      · rw [if_pos c2] at p
        exact br_f (fun z => by have := (lg_cmp_le _ _).mp z; rw [Int64.le_iff_toInt_le] at this; rw [Int64.lt_iff_toInt_lt] at c2; omega) p
      · rw [if_neg c2] at p
        exact br_t ((lg_cmp_le _ _).mpr (by rw [Int64.le_iff_toInt_le]; rw [Int64.lt_iff_toInt_lt] at c2; omega)) p
end
