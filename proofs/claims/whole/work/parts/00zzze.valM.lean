/-! bools and wholes of the model; all codings -/
section
variable {x : St} {ty : Nat} {P : List PV}
theorem s_wide {post : Int32 → St → Prop} (h : PgM x ty P) (p : post (nI (if ty = 1 then 4 else 8)) x) : wp_Mod_wide post x := by
  unfold wp_Mod_wide
  have := h.2.2.1
  rw [h.1]
  by_cases c : ty = 1
  · rw [if_pos c] at p
    exact bn_t (by rw [c]; rfl) p
  · rw [if_neg c] at p
    exact bn_f (by (first | omega | (simp (disch := omega) only [Int32.le_iff_toInt_le, Int32.lt_iff_toInt_lt, z_eq, z_in, nI_toInt, z_cl, z_m1, z_sg, z_255, Int32.reduceToInt] <;> omega) | (simp only [Int32.le_iff_toInt_le, Int32.lt_iff_toInt_lt, z_eq, z_in, z_add, z_sub, z_mul, z_neg, z_nI, z_cl, z_sg, z_255, z_lit, Int32.reduceToInt] <;> omega))) p
theorem s_dictW {post : St → Prop} {B : List Nat} {how : Int32} (h : PgM x ty P) (h3 : ty ≠ 3) (h0 : ty ≠ 0) (hh0 : ¬ how = 0) (hh1 : ¬ how = 1) (hS : Sh x B) (hB : B.length ≤ 2 ^ 20) (p : ∀ y, FrV x y → Sh y (B ++ dictB ty P) → post y) : wp_Mod_writeWholes post how x := by
  have hl := h.2.2.2.2.1
  unfold wp_Mod_writeWholes
  refine bn_f hh0 (bn_f hh1 ?_)
  refine lp_Mod_writeWholes_89 (fun _ a0 a1 z => ∃ k, nI k = a1 ∧ nI (dI ty P k).length = a0 ∧ k ≤ P.length ∧ FrV x z ∧ Sh z B ∧ ∀ i, i < k → fA z 44 i = nI (ixF (kk ty P i) ((dI ty P k).map (kk ty P)))) (fun _ _ a1 _ => P.length - a1.toNatClampNeg) ?_ _ _ _ _ ⟨0, rfl, rfl, Nat.zero_le _, Fg.refl x, hS, fun i hi => absurd hi (Nat.not_lt_zero _)⟩
  rintro Q hw0 a0 a1 z ⟨k, rfl, rfl, k1, z1, z2, z5⟩ ih
  have hz := h.v z1
  have e44 : fN z 44 = 1008 := hz.2.2.2.2.2.1 44
  have dl := dI_len (ty := ty) (P := P) k
  unfold j_Mod_writeWholes_89
  rw [hz.2.1]
  by_cases c : k < P.length
  · refine br_f (by (first | omega | (simp (disch := omega) only [Int32.le_iff_toInt_le, Int32.lt_iff_toInt_lt, z_eq, z_in, nI_toInt, z_cl, z_m1, z_sg, z_255, Int32.reduceToInt] <;> omega) | (simp only [Int32.le_iff_toInt_le, Int32.lt_iff_toInt_lt, z_eq, z_in, z_add, z_sub, z_mul, z_neg, z_nI, z_cl, z_sg, z_255, z_lit, Int32.reduceToInt] <;> omega))) (s_firstWhole hz h3 c (fun j j1 j2 j3 => ?_))
    have hSh : ∀ w : Int32, Sh (setA z 44 (nI k) w) B := fun w => ⟨z2.1, z2.2.1, z2.2.2.1, fun i a b => by rw [gA_ne (by decide)]; exact z2.2.2.2 i a b⟩
    have hFr : ∀ w : Int32, FrV x (setA z 44 (nI k) w) := fun w => Fg.trans z1 (Fg.a (Or.inr rfl))
    rcases dI_step j1 j2 j3 with ⟨d1, d2, d3⟩ | ⟨d1, d2, d3⟩
    · subst d1
      refine bn_t rfl ?_
      unfold j_Mod_writeWholes_126 j_Mod_writeWholes_139
      refine ⟨vp_in_nI (by omega) (by omega), nm_e (bn_t rfl (nm_r (nI_1 _) ?_))⟩
      rw [nI_1]
      exact ih _ _ _ _ ⟨j + 1, rfl, by rw [d3, List.length_append]; rfl, by omega, hFr _, hSh _, num_step z5 (Or.inl ⟨rfl, d2, d3, rfl⟩) (by omega)⟩ (by rw [nI_clamp (by omega), nI_clamp (by omega)]; omega)
    · have hne : ¬ nI j = nI k := fun w => by
        have := congrArg uI w
        rw [uI_nI (by omega), uI_nI (by omega)] at this
        omega
      refine bn_f hne ⟨vp_in_nI (by omega) (by omega), ?_⟩
      unfold j_Mod_writeWholes_126 j_Mod_writeWholes_139
      refine ⟨vp_in_nI (by omega) (by omega), nm_e (bn_f hne (nm_r (Int32.add_zero _) ?_))⟩
      rw [nI_1, rA_nI (by omega)]
      exact ih _ _ _ _ ⟨k + 1, rfl, by rw [d3], by omega, hFr _, hSh _, num_step z5 (Or.inr ⟨d1, j2, d3, rfl⟩) (by omega)⟩ (by rw [nI_clamp (by omega), nI_clamp (by omega)]; omega)
  · have ek : k = P.length := by omega
    subst ek
    refine br_t (by (first | omega | (simp (disch := omega) only [Int32.le_iff_toInt_le, Int32.lt_iff_toInt_lt, z_eq, z_in, nI_toInt, z_cl, z_m1, z_sg, z_255, Int32.reduceToInt] <;> omega) | (simp only [Int32.le_iff_toInt_le, Int32.lt_iff_toInt_lt, z_eq, z_in, z_add, z_sub, z_mul, z_neg, z_nI, z_cl, z_sg, z_255, z_lit, Int32.reduceToInt] <;> omega))) ?_
    rw [nI_l (by omega)]
    refine s_varint z2 (by omega) (fun y y1 y2 => ?_)
    rw [uL_lN (by omega)] at y2
    have vl := varB_len (dI ty P P.length).length
    have yn : ∀ i, i < P.length → fA y 44 i = dcN ty P i := fun i hi => by
      show y.2.2.2.1 44 i = _
      rw [y1.2.2.2.1 44 (by decide)]
      exact z5 i hi
    refine lp_Mod_writeWholes_155 (fun _ a0 a1 w => nI (dI ty P P.length).length = a0 ∧ ∃ k, nI k = a1 ∧ k ≤ P.length ∧ FrV x w ∧ (∀ i, i < P.length → fA w 44 i = dcN ty P i) ∧ Sh w (B ++ varB (dI ty P P.length).length ++ plF ty ((dI ty P k).map (pvd P)))) (fun _ _ a1 _ => P.length - a1.toNatClampNeg) ?_ _ _ _ _ ⟨rfl, 0, rfl, Nat.zero_le _, Fg.trans z1 y1.v, yn, by show Sh y (_ ++ []); rw [List.append_nil]; exact y2⟩
    rintro Q' hw1 a0 a1 w ⟨rfl, k, rfl, k1, w1, w3, w2⟩ ih'
    have hw := h.v w1
    have e30 : fN w 30 = 1000 := hw.2.2.2.2.2.1 30
    have pl := dcD_len h k1
    have bl1 : (B ++ varB (dI ty P P.length).length ++ plF ty ((dI ty P k).map (pvd P))).length ≤ 2 ^ 20 + 10 + 265000 := by
      rw [List.length_append, List.length_append]
      omega
    unfold j_Mod_writeWholes_155
    rw [hw.2.1]
    by_cases c : k < P.length
    · refine br_f (by (first | omega | (simp (disch := omega) only [Int32.le_iff_toInt_le, Int32.lt_iff_toInt_lt, z_eq, z_in, nI_toInt, z_cl, z_m1, z_sg, z_255, Int32.reduceToInt] <;> omega) | (simp only [Int32.le_iff_toInt_le, Int32.lt_iff_toInt_lt, z_eq, z_in, z_add, z_sub, z_mul, z_neg, z_nI, z_cl, z_sg, z_255, z_lit, Int32.reduceToInt] <;> omega))) (s_firstWhole hw h3 c (fun j j1 j2 j3 => ?_))
      unfold j_Mod_writeWholes_186
      rw [nI_1]
      rcases dI_step j1 j2 j3 with ⟨d1, d2, d3⟩ | ⟨d1, d2, d3⟩
      · subst d1
        refine bn_t rfl ⟨vp_in_nI (by omega) (by omega), s_wide hw ?_⟩
        refine s_fixed (by split <;> decide) w2 (by omega) (fun v v1 v2 => ih' _ _ _ _ ⟨rfl, j + 1, rfl, by omega, Fg.trans w1 v1.v, fun i hi => ?_, ?_⟩ (by rw [nI_clamp (by omega), nI_clamp (by omega)]; omega))
        · show v.2.2.2.1 44 i = _
          rw [v1.2.2.2.1 44 (by decide)]
          exact w3 i hi
        · rw [d3, List.map_append]
          show Sh v (_ ++ plF ty (_ ++ [pvd P j]))
          rw [plF_app, ← List.append_assoc]
          have e : oneB ty (pvd P j) = fixB (uL (pvd P j).1) (if ty = 1 then 4 else 8) := by unfold oneB; rw [if_neg h3]
          rw [rL_nI (by omega), hw.2.2.2.2.2.2.1 j c] at v2
          rw [e]
          exact v2
      · have hne : ¬ nI j = nI k := fun w => by
          have := congrArg uI w
          rw [uI_nI (by omega), uI_nI (by omega)] at this
          omega
        exact bn_f hne (ih' _ _ _ _ ⟨rfl, k + 1, rfl, by omega, w1, w3, by rw [d3]; exact w2⟩ (by rw [nI_clamp (by omega), nI_clamp (by omega)]; omega))
    · have ek : k = P.length := by omega
      subst ek
      refine br_t (by (first | omega | (simp (disch := omega) only [Int32.le_iff_toInt_le, Int32.lt_iff_toInt_lt, z_eq, z_in, nI_toInt, z_cl, z_m1, z_sg, z_255, Int32.reduceToInt] <;> omega) | (simp only [Int32.le_iff_toInt_le, Int32.lt_iff_toInt_lt, z_eq, z_in, z_add, z_sub, z_mul, z_neg, z_nI, z_cl, z_sg, z_255, z_lit, Int32.reduceToInt] <;> omega))) ?_
      have dW := dcW_le (m := (dI ty P P.length).length) (by omega)
      refine lp_Mod_writeWholes_194 (fun _ a0 a1 v => nI (dI ty P P.length).length = a0 ∧ w = v ∧ ∃ q, nI q = a1 ∧ q ≤ dcW (dI ty P P.length).length) (fun _ _ a1 _ => dcW (dI ty P P.length).length - a1.toNatClampNeg) ?_ _ _ _ _ ⟨rfl, rfl, 0, rfl, Nat.zero_le _⟩
      rintro Q2 hw2 a0 a1 v ⟨rfl, rfl, q, rfl, q1⟩ ih2
      unfold j_Mod_writeWholes_194
      by_cases cq : q < dcW (dI ty P P.length).length
      · refine br_f (wd_no (by omega) cq) ?_
        rw [nI_1]
        exact ih2 _ _ _ _ ⟨rfl, rfl, q + 1, rfl, by omega⟩ (by rw [nI_clamp (by omega), nI_clamp (by omega)]; omega)
      · have eq : q = dcW (dI ty P P.length).length := by omega
        subst eq
        refine br_t (wd_yes (by omega)) (s_put w2 (by omega) (b := dcW (dI ty P P.length).length) (by omega) (by rw [nI_255, Nat.mod_eq_of_lt (by omega)]) (fun u u1 u2 => ?_))
        have hu := hw.v u1.v
        rw [hu.2.1]
        refine s_runs (R := dcN ty P) (by decide) ⟨by rw [hu.2.2.2.2.2.1 44]; show _ ≤ 1008; omega, by rw [hu.2.2.2.2.2.1 44]; decide, fun i hi => ?_⟩ (by omega) (by omega) u2 (by rw [List.length_append]; show _ + 1 ≤ _; omega) (fun t t1 t2 => p t (Fg.trans w1 (Fg.trans u1.v t1.v)) ?_)
        · show u.2.2.2.1 44 i = _
          rw [u1.2.2.2.1 44 (by decide)]
          exact w3 i hi
        · rw [dict_eq h0, ← List.append_assoc, ← List.append_assoc, ← List.append_assoc]
          exact t2
theorem pl_take {k : Nat} (hk : k < P.length) : plF ty (P.take (k + 1)) = plF ty (P.take k) ++ oneB ty (pvd P k) := by
  have : P.take (k + 1) = P.take k ++ [pvd P k] := by
    rw [List.take_succ_eq_append_getElem hk]
    congr 2
    show _ = P.getD k (0, [])
    rw [List.getD_eq_getElem?_getD, List.getElem?_eq_getElem hk]
    rfl
  rw [this, plF_app]
theorem tk_len (h : PgM x ty P) (k : Nat) : (plF ty (P.take k)).length ≤ 265000 := by
  have a := plF_len (ty := ty) (A := P.take k) (fun p hp c => by
    obtain ⟨i, hi, e⟩ := List.getElem_of_mem (List.mem_of_mem_take hp)
    have := h.ok c hi
    unfold pvd at this
    rw [List.getD_eq_getElem?_getD, List.getElem?_eq_getElem hi] at this
    rw [← e]
    exact this)
  have := h.2.2.2.2.1
  rw [List.length_take] at a
  omega
theorem s_plainW {post : St → Prop} {B : List Nat} (h : PgM x ty P) (h3 : ty ≠ 3) (hS : Sh x B) (hB : B.length ≤ 2 ^ 20) (p : ∀ y, FrV x y → Sh y (B ++ plF ty P) → post y) : wp_Mod_writeWholes post 0 x := by
  have hl := h.2.2.2.2.1
  unfold wp_Mod_writeWholes
  refine bn_t rfl ?_
  refine lp_Mod_writeWholes_6 (fun _ a1 z => ∃ k, nI k = a1 ∧ k ≤ P.length ∧ FrV x z ∧ Sh z (B ++ plF ty (P.take k))) (fun _ a1 _ => P.length - a1.toNatClampNeg) ?_ _ _ _ ⟨0, rfl, Nat.zero_le _, Fg.refl x, by show Sh x (B ++ []); rw [List.append_nil]; exact hS⟩
  rintro Q hw0 a1 z ⟨k, rfl, k1, z1, z2⟩ ih
  have hz := h.v z1
  have e30 : fN z 30 = 1000 := hz.2.2.2.2.2.1 30
  have tl := tk_len h k
  unfold j_Mod_writeWholes_6
  rw [hz.2.1]
  by_cases c : k < P.length
  · refine br_f (by (first | omega | (simp (disch := omega) only [Int32.le_iff_toInt_le, Int32.lt_iff_toInt_lt, z_eq, z_in, nI_toInt, z_cl, z_m1, z_sg, z_255, Int32.reduceToInt] <;> omega) | (simp only [Int32.le_iff_toInt_le, Int32.lt_iff_toInt_lt, z_eq, z_in, z_add, z_sub, z_mul, z_neg, z_nI, z_cl, z_sg, z_255, z_lit, Int32.reduceToInt] <;> omega))) ⟨vp_in_nI (by omega) (by omega), s_wide hz ?_⟩
    rw [nI_1]
    refine s_fixed (by split <;> decide) z2 (by rw [List.length_append]; omega) (fun v v1 v2 => ih _ _ _ ⟨k + 1, rfl, by omega, Fg.trans z1 v1.v, ?_⟩ (by rw [nI_clamp (by omega), nI_clamp (by omega)]; omega))
    rw [rL_nI (by omega), hz.2.2.2.2.2.2.1 k c] at v2
    have e : oneB ty (pvd P k) = fixB (uL (pvd P k).1) (if ty = 1 then 4 else 8) := by unfold oneB; rw [if_neg h3]
    rw [pl_take c, ← List.append_assoc, e]
    exact v2
  · refine br_t (by (first | omega | (simp (disch := omega) only [Int32.le_iff_toInt_le, Int32.lt_iff_toInt_lt, z_eq, z_in, nI_toInt, z_cl, z_m1, z_sg, z_255, Int32.reduceToInt] <;> omega) | (simp only [Int32.le_iff_toInt_le, Int32.lt_iff_toInt_lt, z_eq, z_in, z_add, z_sub, z_mul, z_neg, z_nI, z_cl, z_sg, z_255, z_lit, Int32.reduceToInt] <;> omega))) (p z z1 ?_)
    rw [show P.take k = P from List.take_of_length_le (by omega)] at z2
    exact z2
theorem s_codeW {post : St → Prop} {B : List Nat} (h : PgM x ty P) (hS : Sh x B) (hB : B.length ≤ 2 ^ 20) (p : ∀ y, FrV x y → Sh y (B ++ codeB (fun k => (pvd P k).1) P.length) → post y) : wp_Mod_writeWholes post 1 x := by
  have hl := h.2.2.2.2.1
  unfold wp_Mod_writeWholes
  refine bn_f (by decide) (bn_t rfl ?_)
  rw [h.2.1]
  refine nm_e ?_
  refine lp_Mod_writeWholes_52 (fun _ a0 z => ∃ k, nI k = a0 ∧ k ≤ P.length ∧ FrV x z ∧ Sh z B ∧ fI z 0 71 = nI P.length ∧ ∀ i, i < k → fL z 43 i = (pvd P i).1) (fun _ a0 _ => P.length - a0.toNatClampNeg) ?_ _ _ _ ⟨0, rfl, Nat.zero_le _, Fg.i ⟨rfl, Or.inr rfl⟩, ⟨(gI_ne (by decide)).trans hS.1, hS.2⟩, gI_at, fun i hi => absurd hi (Nat.not_lt_zero _)⟩
  rintro Q hw0 a0 z ⟨k, rfl, k1, z1, z2, z3, z4⟩ ih
  have hz := h.v z1
  have e43 : fN z 43 = 2000 := hz.2.2.2.2.2.1 43
  have e30 : fN z 30 = 1000 := hz.2.2.2.2.2.1 30
  unfold j_Mod_writeWholes_52
  rw [hz.2.1]
  by_cases c : k < P.length
  · refine br_f (by (first | omega | (simp (disch := omega) only [Int32.le_iff_toInt_le, Int32.lt_iff_toInt_lt, z_eq, z_in, nI_toInt, z_cl, z_m1, z_sg, z_255, Int32.reduceToInt] <;> omega) | (simp only [Int32.le_iff_toInt_le, Int32.lt_iff_toInt_lt, z_eq, z_in, z_add, z_sub, z_mul, z_neg, z_nI, z_cl, z_sg, z_255, z_lit, Int32.reduceToInt] <;> omega))) ⟨vp_in_nI (by omega) (by omega), vp_in_nI (by omega) (by omega), nm_e ?_⟩
    rw [nI_1, rL_nI (by omega), hz.2.2.2.2.2.2.1 k c]
    refine ih _ _ _ ⟨k + 1, rfl, by omega, Fg.trans z1 (Fg.l rfl), z2, z3, fun i hi => ?_⟩ (by rw [nI_clamp (by omega), nI_clamp (by omega)]; omega)
    rw [gL_at, nI_clamp (by omega)]
    by_cases e : i = k
    · rw [e, updL_at]
    · rw [updL_ne e]; exact z4 i (by omega)
  · have ek : k = P.length := by omega
    subst ek
    exact br_t (by (first | omega | (simp (disch := omega) only [Int32.le_iff_toInt_le, Int32.lt_iff_toInt_lt, z_eq, z_in, nI_toInt, z_cl, z_m1, z_sg, z_255, Int32.reduceToInt] <;> omega) | (simp only [Int32.le_iff_toInt_le, Int32.lt_iff_toInt_lt, z_eq, z_in, z_add, z_sub, z_mul, z_neg, z_nI, z_cl, z_sg, z_255, z_lit, Int32.reduceToInt] <;> omega))) (s_writeLongs (V := fun k => (pvd P k).1) (m := P.length) ⟨z3, by omega, e43, z4⟩ z2 (by omega) (fun y y1 y2 => p y (Fg.trans z1 y1.v) y2))
theorem boB_len {V : Nat → Int64} {n : Nat} : ∀ d a, (boB V n d a).length ≤ d := by
  intro d
  induction d with
  | zero => intro a; exact Nat.le_refl _
  | succ d ih =>
    intro a
    show (if n ≤ a then [] else boF V n a 8 :: boB V n d (a + 8)).length ≤ d + 1
    split
    · exact Nat.zero_le _
    · have := ih (a + 8)
      rw [List.length_cons]; omega
/-- bytes of bools so far -/
def boS (V : Nat → Int64) (n : Nat) : Nat → List Nat
  | 0 => []
  | k + 1 => boS V n k ++ [boF V n (8 * k) 8]
theorem boB_snoc {V : Nat → Int64} {n : Nat} : ∀ d k, n ≤ 8 * k + 8 * d → (∀ j, 8 * k + 8 * j < n + 8 → True) → boS V n k ++ boB V n d (8 * k) = boS V n (if n ≤ 8 * k then k else (n + 7) / 8) := by
  intro d
  induction d with
  | zero =>
    intro k h _
    rw [if_pos (by omega)]
    show boS V n k ++ [] = _
    rw [List.append_nil]
  | succ d ih =>
    intro k h _
    by_cases c : n ≤ 8 * k
    · rw [if_pos c, show boB V n (d + 1) (8 * k) = [] by show (if _ then _ else _) = _; rw [if_pos c], List.append_nil]
    · rw [if_neg c, show boB V n (d + 1) (8 * k) = [boF V n (8 * k) 8] ++ boB V n d (8 * k + 8) by show (if _ then _ else _) = _; rw [if_neg c]; rfl, ← List.append_assoc]
      have e : boS V n k ++ [boF V n (8 * k) 8] = boS V n (k + 1) := rfl
      rw [e, show 8 * k + 8 = 8 * (k + 1) by omega, ih (k + 1) (by omega) (fun _ _ => trivial)]
      by_cases c2 : n ≤ 8 * (k + 1)
      · rw [if_pos c2, show (n + 7) / 8 = k + 1 by omega]
      · rw [if_neg c2]
theorem s_bools {post : St → Prop} {B : List Nat} {how : Int32} (h : PgM x 0 P) (hS : Sh x B) (hB : B.length ≤ 2 ^ 20) (hw : how = 0 ∨ how = 1) (p : ∀ y, FrV x y → Sh y (B ++ (if how = 0 then plainB 0 P else runB (fun k => (pvd P k).1.toInt32) P.length 1)) → post y) : wp_Mod_writeBools post how x := by
  have hl := h.2.2.2.2.1
  have hV : okB (fun k => (pvd P k).1) P.length := fun i hi => (h.2.2.2.1.2 i hi).1 rfl
  unfold wp_Mod_writeBools
  refine lp_Mod_writeBools_2 (fun a0 a1 z => how = a0 ∧ ∃ k, nI k = a1 ∧ k ≤ P.length ∧ FrV x z ∧ Sh z B ∧ ∀ i, i < k → fA z 44 i = (pvd P i).1.toInt32) (fun _ a1 _ => P.length - a1.toNatClampNeg) ?_ _ _ _ ⟨rfl, 0, rfl, Nat.zero_le _, Fg.refl x, hS, fun i hi => absurd hi (Nat.not_lt_zero _)⟩
  rintro Q a0 a1 z ⟨rfl, k, rfl, k1, z1, z2, z5⟩ ih
  have hz := h.v z1
  have e44 : fN z 44 = 1008 := hz.2.2.2.2.2.1 44
  have e30 : fN z 30 = 1000 := hz.2.2.2.2.2.1 30
  unfold j_Mod_writeBools_2
  rw [hz.2.1]
  by_cases c : k < P.length
  · refine br_f (by (first | omega | (simp (disch := omega) only [Int32.le_iff_toInt_le, Int32.lt_iff_toInt_lt, z_eq, z_in, nI_toInt, z_cl, z_m1, z_sg, z_255, Int32.reduceToInt] <;> omega) | (simp only [Int32.le_iff_toInt_le, Int32.lt_iff_toInt_lt, z_eq, z_in, z_add, z_sub, z_mul, z_neg, z_nI, z_cl, z_sg, z_255, z_lit, Int32.reduceToInt] <;> omega))) ⟨vp_in_nI (by omega) (by omega), vp_in_nI (by omega) (by omega), nm_e ?_⟩
    rw [nI_1, rL_nI (by omega), hz.2.2.2.2.2.2.1 k c]
    refine ih _ _ _ ⟨rfl, k + 1, rfl, by omega, Fg.trans z1 (Fg.a (Or.inr rfl)), ⟨z2.1, z2.2.1, z2.2.2.1, fun i a b => by rw [gA_ne (by decide)]; exact z2.2.2.2 i a b⟩, fun i hi => ?_⟩ (by rw [nI_clamp (by omega), nI_clamp (by omega)]; omega)
    rw [gA_at, nI_clamp (by omega)]
    by_cases e : i = k
    · rw [e, upd_at]
    · rw [upd_ne e]; exact z5 i (by omega)
  · have ek : k = P.length := by omega
    subst ek
    refine br_t (by (first | omega | (simp (disch := omega) only [Int32.le_iff_toInt_le, Int32.lt_iff_toInt_lt, z_eq, z_in, nI_toInt, z_cl, z_m1, z_sg, z_255, Int32.reduceToInt] <;> omega) | (simp only [Int32.le_iff_toInt_le, Int32.lt_iff_toInt_lt, z_eq, z_in, z_add, z_sub, z_mul, z_neg, z_nI, z_cl, z_sg, z_255, z_lit, Int32.reduceToInt] <;> omega))) ?_
    rcases hw with rfl | rfl
    · refine bn_f (by decide) ?_
      rw [if_pos rfl] at p
      unfold j_Mod_writeBools_47
      refine lp_Mod_writeBools_49 (fun a0 a1 w => 0 = a0 ∧ ∃ k, nI (8 * k) = a1 ∧ 8 * k ≤ P.length + 7 ∧ FrV x w ∧ Sh w (B ++ boS (fun k => (pvd P k).1) P.length k) ∧ ∀ i, i < P.length → fA w 44 i = (pvd P i).1.toInt32) (fun _ a1 _ => 2000 - a1.toNatClampNeg) ?_ _ _ _ ⟨rfl, 0, rfl, by omega, z1, by show Sh z (B ++ []); rw [List.append_nil]; exact z2, z5⟩
      rintro Q' a0 a1 w ⟨rfl, k, rfl, k1, w1, w2, w5⟩ ih'
      have hw := h.v w1
      have f44 : fN w 44 = 1008 := hw.2.2.2.2.2.1 44
      have sl : ∀ k, (boS (fun k => (pvd P k).1) P.length k).length = k := by
        intro k
        induction k with
        | zero => rfl
        | succ k ih => show (boS _ _ k ++ [_]).length = _; rw [List.length_append, ih]; rfl
      unfold j_Mod_writeBools_49
      rw [hw.2.1]
      by_cases c : 8 * k < P.length
      · refine br_f (by (first | omega | (simp (disch := omega) only [Int32.le_iff_toInt_le, Int32.lt_iff_toInt_lt, z_eq, z_in, nI_toInt, z_cl, z_m1, z_sg, z_255, Int32.reduceToInt] <;> omega) | (simp only [Int32.le_iff_toInt_le, Int32.lt_iff_toInt_lt, z_eq, z_in, z_add, z_sub, z_mul, z_neg, z_nI, z_cl, z_sg, z_255, z_lit, Int32.reduceToInt] <;> omega))) (bn_t rfl ?_)
        refine lp_Mod_writeBools_66 (fun b0 b1 b2 b3 v => 0 = b0 ∧ nI (8 * k) = b1 ∧ w = v ∧ ∃ i, nI i = b3 ∧ i ≤ 8 ∧ nI (boF (fun k => (pvd P k).1) P.length (8 * k) i) = b2) (fun _ _ _ b3 _ => 8 - b3.toNatClampNeg) ?_ _ _ _ _ _ ⟨rfl, rfl, rfl, 0, rfl, by decide, rfl⟩
        rintro Q2 b0 b1 b2 b3 v ⟨rfl, rfl, rfl, i, rfl, i1, rfl⟩ ih2
        have fin : boF (fun k => (pvd P k).1) P.length (8 * k) i = boF (fun k => (pvd P k).1) P.length (8 * k) 8 → j_Mod_writeBools_105 post Q' 0 (nI (8 * k)) (nI (boF (fun k => (pvd P k).1) P.length (8 * k) i)) (nI i) w := fun e => by
          unfold j_Mod_writeBools_105
          rw [e, show (8 : Int32) = nI 8 from rfl, nI_add]
          have hb : boF (fun k => (pvd P k).1) P.length (8 * k) 8 < 256 := boF_lt hV 8
          refine s_put w2 (by rw [List.length_append, sl]; omega) hb (by rw [nI_255, Nat.mod_eq_of_lt hb]) (fun u u1 u2 => ih' _ _ _ ⟨rfl, k + 1, by congr 1, by omega, Fg.trans w1 u1.v, ?_, fun i hi => ?_⟩ (by rw [nI_clamp (by omega), nI_clamp (by omega)]; omega))
          · show Sh u (B ++ (boS _ _ k ++ [_]))
            rw [← List.append_assoc]
            exact u2
          · show u.2.2.2.1 44 i = _
            rw [u1.2.2.2.1 44 (by decide)]
            exact w5 i hi
        unfold j_Mod_writeBools_66
        by_cases ci : i < 8
        · refine br_f (by (first | omega | (simp (disch := omega) only [Int32.le_iff_toInt_le, Int32.lt_iff_toInt_lt, z_eq, z_in, nI_toInt, z_cl, z_m1, z_sg, z_255, Int32.reduceToInt] <;> omega) | (simp only [Int32.le_iff_toInt_le, Int32.lt_iff_toInt_lt, z_eq, z_in, z_add, z_sub, z_mul, z_neg, z_nI, z_cl, z_sg, z_255, z_lit, Int32.reduceToInt] <;> omega))) ?_
          rw [hw.2.1, nI_add]
          by_cases cn : 8 * k + i < P.length
          · refine br_f (by (first | omega | (simp (disch := omega) only [Int32.le_iff_toInt_le, Int32.lt_iff_toInt_lt, z_eq, z_in, nI_toInt, z_cl, z_m1, z_sg, z_255, Int32.reduceToInt] <;> omega) | (simp only [Int32.le_iff_toInt_le, Int32.lt_iff_toInt_lt, z_eq, z_in, z_add, z_sub, z_mul, z_neg, z_nI, z_cl, z_sg, z_255, z_lit, Int32.reduceToInt] <;> omega))) ⟨vp_in_nI (by omega) (by omega), nm_r (e' := nI (boF (fun k => (pvd P k).1) P.length (8 * k) (i + 1))) ?_ ?_⟩
            · rw [rA_nI (by omega), w5 _ cn]
              exact boF_or hV ci cn
            · rw [nI_1]
              exact ih2 _ _ _ _ _ ⟨rfl, rfl, rfl, i + 1, rfl, by omega, rfl⟩ (by rw [nI_clamp (by omega), nI_clamp (by omega)]; omega)
          · refine br_t (by (first | omega | (simp (disch := omega) only [Int32.le_iff_toInt_le, Int32.lt_iff_toInt_lt, z_eq, z_in, nI_toInt, z_cl, z_m1, z_sg, z_255, Int32.reduceToInt] <;> omega) | (simp only [Int32.le_iff_toInt_le, Int32.lt_iff_toInt_lt, z_eq, z_in, z_add, z_sub, z_mul, z_neg, z_nI, z_cl, z_sg, z_255, z_lit, Int32.reduceToInt] <;> omega))) (fin ?_)
            have := boF_out (V := fun k => (pvd P k).1) (n := P.length) (a := 8 * k) (i := i) (by omega) (8 - i)
            rw [show i + (8 - i) = 8 by omega] at this
            exact this.symm
        · exact br_t (by (first | omega | (simp (disch := omega) only [Int32.le_iff_toInt_le, Int32.lt_iff_toInt_lt, z_eq, z_in, nI_toInt, z_cl, z_m1, z_sg, z_255, Int32.reduceToInt] <;> omega) | (simp only [Int32.le_iff_toInt_le, Int32.lt_iff_toInt_lt, z_eq, z_in, z_add, z_sub, z_mul, z_neg, z_nI, z_cl, z_sg, z_255, z_lit, Int32.reduceToInt] <;> omega))) (fin (by rw [show i = 8 by omega]))
      · refine br_t (by (first | omega | (simp (disch := omega) only [Int32.le_iff_toInt_le, Int32.lt_iff_toInt_lt, z_eq, z_in, nI_toInt, z_cl, z_m1, z_sg, z_255, Int32.reduceToInt] <;> omega) | (simp only [Int32.le_iff_toInt_le, Int32.lt_iff_toInt_lt, z_eq, z_in, z_add, z_sub, z_mul, z_neg, z_nI, z_cl, z_sg, z_255, z_lit, Int32.reduceToInt] <;> omega))) (p w w1 ?_)
        have := boB_snoc (V := fun k => (pvd P k).1) (n := P.length) P.length 0 (by omega) (fun _ _ => trivial)
        have e : plainB 0 P = boB (fun k => (pvd P k).1) P.length P.length 0 := by unfold plainB; rw [if_pos rfl]
        have e2 : boS (fun k => (pvd P k).1) P.length k = plainB 0 P := by
          rw [e]
          have t : boS (fun k => (pvd P k).1) P.length 0 = [] := rfl
          rw [t, List.nil_append, Nat.mul_zero] at this
          rw [this]
          congr 1
          split <;> omega
        rw [← e2]
        exact w2
    · refine bn_t rfl (s_runs (R := fun k => (pvd P k).1.toInt32) (by decide) ⟨by omega, by omega, z5⟩ (by omega) (by decide) z2 (by omega) (fun y y1 y2 => ?_))
      rw [if_neg (by decide)] at p
      unfold j_Mod_writeBools_47
      refine ⟨1, ?_⟩
      show j_Mod_writeBools_49 post _ 1 0 y
      unfold j_Mod_writeBools_49
      have hp := p y (Fg.trans z1 y1.v) y2
      exact ⟨fun _ => hp, fun _ => bn_f (by decide) hp⟩
def valB (ty how : Nat) (P : List PV) : List Nat := if how = 0 then plainB ty P else if ty = 0 then runB (fun k => (pvd P k).1.toInt32) P.length 1 else if ty = 3 then (if how = 1 then lensB P else if how = 2 then frontB P else dictB ty P) else if how = 1 then codeB (fun k => (pvd P k).1) P.length else dictB ty P
def nCod (ty : Nat) : Nat := if ty = 0 then 2 else if ty = 3 then 4 else 3
theorem s_values {post : St → Prop} {B : List Nat} {how : Nat} (h : PgM x ty P) (hS : Sh x B) (hB : B.length ≤ 2 ^ 20) (hw : how < nCod ty) (p : ∀ y, FrV x y → Sh y (B ++ valB ty how P) → post y) : wp_Mod_writeValues post (nI how) x := by
  have hty := h.2.2.1
  have hl := h.2.2.2.2.1
  have tail : ∀ y, FrV x y → (ty = 3 → how ≠ 0) → Sh y (B ++ valB ty how P) → j_Mod_writeValues_64 post (nI how) y := fun y y1 hne y2 => by
    have hy := h.v y1
    have hp := p y y1 y2
    unfold j_Mod_writeValues_64
    refine ⟨1, ?_⟩
    show j_Mod_writeValues_66 post _ (nI how) 0 y
    unfold j_Mod_writeValues_66
    rw [hy.1]
    have hn : how < 4 := by unfold nCod at hw; split at hw; omega; split at hw <;> omega
    refine ⟨fun _ => hp, fun _ => ⟨fun _ => hp, fun e => bn_f (fun z => ?_) hp⟩⟩
    refine hne ?_ ?_
    · have := congrArg uI e
      rw [uI_nI (by omega), show uI 3 = 3 from rfl] at this
      exact this
    · have := congrArg uI z
      rw [uI_nI (by omega), show uI 0 = 0 from rfl] at this
      exact this
  unfold wp_Mod_writeValues
  rw [h.1]
  by_cases c0 : ty = 0
  · subst c0
    have hn : how < 2 := hw
    refine bn_t rfl (s_bools h hS hB (by rcases Nat.lt_or_ge how 1 with z | z; left; rw [show how = 0 by omega]; rfl; right; rw [show how = 1 by omega]; rfl) (fun y y1 y2 => tail y y1 (fun z => absurd z (by decide)) ?_))
    rcases Nat.lt_or_ge how 1 with z | z
    · rw [show how = 0 by omega] at y2 ⊢
      exact y2
    · rw [show how = 1 by omega] at y2 ⊢
      exact y2
  · refine bn_f (by (first | omega | (simp (disch := omega) only [Int32.le_iff_toInt_le, Int32.lt_iff_toInt_lt, z_eq, z_in, nI_toInt, z_cl, z_m1, z_sg, z_255, Int32.reduceToInt] <;> omega) | (simp only [Int32.le_iff_toInt_le, Int32.lt_iff_toInt_lt, z_eq, z_in, z_add, z_sub, z_mul, z_neg, z_nI, z_cl, z_sg, z_255, z_lit, Int32.reduceToInt] <;> omega))) ?_
    by_cases c3 : ty = 3
    · subst c3
      have hn : how < 4 := hw
      refine br_t rfl ?_
      by_cases d1 : how = 1
      · subst d1
        exact bn_t rfl (s_lens h rfl hS hB (fun y y1 y2 => tail y y1 (fun _ => by decide) y2))
      · refine bn_f (by (first | omega | (simp (disch := omega) only [Int32.le_iff_toInt_le, Int32.lt_iff_toInt_lt, z_eq, z_in, nI_toInt, z_cl, z_m1, z_sg, z_255, Int32.reduceToInt] <;> omega) | (simp only [Int32.le_iff_toInt_le, Int32.lt_iff_toInt_lt, z_eq, z_in, z_add, z_sub, z_mul, z_neg, z_nI, z_cl, z_sg, z_255, z_lit, Int32.reduceToInt] <;> omega))) ?_
        by_cases d2 : how = 2
        · subst d2
          exact bn_t rfl (s_front h rfl hS hB (fun y y1 y2 => tail y y1 (fun _ => by decide) y2))
        · refine bn_f (by (first | omega | (simp (disch := omega) only [Int32.le_iff_toInt_le, Int32.lt_iff_toInt_lt, z_eq, z_in, nI_toInt, z_cl, z_m1, z_sg, z_255, Int32.reduceToInt] <;> omega) | (simp only [Int32.le_iff_toInt_le, Int32.lt_iff_toInt_lt, z_eq, z_in, z_add, z_sub, z_mul, z_neg, z_nI, z_cl, z_sg, z_255, z_lit, Int32.reduceToInt] <;> omega))) ?_
          by_cases d3 : how = 3
          · subst d3
            exact bn_t rfl (s_dictT h rfl hS hB (fun y y1 y2 => tail y y1 (fun _ => by decide) y2))
          · refine bn_f (by (first | omega | (simp (disch := omega) only [Int32.le_iff_toInt_le, Int32.lt_iff_toInt_lt, z_eq, z_in, nI_toInt, z_cl, z_m1, z_sg, z_255, Int32.reduceToInt] <;> omega) | (simp only [Int32.le_iff_toInt_le, Int32.lt_iff_toInt_lt, z_eq, z_in, z_add, z_sub, z_mul, z_neg, z_nI, z_cl, z_sg, z_255, z_lit, Int32.reduceToInt] <;> omega))) ?_
            have e0 : how = 0 := by omega
            subst e0
            unfold j_Mod_writeValues_64
            refine lp_Mod_writeValues_66 (fun a0 a1 z => nI 0 = a0 ∧ ∃ k, nI k = a1 ∧ k ≤ P.length ∧ FrV x z ∧ Sh z (B ++ plF 3 (P.take k))) (fun _ a1 _ => P.length - a1.toNatClampNeg) ?_ _ _ _ ⟨rfl, 0, rfl, Nat.zero_le _, Fg.refl x, by show Sh x (B ++ []); rw [List.append_nil]; exact hS⟩
            rintro Q a0 a1 z ⟨rfl, k, rfl, k1, z1, z2⟩ ih
            have hz := h.v z1
            have tl := tk_len h k
            unfold j_Mod_writeValues_66
            rw [hz.2.1, hz.1]
            by_cases c : k < P.length
            · refine br_f (by (first | omega | (simp (disch := omega) only [Int32.le_iff_toInt_le, Int32.lt_iff_toInt_lt, z_eq, z_in, nI_toInt, z_cl, z_m1, z_sg, z_255, Int32.reduceToInt] <;> omega) | (simp only [Int32.le_iff_toInt_le, Int32.lt_iff_toInt_lt, z_eq, z_in, z_add, z_sub, z_mul, z_neg, z_nI, z_cl, z_sg, z_255, z_lit, Int32.reduceToInt] <;> omega))) (bn_t rfl (bn_t rfl (s_putText hz rfl c z2 (by rw [List.length_append]; omega) (fun v v1 v2 => ?_))))
              rw [nI_1]
              refine ih _ _ _ ⟨rfl, k + 1, rfl, by omega, Fg.trans z1 v1.v, ?_⟩ (by rw [nI_clamp (by omega), nI_clamp (by omega)]; omega)
              rw [pl_take c, ← List.append_assoc]
              exact v2
            · refine br_t (by (first | omega | (simp (disch := omega) only [Int32.le_iff_toInt_le, Int32.lt_iff_toInt_lt, z_eq, z_in, nI_toInt, z_cl, z_m1, z_sg, z_255, Int32.reduceToInt] <;> omega) | (simp only [Int32.le_iff_toInt_le, Int32.lt_iff_toInt_lt, z_eq, z_in, z_add, z_sub, z_mul, z_neg, z_nI, z_cl, z_sg, z_255, z_lit, Int32.reduceToInt] <;> omega))) (p z z1 ?_)
              rw [show P.take k = P from List.take_of_length_le (by omega)] at z2
              exact z2
    · refine br_f (by (first | omega | (simp (disch := omega) only [Int32.le_iff_toInt_le, Int32.lt_iff_toInt_lt, z_eq, z_in, nI_toInt, z_cl, z_m1, z_sg, z_255, Int32.reduceToInt] <;> omega) | (simp only [Int32.le_iff_toInt_le, Int32.lt_iff_toInt_lt, z_eq, z_in, z_add, z_sub, z_mul, z_neg, z_nI, z_cl, z_sg, z_255, z_lit, Int32.reduceToInt] <;> omega))) ?_
      have hn : how < 3 := by unfold nCod at hw; rw [if_neg c0, if_neg c3] at hw; exact hw
      have ev : valB ty how P = if how = 0 then plF ty P else if how = 1 then codeB (fun k => (pvd P k).1) P.length else dictB ty P := by
        unfold valB plainB
        rw [if_neg c0, if_neg c0, if_neg c3]
      rw [ev] at tail
      by_cases d0 : how = 0
      · subst d0
        exact s_plainW h c3 hS hB (fun y y1 y2 => tail y y1 (fun z => absurd z c3) y2)
      · by_cases d1 : how = 1
        · subst d1
          exact s_codeW h hS hB (fun y y1 y2 => tail y y1 (fun z => absurd z c3) y2)
        · rw [if_neg d0, if_neg d1] at tail
          exact s_dictW h c3 c0 (by (first | omega | (simp (disch := omega) only [Int32.le_iff_toInt_le, Int32.lt_iff_toInt_lt, z_eq, z_in, nI_toInt, z_cl, z_m1, z_sg, z_255, Int32.reduceToInt] <;> omega) | (simp only [Int32.le_iff_toInt_le, Int32.lt_iff_toInt_lt, z_eq, z_in, z_add, z_sub, z_mul, z_neg, z_nI, z_cl, z_sg, z_255, z_lit, Int32.reduceToInt] <;> omega))) (by (first | omega | (simp (disch := omega) only [Int32.le_iff_toInt_le, Int32.lt_iff_toInt_lt, z_eq, z_in, nI_toInt, z_cl, z_m1, z_sg, z_255, Int32.reduceToInt] <;> omega) | (simp only [Int32.le_iff_toInt_le, Int32.lt_iff_toInt_lt, z_eq, z_in, z_add, z_sub, z_mul, z_neg, z_nI, z_cl, z_sg, z_255, z_lit, Int32.reduceToInt] <;> omega))) hS hB (fun y y1 y2 => tail y y1 (fun z => absurd z c3) y2)
end
