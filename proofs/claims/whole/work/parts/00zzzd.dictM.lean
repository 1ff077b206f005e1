/-! the DICTIONARY of the model -/
theorem sm32 : ∀ w, w < 32 → ((nI w &&& 31).toBitVec.smod 32).toNat = w := by decide +kernel
theorem sh_w {m w : Nat} (hm : m < 2 ^ 31) (hw : w < 32) : nI m >>> (nI w &&& 31) = nI (m / 2 ^ w) := by
  apply Int32.toBitVec_inj.mp
  rw [Int32.toBitVec_shiftRight]
  show (nI m).toBitVec.sshiftRight ((nI w &&& 31).toBitVec.smod 32).toNat = _
  rw [sm32 w hw]
  have hz : (nI m).toBitVec.toNat = m := pk_tn (by omega)
  have hms : (nI m).toBitVec.msb = false := by rw [BitVec.msb_eq_false_iff_two_mul_lt, hz]; omega
  have hd : m / 2 ^ w ≤ m := Nat.div_le_self _ _
  apply BitVec.eq_of_toNat_eq
  rw [BitVec.sshiftRight_eq_of_msb_false hms, BitVec.toNat_ushiftRight, hz, Nat.shiftRight_eq_div_pow, show (nI (m / 2 ^ w)).toBitVec.toNat = m / 2 ^ w from pk_tn (by omega)]
theorem m1_sh : (-1 : Int32) >>> (nI 0 &&& 31) ≤ 0 := by decide
/-- is the width there? -/
theorem wd_no {d w : Nat} (hd : d ≤ 1000) (hw : w < dcW d) : ¬ ((nI d - 1) >>> (nI w &&& 31)) ≤ 0 := by
  have h10 := dcW_le hd
  unfold dcW at hw
  split at hw
  · exact absurd hw (Nat.not_lt_zero _)
  · rename_i c
    rw [show nI d - 1 = nI (d - 1) from by rw [show (1 : Int32) = nI 1 from rfl, nI_sub (by omega)]]
    have hb : ¬ bl (d - 1) ≤ w := by omega
    rw [bl_le] at hb
    have h1 : 1 ≤ (d - 1) / 2 ^ w := (Nat.le_div_iff_mul_le (Nat.two_pow_pos w)).mpr (by omega)
    have h2 : (d - 1) / 2 ^ w ≤ d - 1 := Nat.div_le_self _ _
    have h10' : bl (d - 1) ≤ 10 := bl_le.mpr (by omega)
    rw [sh_w (by omega) (by omega)]
    (first | omega | (simp (disch := omega) only [Int32.le_iff_toInt_le, Int32.lt_iff_toInt_lt, z_eq, z_in, nI_toInt, z_cl, z_m1, z_sg, z_255, Int32.reduceToInt] <;> omega) | (simp only [Int32.le_iff_toInt_le, Int32.lt_iff_toInt_lt, z_eq, z_in, z_add, z_sub, z_mul, z_neg, z_nI, z_cl, z_sg, z_255, z_lit, Int32.reduceToInt] <;> omega))
theorem wd_yes {d : Nat} (hd : d ≤ 1000) : ((nI d - 1) >>> (nI (dcW d) &&& 31)) ≤ 0 := by
  have h10 := dcW_le hd
  by_cases c : d = 0
  · subst c
    exact m1_sh
  · have e : dcW d = bl (d - 1) := by unfold dcW; rw [if_neg c]
    rw [show nI d - 1 = nI (d - 1) from by rw [show (1 : Int32) = nI 1 from rfl, nI_sub (by omega)], sh_w (by omega) (by omega)]
    have := bl_le.mp (show bl (d - 1) ≤ dcW d by omega)
    rw [Nat.div_eq_of_lt this]
    decide
section
variable {x : St} {ty : Nat} {P : List PV}
theorem dcD_ok (h : PgM x ty P) : ∀ k, k ≤ P.length → ∀ p, p ∈ (dI ty P k).map (pvd P) → okVv ty p := fun k hk p hp c => by
  obtain ⟨g, g1, g2⟩ := List.mem_map.mp hp
  rw [← g2]
  exact h.ok c (by have := dI_lt k g g1; omega)
theorem dcD_len (h : PgM x ty P) {k : Nat} (hk : k ≤ P.length) : (plF ty ((dI ty P k).map (pvd P))).length ≤ 265000 := by
  have a := plF_len (dcD_ok h k hk)
  have b := dI_len (ty := ty) (P := P) k
  have c := h.2.2.2.2.1
  rw [List.length_map] at a
  omega
theorem dict_eq (h0 : ty ≠ 0) : dictB ty P = varB (dI ty P P.length).length ++ (plF ty ((dI ty P P.length).map (pvd P)) ++ ([dcW (dI ty P P.length).length] ++ runB (dcN ty P) P.length (dcW (dI ty P P.length).length))) := by
  unfold dictB
  have e : (dcD ty P).length = (dI ty P P.length).length := List.length_map _
  rw [e]
  unfold plainB
  rw [if_neg h0]
  rfl
/-- numbers of the values -/
theorem num_step {z : St} {j k : Nat} {w : Int32} (z5 : ∀ i, i < k → fA z 44 i = nI (ixF (kk ty P i) ((dI ty P k).map (kk ty P)))) (h : (j = k ∧ ¬ kk ty P k ∈ (dI ty P k).map (kk ty P) ∧ dI ty P (k + 1) = dI ty P k ++ [k] ∧ w = nI (dI ty P k).length) ∨ (j < k ∧ kk ty P j = kk ty P k ∧ dI ty P (k + 1) = dI ty P k ∧ w = fA z 44 j)) (hk : k < 2 ^ 31) : ∀ i, i < k + 1 → fA (setA z 44 (nI k) w) 44 i = nI (ixF (kk ty P i) ((dI ty P (k + 1)).map (kk ty P))) := by
  intro i hi
  rw [gA_at, nI_clamp hk]
  by_cases e : i = k
  · subst e
    rw [upd_at]
    rcases h with ⟨-, h2, h3, h4⟩ | ⟨h1, h2, h3, h4⟩
    · rw [h4, h3, List.map_append]
      show _ = nI (ixF (kk ty P i) (_ ++ [kk ty P i]))
      rw [ixF_new h2, List.length_map]
    · rw [h4, z5 j h1, h2, h3]
  · rw [upd_ne e, z5 i (by omega)]
    rcases h with ⟨-, h2, h3, h4⟩ | ⟨h1, h2, h3, h4⟩
    · rw [h3, List.map_append]
      show _ = nI (ixF (kk ty P i) (_ ++ [kk ty P k]))
      rw [ixF_app (mem_dI k i (by omega))]
    · rw [h3]
theorem s_dictT {post : St → Prop} {B : List Nat} (h : PgM x ty P) (h3 : ty = 3) (hS : Sh x B) (hB : B.length ≤ 2 ^ 20) (p : ∀ y, FrV x y → Sh y (B ++ dictB ty P) → post y) : wp_Mod_writeDictionary post x := by
  have hl := h.2.2.2.2.1
  have h0 : ty ≠ 0 := by omega
  unfold wp_Mod_writeDictionary
  refine lp_Mod_writeDictionary_4 (fun a0 a1 z => ∃ k, nI k = a1 ∧ nI (dI ty P k).length = a0 ∧ k ≤ P.length ∧ FrV x z ∧ Sh z B ∧ ∀ i, i < k → fA z 44 i = nI (ixF (kk ty P i) ((dI ty P k).map (kk ty P)))) (fun _ a1 _ => P.length - a1.toNatClampNeg) ?_ _ _ _ ⟨0, rfl, rfl, Nat.zero_le _, Fg.refl x, hS, fun i hi => absurd hi (Nat.not_lt_zero _)⟩
  rintro Q a0 a1 z ⟨k, rfl, rfl, k1, z1, z2, z5⟩ ih
  have hz := h.v z1
  have e44 : fN z 44 = 1008 := hz.2.2.2.2.2.1 44
  have dl := dI_len (ty := ty) (P := P) k
  unfold j_Mod_writeDictionary_4
  rw [hz.2.1]
  by_cases c : k < P.length
  · refine br_f (by (first | omega | (simp (disch := omega) only [Int32.le_iff_toInt_le, Int32.lt_iff_toInt_lt, z_eq, z_in, nI_toInt, z_cl, z_m1, z_sg, z_255, Int32.reduceToInt] <;> omega) | (simp only [Int32.le_iff_toInt_le, Int32.lt_iff_toInt_lt, z_eq, z_in, z_add, z_sub, z_mul, z_neg, z_nI, z_cl, z_sg, z_255, z_lit, Int32.reduceToInt] <;> omega))) (s_firstLike hz h3 c (fun j j1 j2 j3 => ?_))
    have hSh : ∀ w : Int32, Sh (setA z 44 (nI k) w) B := fun w => ⟨z2.1, z2.2.1, z2.2.2.1, fun i a b => by rw [gA_ne (by decide)]; exact z2.2.2.2 i a b⟩
    have hFr : ∀ w : Int32, FrV x (setA z 44 (nI k) w) := fun w => Fg.trans z1 (Fg.a (Or.inr rfl))
    rcases dI_step j1 j2 j3 with ⟨d1, d2, d3⟩ | ⟨d1, d2, d3⟩
    · subst d1
      refine bn_t rfl ?_
      unfold j_Mod_writeDictionary_38 j_Mod_writeDictionary_50
      refine ⟨vp_in_nI (by omega) (by omega), nm_e (bn_t rfl (nm_r (nI_1 _) ?_))⟩
      rw [nI_1]
      exact ih _ _ _ ⟨j + 1, rfl, by rw [d3, List.length_append]; rfl, by omega, hFr _, hSh _, num_step z5 (Or.inl ⟨rfl, d2, d3, rfl⟩) (by omega)⟩ (by rw [nI_clamp (by omega), nI_clamp (by omega)]; omega)
    · have hne : ¬ nI j = nI k := fun w => by
        have := congrArg uI w
        rw [uI_nI (by omega), uI_nI (by omega)] at this
        omega
      refine bn_f hne ⟨vp_in_nI (by omega) (by omega), ?_⟩
      unfold j_Mod_writeDictionary_38 j_Mod_writeDictionary_50
      refine ⟨vp_in_nI (by omega) (by omega), nm_e (bn_f hne (nm_r (Int32.add_zero _) ?_))⟩
      rw [nI_1, rA_nI (by omega)]
      exact ih _ _ _ ⟨k + 1, rfl, by rw [d3], by omega, hFr _, hSh _, num_step z5 (Or.inr ⟨d1, j2, d3, rfl⟩) (by omega)⟩ (by rw [nI_clamp (by omega), nI_clamp (by omega)]; omega)
  · have ek : k = P.length := by omega
    subst ek
    refine br_t (by (first | omega | (simp (disch := omega) only [Int32.le_iff_toInt_le, Int32.lt_iff_toInt_lt, z_eq, z_in, nI_toInt, z_cl, z_m1, z_sg, z_255, Int32.reduceToInt] <;> omega) | (simp only [Int32.le_iff_toInt_le, Int32.lt_iff_toInt_lt, z_eq, z_in, z_add, z_sub, z_mul, z_neg, z_nI, z_cl, z_sg, z_255, z_lit, Int32.reduceToInt] <;> omega))) ?_
    rw [nI_l (by omega)]
    refine s_varint z2 (by omega) (fun y y1 y2 => ?_)
    rw [uL_lN (by omega)] at y2
    have vl := varB_len (dI ty P P.length).length
    have yn : ∀ i, i < P.length → fA y 44 i = dcN ty P i := fun i hi => by
      show y.2.2.2.1 44 i = _
      rw [y1.2.2.2.1 44 (by decide)]
      exact z5 i hi
    refine lp_Mod_writeDictionary_66 (fun a0 a1 w => nI (dI ty P P.length).length = a0 ∧ ∃ k, nI k = a1 ∧ k ≤ P.length ∧ FrV x w ∧ (∀ i, i < P.length → fA w 44 i = dcN ty P i) ∧ Sh w (B ++ varB (dI ty P P.length).length ++ plF ty ((dI ty P k).map (pvd P)))) (fun _ a1 _ => P.length - a1.toNatClampNeg) ?_ _ _ _ ⟨rfl, 0, rfl, Nat.zero_le _, Fg.trans z1 y1.v, yn, by show Sh y (_ ++ []); rw [List.append_nil]; exact y2⟩
    rintro Q' a0 a1 w ⟨rfl, k, rfl, k1, w1, w3, w2⟩ ih'
    have hw := h.v w1
    have pl := dcD_len h k1
    have bl1 : (B ++ varB (dI ty P P.length).length ++ plF ty ((dI ty P k).map (pvd P))).length ≤ 2 ^ 20 + 10 + 265000 := by
      rw [List.length_append, List.length_append]
      omega
    unfold j_Mod_writeDictionary_66
    rw [hw.2.1]
    by_cases c : k < P.length
    · refine br_f (by (first | omega | (simp (disch := omega) only [Int32.le_iff_toInt_le, Int32.lt_iff_toInt_lt, z_eq, z_in, nI_toInt, z_cl, z_m1, z_sg, z_255, Int32.reduceToInt] <;> omega) | (simp only [Int32.le_iff_toInt_le, Int32.lt_iff_toInt_lt, z_eq, z_in, z_add, z_sub, z_mul, z_neg, z_nI, z_cl, z_sg, z_255, z_lit, Int32.reduceToInt] <;> omega))) (s_firstLike hw h3 c (fun j j1 j2 j3 => ?_))
      unfold j_Mod_writeDictionary_88
      rw [nI_1]
      rcases dI_step j1 j2 j3 with ⟨d1, d2, d3⟩ | ⟨d1, d2, d3⟩
      · subst d1
        refine bn_t rfl (s_putText hw h3 c w2 (by omega) (fun v v1 v2 => ih' _ _ _ ⟨rfl, j + 1, rfl, by omega, Fg.trans w1 v1.v, fun i hi => ?_, ?_⟩ (by rw [nI_clamp (by omega), nI_clamp (by omega)]; omega)))
        · show v.2.2.2.1 44 i = _
          rw [v1.2.2.2.1 44 (by decide)]
          exact w3 i hi
        · rw [d3, List.map_append]
          show Sh v (_ ++ plF ty (_ ++ [pvd P j]))
          rw [plF_app, ← List.append_assoc]
          have e : oneB ty (pvd P j) = txB (pvd P j).2 := by unfold oneB; rw [if_pos h3]
          rw [e]
          exact v2
      · have hne : ¬ nI j = nI k := fun w => by
          have := congrArg uI w
          rw [uI_nI (by omega), uI_nI (by omega)] at this
          omega
        exact bn_f hne (ih' _ _ _ ⟨rfl, k + 1, rfl, by omega, w1, w3, by rw [d3]; exact w2⟩ (by rw [nI_clamp (by omega), nI_clamp (by omega)]; omega))
    · have ek : k = P.length := by omega
      subst ek
      refine br_t (by (first | omega | (simp (disch := omega) only [Int32.le_iff_toInt_le, Int32.lt_iff_toInt_lt, z_eq, z_in, nI_toInt, z_cl, z_m1, z_sg, z_255, Int32.reduceToInt] <;> omega) | (simp only [Int32.le_iff_toInt_le, Int32.lt_iff_toInt_lt, z_eq, z_in, z_add, z_sub, z_mul, z_neg, z_nI, z_cl, z_sg, z_255, z_lit, Int32.reduceToInt] <;> omega))) ?_
      have dW := dcW_le (m := (dI ty P P.length).length) (by omega)
      refine lp_Mod_writeDictionary_96 (fun a0 a1 v => nI (dI ty P P.length).length = a0 ∧ w = v ∧ ∃ q, nI q = a1 ∧ q ≤ dcW (dI ty P P.length).length) (fun _ a1 _ => dcW (dI ty P P.length).length - a1.toNatClampNeg) ?_ _ _ _ ⟨rfl, rfl, 0, rfl, Nat.zero_le _⟩
      rintro Q2 a0 a1 v ⟨rfl, rfl, q, rfl, q1⟩ ih2
      unfold j_Mod_writeDictionary_96
      by_cases cq : q < dcW (dI ty P P.length).length
      · refine br_f (wd_no (by omega) cq) ?_
        rw [nI_1]
        exact ih2 _ _ _ ⟨rfl, rfl, q + 1, rfl, by omega⟩ (by rw [nI_clamp (by omega), nI_clamp (by omega)]; omega)
      · have eq : q = dcW (dI ty P P.length).length := by omega
        subst eq
        refine br_t (wd_yes (by omega)) (s_put w2 (by omega) (b := dcW (dI ty P P.length).length) (by omega) (by rw [nI_255, Nat.mod_eq_of_lt (by omega)]) (fun u u1 u2 => ?_))
        have hu := hw.v u1.v
        rw [hu.2.1]
        refine s_runs (R := dcN ty P) (by decide) ⟨by rw [hu.2.2.2.2.2.1 44]; show _ ≤ 1008; omega, by rw [hu.2.2.2.2.2.1 44]; decide, fun i hi => ?_⟩ (by omega) (by omega) u2 (by rw [List.length_append]; show _ + 1 ≤ _; omega) (fun t t1 t2 => p t (Fg.trans w1 (Fg.trans u1.v t1.v)) ?_)
        · show u.2.2.2.1 44 i = _
          rw [u1.2.2.2.1 44 (by decide)]
          exact w3 i hi
        · rw [dict_eq h0, ← List.append_assoc, ← List.append_assoc, ← List.append_assoc]
          exact t2
end
