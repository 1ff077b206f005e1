/-! the model: entries against entries, told -/
section
variable {x : St} {RS : List (List SEn)}
/-- a byte of an entry's text -/
theorem RcM.rd {i j : Nat} (hL : LM x) (h : RcM x RS) (hi : i < RS.flatten.length) (hj : j < (pvI RS.flatten i).2.length) : vp_in (nI i) (fN x 21) ∧ vp_in (rA x 21 (nI i) + nI j) (fN x 24) ∧ rA x 24 (rA x 21 (nI i) + nI j) = (pvI RS.flatten i).2.getD j 0 := by
  obtain ⟨h1, h2, -⟩ := h
  obtain ⟨a1, a2, a3, a4, a5, a6, a7⟩ := h1.2.2 i hi
  have hl := h2.1
  have ht := h2.2
  have e21 : fN x 21 = 10000 := hL 21
  have e24 : fN x 24 = 60000 := hL 24
  have tl : tx (RS.flatten.take i) + (pvI RS.flatten i).2.length ≤ 60000 := by
    have q := tx_take (E := RS.flatten) (i := i + 1)
    rw [tk1 hi, tx_app] at q
    have : tx [RS.flatten.getD i en0] = (pvI RS.flatten i).2.length := rfl
    omega
  refine ⟨vp_in_nI (by omega) (by omega), ?_, ?_⟩
  · rw [rA_nI (by omega), a6, nI_add]
    exact vp_in_nI (by omega) (by omega)
  · rw [rA_nI (by omega), a6, nI_add, rA_nI (by omega)]
    exact a7 j hj
theorem RcM.sz {i : Nat} (hL : LM x) (h : RcM x RS) (hi : i < RS.flatten.length) : vp_in (nI i) (fN x 22) ∧ rA x 22 (nI i) = nI (pvI RS.flatten i).2.length := by
  obtain ⟨h1, h2, -⟩ := h
  have hl := h2.1
  have e22 : fN x 22 = 10000 := hL 22
  exact ⟨vp_in_nI (by omega) (by omega), by rw [rA_nI (by omega)]; exact (h1.2.2 i hi).2.2.2.2.1⟩
theorem s_against2 {post : Int32 → St → Prop} {j k ty : Nat} (hL : LM x) (h : RcM x RS) (hty : ty < 4) (hj : j < RS.flatten.length) (hk : k < RS.flatten.length) (oj : okVv ty (pvI RS.flatten j)) (ok : okVv ty (pvI RS.flatten k)) (p : post (cmpV ty (pvI RS.flatten j) (pvI RS.flatten k)) x) : wp_Mod_against2 post (nI j) (nI k) (nI ty) x := by
  have hl := h.2.1.1
  unfold wp_Mod_against2
  by_cases c3 : ty = 3
  · have lj := (oj c3).1
    have lk := (ok c3).1
    have sj := h.sz hL hj
    have sk := h.sz hL hk
    unfold cmpV at p
    rw [if_pos c3] at p
    unfold cmpT at p
    generalize hpj : (pvI RS.flatten j).2 = pj at *
    generalize hpk : (pvI RS.flatten k).2 = pk at *
    refine br_t (by rw [c3]; rfl) ?_
    refine lp_Mod_against2_50 (fun a0 a1 a2 a3 y => nI j = a0 ∧ nI k = a1 ∧ x = y ∧ ∃ i, nI i = a3 ∧ i ≤ pj.length ∧ i ≤ pk.length ∧ ∀ q, q < i → pj.getD q 0 = pk.getD q 0) (fun _ _ _ a3 _ => 257 - a3.toNatClampNeg) ?_ _ _ _ _ _ ⟨rfl, rfl, rfl, 0, rfl, Nat.zero_le _, Nat.zero_le _, fun q hq => absurd hq (Nat.not_lt_zero _)⟩
    rintro Q a0 a1 a2 a3 y ⟨rfl, rfl, rfl, i, rfl, i4, i5, i6⟩ ih
    have out : (i = pj.length ∨ i = pk.length) → j_Mod_against2_139 post (nI j) (nI k) a2 (nI i) x := fun z => by
      unfold j_Mod_against2_139
      refine ⟨sj.1, sk.1, ?_⟩
      rw [sj.2, sk.2]
      have ec := cpl_is i4 i5 i6 (by omega)
      rw [← ec, if_neg (by omega)] at p
      exact p
    unfold j_Mod_against2_50
    refine ⟨sj.1, ?_⟩
    rw [sj.2]
    by_cases c1 : i < pj.length
    · refine br_f (by (first | omega | (simp (disch := omega) only [Int32.le_iff_toInt_le, Int32.lt_iff_toInt_lt, z_eq, z_in, nI_toInt, z_cl, z_m1, z_sg, z_255, Int32.reduceToInt] <;> omega) | (simp only [Int32.le_iff_toInt_le, Int32.lt_iff_toInt_lt, z_eq, z_in, z_add, z_sub, z_mul, z_neg, z_nI, z_cl, z_sg, z_255, z_lit, Int32.reduceToInt] <;> omega))) ⟨sk.1, ?_⟩
      rw [sk.2]
      by_cases c2 : i < pk.length
      · have r1 := h.rd hL hj (j := i) (by rw [hpj]; exact c1)
        have r2 := h.rd hL hk (j := i) (by rw [hpk]; exact c2)
        rw [hpj] at r1
        rw [hpk] at r2
        refine br_f (by (first | omega | (simp (disch := omega) only [Int32.le_iff_toInt_le, Int32.lt_iff_toInt_lt, z_eq, z_in, nI_toInt, z_cl, z_m1, z_sg, z_255, Int32.reduceToInt] <;> omega) | (simp only [Int32.le_iff_toInt_le, Int32.lt_iff_toInt_lt, z_eq, z_in, z_add, z_sub, z_mul, z_neg, z_nI, z_cl, z_sg, z_255, z_lit, Int32.reduceToInt] <;> omega))) ⟨r1.1, r1.2.1, r2.1, r2.2.1, ?_⟩
        rw [r1.2.2, r2.2.2]
        by_cases e : pj.getD i 0 = pk.getD i 0
        · refine br_t e ?_
          rw [nI_1]
          refine ih _ _ _ _ _ ⟨rfl, rfl, rfl, i + 1, rfl, by omega, by omega, fun q hq => ?_⟩ (by rw [nI_clamp (by omega), nI_clamp (by omega)]; omega)
          by_cases z : q = i
          · rw [z]; exact e
          · exact i6 q (by omega)
        · refine br_f e ⟨r1.1, r1.2.1, r2.1, r2.2.1, ?_⟩
          have ec := cpl_is i4 i5 i6 (Or.inr (Or.inr e))
          rw [← ec, if_pos ⟨c1, c2⟩] at p
          exact p
      · exact br_t (by (first | omega | (simp (disch := omega) only [Int32.le_iff_toInt_le, Int32.lt_iff_toInt_lt, z_eq, z_in, nI_toInt, z_cl, z_m1, z_sg, z_255, Int32.reduceToInt] <;> omega) | (simp only [Int32.le_iff_toInt_le, Int32.lt_iff_toInt_lt, z_eq, z_in, z_add, z_sub, z_mul, z_neg, z_nI, z_cl, z_sg, z_255, z_lit, Int32.reduceToInt] <;> omega))) (out (by omega))
    · exact br_t (by (first | omega | (simp (disch := omega) only [Int32.le_iff_toInt_le, Int32.lt_iff_toInt_lt, z_eq, z_in, nI_toInt, z_cl, z_m1, z_sg, z_255, Int32.reduceToInt] <;> omega) | (simp only [Int32.le_iff_toInt_le, Int32.lt_iff_toInt_lt, z_eq, z_in, z_add, z_sub, z_mul, z_neg, z_nI, z_cl, z_sg, z_255, z_lit, Int32.reduceToInt] <;> omega))) (out (by omega))
  · have e25 : fN x 25 = 10000 := hL 25
    have v1 : vp_in (nI j) (fN x 25) := vp_in_nI (by omega) (by omega)
    have v2 : vp_in (nI k) (fN x 25) := vp_in_nI (by omega) (by omega)
    refine br_f (fun z => c3 (nI_inj (b := 3) (by omega) (by decide) z)) ⟨v1, v2, ?_⟩
    have l1 : fL x 25 j = (pvI RS.flatten j).1 := (h.1.2.2 j hj).2.2.2.1
    have l2 : fL x 25 k = (pvI RS.flatten k).1 := (h.1.2.2 k hk).2.2.2.1
    rw [rL_nI (by omega), rL_nI (by omega), l1, l2]
    unfold cmpV at p
    rw [if_neg c3] at p
    by_cases c : (pvI RS.flatten j).1 < (pvI RS.flatten k).1
    · rw [if_pos c] at p
      exact br_f (fun z => by have := (lg_cmp_ge _ _).mp z; rw [Int64.le_iff_toInt_le] at this; rw [Int64.lt_iff_toInt_lt] at c; omega) p
    · rw [if_neg c] at p
      refine br_t ((lg_cmp_ge _ _).mpr (by rw [Int64.le_iff_toInt_le]; rw [Int64.lt_iff_toInt_lt] at c; omega)) ⟨v1, v2, ?_⟩
      by_cases c2 : (pvI RS.flatten k).1 < (pvI RS.flatten j).1
      · rw [if_pos c2] at p
        exact br_f (fun z => by have := (lg_cmp_le _ _).mp z; rw [Int64.le_iff_toInt_le] at this; rw [Int64.lt_iff_toInt_lt] at c2; omega) p
      · rw [if_neg c2] at p
        exact br_t ((lg_cmp_le _ _).mpr (by rw [Int64.le_iff_toInt_le]; rw [Int64.lt_iff_toInt_lt] at c2; omega)) p
theorem FrSh.rc {y : St} (f : FrSh x y) (h : RcM x RS) : RcM y RS := h.cg (fun k hk => f.1 0 k (by omega)) (fun a h1 h2 => f.2.2.2.1 a (by omega)) (f.2.2.2.2.1 25 id)
theorem FrSh.lm {y : St} (f : FrSh x y) (h : LM x) : LM y := fun o => by show y.2.2.2.2.2 o = _; rw [f.2.2.2.2.2]; exact h o
theorem s_putEntry {post : St → Prop} {i ty : Nat} {B : List Nat} (hL : LM x) (h : RcM x RS) (hty : ty < 4) (hi : i < RS.flatten.length) (ok : okVv ty (pvI RS.flatten i)) (hS : Sh x B) (hB : B.length ≤ 2 ^ 27) (p : ∀ y, FrSh x y → Sh y (B ++ toldB ty (pvI RS.flatten i)) → post y) : wp_Mod_putEntry post (nI i) (nI ty) x := by
  have hl := h.2.1.1
  have e25 : fN x 25 = 10000 := hL 25
  have ev : rL x 25 (nI i) = (pvI RS.flatten i).1 := by rw [rL_nI (by omega)]; exact (h.1.2.2 i hi).2.2.2.1
  unfold wp_Mod_putEntry
  by_cases c0 : ty = 0
  · subst c0
    refine bn_t rfl ⟨vp_in_nI (by omega) (by omega), ?_⟩
    rw [ev]
    refine s_put hS (by omega) (b := uL (pvI RS.flatten i).1 % 256) (Nat.mod_lt _ (by decide)) ?_ p
    have := lN_i (uL (pvI RS.flatten i).1)
    rw [lN_uL] at this
    rw [this, nI_255]
  · refine bn_f (fun z => c0 (nI_inj (b := 0) (by omega) (by decide) z)) ?_
    by_cases c3 : ty = 3
    · have okt := ok c3
      have l1 := okt.1
      have sz := h.sz hL hi
      have et : toldB ty (pvI RS.flatten i) = txB (pvI RS.flatten i).2 := by unfold toldB; rw [if_pos c3]
      rw [et] at p
      generalize hpi : (pvI RS.flatten i).2 = pi at *
      refine br_t (by rw [c3]; rfl) ⟨sz.1, ?_⟩
      rw [sz.2, nI_l (by omega)]
      refine s_varint hS (by omega) (fun y y1 y2 => ?_)
      rw [uL_lN (by omega)] at y2
      refine lp_Mod_putEntry_52 (fun a0 a1 a2 z => nI i = a0 ∧ ∃ j, nI j = a2 ∧ j ≤ pi.length ∧ FrSh x z ∧ Sh z (B ++ varB pi.length ++ tB (pi.take j))) (fun _ _ a2 _ => 257 - a2.toNatClampNeg) ?_ _ _ _ _ ⟨rfl, 0, rfl, Nat.zero_le _, y1, by rw [List.take_zero]; show Sh y (_ ++ []); rw [List.append_nil]; exact y2⟩
      rintro Q a0 a1 a2 z ⟨rfl, j, rfl, j1, z1, z2⟩ ih
      have hLz := z1.lm hL
      have hz := z1.rc h
      have sz' := hz.sz hLz hi
      rw [hpi] at sz'
      have vl := varB_len pi.length
      have lt : (B ++ varB pi.length ++ tB (pi.take j)).length ≤ B.length + 10 + 255 := by
        rw [List.length_append, List.length_append, tB_len, List.length_take]
        omega
      unfold j_Mod_putEntry_52
      refine ⟨sz'.1, ?_⟩
      rw [sz'.2]
      by_cases c : j < pi.length
      · have r := hz.rd hLz hi (j := j) (by rw [hpi]; exact c)
        rw [hpi] at r
        refine br_f (by (first | omega | (simp (disch := omega) only [Int32.le_iff_toInt_le, Int32.lt_iff_toInt_lt, z_eq, z_in, nI_toInt, z_cl, z_m1, z_sg, z_255, Int32.reduceToInt] <;> omega) | (simp only [Int32.le_iff_toInt_le, Int32.lt_iff_toInt_lt, z_eq, z_in, z_add, z_sub, z_mul, z_neg, z_nI, z_cl, z_sg, z_255, z_lit, Int32.reduceToInt] <;> omega))) ⟨r.1, r.2.1, ?_⟩
        rw [r.2.2, nI_1]
        refine s_put z2 (by omega) (uI_by (okt.2 j c)) (by_and (okt.2 j c)) (fun w w1 w2 => ih _ _ _ _ ⟨rfl, j + 1, rfl, by omega, Fg.trans z1 w1, ?_⟩ (by rw [nI_clamp (by omega), nI_clamp (by omega)]; omega))
        rw [tk_s c, ← List.append_assoc]
        exact w2
      · refine br_t (by (first | omega | (simp (disch := omega) only [Int32.le_iff_toInt_le, Int32.lt_iff_toInt_lt, z_eq, z_in, nI_toInt, z_cl, z_m1, z_sg, z_255, Int32.reduceToInt] <;> omega) | (simp only [Int32.le_iff_toInt_le, Int32.lt_iff_toInt_lt, z_eq, z_in, z_add, z_sub, z_mul, z_neg, z_nI, z_cl, z_sg, z_255, z_lit, Int32.reduceToInt] <;> omega))) (p z z1 ?_)
        rw [show pi.take j = pi from List.take_of_length_le (by omega)] at z2
        unfold txB
        rw [← List.append_assoc]
        exact z2
    · refine br_f (fun z => c3 (nI_inj (b := 3) (by omega) (by decide) z)) ⟨vp_in_nI (by omega) (by omega), ?_⟩
      rw [ev]
      have e : toldB ty (pvI RS.flatten i) = varB (uL (zg (pvI RS.flatten i).1)) := by unfold toldB; rw [if_neg c3, if_neg c0]
      rw [e] at p
      exact s_zigzag (s_varint hS (by omega) p)
end
