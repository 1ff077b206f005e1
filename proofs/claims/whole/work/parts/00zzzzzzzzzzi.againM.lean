/-! a value against a literal, model -/
theorem d64 : ∀ s : Fin 3, ∀ i : Fin 64, nI (64 * s.val + i.val) / 64 = nI s.val := by decide +kernel
theorem ltB_app {A B : List QLt} : ltB (A ++ B) = ltB A ++ ltB B := by
  unfold ltB
  rw [List.map_append, List.flatten_append]
theorem ltB_at {L : List QLt} {i : Nat} (h : i < L.length) : (ltB (L.take i)).length + (L.getD i lt0).2.2.length ≤ (ltB L).length ∧ ∀ j, j < (L.getD i lt0).2.2.length → (ltB L).getD ((ltB (L.take i)).length + j) 0 = (L.getD i lt0).2.2.getD j 0 := by
  have e : L = L.take i ++ ([L.getD i lt0] ++ L.drop (i + 1)) := by
    have e1 : L.getD i lt0 = L[i] := by rw [List.getD_eq_getElem?_getD, List.getElem?_eq_getElem h]; rfl
    rw [e1]
    show L = L.take i ++ (L[i] :: L.drop (i + 1))
    rw [← List.drop_eq_getElem_cons h, List.take_append_drop]
  have e2 : ltB L = ltB (L.take i) ++ ((L.getD i lt0).2.2 ++ ltB (L.drop (i + 1))) := by
    have := congrArg ltB e
    rw [ltB_app, ltB_app] at this
    rw [this]
    congr 2
    show (L.getD i lt0).2.2 ++ [] = _
    rw [List.append_nil]
  refine ⟨?_, fun j hj => ?_⟩
  · rw [e2, List.length_append, List.length_append]; omega
  · rw [e2, gD_right (by omega), Nat.add_sub_cancel_left, gD_left hj]
section
variable {x : St} {Pl : List PV} {s : Nat} {Q : Qy}
theorem s_agLit {post : Int32 → St → Prop} {ty a i : Nat} (hL : LM x) (h : PoM x Pl) (hs : s < 3) (hQ : KqM x s Q) (ha : a < Pl.length) (hi : i < Q.2.2.2.length) (hty : (Q.2.2.2.getD i lt0).1 = 3 ↔ ty = 3) (va : okVv ty (pvd Pl a)) (vb : okVv ty (lvl (Q.2.2.2.getD i lt0))) (p : post (cmpV ty (pvd Pl a) (lvl (Q.2.2.2.getD i lt0))) x) : wp_Mod_againstLiteral post (nI a) (nI (64 * s + i)) x := by
  obtain ⟨h1, h2, h3, h4, h5⟩ := h
  obtain ⟨⟨-, -, -, ⟨-, q2, q3⟩⟩, qb, ql⟩ := hQ
  obtain ⟨r1, r2, r3, r4⟩ := q3 i hi
  obtain ⟨lb, lj⟩ := ltB_at hi
  have e54 : fN x 54 = 50000 := hL 54
  have e55 : fN x 55 = 50000 := hL 55
  have e56 : fN x 56 = 50000 := hL 56
  have e57 : fN x 57 = 160000 := hL 57
  obtain ⟨a1, a2, a3, a4⟩ := h5 a ha
  have d0 : ((0 : Int32), (0 : Int64), ([] : List Int32)) = lt0 := rfl
  rw [d0] at r1 r3 r4
  have ii : vp_in (nI (64 * s + i)) 192 := vp_in_nI (by omega) (by decide)
  unfold wp_Mod_againstLiteral
  rw [show fN x 89 = 192 from hL 89, show fN x 91 = 192 from hL 91, show fN x 93 = 192 from hL 93, e54]
  refine ⟨ii, ?_⟩
  rw [rA_nI (by omega), r1]
  unfold cmpV at p
  by_cases c : ty = 3
  · rw [if_pos c] at p
    have la := (va c).1
    have lbl := (vb c).1
    have lbl : (Q.2.2.2.getD i lt0).2.2.length ≤ 255 := lbl
    refine br_t (hty.mpr c) ⟨ii, nm_r (show _ = nI (Q.2.2.2.getD i lt0).2.2.length from by rw [rA_nI (by omega)]; exact r3) ?_⟩
    generalize hl : Q.2.2.2.getD i lt0 = l at *
    have p : post (cmpT (pvd Pl a).2 l.2.2) x := p
    refine lp_Mod_againstLiteral_62 (fun a0 a1 a2 a3 y => nI a = a0 ∧ nI (64 * s + i) = a1 ∧ nI l.2.2.length = a2 ∧ x = y ∧ ∃ j, nI j = a3 ∧ j ≤ (pvd Pl a).2.length ∧ j ≤ l.2.2.length ∧ ∀ q, q < j → (pvd Pl a).2.getD q 0 = l.2.2.getD q 0) (fun _ _ _ a3 _ => 257 - a3.toNatClampNeg) ?_ _ _ _ _ _ ⟨rfl, rfl, rfl, rfl, 0, rfl, Nat.zero_le _, Nat.zero_le _, fun q hq => absurd hq (Nat.not_lt_zero _)⟩
    rintro R a0 a1' a2' a3' y ⟨rfl, rfl, rfl, rfl, j, rfl, j1, j2, j3⟩ ih
    have oa := oF_le (P := Pl) (show a + 1 ≤ Pl.length by omega)
    have oa2 : oF Pl (a + 1) = oF Pl a + (pvd Pl a).2.length := rfl
    have stop : (j = (pvd Pl a).2.length ∨ j = l.2.2.length) → j_Mod_againstLiteral_147 post (nI a) (nI (64 * s + i)) (nI l.2.2.length) (nI j) x := fun hj => by
      have ec := cpl_is (s := (pvd Pl a).2) (t := l.2.2) (c := j) j1 j2 j3 (by omega)
      unfold j_Mod_againstLiteral_147
      refine ⟨vp_in_nI (by omega) (by omega), ?_⟩
      rw [rA_nI (by omega), a3]
      unfold cmpT at p
      rw [← ec, if_neg (by omega)] at p
      exact p
    unfold j_Mod_againstLiteral_62
    rw [rA_nI (o := 56) (k := a) (by omega), a3]
    by_cases cb : j < l.2.2.length
    · refine br_f (by (first | omega | (simp (disch := omega) only [Int32.le_iff_toInt_le, Int32.lt_iff_toInt_lt, z_eq, z_in, nI_toInt, z_cl, z_m1, z_sg, z_255, Int32.reduceToInt] <;> omega) | (simp only [Int32.le_iff_toInt_le, Int32.lt_iff_toInt_lt, z_eq, z_in, z_add, z_sub, z_mul, z_neg, z_nI, z_cl, z_sg, z_255, z_lit, Int32.reduceToInt] <;> omega))) ⟨vp_in_nI (by omega) (by omega), ?_⟩
      by_cases ca : j < (pvd Pl a).2.length
      · have e64 : nI (64 * s + i) / 64 = nI s := d64 ⟨s, hs⟩ ⟨i, by omega⟩
        have ex : (rA x 90 (nI (64 * s + i)) + (nI (64 * s + i) / 64) * 2000) + nI j = nI (2000 * s + ((ltB (Q.2.2.2.take i)).length + j)) := by
          rw [rA_nI (by omega), r2, e64, show (2000 : Int32) = nI 2000 from rfl, nI_mul, nI_add, nI_add]
          congr 1
          omega
        have rb : rA x 92 (nI (2000 * s + ((ltB (Q.2.2.2.take i)).length + j))) = l.2.2.getD j 0 := by
          rw [rA_nI (by omega), qb _ (by omega), lj j cb]
        have ra : rA x 57 (rA x 55 (nI a) + nI j) = (pvd Pl a).2.getD j 0 := by rw [rA_nI (by omega), a2, nI_add, rA_nI (by omega), a4 j ca]
        have va1 : vp_in (nI a) (fN x 55) := vp_in_nI (by omega) (by omega)
        have va2 : vp_in (rA x 55 (nI a) + nI j) (fN x 57) := by rw [rA_nI (by omega), a2, nI_add]; exact vp_in_nI (by omega) (by omega)
        rw [ex, rb, ra, show fN x 90 = 192 from hL 90, show fN x 92 = 6000 from hL 92]
        refine br_f (by (first | omega | (simp (disch := omega) only [Int32.le_iff_toInt_le, Int32.lt_iff_toInt_lt, z_eq, z_in, nI_toInt, z_cl, z_m1, z_sg, z_255, Int32.reduceToInt] <;> omega) | (simp only [Int32.le_iff_toInt_le, Int32.lt_iff_toInt_lt, z_eq, z_in, z_add, z_sub, z_mul, z_neg, z_nI, z_cl, z_sg, z_255, z_lit, Int32.reduceToInt] <;> omega))) ⟨ii, vp_in_nI (by omega) (by decide), nm_e ⟨va1, va2, ?_⟩⟩
        by_cases e : (pvd Pl a).2.getD j 0 = l.2.2.getD j 0
        · refine br_t e ?_
          rw [nI_1]
          refine ih _ _ _ _ _ ⟨rfl, rfl, rfl, rfl, j + 1, rfl, ca, cb, fun q hq => ?_⟩ (by rw [nI_clamp (by omega), nI_clamp (by omega)]; omega)
          by_cases z : q = j
          · rw [z]; exact e
          · exact j3 q (by omega)
        · have ec := cpl_is (s := (pvd Pl a).2) (t := l.2.2) (c := j) j1 j2 j3 (Or.inr (Or.inr e))
          unfold cmpT at p
          rw [← ec, if_pos ⟨ca, cb⟩] at p
          exact br_f e ⟨va1, va2, p⟩
      · exact br_t (by (first | omega | (simp (disch := omega) only [Int32.le_iff_toInt_le, Int32.lt_iff_toInt_lt, z_eq, z_in, nI_toInt, z_cl, z_m1, z_sg, z_255, Int32.reduceToInt] <;> omega) | (simp only [Int32.le_iff_toInt_le, Int32.lt_iff_toInt_lt, z_eq, z_in, z_add, z_sub, z_mul, z_neg, z_nI, z_cl, z_sg, z_255, z_lit, Int32.reduceToInt] <;> omega))) (stop (by omega))
    · exact br_t (by (first | omega | (simp (disch := omega) only [Int32.le_iff_toInt_le, Int32.lt_iff_toInt_lt, z_eq, z_in, nI_toInt, z_cl, z_m1, z_sg, z_255, Int32.reduceToInt] <;> omega) | (simp only [Int32.le_iff_toInt_le, Int32.lt_iff_toInt_lt, z_eq, z_in, z_add, z_sub, z_mul, z_neg, z_nI, z_cl, z_sg, z_255, z_lit, Int32.reduceToInt] <;> omega))) (stop (by omega))
  · rw [if_neg c] at p
    have va1 : vp_in (nI a) 50000 := vp_in_nI (by omega) (by decide)
    refine br_f (fun z => c (hty.mp z)) ⟨va1, ii, ?_⟩
    have p : post (if (pvd Pl a).1 < (Q.2.2.2.getD i lt0).2.1 then -1 else if (Q.2.2.2.getD i lt0).2.1 < (pvd Pl a).1 then 1 else 0) x := p
    rw [rL_nI (by omega), rL_nI (by omega), a1, r4]
    generalize (pvd Pl a).1 = u at *
    generalize (Q.2.2.2.getD i lt0).2.1 = w at *
    by_cases c1 : u < w
    · rw [if_pos c1] at p
      refine br_f (fun z => ?_) p
      rw [lg_cmp_ge] at z
      rw [Int64.lt_iff_toInt_lt] at c1
      rw [Int64.le_iff_toInt_le] at z
      omega
    · rw [if_neg c1] at p
      refine br_t (by rw [lg_cmp_ge, Int64.le_iff_toInt_le]; rw [Int64.lt_iff_toInt_lt] at c1; omega) ⟨va1, ii, ?_⟩
      by_cases c2 : w < u
      · rw [if_pos c2] at p
        refine br_f (fun z => ?_) p
        rw [lg_cmp_le] at z
        rw [Int64.lt_iff_toInt_lt] at c2
        rw [Int64.le_iff_toInt_le] at z
        omega
      · rw [if_neg c2] at p
        exact br_t (by rw [lg_cmp_le, Int64.le_iff_toInt_le]; rw [Int64.lt_iff_toInt_lt] at c2; omega) p
end
