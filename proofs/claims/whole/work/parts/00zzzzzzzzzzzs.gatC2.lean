/-! a row is gathered, class -/
theorem lN_suc (n : Nat) : lN n + 1 = lN (n + 1) := by
  show lN n + lN 1 = _
  exact (Int64.ofNat_add n 1).symm
section
variable {x y z : St} {F : List SFd} {G : List Nat} {K : List ChT} {CK : List (List PgW)} {b dE f r o qo s t g j c ix : Nat} {Q : Qy} {A : List GrT}
/-- what does not change with a row -/
theorem GiC.keep {it : QIt} {v : Int32} {L : List Nat} (h : GiC x o b ix F G CK (it, (v, L))) (h1 : it.1 ≠ 1) (e : it.1 = 0 ∨ itV F G CK it (L ++ [r]) = itV F G CK it L) : GiC x o b ix F G CK (it, (v, L ++ [r])) := by
  obtain ⟨a1, a2, a3, a4, a5⟩ := h
  by_cases c0 : it.1 = 0
  · have be : ∀ M, beG F G CK (it, (v, M)) = celR F G CK (fOf v) (cOf F it.2.1) := fun M => by
      unfold beG
      rw [if_pos c0]
    have kd : kdG F G CK (it, (v, L ++ [r])) = kdG F G CK (it, (v, L)) := by
      unfold kdG
      rw [be, be]
      have n1 : ¬ (it.1 = 1 ∨ it.1 = 2) := by rw [c0]; decide
      have n3 : ¬ it.1 = 3 := by rw [c0]; decide
      rw [if_neg n1, if_neg n1, if_neg n3, if_neg n3]
    refine ⟨by rw [kd]; exact a1, fun z => absurd z h1, fun z => absurd z (by show ¬ it.1 = 2; rw [c0]; decide), fun z => absurd z (by show ¬ it.1 = 3; rw [c0]; decide), fun p q w => a5 p q ?_⟩
    rw [be] at w ⊢
    exact w
  · have e := e.resolve_left c0
    have be : beG F G CK (it, (v, L ++ [r])) = beG F G CK (it, (v, L)) := by
      unfold beG
      rw [if_neg c0, if_neg c0]
      show bst _ _ (itV F G CK it (L ++ [r])) = bst _ _ (itV F G CK it L)
      rw [e]
    have kd : kdG F G CK (it, (v, L ++ [r])) = kdG F G CK (it, (v, L)) := by
      unfold kdG
      rw [be]
      show (if it.1 = 1 ∨ it.1 = 2 then 2 else if it.1 = 3 then (if (itV F G CK it (L ++ [r])).length = 0 then 0 else 2) else _) = (if it.1 = 1 ∨ it.1 = 2 then 2 else if it.1 = 3 then (if (itV F G CK it L).length = 0 then 0 else 2) else _)
      rw [e]
    refine ⟨by rw [kd]; exact a1, fun z => absurd z h1, fun z => ?_, fun z => ?_, fun p q w => a5 p q ?_⟩
    · show _ = lN (itV F G CK it (L ++ [r])).length
      rw [e]
      exact a3 z
    · show _ = sumL (itV F G CK it (L ++ [r]))
      rw [e]
      exact a4 z
    · rw [be] at w
      exact w
theorem k_gatherV {post : St → Prop} {it : QIt} {v : Int32} {L : List Nat} (B : AnC x o qo F G K CK b dE Q) (hf : colF F f) (ef : it.2.1 = nI f) (hr : r < smN G) (hx : ix < 8000) (h2 : 2 ≤ it.1) (h5 : it.1 ≤ 5) (hwl : it.1 = 3 → whl (fTy F f)) (h : GiC x o b ix F G CK (it, (v, L)))
    (p : ∀ y, FrGr o x y → fI y o 1 = fI x o 1 → fA y (o + 2) = fA x (o + 2) → (∀ k, k ≠ ix → fA y (o + 3) k = fA x (o + 3) k ∧ fL y (o + 4) k = fL x (o + 4) k) → GiC y o b ix F G CK (it, (v, L ++ [r])) → post y) : wp_Ans_gatherValue post o (nI ix) it.1 (nI r) (nI f) x := by
  have R := B.1
  have hw := R.2.2.1.2.1
  have hb := R.bb
  have h14 := B.2.2.2.1
  obtain ⟨-, -, o8, o9, -⟩ := sta B.2.1
  obtain ⟨-, -, n3, n4, -⟩ := B.2.1.len R.1
  obtain ⟨v1, e1, v2, e2⟩ := col78 R hf
  obtain ⟨ty1, t4, tE⟩ := tOf_n hw hf
  have vx : vp_in (nI ix) 8000 := vp_in_nI hx (by decide)
  have l85 : fN x 85 = 11001 := R.1 85 (by decide)
  have ho : 128 ≤ o := by rcases B.2.1 with h | h <;> omega
  have co : cOf F it.2.1 = ncol (F.take f) := by rw [ef, cOf_w hw hf.1]
  have n0 : ¬ it.1 = 0 := fun z => by rw [z] at h2; exact absurd h2 (by decide)
  have n1 : ¬ it.1 = 1 := fun z => by rw [z] at h2; exact absurd h2 (by decide)
  have nl : ¬ it.1 < 2 := fun z => by (first | omega | (simp (disch := omega) only [Int32.le_iff_toInt_le, Int32.lt_iff_toInt_lt, z_eq, z_in, nI_toInt, z_cl, z_m1, z_sg, z_255, Int32.reduceToInt] at * <;> omega) | (simp only [Int32.le_iff_toInt_le, Int32.lt_iff_toInt_lt, z_eq, z_in, z_add, z_sub, z_mul, z_neg, z_nI, z_cl, z_sg, z_255, z_lit, Int32.reduceToInt] at * <;> omega))
  unfold wp_Ans_gatherValue
  refine ⟨97, h14, v1, nm_r (e' := nI (ncol (F.take f))) e1 ⟨97, h14, k_cell R hf hr (fun e he => ⟨97, h14, k_hasQ R hf he (fun q hq hv => bn_f (by decide) ?_) (fun hq => bn_t rfl ?_)⟩)⟩⟩
  rotate_left
  · exact p x (Fg.refl x) rfl rfl (fun _ _ => ⟨rfl, rfl⟩) (h.keep n1 (Or.inr (itV_same (Or.inr (by rw [co]; exact hq)))))
  have iv : itV F G CK it (L ++ [r]) = itV F G CK it L ++ [q] := itV_more nl (by rw [co]; exact hq)
  have re : rL x (stC 97 9) (nI e) = fL x 85 e := rL_nI (by have := he.1; omega)
  have ve : vp_in (nI e) (fN x (stC 97 9)) := by
    show vp_in _ (fN x 85)
    rw [l85]
    exact vp_in_nI (by have := he.1; omega) (by decide)
  rw [← ty1] at hv
  have be : ∀ M, beG F G CK (it, (v, M)) = bst (tOf F it.2.1) (decide (it.1 = 4)) (itV F G CK it M) := fun M => by
    unfold beG
    rw [if_neg n0]
  have setR : ∀ w : Int64, ∀ k, k ≠ ix → fL (setL x (o + 4) (nI ix) w) (o + 4) k = fL x (o + 4) k := fun w k hk => gL_off (by omega) hk
  have f4 : ∀ w : Int64, FrGr o x (setL x (o + 4) (nI ix) w) := fun w => Fg.l rfl
  obtain ⟨a1, a2, a3, a4, a5⟩ := h
  by_cases c2 : it.1 = 2
  · refine bn_t c2 ?_
    rw [o9, n4]
    refine ⟨vx, vx, nm_e (p _ (f4 _) rfl rfl (fun k hk => ⟨rfl, setR _ k hk⟩) ⟨?_, fun z => absurd z n1, fun _ => ?_, fun z => absurd z (by show ¬ it.1 = 3; rw [c2]; decide), fun p hp => ?_⟩)⟩
    · have a1 : fA x (o + 3) ix = kdG F G CK (it, (v, L)) := a1
      have kd : ∀ M, kdG F G CK (it, (v, M)) = 2 := fun M => by
        unfold kdG
        rw [if_pos (Or.inr c2)]
      rw [kd] at a1 ⊢
      exact a1
    · rw [gL_on (by omega), rL_nI (by omega), a3 c2, lN_suc]
      show _ = lN (itV F G CK it (L ++ [r])).length
      rw [iv, List.length_append]
      rfl
    · exfalso
      have hp : it.1 = 0 ∨ 4 ≤ it.1 := hp
      rw [c2] at hp
      exact absurd hp (by decide)
  refine bn_f c2 ?_
  have n12 : ¬ (it.1 = 1 ∨ it.1 = 2) := fun z => z.elim n1 c2
  have r3 : rA x (o + 3) (nI ix) = kdG F G CK (it, (v, L)) := by rw [rA_nI (by omega)]; exact a1
  rw [o8, n3, r3]
  refine ⟨vx, ?_⟩
  have kd4 : it.1 = 0 ∨ 4 ≤ it.1 → ∀ M, itV F G CK it M ≠ [] → kdG F G CK (it, (v, M)) = kdT (tOf F it.2.1) := by
    intro hp M hM
    have n3' : ¬ it.1 = 3 := fun z => by rw [z] at hp; exact absurd hp (by decide)
    unfold kdG
    rw [if_neg n12, if_neg n3', be]
    cases hb : bst (tOf F it.2.1) (decide (it.1 = 4)) (itV F G CK it M) with
    | none => exact absurd (bst_n.mp hb) hM
    | some _ => rfl
  have kd3 : it.1 = 3 → ∀ M, itV F G CK it M ≠ [] → kdG F G CK (it, (v, M)) = 2 := by
    intro hp M hM
    unfold kdG
    rw [if_neg n12, if_pos hp, if_neg (fun z => hM (List.eq_nil_of_length_eq_zero z))]
  have ne1 : itV F G CK it (L ++ [r]) ≠ [] := by
    rw [iv]
    exact fun z => by simp at z
  have k0 : kdG F G CK (it, (v, L)) = 0 ↔ itV F G CK it L = [] := by
    constructor
    · intro z
      apply Classical.byContradiction
      intro hM
      by_cases c3 : it.1 = 3
      · rw [kd3 c3 L hM] at z
        exact absurd z (by decide)
      · rw [kd4 ?_ L hM] at z
        · unfold kdT at z
          split at z
          · exact absurd z (by decide)
          · split at z <;> exact absurd z (by decide)
        · right
          clear p a1 a2 a3 a4 a5 kd3 kd4 r3 be iv
          (first | omega | (simp (disch := omega) only [Int32.le_iff_toInt_le, Int32.lt_iff_toInt_lt, z_eq, z_in, nI_toInt, z_cl, z_m1, z_sg, z_255, Int32.reduceToInt] at * <;> omega) | (simp only [Int32.le_iff_toInt_le, Int32.lt_iff_toInt_lt, z_eq, z_in, z_add, z_sub, z_mul, z_neg, z_nI, z_cl, z_sg, z_255, z_lit, Int32.reduceToInt] at * <;> omega))
    · intro z
      unfold kdG
      rw [if_neg n12, be]
      show (if it.1 = 3 then (if (itV F G CK it L).length = 0 then (0 : Int32) else 2) else match bst (tOf F it.2.1) (decide (it.1 = 4)) (itV F G CK it L) with | none => 0 | some _ => _) = 0
      rw [z]
      split <;> rfl
  have w3 : it.1 = 3 → kdT (tOf F (nI f)) = 2 ∧ tOf F (nI f) ≠ 3 := by
    intro c3
    have := hwl c3
    rw [tE] at this
    have e : ∀ k : Fin 4, whl (nI k.val) → kdT k.val = 2 ∧ k.val ≠ 3 := by unfold whl kdT; decide
    exact e ⟨_, t4⟩ this
  by_cases cz : itV F G CK it L = []
  · refine bn_t (k0.mpr cz) (k_keepV B hf hr hx (fun hn => by rw [hq] at hn; exact nomatch hn) (fun q' w hq' hw' => ?_))
    rw [hq] at hq'
    injection hq' with hq'
    subst hq'
    rw [cz, List.nil_append] at iv
    refine p _ (FrGr.two _ _ _ _) rfl (by rw [gASL, gA_ne (by omega)]) (fun k hk => ⟨by rw [gASL, gA_off (by omega) hk], by rw [gL_off (by omega) hk]; rfl⟩) ⟨?_, fun z => absurd z n1, fun z => absurd z c2, fun c3 => ?_, fun p hp ep => ?_⟩
    · rw [gASL, gA_on (by omega)]
      by_cases c3 : it.1 = 3
      · rw [kd3 c3 _ ne1, (w3 c3).1]
      · rw [kd4 ?_ _ ne1, ef]
        right
        clear p a1 a2 a3 a4 a5 kd3 kd4 r3 be iv k0 w3
        (first | omega | (simp (disch := omega) only [Int32.le_iff_toInt_le, Int32.lt_iff_toInt_lt, z_eq, z_in, nI_toInt, z_cl, z_m1, z_sg, z_255, Int32.reduceToInt] at * <;> omega) | (simp only [Int32.le_iff_toInt_le, Int32.lt_iff_toInt_lt, z_eq, z_in, z_add, z_sub, z_mul, z_neg, z_nI, z_cl, z_sg, z_255, z_lit, Int32.reduceToInt] at * <;> omega))
    · rw [gL_on (by omega), hw'.1 (w3 c3).2]
      show q.1 = sumL (itV F G CK it (L ++ [r]))
      rw [iv]
      show q.1 = 0 + q.1
      rw [Int64.zero_add]
    · rw [be, iv] at ep
      have ep : some q = some p := ep
      injection ep with ep
      rw [gL_on (by omega), ← ep]
      show RfP _ b (tOf F it.2.1) w q
      rw [ef]
      refine hw'.same ?_
      rw [gASL, gA_ne (by omega)]
  · refine bn_f (fun z => cz (k0.mp z)) ?_
    by_cases c3 : it.1 = 3
    · refine bn_t c3 ?_
      rw [o9, n4]
      refine ⟨vx, 97, h14, ve, vx, nm_e (p _ (f4 _) rfl rfl (fun k hk => ⟨rfl, setR _ k hk⟩) ⟨?_, fun z => absurd z n1, fun z => absurd z c2, fun _ => ?_, fun p hp => ?_⟩)⟩
      · show fA x (o + 3) ix = _
        rw [a1, kd3 c3 _ cz, kd3 c3 _ ne1]
      · rw [gL_on (by omega), rL_nI (by omega), re, a4 c3, hv.1 (w3 c3).2]
        show _ = sumL (itV F G CK it (L ++ [r]))
        rw [iv, sumL_add]
      · exfalso
        have hp : it.1 = 0 ∨ 4 ≤ it.1 := hp
        rw [c3] at hp
        exact absurd hp (by decide)
    refine bn_f c3 ⟨97, h14, 97, h14, v2, 97, h14, ve, ?_⟩
    have h4 : it.1 = 0 ∨ 4 ≤ it.1 := by
      right
      clear p a1 a2 a3 a4 a5 kd3 kd4 r3 be iv k0 w3
      (first | omega | (simp (disch := omega) only [Int32.le_iff_toInt_le, Int32.lt_iff_toInt_lt, z_eq, z_in, nI_toInt, z_cl, z_m1, z_sg, z_255, Int32.reduceToInt] at * <;> omega) | (simp only [Int32.le_iff_toInt_le, Int32.lt_iff_toInt_lt, z_eq, z_in, z_add, z_sub, z_mul, z_neg, z_nI, z_cl, z_sg, z_255, z_lit, Int32.reduceToInt] at * <;> omega))
    rw [o9, n4, re]
    refine ⟨vx, ?_⟩
    have e72 : rA x (stC (stC 97 5) 3) (nI f) = nI (tOf F (nI f)) := e2
    rw [e72]
    obtain ⟨m, hm⟩ : ∃ m, bst (tOf F it.2.1) (decide (it.1 = 4)) (itV F G CK it L) = some m := by
      cases hb : bst (tOf F it.2.1) (decide (it.1 = 4)) (itV F G CK it L) with
      | none => exact absurd (bst_n.mp hb) cz
      | some m => exact ⟨m, rfl⟩
    have hm' := a5 m h4 (by rw [be]; exact hm)
    have hm' : RfP x b (tOf F it.2.1) (fL x (o + 4) ix) m := hm'
    have eB : bst (tOf F it.2.1) (decide (it.1 = 4)) (itV F G CK it (L ++ [r])) = if decide (it.1 = 4) = true then (if cmpV (tOf F it.2.1) q m < 0 then some q else some m) else (if 0 < cmpV (tOf F it.2.1) q m then some q else some m) := by
      rw [iv, bst_add, hm]
      rfl
    rw [ef] at hm' eB
    rw [rL_nI (by omega)]
    have keep : bst (tOf F (nI f)) (decide (it.1 = 4)) (itV F G CK it (L ++ [r])) = some m → post x := by
      intro e
      refine p x (Fg.refl x) rfl rfl (fun _ _ => ⟨rfl, rfl⟩) ⟨?_, fun z => absurd z n1, fun z => absurd z c2, fun z => absurd z c3, fun p hp ep => ?_⟩
      · rw [a1, kd4 h4 _ cz, kd4 h4 _ ne1]
      · rw [be, ef, e] at ep
        injection ep with ep
        rw [← ep]
        show RfP x b (tOf F it.2.1) _ _
        rw [ef]
        exact hm'
    have take : bst (tOf F (nI f)) (decide (it.1 = 4)) (itV F G CK it (L ++ [r])) = some q → ∀ l7, j_Ans_gatherValue_163 post o (nI ix) it.1 (nI r) (nI f) (nI (ncol (F.take f))) (nI e) l7 x := by
      intro e' l7
      unfold j_Ans_gatherValue_163
      refine ⟨97, h14, ve, ?_⟩
      rw [o9, n4, re]
      refine ⟨vx, nm_e (p _ (f4 _) rfl rfl (fun k hk => ⟨rfl, setR _ k hk⟩) ⟨?_, fun z => absurd z n1, fun z => absurd z c2, fun z => absurd z c3, fun p hp ep => ?_⟩)⟩
      · show fA x (o + 3) ix = _
        rw [a1, kd4 h4 _ cz, kd4 h4 _ ne1]
      · rw [be, ef, e'] at ep
        injection ep with ep
        rw [gL_on (by omega), ← ep]
        show RfP _ b (tOf F it.2.1) _ _
        rw [ef]
        exact hv.same rfl
    refine k_cmp R.1 hb t4 hv hm' ?_
    by_cases q4 : it.1 = 4
    · rw [if_pos (decide_eq_true q4)] at eB
      refine bn_t q4 ?_
      by_cases u : cmpV (tOf F (nI f)) q m < 0
      · rw [if_pos u] at eB
        exact br_f (i_nge u) (take eB _)
      · rw [if_neg u] at eB
        exact br_t (i_ge u) (keep eB)
    · rw [if_neg (fun z => q4 (of_decide_eq_true z))] at eB
      refine bn_f q4 ?_
      by_cases u : 0 < cmpV (tOf F (nI f)) q m
      · rw [if_pos u] at eB
        exact br_f (i_nle u) (take eB _)
      · rw [if_neg u] at eB
        exact br_t (i_le u) (keep eB)
theorem k_gather {post : St → Prop} (B : AnC x o qo F G K CK b dE Q) (h7 : fI x o 7 = nI Q.1.length) (h : GrC x o b F G CK Q A) (hg : g < A.length) (hr : r < smN G) (hI : ∀ i, i ∈ Q.1 → itF F i)
    (p : ∀ y, FrGr o x y → fI y o 1 = fI x o 1 → GrC y o b F G CK Q (A.set g ((A.getD g (0, [])).1, (A.getD g (0, [])).2 ++ [r])) → post y) : wp_Ans_gather post o (nI g) (nI r) x := by
  have R := B.1
  obtain ⟨-, o5, o8, o9, -⟩ := sta B.2.1
  have q16 := B.2.2.2.2.2.1.1.2.1
  have ho : 128 ≤ o := by rcases B.2.1 with h | h <;> omega
  obtain ⟨h1, hA, h2⟩ := h
  obtain ⟨g1, g2⟩ := h2 g hg
  generalize hv : A.getD g (0, []) = v at *
  unfold wp_Ans_gather
  refine lp_Ans_gather_2 (fun b0 b1 b2 b3 y => o = b0 ∧ nI g = b1 ∧ nI r = b2 ∧ FrGr o x y ∧ fI y o 1 = fI x o 1 ∧ fA y (o + 2) = fA x (o + 2) ∧ (∀ j, j ≠ g → ∀ i, i < 16 → fA y (o + 3) (16 * j + i) = fA x (o + 3) (16 * j + i) ∧ fL y (o + 4) (16 * j + i) = fL x (o + 4) (16 * j + i)) ∧ ∃ k, k ≤ Q.1.length ∧ nI k = b3 ∧ ∀ i, i < Q.1.length → GiC y o b (16 * g + i) F G CK (Q.1.getD i (0, 0, 0), (v.1, if i < k then v.2 ++ [r] else v.2))) (fun _ _ _ b3 _ => Q.1.length - b3.toNatClampNeg) ?_ _ _ _ _ _ ⟨rfl, rfl, rfl, Fg.refl x, rfl, rfl, fun j hj i hi => ⟨rfl, rfl⟩, 0, Nat.zero_le _, rfl, fun i hi => by rw [if_neg (Nat.not_lt_zero _)]; exact g2 i hi⟩
  rintro R2 b0 b1 b2 b3 y ⟨rfl, rfl, rfl, fy, y1, y2, yo, k, hk, rfl, yk⟩ ih
  have By := B.fa fy.fa
  have y82 : fA y 82 = fA x 82 := fy.2.2.2.1 82 (fun z => by omega)
  have y7 : fI y o 7 = nI Q.1.length := (fy.1 o 7 (fun z => by omega)).trans h7
  have h15 := By.2.2.2.2.1
  obtain ⟨-, -, m3, m4, -⟩ := B.2.1.len By.1.1
  obtain ⟨c2, c3, -⟩ := stq B.2.2.1
  obtain ⟨q1, q2, -⟩ := B.2.2.1.len By.1.1
  unfold j_Ans_gather_2
  rw [y7]
  by_cases ck : k = Q.1.length
  · subst ck
    refine br_t (by (first | omega | (simp (disch := omega) only [Int32.le_iff_toInt_le, Int32.lt_iff_toInt_lt, z_eq, z_in, nI_toInt, z_cl, z_m1, z_sg, z_255, Int32.reduceToInt] <;> omega) | (simp only [Int32.le_iff_toInt_le, Int32.lt_iff_toInt_lt, z_eq, z_in, z_add, z_sub, z_mul, z_neg, z_nI, z_cl, z_sg, z_255, z_lit, Int32.reduceToInt] <;> omega))) (p y fy y1 ⟨?_, ?_, fun j hj => ?_⟩)
    · rw [List.length_set, y1, h1]
    · rw [List.length_set]; exact hA
    · rw [List.length_set] at hj
      rw [gD_setL hg]
      by_cases z : j = g
      · subst z
        rw [if_pos rfl]
        refine ⟨by rw [y2]; exact g1, fun i hi => ?_⟩
        have := yk i hi
        rw [if_pos hi] at this
        exact this
      · rw [if_neg z]
        obtain ⟨a1, a2⟩ := h2 j hj
        refine ⟨by rw [y2]; exact a1, fun i hi => ?_⟩
        obtain ⟨d1, d2⟩ := yo j z i (by omega)
        exact (a2 i hi).cg d1 d2 y82
  · have kq : k < Q.1.length := by omega
    obtain ⟨s1, s2, -⟩ := By.2.2.2.2.2.1.1.2.2 k kq
    have mq := mem_gD (d := ((0, 0, 0) : QIt)) kq
    have hit := hI _ mq
    have itk := yk k kq
    rw [if_neg (Nat.lt_irrefl _)] at itk
    have r2 : rA y (qo + 1) (nI k) = (Q.1.getD k (0, 0, 0)).1 := by rw [rA_nI (by omega)]; exact s1
    have r3 : rA y (qo + 2) (nI k) = (Q.1.getD k (0, 0, 0)).2.1 := by rw [rA_nI (by omega)]; exact s2
    have vk : vp_in (nI k) 16 := vp_in_nI (by omega) (by decide)
    refine br_f (by (first | omega | (simp (disch := omega) only [Int32.le_iff_toInt_le, Int32.lt_iff_toInt_lt, z_eq, z_in, nI_toInt, z_cl, z_m1, z_sg, z_255, Int32.reduceToInt] <;> omega) | (simp only [Int32.le_iff_toInt_le, Int32.lt_iff_toInt_lt, z_eq, z_in, z_add, z_sub, z_mul, z_neg, z_nI, z_cl, z_sg, z_255, z_lit, Int32.reduceToInt] <;> omega))) (nm_r (e' := nI (16 * g + k)) (by show nI g * nI 16 + nI k = _; rw [nI_mul, nI_add, Nat.mul_comm]) ⟨qo, h15, ?_⟩)
    rw [c2, q1, r2]
    refine ⟨vk, ?_⟩
    generalize hitk : Q.1.getD k (0, 0, 0) = it at *
    have nx : ∀ w, FrGr o y w → fI w o 1 = fI y o 1 → fA w (o + 2) = fA y (o + 2) → (∀ ix, ix ≠ 16 * g + k → fA w (o + 3) ix = fA y (o + 3) ix ∧ fL w (o + 4) ix = fL y (o + 4) ix) → GiC w o b (16 * g + k) F G CK (it, (v.1, v.2 ++ [r])) → ∀ l4, j_Ans_gather_82 post R2 o (nI g) (nI r) (nI k) l4 w := by
      intro w fw w1 w2 wo wi l4
      have w82 : fA w 82 = fA y 82 := fw.2.2.2.1 82 (fun z => by omega)
      unfold j_Ans_gather_82
      rw [nI_1]
      refine ih _ _ _ _ _ ⟨rfl, rfl, rfl, fy.trans fw, w1.trans y1, w2.trans y2, fun j hj i hi => ?_, k + 1, kq, rfl, fun i hi => ?_⟩ ?_
      · obtain ⟨d1, d2⟩ := wo (16 * j + i) (by omega)
        obtain ⟨e1, e2⟩ := yo j hj i hi
        exact ⟨d1.trans e1, d2.trans e2⟩
      · by_cases q : i = k
        · subst q
          rw [if_pos (Nat.lt_succ_self _), hitk]
          exact wi
        · obtain ⟨d1, d2⟩ := wo (16 * g + i) (by omega)
          have := (yk i hi).cg d1 d2 w82
          by_cases u : i < k
          · rw [if_pos u] at this
            rw [if_pos (by omega)]
            exact this
          · rw [if_neg u] at this
            rw [if_neg (by omega)]
            exact this
      · rw [nI_clamp (by omega), nI_clamp (by omega)]
        omega
    have vx : vp_in (nI (16 * g + k)) 8000 := vp_in_nI (by omega) (by decide)
    by_cases c1 : it.1 = 1
    · refine bn_t c1 ?_
      rw [o9, m4]
      have f4 : ∀ w : Int64, FrGr o y (setL y (o + 4) (nI (16 * g + k)) w) := fun w => Fg.l rfl
      refine ⟨vx, vx, nm_e (nx _ (f4 _) rfl rfl (fun ix hx => ⟨rfl, gL_off (by omega) hx⟩) ⟨?_, fun _ => ?_, fun z => absurd z (by show ¬ it.1 = 2; rw [c1]; decide), fun z => absurd z (by show ¬ it.1 = 3; rw [c1]; decide), fun p hp => ?_⟩ _)⟩
      · have kd : ∀ M, kdG F G CK (it, (v.1, M)) = 2 := fun M => by
          unfold kdG
          rw [if_pos (Or.inl c1)]
        have := itk.1
        rw [kd] at this ⊢
        exact this
      · rw [gL_on (by omega), rL_nI (by omega), itk.2.1 c1, lN_suc]
        show lN (v.2.length + 1) = lN (v.2 ++ [r]).length
        rw [List.length_append]
        rfl
      · exfalso
        have hp : it.1 = 0 ∨ 4 ≤ it.1 := hp
        rw [c1] at hp
        exact absurd hp (by decide)
    refine bn_f c1 ⟨qo, h15, ?_⟩
    rw [c2, q1, r2]
    refine ⟨vk, ?_⟩
    by_cases c0 : it.1 = 0
    · exact br_t c0 (nx y (Fg.refl y) rfl rfl (fun _ _ => ⟨rfl, rfl⟩) (itk.keep c1 (Or.inl c0)) _)
    refine br_f c0 ⟨qo, h15, ?_⟩
    rw [c2, q1, r2]
    refine ⟨vk, qo, h15, ?_⟩
    rw [c3, q2, r3]
    refine ⟨vk, ?_⟩
    rcases hit with ⟨i1, -⟩ | ⟨i1, -⟩ | ⟨i1, i2, f0, hf, ef, i3⟩
    · exact absurd i1 c0
    · exact absurd i1 c1
    · rw [ef]
      exact k_gatherV By hf ef hr (by omega) i1 i2 i3 itk (fun w fw w1 w2 wo wi => nx w fw w1 w2 wo wi _)
end
