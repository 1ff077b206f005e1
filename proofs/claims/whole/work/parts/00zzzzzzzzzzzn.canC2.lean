/-! the truths that can be, class -/
theorem mkS_or (f t u : Bool) : (((if u = true then 4 else 0 : Int32) ||| (if t = true then 2 else 0)) ||| (if f = true then 1 else 0)) = nI (mkS f t u) := by cases f <;> cases t <;> cases u <;> decide
section
variable {x y : St} {F : List SFd} {G : List Nat} {K : List ChT} {CK : List (List PgW)} {b dE f r o qo s t : Nat} {Q : Qy}
theorem TlC.nt {ty ty' : Nat} {τ : Tl} (h : TlC x b ty t τ) (h1 : ty ≠ 3) (h2 : ty' ≠ 3) : TlC x b ty' t τ := by
  obtain ⟨a1, a2, a3, a4, a5, a6⟩ := h
  refine ⟨a1, a2, a3, a4, a5, fun z => ?_⟩
  obtain ⟨b1, b2, b3⟩ := a6 z
  refine ⟨b1.nt h1 h2, b2.nt h1 h2, ?_⟩
  rcases b3 with b3 | ⟨b3, d, b4, b5, b6, b7⟩
  · exact Or.inl b3
  · exact Or.inr ⟨b3, d, b4, b5, b6, fun k hk => (b7 k hk).nt h1 h2⟩
theorem k_c59 {post : Int32 → St → Prop} {t u ty ty' : Nat} {τ υ : Tl} {l1 l2 l3 l5 : Int32} (A : AnC x o qo F G K CK b dE Q) (hτ : TlC x b ty t τ) (hυ : TlC x b ty' u υ) (p : j_Ans_truthsThatCanBe_145 post o l1 l2 l3 (nI t) l5 (nI u) (if (decide (0 < τ.2.1) || decide (0 < υ.2.1)) = true then 1 else 0) (if τ.2.1 < τ.1 ∧ υ.2.1 < υ.1 then 1 else 0) x) : j_Ans_truthsThatCanBe_59 post o l1 l2 l3 (nI t) l5 (nI u) x := by
  have h14 := A.2.2.2.1
  have hL := A.1.1
  obtain ⟨t1, t2, t3, t4, t5, -⟩ := hτ
  obtain ⟨u1, u2, u3, u4, u5, -⟩ := hυ
  have vt : vp_in (nI t) 6000 := vp_in_nI t1 (by decide)
  have vu : vp_in (nI u) 6000 := vp_in_nI u1 (by decide)
  have l90 : fN x 90 = 6000 := hL 90 (by decide)
  have l91 : fN x 91 = 6000 := hL 91 (by decide)
  have r1 : rA x (stC 97 15) (nI t) = nI τ.2.1 := by
    have : rA x 91 (nI t) = fA x 91 t := rA_nI (by omega)
    exact this.trans t3
  have r2 : rA x (stC 97 14) (nI t) = nI τ.1 := by
    have : rA x 90 (nI t) = fA x 90 t := rA_nI (by omega)
    exact this.trans t2
  have r3 : rA x (stC 97 15) (nI u) = nI υ.2.1 := by
    have : rA x 91 (nI u) = fA x 91 u := rA_nI (by omega)
    exact this.trans u3
  have r4 : rA x (stC 97 14) (nI u) = nI υ.1 := by
    have : rA x 90 (nI u) = fA x 90 u := rA_nI (by omega)
    exact this.trans u2
  have b1 : vp_in (nI t) (fN x (stC 97 15)) := by show vp_in _ (fN x 91); rw [l91]; exact vt
  have b2 : vp_in (nI t) (fN x (stC 97 14)) := by show vp_in _ (fN x 90); rw [l90]; exact vt
  have b3 : vp_in (nI u) (fN x (stC 97 15)) := by show vp_in _ (fN x 91); rw [l91]; exact vu
  have b4 : vp_in (nI u) (fN x (stC 97 14)) := by show vp_in _ (fN x 90); rw [l90]; exact vu
  have p92 : j_Ans_truthsThatCanBe_92 post o l1 l2 l3 (nI t) l5 (nI u) (if (decide (0 < τ.2.1) || decide (0 < υ.2.1)) = true then 1 else 0) x := by
    unfold j_Ans_truthsThatCanBe_92 j_Ans_truthsThatCanBe_144
    refine ⟨97, h14, b1, 97, h14, b2, ?_⟩
    rw [r1, r2]
    by_cases c1 : τ.2.1 < τ.1
    · refine br_f (by (first | omega | (simp (disch := omega) only [Int32.le_iff_toInt_le, Int32.lt_iff_toInt_lt, z_eq, z_in, nI_toInt, z_cl, z_m1, z_sg, z_255, Int32.reduceToInt] <;> omega) | (simp only [Int32.le_iff_toInt_le, Int32.lt_iff_toInt_lt, z_eq, z_in, z_add, z_sub, z_mul, z_neg, z_nI, z_cl, z_sg, z_255, z_lit, Int32.reduceToInt] <;> omega))) ⟨97, h14, b3, 97, h14, b4, ?_⟩
      rw [r3, r4]
      by_cases c2 : υ.2.1 < υ.1
      · rw [if_pos (show τ.2.1 < τ.1 ∧ υ.2.1 < υ.1 from ⟨c1, c2⟩)] at p
        exact br_f (by (first | omega | (simp (disch := omega) only [Int32.le_iff_toInt_le, Int32.lt_iff_toInt_lt, z_eq, z_in, nI_toInt, z_cl, z_m1, z_sg, z_255, Int32.reduceToInt] <;> omega) | (simp only [Int32.le_iff_toInt_le, Int32.lt_iff_toInt_lt, z_eq, z_in, z_add, z_sub, z_mul, z_neg, z_nI, z_cl, z_sg, z_255, z_lit, Int32.reduceToInt] <;> omega))) p
      · rw [if_neg (show ¬ (τ.2.1 < τ.1 ∧ υ.2.1 < υ.1) from fun z => c2 z.2)] at p
        exact br_t (by (first | omega | (simp (disch := omega) only [Int32.le_iff_toInt_le, Int32.lt_iff_toInt_lt, z_eq, z_in, nI_toInt, z_cl, z_m1, z_sg, z_255, Int32.reduceToInt] <;> omega) | (simp only [Int32.le_iff_toInt_le, Int32.lt_iff_toInt_lt, z_eq, z_in, z_add, z_sub, z_mul, z_neg, z_nI, z_cl, z_sg, z_255, z_lit, Int32.reduceToInt] <;> omega))) p
    · rw [if_neg (show ¬ (τ.2.1 < τ.1 ∧ υ.2.1 < υ.1) from fun z => c1 z.1)] at p
      exact br_t (by (first | omega | (simp (disch := omega) only [Int32.le_iff_toInt_le, Int32.lt_iff_toInt_lt, z_eq, z_in, nI_toInt, z_cl, z_m1, z_sg, z_255, Int32.reduceToInt] <;> omega) | (simp only [Int32.le_iff_toInt_le, Int32.lt_iff_toInt_lt, z_eq, z_in, z_add, z_sub, z_mul, z_neg, z_nI, z_cl, z_sg, z_255, z_lit, Int32.reduceToInt] <;> omega))) p
  unfold j_Ans_truthsThatCanBe_59 j_Ans_truthsThatCanBe_87
  refine ⟨97, h14, b1, ?_⟩
  rw [r1]
  by_cases c1 : 0 < τ.2.1
  · rw [decide_eq_true c1, Bool.true_or] at p92
    exact br_t (by (first | omega | (simp (disch := omega) only [Int32.le_iff_toInt_le, Int32.lt_iff_toInt_lt, z_eq, z_in, nI_toInt, z_cl, z_m1, z_sg, z_255, Int32.reduceToInt] <;> omega) | (simp only [Int32.le_iff_toInt_le, Int32.lt_iff_toInt_lt, z_eq, z_in, z_add, z_sub, z_mul, z_neg, z_nI, z_cl, z_sg, z_255, z_lit, Int32.reduceToInt] <;> omega))) p92
  · rw [decide_eq_false c1, Bool.false_or] at p92
    refine br_f (by (first | omega | (simp (disch := omega) only [Int32.le_iff_toInt_le, Int32.lt_iff_toInt_lt, z_eq, z_in, nI_toInt, z_cl, z_m1, z_sg, z_255, Int32.reduceToInt] <;> omega) | (simp only [Int32.le_iff_toInt_le, Int32.lt_iff_toInt_lt, z_eq, z_in, z_add, z_sub, z_mul, z_neg, z_nI, z_cl, z_sg, z_255, z_lit, Int32.reduceToInt] <;> omega))) ⟨97, h14, b3, ?_⟩
    rw [r3]
    by_cases c2 : 0 < υ.2.1
    · rw [decide_eq_true c2] at p92
      exact br_f (by (first | omega | (simp (disch := omega) only [Int32.le_iff_toInt_le, Int32.lt_iff_toInt_lt, z_eq, z_in, nI_toInt, z_cl, z_m1, z_sg, z_255, Int32.reduceToInt] <;> omega) | (simp only [Int32.le_iff_toInt_le, Int32.lt_iff_toInt_lt, z_eq, z_in, z_add, z_sub, z_mul, z_neg, z_nI, z_cl, z_sg, z_255, z_lit, Int32.reduceToInt] <;> omega))) p92
    · rw [decide_eq_false c2] at p92
      exact br_t (by (first | omega | (simp (disch := omega) only [Int32.le_iff_toInt_le, Int32.lt_iff_toInt_lt, z_eq, z_in, nI_toInt, z_cl, z_m1, z_sg, z_255, Int32.reduceToInt] <;> omega) | (simp only [Int32.le_iff_toInt_le, Int32.lt_iff_toInt_lt, z_eq, z_in, z_add, z_sub, z_mul, z_neg, z_nI, z_cl, z_sg, z_255, z_lit, Int32.reduceToInt] <;> omega))) p92
theorem k_c344 {post : Int32 → St → Prop} {l1 l2 l3 l4 l5 l6 l7 l8 l10 : Int32} {n yes no : Bool} (p : post (nI (mkS no yes n)) x) : j_Ans_truthsThatCanBe_344 post o l1 l2 l3 l4 l5 l6 l7 l8 (if n = true then 4 else 0) l10 (if yes = true then 1 else 0) (if no = true then 1 else 0) x := by
  rw [← mkS_or] at p
  unfold j_Ans_truthsThatCanBe_344 j_Ans_truthsThatCanBe_356 j_Ans_truthsThatCanBe_367
  cases yes <;> cases no
  · exact br_t rfl (br_t rfl p)
  · exact br_t rfl (br_f (by decide) p)
  · exact br_f (by decide) (br_t rfl p)
  · exact br_f (by decide) (br_f (by decide) p)
theorem k_can {post : Int32 → St → Prop} {τ : Nat → Tl} (A : AnC x o qo F G K CK b dE Q) (hs : s < Q.2.2.1.length) (hn : (Q.2.2.1.getD s (0, 0, 0, 0, 0)).1 < 5) (hτ : ∀ f, AsC F Q f → ∃ t, fA x (o + 7) (ncol (F.take f)) = nI t ∧ TlC x b (tOf F (nI f)) t (τ (ncol (F.take f)))) (p : post (nI (canS F Q.2.2.2 τ (Q.2.2.1.getD s (0, 0, 0, 0, 0)))) x) : wp_Ans_truthsThatCanBe post o (nI s) x := by
  have R := A.1
  have hw := R.2.2.1.2.1
  have hF := hw.1
  have hC := hw.2.1
  have h14 := A.2.2.2.1
  have h15 := A.2.2.2.2.1
  obtain ⟨-, -, -, -, -, -, o12, -⟩ := sta A.2.1
  have o7 := (A.2.1.len R.1).2.2.2.2.2.2.1
  obtain ⟨-, -, -, -, c9, c10, c11, c12, c14, c16⟩ := stq A.2.2.1
  obtain ⟨-, -, -, -, n5, n6, n7, n8, n9, n10⟩ := A.2.2.1.len R.1
  obtain ⟨-, -, ⟨-, s64, sS⟩, ⟨-, l64, -⟩⟩ := A.2.2.2.2.2.1
  have ms := mem_gD (d := (0, 0, 0, 0, 0)) hs
  have hW := A.2.2.2.2.2.2.1.2.2.2.1 _ ms
  obtain ⟨s1, s2, s3, s4⟩ := sS s hs
  have vs : vp_in (nI s) 64 := vp_in_nI (by omega) (by decide)
  generalize hst : Q.2.2.1.getD s (0, 0, 0, 0, 0) = st at *
  have r5 : rA x (qo + 5) (nI s) = (clS F st).1 := by rw [rA_nI (by omega)]; exact s1
  have r6 : rA x (qo + 6) (nI s) = (clS F st).2.1 := by rw [rA_nI (by omega)]; exact s2
  have r7 : rA x (qo + 7) (nI s) = (clS F st).2.2.1 := by rw [rA_nI (by omega)]; exact s3
  have r8 : rA x (qo + 8) (nI s) = (clS F st).2.2.2 := by rw [rA_nI (by omega)]; exact s4
  -- a teller is read
  have rd : ∀ f t, colF F f → fA x (o + 7) (ncol (F.take f)) = nI t → vp_in (nI (ncol (F.take f))) 64 ∧ rA x (o + 7) (nI (ncol (F.take f))) = nI t := by
    intro f t hf h
    have := (col_ok hw hf).1
    exact ⟨vp_in_nI (by omega) (by decide), by rw [rA_nI (by omega)]; exact h⟩
  unfold wp_Ans_truthsThatCanBe
  refine ⟨qo, h15, ?_⟩
  rw [c9, n5, r5]
  refine ⟨vs, nm_e ⟨qo, h15, ?_⟩⟩
  rw [c10, n6, r6]
  refine ⟨vs, nm_e ?_⟩
  rw [o12, o7]
  -- no two columns
  have one : ∀ (f t : Nat) (form : Int32), colF F f → (clS F st).1 = form → (6 ≤ form ∨ ¬ (clS F st).2.2.2 = 0) → (j_Ans_truthsThatCanBe_59 post o (nI s) form (nI (ncol (F.take f))) (nI t) 0 (nI t) x) → wp_Ans_comparesColumns (fun (r46 : Int32) (x45 : St) => ((r46 = 0 → j_Ans_truthsThatCanBe_59 post o (nI s) form (nI (ncol (F.take f))) (nI t) r46 (nI t) x45) ∧ (¬ r46 = 0 → (∃ q48 : Nat, fR x45 o 15 = some q48 ∧ (vp_in (nI s) (fN x45 (stC q48 11)) ∧ (vp_in (rA x45 (stC q48 11) (nI s)) (fN x45 (o + 7)) ∧ j_Ans_truthsThatCanBe_59 post o (nI s) form (nI (ncol (F.take f))) (nI t) r46 (rA x45 (o + 7) (rA x45 (stC q48 11) (nI s))) x45)))))) o (nI s) x := by
    intro f t form hf ef he h
    unfold wp_Ans_comparesColumns j_Ans_comparesColumns_30
    refine ⟨qo, h15, ?_⟩
    rw [c9, n5, r5, ef]
    refine ⟨vs, ?_⟩
    by_cases c : 6 ≤ form
    · exact br_t c (br_t rfl h)
    · refine br_f c ⟨qo, h15, ?_⟩
      rw [c12, n8, r8]
      exact ⟨vs, bn_f (he.resolve_left c) (br_t rfl h)⟩
  rcases hW with ⟨f, hf, rfl | rfl⟩ | ⟨f, a, m, hf, hm, ham, hlt, rfl⟩ | ⟨f, op, a, hf, hop, ha, hlt, rfl⟩ | ⟨f, op, g, hf, hop, hg, hty, rfl⟩ | rfl | rfl | rfl
  · -- is null
    have f1 := hf.1
    have eq : clS F (0, nI f, -1, -1, 0) = (6, nI (ncol (F.take f)), 0, 0) := by
      unfold clS
      rw [if_pos rfl]
      show (6, colI F (nI f), 0, 0) = _
      rw [colI_w hw f1]
    rw [eq] at one r5 r6 r7 r8 ⊢
    dsimp only
    obtain ⟨t, et, ht⟩ := hτ f ⟨hf, _, ms, Or.inl ⟨by show ¬ (5 : Int32) ≤ 0; decide, rfl⟩⟩
    obtain ⟨v7, e7⟩ := rd f t hf et
    have cq : canS F Q.2.2.2 τ (0, nI f, -1, -1, 0) = mkS (decide ((τ (ncol (F.take f))).2.1 < (τ (ncol (F.take f))).1)) (decide (0 < (τ (ncol (F.take f))).2.1)) false := by
      unfold canS
      show mkS (decide ((τ (cOf F (nI f))).2.1 < (τ (cOf F (nI f))).1)) (decide (0 < (τ (cOf F (nI f))).2.1)) false = _
      rw [cOf_w hw f1]
    rw [cq] at p
    refine ⟨v7, nm_e ?_⟩
    rw [e7]
    refine one f t 6 hf rfl (Or.inl (by decide)) (k_c59 A ht ht ?_)
    unfold j_Ans_truthsThatCanBe_145 j_Ans_truthsThatCanBe_163 j_Ans_truthsThatCanBe_173
    refine bn_t rfl ?_
    rw [Bool.or_self]
    by_cases c1 : 0 < (τ (ncol (F.take f))).2.1
    · rw [decide_eq_true c1] at p ⊢
      refine br_f (by decide) ?_
      by_cases c2 : (τ (ncol (F.take f))).2.1 < (τ (ncol (F.take f))).1
      · rw [decide_eq_true c2] at p
        rw [if_pos ⟨c2, c2⟩]
        exact br_f (by decide) p
      · rw [decide_eq_false c2] at p
        rw [if_neg (fun z => c2 z.1)]
        exact br_t rfl p
    · rw [decide_eq_false c1] at p ⊢
      refine br_t rfl ?_
      by_cases c2 : (τ (ncol (F.take f))).2.1 < (τ (ncol (F.take f))).1
      · rw [decide_eq_true c2] at p
        rw [if_pos ⟨c2, c2⟩]
        exact br_f (by decide) p
      · rw [decide_eq_false c2] at p
        rw [if_neg (fun z => c2 z.1)]
        exact br_t rfl p
  · -- is not null
    have f1 := hf.1
    have eq : clS F (1, nI f, -1, -1, 0) = (7, nI (ncol (F.take f)), 0, 0) := by
      unfold clS
      rw [if_neg (show ¬ (1 : Int32) = 0 by decide), if_pos rfl]
      show (7, colI F (nI f), 0, 0) = _
      rw [colI_w hw f1]
    rw [eq] at one r5 r6 r7 r8 ⊢
    dsimp only
    obtain ⟨t, et, ht⟩ := hτ f ⟨hf, _, ms, Or.inl ⟨by show ¬ (5 : Int32) ≤ 1; decide, rfl⟩⟩
    obtain ⟨v7, e7⟩ := rd f t hf et
    have cq : canS F Q.2.2.2 τ (1, nI f, -1, -1, 0) = mkS (decide (0 < (τ (ncol (F.take f))).2.1)) (decide ((τ (ncol (F.take f))).2.1 < (τ (ncol (F.take f))).1)) false := by
      unfold canS
      show mkS (decide (0 < (τ (cOf F (nI f))).2.1)) (decide ((τ (cOf F (nI f))).2.1 < (τ (cOf F (nI f))).1)) false = _
      rw [cOf_w hw f1]
    rw [cq] at p
    refine ⟨v7, nm_e ?_⟩
    rw [e7]
    refine one f t 7 hf rfl (Or.inl (by decide)) (k_c59 A ht ht ?_)
    unfold j_Ans_truthsThatCanBe_145 j_Ans_truthsThatCanBe_191 j_Ans_truthsThatCanBe_201
    refine bn_f (by decide) (bn_t rfl ?_)
    rw [Bool.or_self]
    by_cases c1 : 0 < (τ (ncol (F.take f))).2.1
    · rw [decide_eq_true c1] at p ⊢
      refine br_f (by decide) ?_
      by_cases c2 : (τ (ncol (F.take f))).2.1 < (τ (ncol (F.take f))).1
      · rw [decide_eq_true c2] at p
        rw [if_pos ⟨c2, c2⟩]
        exact br_f (by decide) p
      · rw [decide_eq_false c2] at p
        rw [if_neg (fun z => c2 z.1)]
        exact br_t rfl p
    · rw [decide_eq_false c1] at p ⊢
      refine br_t rfl ?_
      by_cases c2 : (τ (ncol (F.take f))).2.1 < (τ (ncol (F.take f))).1
      · rw [decide_eq_true c2] at p
        rw [if_pos ⟨c2, c2⟩]
        exact br_f (by decide) p
      · rw [decide_eq_false c2] at p
        rw [if_neg (fun z => c2 z.1)]
        exact br_t rfl p
  · -- in
    have f1 := hf.1
    have eq : clS F (2, nI f, -1, nI a, nI m) = (8, nI (ncol (F.take f)), nI a, nI m) := by
      unfold clS
      rw [if_neg (show ¬ (2 : Int32) = 0 by decide), if_neg (show ¬ (2 : Int32) = 1 by decide), if_pos rfl]
      show (8, colI F (nI f), nI a, nI m) = _
      rw [colI_w hw f1]
    rw [eq] at one r5 r6 r7 r8 s3 s4 ⊢
    dsimp only
    obtain ⟨t, et, ht⟩ := hτ f ⟨hf, _, ms, Or.inl ⟨by show ¬ (5 : Int32) ≤ 2; decide, rfl⟩⟩
    obtain ⟨v7, e7⟩ := rd f t hf et
    have cq : canS F Q.2.2.2 τ (2, nI f, -1, nI a, nI m) = if (τ (ncol (F.take f))).2.1 < (τ (ncol (F.take f))).1 then mkS (if (τ (ncol (F.take f))).2.2.2.2 = [] then decide (¬ cmpV (tOf F (nI f)) (τ (ncol (F.take f))).2.2.1 (τ (ncol (F.take f))).2.2.2.1 = 0) || !isL Q.2.2.2 (tOf F (nI f)) a m (τ (ncol (F.take f))).2.2.1 else (τ (ncol (F.take f))).2.2.2.2.any (fun w => !isL Q.2.2.2 (tOf F (nI f)) a m w)) ((List.range m).any (fun i => canC (tOf F (nI f)) 0 (τ (ncol (F.take f))) (lvl (Q.2.2.2.getD (a + i) lt0)))) (decide (0 < (τ (ncol (F.take f))).2.1)) else mkS false false (decide (0 < (τ (ncol (F.take f))).2.1)) := by
      have fa : fOf (nI a) = a := nI_clamp (by omega)
      have fm : fOf (nI m) = m := nI_clamp (by omega)
      unfold canS
      show (if (τ (cOf F (nI f))).2.1 < (τ (cOf F (nI f))).1 then mkS (if (τ (cOf F (nI f))).2.2.2.2 = [] then decide (¬ cmpV (tOf F (nI f)) (τ (cOf F (nI f))).2.2.1 (τ (cOf F (nI f))).2.2.2.1 = 0) || !isL Q.2.2.2 (tOf F (nI f)) (fOf (nI a)) (fOf (nI m)) (τ (cOf F (nI f))).2.2.1 else (τ (cOf F (nI f))).2.2.2.2.any (fun w => !isL Q.2.2.2 (tOf F (nI f)) (fOf (nI a)) (fOf (nI m)) w)) ((List.range (fOf (nI m))).any (fun i => canC (tOf F (nI f)) 0 (τ (cOf F (nI f))) (lvl (Q.2.2.2.getD (fOf (nI a) + i) lt0)))) (decide (0 < (τ (cOf F (nI f))).2.1)) else mkS false false (decide (0 < (τ (cOf F (nI f))).2.1))) = _
      rw [cOf_w hw f1, fa, fm]
    rw [cq] at p
    refine ⟨v7, nm_e ?_⟩
    rw [e7]
    refine one f t 8 hf rfl (Or.inl (by decide)) (k_c59 A ht ht ?_)
    have go : ∀ l7 : Int32, j_Ans_truthsThatCanBe_213 post o (nI s) 8 (nI (ncol (F.take f))) (nI t) 0 (nI t) l7 (if (τ (ncol (F.take f))).2.1 < (τ (ncol (F.take f))).1 ∧ (τ (ncol (F.take f))).2.1 < (τ (ncol (F.take f))).1 then 1 else 0) (if decide (0 < (τ (ncol (F.take f))).2.1) = true then 4 else 0) x := by
      intro l7
      unfold j_Ans_truthsThatCanBe_213
      by_cases c2 : (τ (ncol (F.take f))).2.1 < (τ (ncol (F.take f))).1
      · rw [if_pos c2] at p
        rw [if_pos ⟨c2, c2⟩]
        refine bn_f (by decide) (k_typeOf R hf h14 (bn_t rfl ?_))
        exact k_canL A hf (by omega) s4 s3 ham hlt ht c2 (k_canU A hf (by omega) s4 s3 ham hlt ht c2 (k_c344 p))
      · rw [if_neg c2] at p
        rw [if_neg (fun z => c2 z.1)]
        refine bn_t rfl ?_
        have := mkS_or false false (decide (0 < (τ (ncol (F.take f))).2.1))
        rw [← this] at p
        have e : ∀ v : Int32, (v = 4 ∨ v = 0) → ((v ||| (if false = true then 2 else 0)) ||| (if false = true then 1 else 0)) = v := by
          rintro v (rfl | rfl) <;> decide
        rw [e _ (by split <;> simp)] at p
        exact p
    unfold j_Ans_truthsThatCanBe_145
    refine bn_f (by decide) (bn_f (by decide) ?_)
    rw [Bool.or_self]
    by_cases c1 : 0 < (τ (ncol (F.take f))).2.1
    · have g := go 1
      rw [decide_eq_true c1] at g ⊢
      exact br_f (by decide) g
    · have g := go 0
      rw [decide_eq_false c1] at g ⊢
      exact br_t rfl g
  · -- a literal
    have f1 := hf.1
    obtain ⟨o6, o7', o8, -, -⟩ := cop_is hop
    have eq : clS F (3, nI f, nI op, nI a, 1) = (cop (nI op), nI (ncol (F.take f)), nI a, 1) := by
      unfold clS
      rw [if_neg (show ¬ (3 : Int32) = 0 by decide), if_neg (show ¬ (3 : Int32) = 1 by decide), if_neg (show ¬ (3 : Int32) = 2 by decide), if_pos rfl]
      show (cop (nI op), colI F (nI f), nI a, 1) = _
      rw [colI_w hw f1]
    rw [eq] at one r5 r6 r7 r8 s3 s4 ⊢
    dsimp only
    obtain ⟨t, et, ht⟩ := hτ f ⟨hf, _, ms, Or.inl ⟨by show ¬ (5 : Int32) ≤ 3; decide, rfl⟩⟩
    obtain ⟨v7, e7⟩ := rd f t hf et
    have cq : canS F Q.2.2.2 τ (3, nI f, nI op, nI a, 1) = if (τ (ncol (F.take f))).2.1 < (τ (ncol (F.take f))).1 then mkS (canC (tOf F (nI f)) (ctr op) (τ (ncol (F.take f))) (lvl (Q.2.2.2.getD a lt0))) (canC (tOf F (nI f)) op (τ (ncol (F.take f))) (lvl (Q.2.2.2.getD a lt0))) (decide (0 < (τ (ncol (F.take f))).2.1)) else mkS false false (decide (0 < (τ (ncol (F.take f))).2.1)) := by
      have fa : fOf (nI a) = a := nI_clamp (by omega)
      have fm : fOf (nI op) = op := nI_clamp (by omega)
      unfold canS
      show (if (τ (cOf F (nI f))).2.1 < (τ (cOf F (nI f))).1 then mkS (canC (tOf F (nI f)) (ctr (fOf (nI op))) (τ (cOf F (nI f))) (lvl (Q.2.2.2.getD (fOf (nI a)) lt0))) (canC (tOf F (nI f)) (fOf (nI op)) (τ (cOf F (nI f))) (lvl (Q.2.2.2.getD (fOf (nI a)) lt0))) (decide (0 < (τ (cOf F (nI f))).2.1)) else mkS false false (decide (0 < (τ (cOf F (nI f))).2.1))) = _
      rw [cOf_w hw f1, fa, fm]
    rw [cq] at p
    refine ⟨v7, nm_e ?_⟩
    rw [e7]
    refine one f t _ hf rfl (Or.inr (by show ¬ (1 : Int32) = 0; decide)) (k_c59 A ht ht ?_)
    have go : ∀ l7 : Int32, j_Ans_truthsThatCanBe_213 post o (nI s) (cop (nI op)) (nI (ncol (F.take f))) (nI t) 0 (nI t) l7 (if (τ (ncol (F.take f))).2.1 < (τ (ncol (F.take f))).1 ∧ (τ (ncol (F.take f))).2.1 < (τ (ncol (F.take f))).1 then 1 else 0) (if decide (0 < (τ (ncol (F.take f))).2.1) = true then 4 else 0) x := by
      intro l7
      unfold j_Ans_truthsThatCanBe_213
      by_cases c2 : (τ (ncol (F.take f))).2.1 < (τ (ncol (F.take f))).1
      · rw [if_pos c2] at p
        rw [if_pos ⟨c2, c2⟩]
        refine bn_f (by decide) (k_typeOf R hf h14 (bn_f o8 (br_t rfl ⟨qo, h15, qo, h15, ?_⟩)))
        rw [c11, n7, c14, n9, r7]
        refine ⟨vs, vp_in_nI (by omega) (by decide), nm_e ?_⟩
        rw [rL_nI (by omega), cop_ctr hop]
        exact k_canBe A hop hf ht c2 (A.lit hf ha hlt) (k_canBe A (ctr_le hop) hf ht c2 (A.lit hf ha hlt) (k_c344 p))
      · rw [if_neg c2] at p
        rw [if_neg (fun z => c2 z.1)]
        refine bn_t rfl ?_
        have := mkS_or false false (decide (0 < (τ (ncol (F.take f))).2.1))
        rw [← this] at p
        have e : ∀ v : Int32, (v = 4 ∨ v = 0) → ((v ||| (if false = true then 2 else 0)) ||| (if false = true then 1 else 0)) = v := by
          rintro v (rfl | rfl) <;> decide
        rw [e _ (by split <;> simp)] at p
        exact p
    unfold j_Ans_truthsThatCanBe_145
    refine bn_f o6 (bn_f o7' ?_)
    rw [Bool.or_self]
    by_cases c1 : 0 < (τ (ncol (F.take f))).2.1
    · have g := go 1
      rw [decide_eq_true c1] at g ⊢
      exact br_f (by decide) g
    · have g := go 0
      rw [decide_eq_false c1] at g ⊢
      exact br_t rfl g
  · -- two columns
    have f1 := hf.1
    have g1 := hg.1
    obtain ⟨ty1, t4, tE⟩ := tOf_n hw hf
    obtain ⟨ty2, u4, uE⟩ := tOf_n hw hg
    obtain ⟨o6, o7', o8, -, olt⟩ := cop_is hop
    have eq : clS F (4, nI f, nI op, nI g, 0) = (cop (nI op), nI (ncol (F.take f)), nI (ncol (F.take g)), 0) := by
      unfold clS
      rw [if_neg (show ¬ (4 : Int32) = 0 by decide), if_neg (show ¬ (4 : Int32) = 1 by decide), if_neg (show ¬ (4 : Int32) = 2 by decide), if_neg (show ¬ (4 : Int32) = 3 by decide), if_pos rfl]
      show (cop (nI op), colI F (nI f), colI F (nI g), 0) = _
      rw [colI_w hw f1, colI_w hw g1]
    rw [eq] at r5 r6 r7 r8 s3 s4 ⊢
    dsimp only
    obtain ⟨t, et, ht⟩ := hτ f ⟨hf, _, ms, Or.inl ⟨by show ¬ (5 : Int32) ≤ 4; decide, rfl⟩⟩
    obtain ⟨u, eu, hu⟩ := hτ g ⟨hg, _, ms, Or.inr ⟨rfl, rfl⟩⟩
    obtain ⟨v7, e7⟩ := rd f t hf et
    obtain ⟨w7, d7⟩ := rd g u hg eu
    have hu2 : TlC x b (tOf F (nI f)) u (τ (ncol (F.take g))) := by
      rcases hty with hty | ⟨w1, w2⟩
      · have : tOf F (nI f) = tOf F (nI g) := nI_inj (by omega) (by omega) (by rw [← tE, ← uE]; exact hty)
        rw [this]
        exact hu
      · refine hu.nt (fun z => ?_) (fun z => ?_)
        · rw [uE, z] at w2
          exact absurd w2 (by unfold whl; decide)
        · rw [tE, z] at w1
          exact absurd w1 (by unfold whl; decide)
    have cq : canS F Q.2.2.2 τ (4, nI f, nI op, nI g, 0) = if (τ (ncol (F.take f))).2.1 < (τ (ncol (F.take f))).1 ∧ (τ (ncol (F.take g))).2.1 < (τ (ncol (F.take g))).1 then mkS (cHl (ctr op) (cmpV (tOf F (nI f)) (τ (ncol (F.take f))).2.2.1 (τ (ncol (F.take g))).2.2.2.1) (cmpV (tOf F (nI f)) (τ (ncol (F.take f))).2.2.2.1 (τ (ncol (F.take g))).2.2.1)) (cHl op (cmpV (tOf F (nI f)) (τ (ncol (F.take f))).2.2.1 (τ (ncol (F.take g))).2.2.2.1) (cmpV (tOf F (nI f)) (τ (ncol (F.take f))).2.2.2.1 (τ (ncol (F.take g))).2.2.1)) (decide (0 < (τ (ncol (F.take f))).2.1) || decide (0 < (τ (ncol (F.take g))).2.1)) else mkS false false (decide (0 < (τ (ncol (F.take f))).2.1) || decide (0 < (τ (ncol (F.take g))).2.1)) := by
      have fm : fOf (nI op) = op := nI_clamp (by omega)
      unfold canS
      show (if (τ (cOf F (nI f))).2.1 < (τ (cOf F (nI f))).1 ∧ (τ (cOf F (nI g))).2.1 < (τ (cOf F (nI g))).1 then mkS (cHl (ctr (fOf (nI op))) (cmpV (tOf F (nI f)) (τ (cOf F (nI f))).2.2.1 (τ (cOf F (nI g))).2.2.2.1) (cmpV (tOf F (nI f)) (τ (cOf F (nI f))).2.2.2.1 (τ (cOf F (nI g))).2.2.1)) (cHl (fOf (nI op)) (cmpV (tOf F (nI f)) (τ (cOf F (nI f))).2.2.1 (τ (cOf F (nI g))).2.2.2.1) (cmpV (tOf F (nI f)) (τ (cOf F (nI f))).2.2.2.1 (τ (cOf F (nI g))).2.2.1)) (decide (0 < (τ (cOf F (nI f))).2.1) || decide (0 < (τ (cOf F (nI g))).2.1)) else mkS false false (decide (0 < (τ (cOf F (nI f))).2.1) || decide (0 < (τ (cOf F (nI g))).2.1))) = _
      rw [cOf_w hw f1, cOf_w hw g1, fm]
    rw [cq] at p
    refine ⟨v7, nm_e ?_⟩
    rw [e7]
    unfold wp_Ans_comparesColumns
    refine ⟨qo, h15, ?_⟩
    rw [c9, n5, r5]
    refine ⟨vs, br_f (fun z => absurd (Int32.lt_of_le_of_lt z olt) (by decide)) ⟨qo, h15, ?_⟩⟩
    rw [c12, n8, r8]
    refine ⟨vs, bn_t rfl (br_f (by decide) ⟨qo, h15, ?_⟩)⟩
    rw [c11, n7, r7, o7, d7]
    refine ⟨vs, w7, k_c59 A ht hu ?_⟩
    generalize hN : (decide (0 < (τ (ncol (F.take f))).2.1) || decide (0 < (τ (ncol (F.take g))).2.1)) = N at *
    have go : ∀ l7 : Int32, j_Ans_truthsThatCanBe_213 post o (nI s) (cop (nI op)) (nI (ncol (F.take f))) (nI t) 1 (nI u) l7 (if (τ (ncol (F.take f))).2.1 < (τ (ncol (F.take f))).1 ∧ (τ (ncol (F.take g))).2.1 < (τ (ncol (F.take g))).1 then 1 else 0) (if N = true then 4 else 0) x := by
      intro l7
      unfold j_Ans_truthsThatCanBe_213
      by_cases c2 : (τ (ncol (F.take f))).2.1 < (τ (ncol (F.take f))).1 ∧ (τ (ncol (F.take g))).2.1 < (τ (ncol (F.take g))).1
      · rw [if_pos c2] at p
        rw [if_pos c2]
        refine bn_f (by decide) (k_typeOf R hf h14 (bn_f o8 (br_f (by decide) ?_)))
        rw [cop_ctr hop]
        exact k_canCompare A hop t4 ht hu2 c2.1 c2.2 (k_canCompare A (ctr_le hop) t4 ht hu2 c2.1 c2.2 (k_c344 p))
      · rw [if_neg c2] at p
        rw [if_neg c2]
        refine bn_t rfl ?_
        rw [← mkS_or false false N] at p
        have e : ∀ v : Int32, (v = 4 ∨ v = 0) → ((v ||| (if false = true then 2 else 0)) ||| (if false = true then 1 else 0)) = v := by
          rintro v (rfl | rfl) <;> decide
        rw [e _ (by split <;> simp)] at p
        exact p
    unfold j_Ans_truthsThatCanBe_145
    refine bn_f o6 (bn_f o7' ?_)
    cases N with
    | true => exact br_f (by decide) (go 1)
    | false => exact br_t rfl (go 0)
  · exact absurd hn (by decide)
  · exact absurd hn (by decide)
  · exact absurd hn (by decide)
end
