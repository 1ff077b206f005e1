/-! the truth of a test in a row, class -/
def AnC (x : St) (o qo : Nat) (F : List SFd) (G : List Nat) (K : List ChT) (CK : List (List PgW)) (b dE : Nat) (Q : Qy) : Prop := RuC x F G K CK b dE ∧ AId o ∧ QId qo ∧ fR x o 14 = some 97 ∧ fR x o 15 = some qo ∧ SqC F x qo Q ∧ QyW F Q ∧ (ltB Q.2.2.2).length ≤ 2000
theorem cop_is {op : Nat} (h : op ≤ 5) : ¬ cop (nI op) = 6 ∧ ¬ cop (nI op) = 7 ∧ ¬ cop (nI op) = 8 ∧ 0 ≤ cop (nI op) ∧ cop (nI op) < 6 := by
  have e : ∀ k : Fin 6, ¬ cop (nI k.val) = 6 ∧ ¬ cop (nI k.val) = 7 ∧ ¬ cop (nI k.val) = 8 ∧ 0 ≤ cop (nI k.val) ∧ cop (nI k.val) < 6 := by decide
  exact e ⟨op, by omega⟩
section
variable {x y : St} {F : List SFd} {G : List Nat} {K : List ChT} {CK : List (List PgW)} {b dE f r o qo s : Nat} {Q : Qy}
theorem cOf_w (hw : WfS F) {f : Nat} (hf : f < F.length) : cOf F (nI f) = ncol (F.take f) := by
  unfold cOf fOf
  rw [nI_clamp (by have := hw.1; omega)]
theorem colI_w (hw : WfS F) {f : Nat} (hf : f < F.length) : colI F (nI f) = nI (ncol (F.take f)) := by
  unfold colI
  rw [nI_clamp (by have := hw.1; omega)]
theorem AnC.lit (A : AnC x o qo F G K CK b dE Q) (hf : colF F f) {i : Nat} (hi : i < Q.2.2.2.length) (hc : litC (fTy F f) (Q.2.2.2.getD i lt0)) : RfC x (qo + 10) (tOf F (nI f)) (fL x (qo + 9) i) (lvl (Q.2.2.2.getD i lt0)) := by
  obtain ⟨R, -, hq, -, -, ⟨-, -, -, ⟨-, -, -, l4, l5⟩⟩, -, h2000⟩ := A
  obtain ⟨-, t4, tE⟩ := tOf_n R.2.2.1.2.1 hf
  obtain ⟨lt1, -⟩ := lit_ty hc tE t4
  obtain ⟨a1, a2⟩ := ltB_at hi
  have n10 := (hq.len R.1).2.2.2.2.2.2.2.2.2
  rw [l4 i hi]
  refine ⟨fun z => ?_, fun z => ⟨hc.2, by rw [n10]; decide, (ltB (Q.2.2.2.take i)).length, ?_, ?_, fun j hj => ?_⟩⟩
  · unfold clL
    rw [if_neg (fun w => z (lt1.mp w))]
    rfl
  · unfold clL
    rw [if_pos (lt1.mpr z)]
    rfl
  · show _ + (Q.2.2.2.getD i lt0).2.2.length ≤ _
    rw [n10]
    omega
  · have hj : j < (Q.2.2.2.getD i lt0).2.2.length := hj
    rw [l5 _ (by omega), a2 j hj]
    rfl
theorem k_isListed {post : Int32 → St → Prop} {a m : Nat} {v : Int64} {pv : PV} (A : AnC x o qo F G K CK b dE Q) (hf : colF F f) (hs : s < 64) (e8 : fA x (qo + 8) s = nI m) (e7 : fA x (qo + 7) s = nI a) (ham : a + m ≤ Q.2.2.2.length) (hlt : ∀ i, a ≤ i → i < a + m → litC (fTy F f) (Q.2.2.2.getD i lt0)) (hv : RfC x 82 (tOf F (nI f)) v pv) (p : post (if isL Q.2.2.2 (tOf F (nI f)) a m pv = true then 1 else 0) x) : wp_Ans_isListed post o (nI s) (nI (tOf F (nI f))) v x := by
  have R := A.1
  obtain ⟨-, t4, tE⟩ := tOf_n R.2.2.1.2.1 hf
  have h14 := A.2.2.2.1
  have h15 := A.2.2.2.2.1
  obtain ⟨-, -, -, -, -, -, c11, c12, c14, c16⟩ := stq A.2.2.1
  obtain ⟨-, -, -, -, -, -, n7, n8, n9, n10⟩ := A.2.2.1.len R.1
  have l64 := A.2.2.2.2.2.1.2.2.2.2.1
  unfold wp_Ans_isListed
  refine lp_Ans_isListed_3 (fun b0 b1 b2 b3 b5 y => y = x ∧ b0 = o ∧ nI s = b1 ∧ nI (tOf F (nI f)) = b2 ∧ v = b3 ∧ ∃ k, k ≤ m ∧ nI k = b5 ∧ isL Q.2.2.2 (tOf F (nI f)) a k pv = false) (fun _ _ _ _ b5 _ => m - b5.toNatClampNeg) ?_ _ _ _ _ _ _ ⟨rfl, rfl, rfl, rfl, rfl, 0, Nat.zero_le _, rfl, rfl⟩
  rintro R2 b0 b1 b2 b3 b5 y ⟨rfl, rfl, rfl, rfl, rfl, k, hk, rfl, no⟩ ih
  unfold j_Ans_isListed_3
  refine ⟨qo, h15, ?_⟩
  rw [c12, n8, rA_nI (by omega), e8]
  refine ⟨vp_in_nI hs (by decide), ?_⟩
  by_cases c : k = m
  · subst c
    rw [no] at p
    exact br_t (by (first | omega | (simp (disch := omega) only [Int32.le_iff_toInt_le, Int32.lt_iff_toInt_lt, z_eq, z_in, nI_toInt, z_cl, z_m1, z_sg, z_255, Int32.reduceToInt] <;> omega) | (simp only [Int32.le_iff_toInt_le, Int32.lt_iff_toInt_lt, z_eq, z_in, z_add, z_sub, z_mul, z_neg, z_nI, z_cl, z_sg, z_255, z_lit, Int32.reduceToInt] <;> omega))) p
  · have km : k < m := by omega
    refine br_f (by (first | omega | (simp (disch := omega) only [Int32.le_iff_toInt_le, Int32.lt_iff_toInt_lt, z_eq, z_in, nI_toInt, z_cl, z_m1, z_sg, z_255, Int32.reduceToInt] <;> omega) | (simp only [Int32.le_iff_toInt_le, Int32.lt_iff_toInt_lt, z_eq, z_in, z_add, z_sub, z_mul, z_neg, z_nI, z_cl, z_sg, z_255, z_lit, Int32.reduceToInt] <;> omega))) ⟨qo, h15, qo, h15, ?_⟩
    rw [c11, n7, c14, n9, rA_nI (by omega), e7, nI_add, rL_nI (by omega)]
    refine ⟨vp_in_nI hs (by decide), vp_in_nI (by omega) (by decide), nm_e ⟨97, h14, qo, h15, ?_⟩⟩
    rw [c16]
    have st : isL Q.2.2.2 (tOf F (nI f)) a (k + 1) pv = decide (cmpV (tOf F (nI f)) pv (lvl (Q.2.2.2.getD (a + k) lt0)) = 0) := by
      unfold isL at no ⊢
      rw [List.range_succ, List.any_append, no, Bool.false_or]
      show (_ || false) = _
      rw [Bool.or_false]
    refine c_compare2 (r := 82) t4 hv (A.lit hf (by omega) (hlt (a + k) (by omega) (by omega))) ?_
    by_cases z : cmpV (tOf F (nI f)) pv (lvl (Q.2.2.2.getD (a + k) lt0)) = 0
    · refine bn_t z ?_
      have : isL Q.2.2.2 (tOf F (nI f)) a m pv = true := by
        unfold isL
        exact List.any_eq_true.mpr ⟨k, List.mem_range.mpr km, decide_eq_true z⟩
      rw [if_pos this] at p
      exact p
    · refine bn_f z ?_
      rw [nI_1]
      refine ih _ _ _ _ _ _ ⟨rfl, rfl, rfl, rfl, rfl, k + 1, km, rfl, by rw [st]; exact decide_eq_false z⟩ ?_
      rw [nI_clamp (by omega), nI_clamp (by omega)]
      omega
theorem RfP.nt {ty ty' : Nat} {v : Int64} {p : PV} (h : RfP x b ty v p) (h1 : ty ≠ 3) (h2 : ty' ≠ 3) : RfP x b ty' v p := ⟨fun _ => h.1 h1, fun z => absurd z h2⟩
theorem k_tstR {post : Int32 → St → Prop} (A : AnC x o qo F G K CK b dE Q) (hs : s < Q.2.2.1.length) (hr : r < smN G) (hn : (Q.2.2.1.getD s (0, 0, 0, 0, 0)).1 < 5) (p : post (nI (tst F Q.2.2.2 (celR F G CK r) (Q.2.2.1.getD s (0, 0, 0, 0, 0)))) x) : wp_Ans_truthOfTest post o (nI s) (nI r) x := by
  have R := A.1
  have hw := R.2.2.1.2.1
  have hF := hw.1
  have hb := R.bb
  have h14 := A.2.2.2.1
  have h15 := A.2.2.2.2.1
  obtain ⟨-, -, -, -, c9, c10, c11, c12, c14, c16⟩ := stq A.2.2.1
  obtain ⟨-, -, -, -, n5, n6, n7, n8, n9, n10⟩ := A.2.2.1.len R.1
  obtain ⟨-, -, ⟨-, s64, sS⟩, ⟨-, l64, -⟩⟩ := A.2.2.2.2.2.1
  have hW := A.2.2.2.2.2.2.1.2.2.2.1 _ (mem_gD (d := (0, 0, 0, 0, 0)) hs)
  obtain ⟨s1, s2, s3, s4⟩ := sS s hs
  have vs : vp_in (nI s) 64 := vp_in_nI (by omega) (by decide)
  have l85 : fN x 85 = 11001 := R.1 85 (by decide)
  generalize Q.2.2.1.getD s (0, 0, 0, 0, 0) = st at *
  have r5 : rA x (qo + 5) (nI s) = (clS F st).1 := by rw [rA_nI (by omega)]; exact s1
  have r6 : rA x (qo + 6) (nI s) = (clS F st).2.1 := by rw [rA_nI (by omega)]; exact s2
  have r7 : rA x (qo + 7) (nI s) = (clS F st).2.2.1 := by rw [rA_nI (by omega)]; exact s3
  have r8 : rA x (qo + 8) (nI s) = (clS F st).2.2.2 := by rw [rA_nI (by omega)]; exact s4
  unfold wp_Ans_truthOfTest
  refine ⟨qo, h15, ?_⟩
  rw [c10, n6, r6]
  refine ⟨vs, nm_e ⟨qo, h15, ?_⟩⟩
  rw [c9, n5, r5]
  refine ⟨vs, nm_e ⟨97, h14, ?_⟩⟩
  rcases hW with ⟨f, hf, rfl | rfl⟩ | ⟨f, a, m, hf, hm, ham, hlt, rfl⟩ | ⟨f, op, a, hf, hop, ha, hlt, rfl⟩ | ⟨f, op, g, hf, hop, hg, hty, rfl⟩ | rfl | rfl | rfl
  · -- is null
    have f1 := hf.1
    have eq : clS F (0, nI f, -1, -1, 0) = (6, nI (ncol (F.take f)), 0, 0) := by
      unfold clS
      rw [if_pos rfl]
      show (6, colI F (nI f), 0, 0) = _
      rw [colI_w hw f1]
    rw [eq]
    dsimp only
    have tq : tst F Q.2.2.2 (celR F G CK r) (0, nI f, -1, -1, 0) = match celR F G CK r (ncol (F.take f)) with | none => 2 | some _ => 1 := by
      unfold tst
      rw [if_pos rfl]
      show (match celR F G CK r (cOf F (nI f)) with | none => 2 | some _ => 1) = _
      rw [cOf_w hw f1]
    rw [tq] at p
    refine k_cell R hf hr (fun e he => ⟨97, h14, k_hasQ R hf he (fun q hq _ => ?_) (fun hq => ?_)⟩)
    · rw [hq] at p
      refine br_t rfl ?_
      unfold j_Ans_truthOfTest_58
      refine bn_f (by decide) ?_
      unfold j_Ans_truthOfTest_72
      exact bn_f (by decide) p
    · rw [hq] at p
      refine br_t rfl ?_
      unfold j_Ans_truthOfTest_58
      refine bn_f (by decide) ?_
      unfold j_Ans_truthOfTest_72
      exact bn_t rfl p
  · -- is not null
    have f1 := hf.1
    have eq : clS F (1, nI f, -1, -1, 0) = (7, nI (ncol (F.take f)), 0, 0) := by
      unfold clS
      rw [if_neg (show ¬ (1 : Int32) = 0 by decide), if_pos rfl]
      show (7, colI F (nI f), 0, 0) = _
      rw [colI_w hw f1]
    rw [eq]
    dsimp only
    have tq : tst F Q.2.2.2 (celR F G CK r) (1, nI f, -1, -1, 0) = match celR F G CK r (ncol (F.take f)) with | none => 1 | some _ => 2 := by
      unfold tst
      rw [if_neg (show ¬ (1 : Int32) = 0 by decide), if_pos rfl]
      show (match celR F G CK r (cOf F (nI f)) with | none => 1 | some _ => 2) = _
      rw [cOf_w hw f1]
    rw [tq] at p
    refine k_cell R hf hr (fun e he => ⟨97, h14, k_hasQ R hf he (fun q hq _ => ?_) (fun hq => ?_)⟩)
    · rw [hq] at p
      refine br_f (by decide) (bn_t rfl ?_)
      unfold j_Ans_truthOfTest_58
      refine bn_t rfl ?_
      unfold j_Ans_truthOfTest_72
      exact bn_t rfl p
    · rw [hq] at p
      refine br_f (by decide) (bn_t rfl ?_)
      unfold j_Ans_truthOfTest_58
      refine bn_t rfl ?_
      unfold j_Ans_truthOfTest_72
      exact bn_f (by decide) p
  · -- in
    have f1 := hf.1
    obtain ⟨ty1, t4, tE⟩ := tOf_n hw hf
    have eq : clS F (2, nI f, -1, nI a, nI m) = (8, nI (ncol (F.take f)), nI a, nI m) := by
      unfold clS
      rw [if_neg (show ¬ (2 : Int32) = 0 by decide), if_neg (show ¬ (2 : Int32) = 1 by decide), if_pos rfl]
      show (8, colI F (nI f), nI a, nI m) = _
      rw [colI_w hw f1]
    rw [eq] at r5 r6 r7 r8 s3 s4 ⊢
    dsimp only
    have tq : tst F Q.2.2.2 (celR F G CK r) (2, nI f, -1, nI a, nI m) = match celR F G CK r (ncol (F.take f)) with | none => 4 | some p => if isL Q.2.2.2 (tOf F (nI f)) a m p = true then 2 else 1 := by
      unfold tst
      rw [if_neg (show ¬ (2 : Int32) = 0 by decide), if_neg (show ¬ (2 : Int32) = 1 by decide)]
      show (match celR F G CK r (cOf F (nI f)) with | none => 4 | some p => if (2 : Int32) = 2 then (if isL Q.2.2.2 (tOf F (nI f)) (fOf (nI a)) (fOf (nI m)) p = true then 2 else 1) else _) = _
      rw [cOf_w hw f1]
      unfold fOf
      rw [nI_clamp (show a < 2 ^ 31 by omega), nI_clamp (show m < 2 ^ 31 by omega)]
      rfl
    rw [tq] at p
    refine k_cell R hf hr (fun e he => ⟨97, h14, k_hasQ R hf he (fun q hq hv => ?_) (fun hq => ?_)⟩)
    · rw [hq] at p
      refine br_f (by decide) (bn_f (by decide) (bn_f (by decide) (k_typeOf R hf h14 ⟨qo, h15, ?_⟩)))
      rw [c12, n8, r8]
      refine ⟨vs, bn_f (fun z => by have := nI_inj (b := 0) (by omega) (by omega) z; omega) (bn_t rfl ⟨97, h14, ?_⟩)⟩
      show vp_in _ (fN x 85) ∧ _
      rw [l85]
      refine ⟨vp_in_nI (by have := he.1; omega) (by decide), ?_⟩
      have e9 : rL x (stC 97 9) (nI e) = fL x 85 e := rL_nI (by have := he.1; omega)
      rw [e9]
      rw [← ty1] at hv
      refine k_isListed A hf (by omega) s4 s3 ham hlt (hv.c R.1 hb) ?_
      have p : post (nI (if isL Q.2.2.2 (tOf F (nI f)) a m q = true then 2 else 1)) x := p
      by_cases z : isL Q.2.2.2 (tOf F (nI f)) a m q = true
      · rw [if_pos z] at p ⊢
        exact br_f (by decide) p
      · rw [if_neg z] at p ⊢
        exact br_t rfl p
    · rw [hq] at p
      exact br_f (by decide) (bn_f (by decide) (bn_t rfl p))
  · -- a literal
    have f1 := hf.1
    obtain ⟨ty1, t4, tE⟩ := tOf_n hw hf
    obtain ⟨o6, o7, o8, -, -⟩ := cop_is hop
    have eq : clS F (3, nI f, nI op, nI a, 1) = (cop (nI op), nI (ncol (F.take f)), nI a, 1) := by
      unfold clS
      rw [if_neg (show ¬ (3 : Int32) = 0 by decide), if_neg (show ¬ (3 : Int32) = 1 by decide), if_neg (show ¬ (3 : Int32) = 2 by decide), if_pos rfl]
      show (cop (nI op), colI F (nI f), nI a, 1) = _
      rw [colI_w hw f1]
    rw [eq] at r5 r6 r7 r8 s3 s4 ⊢
    dsimp only
    have tq : tst F Q.2.2.2 (celR F G CK r) (3, nI f, nI op, nI a, 1) = match celR F G CK r (ncol (F.take f)) with | none => 4 | some p => if hld op (cmpV (tOf F (nI f)) p (lvl (Q.2.2.2.getD a lt0))) = true then 2 else 1 := by
      unfold tst
      rw [if_neg (show ¬ (3 : Int32) = 0 by decide), if_neg (show ¬ (3 : Int32) = 1 by decide)]
      show (match celR F G CK r (cOf F (nI f)) with | none => 4 | some p => if (3 : Int32) = 2 then _ else if (3 : Int32) = 3 then (if hld (fOf (nI op)) (cmpV (tOf F (nI f)) p (lvl (Q.2.2.2.getD (fOf (nI a)) lt0))) = true then 2 else 1) else _) = _
      rw [cOf_w hw f1]
      unfold fOf
      rw [nI_clamp (show a < 2 ^ 31 by omega), nI_clamp (show op < 2 ^ 31 by omega)]
      rfl
    rw [tq] at p
    refine k_cell R hf hr (fun e he => ⟨97, h14, k_hasQ R hf he (fun q hq hv => ?_) (fun hq => ?_)⟩)
    · rw [hq] at p
      refine br_f o6 (bn_f o7 (bn_f (by decide) (k_typeOf R hf h14 ⟨qo, h15, ?_⟩)))
      rw [c12, n8, r8]
      refine ⟨vs, bn_f (by show ¬ (1 : Int32) = 0; decide) (bn_f o8 ⟨qo, h15, qo, h15, ?_⟩)⟩
      rw [c11, n7, c14, n9, r7]
      refine ⟨vs, vp_in_nI (by omega) (by decide), nm_e ⟨97, h14, 97, h14, ?_⟩⟩
      show vp_in _ (fN x 85) ∧ _
      rw [l85]
      refine ⟨vp_in_nI (by have := he.1; omega) (by decide), qo, h15, ?_⟩
      have e9 : rL x (stC 97 9) (nI e) = fL x 85 e := rL_nI (by have := he.1; omega)
      rw [e9, c16, rL_nI (by omega)]
      rw [← ty1] at hv
      refine c_compare2 (r := 82) t4 (hv.c R.1 hb) (A.lit hf ha hlt) (k_holds hop ?_)
      have p : post (nI (if hld op (cmpV (tOf F (nI f)) q (lvl (Q.2.2.2.getD a lt0))) = true then 2 else 1)) x := p
      by_cases z : hld op (cmpV (tOf F (nI f)) q (lvl (Q.2.2.2.getD a lt0))) = true
      · rw [if_pos z] at p ⊢
        exact br_f (by decide) p
      · rw [if_neg z] at p ⊢
        exact br_t rfl p
    · rw [hq] at p
      exact br_f o6 (bn_f o7 (bn_t rfl p))
  · -- two columns
    have f1 := hf.1
    have g1 := hg.1
    obtain ⟨ty1, t4, tE⟩ := tOf_n hw hf
    obtain ⟨ty2, u4, uE⟩ := tOf_n hw hg
    obtain ⟨o6, o7, o8, -, -⟩ := cop_is hop
    have eq : clS F (4, nI f, nI op, nI g, 0) = (cop (nI op), nI (ncol (F.take f)), nI (ncol (F.take g)), 0) := by
      unfold clS
      rw [if_neg (show ¬ (4 : Int32) = 0 by decide), if_neg (show ¬ (4 : Int32) = 1 by decide), if_neg (show ¬ (4 : Int32) = 2 by decide), if_neg (show ¬ (4 : Int32) = 3 by decide), if_pos rfl]
      show (cop (nI op), colI F (nI f), colI F (nI g), 0) = _
      rw [colI_w hw f1, colI_w hw g1]
    rw [eq] at r5 r6 r7 r8 s3 s4 ⊢
    dsimp only
    have tq : tst F Q.2.2.2 (celR F G CK r) (4, nI f, nI op, nI g, 0) = match celR F G CK r (ncol (F.take f)) with | none => 4 | some p => (match celR F G CK r (ncol (F.take g)) with | none => 4 | some q => if hld op (cmpV (tOf F (nI f)) p q) = true then 2 else 1) := by
      unfold tst
      rw [if_neg (show ¬ (4 : Int32) = 0 by decide), if_neg (show ¬ (4 : Int32) = 1 by decide)]
      show (match celR F G CK r (cOf F (nI f)) with | none => 4 | some p => if (4 : Int32) = 2 then _ else if (4 : Int32) = 3 then _ else (match celR F G CK r (cOf F (nI g)) with | none => 4 | some q => if hld (fOf (nI op)) (cmpV (tOf F (nI f)) p q) = true then 2 else 1)) = _
      rw [cOf_w hw f1, cOf_w hw g1]
      unfold fOf
      rw [nI_clamp (show op < 2 ^ 31 by omega)]
      rfl
    rw [tq] at p
    refine k_cell R hf hr (fun e he => ⟨97, h14, k_hasQ R hf he (fun q hq hv => ?_) (fun hq => ?_)⟩)
    · rw [hq] at p
      refine br_f o6 (bn_f o7 (bn_f (by decide) (k_typeOf R hf h14 ⟨qo, h15, ?_⟩)))
      rw [c12, n8, r8]
      refine ⟨vs, bn_t rfl ⟨qo, h15, ?_⟩⟩
      rw [c11, n7, r7]
      refine ⟨vs, nm_e ⟨97, h14, k_cell R hg hr (fun d hd => ⟨97, h14, k_hasQ R hg hd (fun u hu hv2 => ?_) (fun hu => ?_)⟩)⟩⟩
      · rw [hu] at p
        refine bn_f (by decide) ⟨97, h14, 97, h14, ?_⟩
        show vp_in _ (fN x 85) ∧ _
        rw [l85]
        refine ⟨vp_in_nI (by have := he.1; omega) (by decide), 97, h14, ?_⟩
        show vp_in _ (fN x 85) ∧ _
        rw [l85]
        refine ⟨vp_in_nI (by have := hd.1; omega) (by decide), ?_⟩
        have e9 : rL x (stC 97 9) (nI e) = fL x 85 e := rL_nI (by have := he.1; omega)
        have d9 : rL x (stC 97 9) (nI d) = fL x 85 d := rL_nI (by have := hd.1; omega)
        rw [e9, d9]
        rw [← ty1] at hv
        rw [← ty2] at hv2
        have hv3 : RfP x b (tOf F (nI f)) (fL x 85 d) u := by
          rcases hty with hty | ⟨w1, w2⟩
          · have : tOf F (nI f) = tOf F (nI g) := nI_inj (by omega) (by omega) (by rw [← tE, ← uE]; exact hty)
            rw [this]
            exact hv2
          · refine hv2.nt (fun z => ?_) (fun z => ?_)
            · rw [uE, z] at w2
              exact absurd w2 (by unfold whl; decide)
            · rw [tE, z] at w1
              exact absurd w1 (by unfold whl; decide)
        refine k_cmp R.1 hb t4 hv hv3 (k_holds hop ?_)
        have p : post (nI (if hld op (cmpV (tOf F (nI f)) q u) = true then 2 else 1)) x := p
        by_cases z : hld op (cmpV (tOf F (nI f)) q u) = true
        · rw [if_pos z] at p ⊢
          exact br_f (by decide) p
        · rw [if_neg z] at p ⊢
          exact br_t rfl p
      · rw [hu] at p
        exact bn_t rfl p
    · rw [hq] at p
      exact br_f o6 (bn_f o7 (bn_t rfl p))
  · exact absurd hn (by decide)
  · exact absurd hn (by decide)
  · exact absurd hn (by decide)
end
