/-! entries in order, and none after one that holds nothing: the model looks -/
theorem hd_is {N f : Nat} {p : Nat → Bool} (hf : f < N) (h : p f = true) (hm : ∀ g, g < f → p g = false) : ((List.range N).filter p).headD 0 = f := by
  induction N with
  | zero => exact absurd hf (Nat.not_lt_zero _)
  | succ N ih =>
    rw [List.range_succ, List.filter_append]
    by_cases c : f = N
    · have e : (List.range N).filter p = [] := List.filter_eq_nil_iff.mpr (fun g hg => by rw [hm g (by have := List.mem_range.mp hg; omega)]; decide)
      rw [e, List.nil_append, ← c, List.filter_cons, if_pos h]
      rfl
    · have := ih (by omega)
      cases e : (List.range N).filter p with
      | nil =>
        have hm : f ∈ (List.range N).filter p := List.mem_filter.mpr ⟨List.mem_range.mpr (by omega), h⟩
        rw [e] at hm
        exact absurd hm (by simp)
      | cons a l =>
        rw [e] at this
        exact this
/-- the topmost field, itself or around it, with so great an R -/
def tpR (F : List SFd) (leaf r : Nat) : Nat := ((List.range F.length).filter (fun f => decide (dsc F f leaf ∧ r ≤ rF F f))).headD 0
theorem tpR_is {F : List SFd} {leaf r f : Nat} (hf : f < F.length) (h : dsc F f leaf) (h2 : r ≤ rF F f) (hm : ∀ g, g < f → dsc F g leaf → ¬ r ≤ rF F g) : tpR F leaf r = f :=
  hd_is hf (decide_eq_true ⟨h, h2⟩) (fun g hg => decide_eq_false (fun z => hm g hg z.1 z.2))
abbrev badO (F : List SFd) (leaf : Nat) (R D : List Nat) (k : Nat) : Prop := R.getD k 0 ≠ 0 ∧ (D.getD k 0 < dG F (nI (tpR F leaf (R.getD k 0))) ∨ D.getD (k - 1) 0 < dG F (nI (tpR F leaf (R.getD k 0))))
section
variable {x : St} {F : List SFd} {c : Nat}
theorem col11q {q : Nat} (hR : RepM x q F) (hc : c < ncol F) : fA x 11 (64 * q + c) = nI (lfC F c) := by
  obtain ⟨k1, k2, k3⟩ := lfC_ok hc
  have := hR.2.2.2 (lfC F c) k1 k2
  have e : ncol (F.take (lfC F c)) = c := k3
  rw [e] at this
  exact this
theorem s_lev1 {post : Int32 → St → Prop} {b : Int32} {f : Nat} (hL : LM x) (hw : WfS F) (hR : RepM x 1 F) (hf : f < F.length) (p : post (nI (if b = 0 then dG F (nI f) else rF F f)) x) : wp_Mod_level post 1 (nI f) b x := by
  have gkf : gOk F.length (nI f) := Or.inr ⟨f, hf, rfl⟩
  refine s_level (q := 1) (N := F.length) hL (by decide) (hR.wf hw) gkf ?_
  have := mK_up hR hw gkf
  by_cases cb : b = 0
  · rw [if_pos cb] at p ⊢; rw [this.1]; exact p
  · rw [if_neg cb] at p ⊢; rw [this.2]; exact p
theorem i64 (c : Nat) : (64 : Int32) + nI c = nI (64 + c) := by rw [show (64 : Int32) = nI 64 from rfl, nI_add]
theorem i64m (c : Nat) : (64 : Int32) * 1 + nI c = nI (64 + c) := by rw [show (64 : Int32) * 1 = nI 64 from rfl, nI_add]
theorem i128m (c : Nat) : (128 : Int32) * 1 + nI c = nI (128 + c) := by rw [show (128 : Int32) * 1 = nI 128 from rfl, nI_add]
theorem s_typeOf1 {post : Int32 → St → Prop} (hL : LM x) (hw : WfS F) (hR : RepM x 1 F) (hc : c < ncol F) (p : post (fTy F (lfC F c)) x) : wp_Mod_typeOf post 1 (nI c) x := by
  obtain ⟨k1, k2, k3⟩ := lfC_ok hc
  have l11 : fN x 11 = 192 := hL 11
  have l4 : fN x 4 = 384 := hL 4
  have hF := hw.1
  have hC := hw.2.1
  unfold wp_Mod_typeOf
  rw [i64m]
  refine ⟨vp_in_nI (by omega) (by omega), ?_⟩
  rw [rA_nI (by omega), show fA x 11 (64 + c) = nI (lfC F c) from col11q (q := 1) hR hc]
  unfold wp_Mod_place
  rw [i128m]
  refine ⟨vp_in_nI (by omega) (by omega), ?_⟩
  rw [rA_nI (by omega), show fA x 4 (128 + lfC F c) = fTy F (lfC F c) from (hR.2.2.1 (lfC F c) k1).2.1]
  exact p
theorem s_mostR1 {post : Int32 → St → Prop} (hL : LM x) (hw : WfS F) (hR : RepM x 1 F) (hc : c < ncol F) (p : post (nI (rF F (lfC F c))) x) : wp_Mod_mostR post 1 (nI c) x := by
  have l11 : fN x 11 = 192 := hL 11
  have hC := hw.2.1
  unfold wp_Mod_mostR
  rw [i64m]
  refine ⟨vp_in_nI (by omega) (by omega), ?_⟩
  rw [rA_nI (by omega), show fA x 11 (64 + c) = nI (lfC F c) from col11q (q := 1) hR hc]
  exact s_lev1 hL hw hR (lfC_ok hc).1 (by rw [if_neg (by decide)]; exact p)
theorem s_mostD1 {post : Int32 → St → Prop} (hL : LM x) (hw : WfS F) (hR : RepM x 1 F) (hc : c < ncol F) (p : post (nI (dG F (nI (lfC F c)))) x) : wp_Mod_mostD post 1 (nI c) x := by
  have l11 : fN x 11 = 192 := hL 11
  have hC := hw.2.1
  unfold wp_Mod_mostD
  rw [i64m]
  refine ⟨vp_in_nI (by omega) (by omega), ?_⟩
  rw [rA_nI (by omega), show fA x 11 (64 + c) = nI (lfC F c) from col11q (q := 1) hR hc]
  exact s_lev1 hL hw hR (lfC_ok hc).1 (by rw [if_pos rfl]; exact p)
theorem s_order {post : St → Prop} {m : Nat} {R D : List Nat} (hL : LM x) (hw : WfS F) (hR : RepM x 1 F) (hc : c < ncol F) (h0 : fI x 0 69 = 0) (h41 : fI x 0 41 = nI m) (hm : m ≤ 1000) (hrow : ∀ i, i < m → fA x 28 i = nI (R.getD i 0) ∧ fA x 29 i = nI (D.getD i 0)) (hr : ∀ i, i < m → R.getD i 0 ≤ rF F (lfC F c)) (hd : ∀ i, i < m → D.getD i 0 ≤ 17)
    (p0 : (¬ ∃ k, k < m ∧ 1 ≤ k ∧ badO F (lfC F c) R D k) → post x) (p1 : (∃ k, k < m ∧ 1 ≤ k ∧ badO F (lfC F c) R D k) → post (setI x 0 69 20)) : wp_Mod_order post (nI c) x := by
  obtain ⟨k1, k2, k3⟩ := lfC_ok hc
  have l11 : fN x 11 = 192 := hL 11
  have l5 : fN x 5 = 384 := hL 5
  have l28 : fN x 28 = 1008 := hL 28
  have l29 : fN x 29 = 1008 := hL 29
  have hF := hw.1
  have hC := hw.2.1
  generalize hlf : lfC F c = leaf at *
  have up : ∀ f, f < F.length → rF F f ≤ 17 ∧ dG F (nI f) ≤ 17 := fun f hf => by
    have gk : gOk F.length (nI f) := Or.inr ⟨f, hf, rfl⟩
    exact ⟨up17 hw gk (fun _ => by unfold wRep; split <;> decide), up17 hw gk (fun _ => by unfold wDef; split <;> decide)⟩
  unfold wp_Mod_order
  rw [i64]
  refine ⟨vp_in_nI (by omega) (by omega), nm_r (e' := nI leaf) (by rw [rA_nI (by omega), ← hlf]; exact col11q (q := 1) hR hc) ?_⟩
  refine lp_Mod_order_12 (fun a0 a1 a2 y => nI c = a0 ∧ nI leaf = a1 ∧ ∃ k, nI k = a2 ∧ 1 ≤ k ∧ k ≤ m + 1 ∧ ((x = y ∧ ∀ j, j < k → j < m → 1 ≤ j → ¬ badO F leaf R D j) ∨ (setI x 0 69 20 = y ∧ ∃ j, j < m ∧ 1 ≤ j ∧ badO F leaf R D j))) (fun _ _ a2 _ => m + 1 - a2.toNatClampNeg) ?_ _ _ _ _ ⟨rfl, rfl, 1, rfl, Nat.le_refl _, by omega, Or.inl ⟨rfl, fun j h1 _ h2 => by omega⟩⟩
  rintro Q a0 a1 a2 y ⟨rfl, rfl, k, rfl, kk1, kk2, hy⟩ ih
  have y41 : fI y 0 41 = nI m := by
    rcases hy with ⟨z, -⟩ | ⟨z, -⟩ <;> rw [← z]
    · exact h41
    · exact (gI_ne (by decide)).trans h41
  have yA : ∀ a, fA y a = fA x a := fun a => by rcases hy with ⟨z, -⟩ | ⟨z, -⟩ <;> rw [← z] <;> rfl
  have yN : ∀ a, fN y a = fN x a := fun a => by rcases hy with ⟨z, -⟩ | ⟨z, -⟩ <;> rw [← z] <;> rfl
  have yL : LM y := fun o => by rw [yN]; exact hL o
  have yR : RepM y 1 F := by
    unfold RepM
    rw [yA, yA, yA, yA, yA, yA, yA, yA, yA]
    exact hR
  unfold j_Mod_order_12
  rw [y41, yN]
  by_cases ck : k < m
  · obtain ⟨r1, r2⟩ := hrow k ck
    have b1 := hr k ck
    have b2 := hd k ck
    have b3 := hd (k - 1) (by omega)
    have b4 := up leaf k1
    refine br_f (by (first | omega | (simp (disch := omega) only [Int32.le_iff_toInt_le, Int32.lt_iff_toInt_lt, z_eq, z_in, nI_toInt, z_cl, z_m1, z_sg, z_255, Int32.reduceToInt] <;> omega) | (simp only [Int32.le_iff_toInt_le, Int32.lt_iff_toInt_lt, z_eq, z_in, z_add, z_sub, z_mul, z_neg, z_nI, z_cl, z_sg, z_255, z_lit, Int32.reduceToInt] <;> omega))) ⟨vp_in_nI (by omega) (by omega), nm_r (e' := nI (R.getD k 0)) (by rw [rA_nI (by omega), yA]; exact r1) ?_⟩
    -- the next one
    have nx : ∀ z : St, ((x = z ∧ ∀ j, j < k + 1 → j < m → 1 ≤ j → ¬ badO F leaf R D j) ∨ (setI x 0 69 20 = z ∧ ∃ j, j < m ∧ 1 ≤ j ∧ badO F leaf R D j)) → j_Mod_order_131 post Q (nI c) (nI leaf) (nI k) (nI (R.getD k 0)) z := fun z hz => by
      unfold j_Mod_order_131
      rw [nI_1]
      exact ih _ _ _ _ ⟨rfl, rfl, k + 1, rfl, by omega, by omega, hz⟩ (by rw [nI_clamp (by omega), nI_clamp (by omega)]; omega)
    have good : ¬ badO F leaf R D k → j_Mod_order_131 post Q (nI c) (nI leaf) (nI k) (nI (R.getD k 0)) y := fun hb => by
      refine nx y ?_
      rcases hy with ⟨z, h⟩ | h
      · refine Or.inl ⟨z, fun j j1 j2 j3 => ?_⟩
        by_cases e : j = k
        · rw [e]; exact hb
        · exact h j (by omega) j2 j3
      · exact Or.inr h
    by_cases c0 : R.getD k 0 = 0
    · exact ⟨fun z => absurd (by rw [c0]; rfl) z, fun _ => good (fun z => z.1 c0)⟩
    · refine ⟨fun _ => ?_, fun z => absurd (nI_inj (b := 0) (by omega) (by decide) z) c0⟩
      refine lp_Mod_order_42 (fun a0 a1 a2 a3 a4 a5 u => nI c = a0 ∧ nI leaf = a1 ∧ nI k = a2 ∧ nI (R.getD k 0) = a3 ∧ y = u ∧ gOk F.length a5 ∧ ∃ f, nI f = a4 ∧ f < F.length ∧ dsc F f leaf ∧ R.getD k 0 ≤ rF F f ∧ (∀ g, a5 = nI g → g < F.length → dsc F g leaf) ∧ ∀ h, h < f → dsc F h leaf → R.getD k 0 ≤ rF F h → ∃ g, g < F.length ∧ a5 = nI g ∧ dsc F h g) (fun _ _ _ _ _ a5 _ => gM a5) ?_ _ _ _ _ _ _ _ ⟨rfl, rfl, rfl, rfl, rfl, Or.inr ⟨leaf, k1, rfl⟩, leaf, rfl, k1, dsc_self hw k1, b1, fun g hg hg2 => by rw [← nI_inj (by omega) (by omega) hg]; exact dsc_self hw k1, fun h _ h2 _ => ⟨leaf, k1, rfl, h2⟩⟩
      rintro Q2 a0 a1 a2 a3 a4 a5 u ⟨rfl, rfl, rfl, rfl, rfl, hg5, f, rfl, f1, f2, f3, f4, f5⟩ ih2
      unfold j_Mod_order_42
      rcases hg5 with rfl | ⟨g, hg, rfl⟩
      · refine br_t rfl (s_lev1 yL hw yR f1 ?_)
        rw [if_pos rfl]
        have et : tpR F leaf (R.getD k 0) = f := tpR_is f1 f2 f3 (fun g g1 g2 g3 => by
          obtain ⟨g', g4, g5, -⟩ := f5 g g1 g2 g3
          exact absurd g5.symm (nI_nm1 (by omega)))
        have b5 := up f f1
        have v1 : vp_in (nI k) (fN y 29) := by rw [yN]; exact vp_in_nI (by omega) (by omega)
        have v2 : vp_in (nI k - 1) (fN y 29) := by rw [yN, show (1 : Int32) = nI 1 from rfl, nI_sub (by omega)]; exact vp_in_nI (by omega) (by omega)
        have w1 : rA y 29 (nI k) = nI (D.getD k 0) := by rw [rA_nI (by omega), yA]; exact r2
        have w2 : rA y 29 (nI k - 1) = nI (D.getD (k - 1) 0) := by rw [show (1 : Int32) = nI 1 from rfl, nI_sub (by omega), rA_nI (by omega), yA]; exact (hrow (k - 1) (by omega)).2
        rw [w1, w2]
        have bad : badO F leaf R D k → j_Mod_order_126 post Q (nI c) (nI leaf) (nI k) (nI (R.getD k 0)) (nI f) (nI (dG F (nI f))) 1 y := fun hb => by
          unfold j_Mod_order_126
          rcases hy with ⟨z, -⟩ | ⟨z, h⟩
          · subst z
            exact s_fl1 h0 (nx _ (Or.inr ⟨rfl, k, ck, kk1, hb⟩))
          · subst z
            exact s_flt (by rw [gI_at]; decide) (nx _ (Or.inr ⟨rfl, h⟩))
        refine ⟨v1, ?_⟩
        by_cases d1 : D.getD k 0 < dG F (nI f)
        · refine br_t (by (first | omega | (simp (disch := omega) only [Int32.le_iff_toInt_le, Int32.lt_iff_toInt_lt, z_eq, z_in, nI_toInt, z_cl, z_m1, z_sg, z_255, Int32.reduceToInt] <;> omega) | (simp only [Int32.le_iff_toInt_le, Int32.lt_iff_toInt_lt, z_eq, z_in, z_add, z_sub, z_mul, z_neg, z_nI, z_cl, z_sg, z_255, z_lit, Int32.reduceToInt] <;> omega))) ?_
          unfold j_Mod_order_121
          exact bad ⟨c0, Or.inl (by rw [et]; exact d1)⟩
        · refine br_f (by (first | omega | (simp (disch := omega) only [Int32.le_iff_toInt_le, Int32.lt_iff_toInt_lt, z_eq, z_in, nI_toInt, z_cl, z_m1, z_sg, z_255, Int32.reduceToInt] <;> omega) | (simp only [Int32.le_iff_toInt_le, Int32.lt_iff_toInt_lt, z_eq, z_in, z_add, z_sub, z_mul, z_neg, z_nI, z_cl, z_sg, z_255, z_lit, Int32.reduceToInt] <;> omega))) ⟨v2, ?_⟩
          by_cases d2 : D.getD (k - 1) 0 < dG F (nI f)
          · refine br_f (by (first | omega | (simp (disch := omega) only [Int32.le_iff_toInt_le, Int32.lt_iff_toInt_lt, z_eq, z_in, nI_toInt, z_cl, z_m1, z_sg, z_255, Int32.reduceToInt] <;> omega) | (simp only [Int32.le_iff_toInt_le, Int32.lt_iff_toInt_lt, z_eq, z_in, z_add, z_sub, z_mul, z_neg, z_nI, z_cl, z_sg, z_255, z_lit, Int32.reduceToInt] <;> omega))) ?_
            unfold j_Mod_order_121
            exact bad ⟨c0, Or.inr (by rw [et]; exact d2)⟩
          · refine br_t (by (first | omega | (simp (disch := omega) only [Int32.le_iff_toInt_le, Int32.lt_iff_toInt_lt, z_eq, z_in, nI_toInt, z_cl, z_m1, z_sg, z_255, Int32.reduceToInt] <;> omega) | (simp only [Int32.le_iff_toInt_le, Int32.lt_iff_toInt_lt, z_eq, z_in, z_add, z_sub, z_mul, z_neg, z_nI, z_cl, z_sg, z_255, z_lit, Int32.reduceToInt] <;> omega))) ?_
            unfold j_Mod_order_126
            refine s_fl0 (good (fun z => ?_))
            rcases z.2 with z | z <;> rw [et] at z
            · exact d1 z
            · exact d2 z
      · refine br_f (nI_nm1 (by omega)) (s_lev1 yL hw yR hg ?_)
        rw [if_neg (by decide)]
        have b5 := up g hg
        have dg := f4 g rfl hg
        -- one up
        have gup : ∀ f', f' < F.length → dsc F f' leaf → R.getD k 0 ≤ rF F f' → (∀ h, h < f' → dsc F h leaf → R.getD k 0 ≤ rF F h → dsc F h g ∧ h ≠ g) → j_Mod_order_68 post Q Q2 (nI c) (nI leaf) (nI k) (nI (R.getD k 0)) (nI f) (nI g) (nI f') y := fun f' g1 g2 g3 g4 => by
          unfold j_Mod_order_68 wp_Mod_place
          rw [i128m]
          refine ⟨by rw [yN]; exact vp_in_nI (by omega) (by omega), nm_r (e' := fPa F g) (by rw [rA_nI (by omega), yA]; exact (hR.2.2.1 g hg).2.2.1) ?_⟩
          refine ih2 _ _ _ _ _ _ _ ⟨rfl, rfl, rfl, rfl, rfl, hw.2.2.1.ok hg, f', rfl, g1, g2, g3, fun u hu hu2 => ?_, fun h h1 h2 h3 => ?_⟩ (gM_lt hw.2.2.1 hg)
          · rcases hw.2.2.1.2 g hg with z | ⟨w, w1, w2⟩
            · rw [z] at hu; exact absurd hu.symm (nI_nm1 (by omega))
            · rw [w2] at hu
              have := nI_inj (by omega) (by omega) hu
              subst this
              exact dsc_trans hw (dsc_in hw hg w1 w2 (dsc_self hw (by omega))) leaf k1 dg
          · obtain ⟨q1, q2⟩ := g4 h h1 h2 h3
            obtain ⟨w, w1, w2, w3⟩ := dsc_pa hw hg q1 (fun z => q2 z.symm)
            exact ⟨w, by omega, w2, w3⟩
        by_cases cg : rF F g < R.getD k 0
        · refine br_t (by (first | omega | (simp (disch := omega) only [Int32.le_iff_toInt_le, Int32.lt_iff_toInt_lt, z_eq, z_in, nI_toInt, z_cl, z_m1, z_sg, z_255, Int32.reduceToInt] <;> omega) | (simp only [Int32.le_iff_toInt_le, Int32.lt_iff_toInt_lt, z_eq, z_in, z_add, z_sub, z_mul, z_neg, z_nI, z_cl, z_sg, z_255, z_lit, Int32.reduceToInt] <;> omega))) (gup f f1 f2 f3 (fun h h1 h2 h3 => ?_))
          obtain ⟨g', q1, q2, q3⟩ := f5 h h1 h2 h3
          have := nI_inj (by omega) (by omega) q2
          subst this
          exact ⟨q3, fun z => by rw [z] at h3; omega⟩
        · refine br_f (by (first | omega | (simp (disch := omega) only [Int32.le_iff_toInt_le, Int32.lt_iff_toInt_lt, z_eq, z_in, nI_toInt, z_cl, z_m1, z_sg, z_255, Int32.reduceToInt] <;> omega) | (simp only [Int32.le_iff_toInt_le, Int32.lt_iff_toInt_lt, z_eq, z_in, z_add, z_sub, z_mul, z_neg, z_nI, z_cl, z_sg, z_255, z_lit, Int32.reduceToInt] <;> omega))) (gup g hg dg (by omega) (fun h h1 h2 h3 => ?_))
          refine ⟨?_, by omega⟩
          by_cases e : f ≤ h
          · -- both are on the way from the leaf
            exact (dsc_iff hw (by omega) hg).mpr ⟨by omega, by
              have := ((dsc_iff hw (by omega) k1).mp h2).2
              have := dsc_le hw k1 dg
              omega⟩
          · obtain ⟨g', q1, q2, q3⟩ := f5 h (by omega) h2 h3
            have := nI_inj (by omega) (by omega) q2
            subst this
            exact q3
  · refine br_t (by (first | omega | (simp (disch := omega) only [Int32.le_iff_toInt_le, Int32.lt_iff_toInt_lt, z_eq, z_in, nI_toInt, z_cl, z_m1, z_sg, z_255, Int32.reduceToInt] <;> omega) | (simp only [Int32.le_iff_toInt_le, Int32.lt_iff_toInt_lt, z_eq, z_in, z_add, z_sub, z_mul, z_neg, z_nI, z_cl, z_sg, z_255, z_lit, Int32.reduceToInt] <;> omega))) ?_
    rcases hy with ⟨z, h⟩ | ⟨z, h⟩
    · rw [← z]
      exact p0 (fun ⟨j, j1, j2, j3⟩ => h j (by omega) j1 j2 j3)
    · rw [← z]
      exact p1 h
end
