theorem c_repOf {post : Int32 → St → Prop} {y : St} {s : Nat} {g : Int32} {F : List SFd} {r : Nat → Nat} (hl : fN y (stC s 5) = 128) (hF : F.length ≤ 128) (hg : gOk F.length g) (hr : ∀ f, f < F.length → fA y (stC s 5) f = nI (upS r (fPa F) (nI f))) (p : post (nI (upS r (fPa F) g)) y) : wp_Sch_repOf post s g y := by
  unfold wp_Sch_repOf
  rcases hg with rfl | ⟨f, hf, rfl⟩
  · rw [upS_neg] at p
    exact bn_t rfl p
  · refine bn_f (nI_nm1 (by omega)) ⟨by rw [hl]; exact vp_in_nI (by omega) (by decide), ?_⟩
    rw [rA_nI (by omega), hr f hf]
    exact p
theorem c_defOf {post : Int32 → St → Prop} {y : St} {s : Nat} {g : Int32} {F : List SFd} {r : Nat → Nat} (hl : fN y (stC s 6) = 128) (hF : F.length ≤ 128) (hg : gOk F.length g) (hr : ∀ f, f < F.length → fA y (stC s 6) f = nI (upS r (fPa F) (nI f))) (p : post (nI (upS r (fPa F) g)) y) : wp_Sch_defOf post s g y := by
  unfold wp_Sch_defOf
  rcases hg with rfl | ⟨f, hf, rfl⟩
  · rw [upS_neg] at p
    exact bn_t rfl p
  · refine bn_f (nI_nm1 (by omega)) ⟨by rw [hl]; exact vp_in_nI (by omega) (by decide), ?_⟩
    rw [rA_nI (by omega), hr f hf]
    exact p
theorem fits_sg (v : Int32) : fits .byte (.int v.toInt8.toInt32) = true := pk_fb v
theorem c_add {post : Int32 → St → Prop} {x : St} {s q a n : Nat} {kd ty g : Int32} {F : List SFd} {T : Nat → Int32} (hs : SchId s) (hL : LC x) (h : RepC x s F) (hw : WfS F) (hg : gIn F g) (hb : BtC x q T a n) (hq : ∀ k, 2 ≤ k → k ≤ 12 → q ≠ stC s k)
    (p0 : ¬ (0 < n ∧ n ≤ 16 ∧ mayF F ty g = true ∧ hasN F g (rowL T a n) = false) → post 0 x)
    (p1 : (0 < n ∧ n ≤ 16 ∧ mayF F ty g = true ∧ hasN F g (rowL T a n) = false) → ∀ y, Fr (fun o _ => o = s) (rwS s) x y → RepC y s (F ++ [(kd, ty, g, rowL T a n)]) → post 1 y) : wp_Sch_add post s kd ty g q (nI a) (nI n) x := by
  have hF := hw.1
  have hb2 := hb.2.1
  have hb1 := hb.1
  have l7 : fN x (stC s 7) = 128 := hL.s hs (by decide) (by decide)
  have hdl : upS wOne (fPa F) g ≤ 128 := upS_le (fun _ => Nat.le_refl 1)
  have main : j_Sch_add_15 post s kd ty g q (nI a) (nI n) (nI (upS wOne (fPa F) g)) x := by
    have m51 : ∀ t : Int32, (t = 0 ↔ (ty = 4 → upS wOne (fPa F) g < 16) ∧ (¬ ty = 4 → ncol F < 64)) → j_Sch_add_51 post s kd ty g q (nI a) (nI n) (nI (upS wOne (fPa F) g)) t x := by
      intro t ht
      unfold j_Sch_add_51 j_Sch_add_96
      rw [h.1]
      by_cases c1 : F.length < 128
      · refine br_f (by (first | omega | (simp (disch := omega) only [Int32.le_iff_toInt_le, Int32.lt_iff_toInt_lt, z_eq, z_in, nI_toInt, z_cl, z_m1, z_sg, z_255, Int32.reduceToInt] <;> omega) | (simp only [Int32.le_iff_toInt_le, Int32.lt_iff_toInt_lt, z_eq, z_in, z_add, z_sub, z_mul, z_neg, z_nI, z_cl, z_sg, z_255, z_lit, Int32.reduceToInt] <;> omega))) ?_
        by_cases c2 : t = 0
        · refine bn_t c2 ?_
          have hm : mayF F ty g = true := decide_eq_true ⟨c1, ht.mp c2⟩
          by_cases c3 : n < 1
          · exact br_t (by (first | omega | (simp (disch := omega) only [Int32.le_iff_toInt_le, Int32.lt_iff_toInt_lt, z_eq, z_in, nI_toInt, z_cl, z_m1, z_sg, z_255, Int32.reduceToInt] <;> omega) | (simp only [Int32.le_iff_toInt_le, Int32.lt_iff_toInt_lt, z_eq, z_in, z_add, z_sub, z_mul, z_neg, z_nI, z_cl, z_sg, z_255, z_lit, Int32.reduceToInt] <;> omega))) (p0 (fun z => by omega))
          refine br_f (by (first | omega | (simp (disch := omega) only [Int32.le_iff_toInt_le, Int32.lt_iff_toInt_lt, z_eq, z_in, nI_toInt, z_cl, z_m1, z_sg, z_255, Int32.reduceToInt] <;> omega) | (simp only [Int32.le_iff_toInt_le, Int32.lt_iff_toInt_lt, z_eq, z_in, z_add, z_sub, z_mul, z_neg, z_nI, z_cl, z_sg, z_255, z_lit, Int32.reduceToInt] <;> omega))) ?_
          by_cases c4 : 16 < n
          · exact br_t (by (first | omega | (simp (disch := omega) only [Int32.le_iff_toInt_le, Int32.lt_iff_toInt_lt, z_eq, z_in, nI_toInt, z_cl, z_m1, z_sg, z_255, Int32.reduceToInt] <;> omega) | (simp only [Int32.le_iff_toInt_le, Int32.lt_iff_toInt_lt, z_eq, z_in, z_add, z_sub, z_mul, z_neg, z_nI, z_cl, z_sg, z_255, z_lit, Int32.reduceToInt] <;> omega))) (p0 (fun z => by omega))
          refine br_f (by (first | omega | (simp (disch := omega) only [Int32.le_iff_toInt_le, Int32.lt_iff_toInt_lt, z_eq, z_in, nI_toInt, z_cl, z_m1, z_sg, z_255, Int32.reduceToInt] <;> omega) | (simp only [Int32.le_iff_toInt_le, Int32.lt_iff_toInt_lt, z_eq, z_in, z_add, z_sub, z_mul, z_neg, z_nI, z_cl, z_sg, z_255, z_lit, Int32.reduceToInt] <;> omega))) (c_find hs hL h hw hg.ok hb (fun z => br_t rfl ?_) (fun f hf e1 e2 => br_f (nI_nm1 (by omega)) (p0 (fun z => hasN_iff.mp z.2.2.2 f hf ⟨e1, e2⟩))))
          have hT : ∀ i, i < n → 0 ≤ T (a + i) ∧ T (a + i) ≤ 255 := fun i hi => (hb.2.2 i hi).2
          have cN : (nI F.length).toNatClampNeg = F.length := nI_clamp (by omega)
          have q12 := hq 12 (by decide) (by decide)
          refine nm_r (e' := nI F.length) h.1 ⟨(by show vp_in _ (fN x (stC s 2)); rw [hL.s hs (by decide) (by decide)]; exact vp_in_nI (by show _ < 128; omega) (by decide)), nm_e ⟨(by show vp_in _ (fN x (stC s 3)); rw [hL.s hs (by decide) (by decide)]; exact vp_in_nI (by show _ < 128; omega) (by decide)), nm_e ⟨(by show vp_in _ (fN x (stC s 4)); rw [hL.s hs (by decide) (by decide)]; exact vp_in_nI (by show _ < 128; omega) (by decide)), nm_e ?_⟩⟩⟩
          refine c_repOf (F := F) (r := wRep (fKd F)) (hL.s hs (by decide) (by decide)) hF hg.ok (fun f hf => by rw [gA_ne (sch_ne s hs 5 (by decide) (by decide) 4 (by decide) (by decide) (by decide)), gA_ne (sch_ne s hs 5 (by decide) (by decide) 3 (by decide) (by decide) (by decide)), gA_ne (sch_ne s hs 5 (by decide) (by decide) 2 (by decide) (by decide) (by decide))]; exact (h.2.2.2.1 f hf).2.2.2.1) ?_
          have m149 : ∀ v : Int32, v = nI (if kd = 2 then 1 else 0) → j_Sch_add_149 post s kd ty g q (nI a) (nI n) (nI (upS wOne (fPa F) g)) t (nI F.length) v (nI (upS (wRep (fKd F)) (fPa F) g)) (nI F.length) (stC s 5) (setA (setA (setA x (stC s 2) (nI F.length) kd) (stC s 3) (nI F.length) ty) (stC s 4) (nI F.length) g) := by
            intro v hv
            unfold j_Sch_add_149
            rw [hv, nI_add]
            refine ⟨(by show vp_in _ (fN x (stC s 5)); rw [hL.s hs (by decide) (by decide)]; exact vp_in_nI (by show _ < 128; omega) (by decide)), nm_e ?_⟩
            refine c_defOf (F := F) (r := wDef (fKd F)) (hL.s hs (by decide) (by decide)) hF hg.ok (fun f hf => by rw [gA_ne (sch_ne s hs 6 (by decide) (by decide) 5 (by decide) (by decide) (by decide)), gA_ne (sch_ne s hs 6 (by decide) (by decide) 4 (by decide) (by decide) (by decide)), gA_ne (sch_ne s hs 6 (by decide) (by decide) 3 (by decide) (by decide) (by decide)), gA_ne (sch_ne s hs 6 (by decide) (by decide) 2 (by decide) (by decide) (by decide))]; exact (h.2.2.2.1 f hf).2.2.2.2.1) ?_
            generalize hX : setA (setA (setA (setA x (stC s 2) (nI F.length) kd) (stC s 3) (nI F.length) ty) (stC s 4) (nI F.length) g) (stC s 5) (nI F.length) (nI (upS (wRep (fKd F)) (fPa F) g + if kd = 2 then 1 else 0)) = X
            have m171 : ∀ v : Int32, v = nI (if kd = 0 then 0 else 1) → j_Sch_add_171 post s kd ty g q (nI a) (nI n) (nI (upS wOne (fPa F) g)) t (nI F.length) v (nI (upS (wDef (fKd F)) (fPa F) g)) (nI F.length) (stC s 6) X := by
              intro v hv
              unfold j_Sch_add_171
              rw [hv, nI_add]
              refine ⟨by rw [← hX]; exact (by show vp_in _ (fN x (stC s 6)); rw [hL.s hs (by decide) (by decide)]; exact vp_in_nI (by show _ < 128; omega) (by decide)), nm_e ?_⟩
              have m191 : ∀ v : Int32, v = nI (if ty = 4 then 1 else 0) → j_Sch_add_191 post s kd ty g q (nI a) (nI n) (nI (upS wOne (fPa F) g)) t (nI F.length) v (nI (upS wOne (fPa F) g)) (nI F.length) (stC s 7) (setA X (stC s 6) (nI F.length) (nI (upS (wDef (fKd F)) (fPa F) g + if kd = 0 then 0 else 1))) := by
                intro v hv
                unfold j_Sch_add_191
                rw [hv, nI_add, ← grp_in hw hg]
                have eI : ∀ k, fI X s k = fI x s k := fun k => by rw [← hX]; rfl
                have eQ : fA X q = fA x q := by rw [← hX, gA_ne (hq 5 (by decide) (by decide)), gA_ne (hq 4 (by decide) (by decide)), gA_ne (hq 3 (by decide) (by decide)), gA_ne (hq 2 (by decide) (by decide))]
                have e16 : nI F.length * 16 = nI (16 * F.length) := by rw [show (16 : Int32) = nI 16 from rfl, nI_mul, Nat.mul_comm]
                refine ⟨by rw [← hX]; exact (by show vp_in _ (fN x (stC s 7)); rw [hL.s hs (by decide) (by decide)]; exact vp_in_nI (by show _ < 128; omega) (by decide)), nm_e ⟨by rw [← hX]; exact (by show vp_in _ (fN x (stC s 9)); rw [hL.s hs (by decide) (by decide)]; exact vp_in_nI (by show _ < 128; omega) (by decide)), nm_r (e' := setA (setA (setA X (stC s 6) (nI F.length) (nI (upS (wDef (fKd F)) (fPa F) g + if kd = 0 then 0 else 1))) (stC s 7) (nI F.length) (nI (upS (wGrp (fTy F)) (fPa F) g + if ty = 4 then 1 else 0))) (stC s 9) (nI F.length) (nI (ncol F))) ?_ ⟨by rw [← hX]; exact (by show vp_in _ (fN x (stC s 11)); rw [hL.s hs (by decide) (by decide)]; exact vp_in_nI (by show _ < 128; omega) (by decide)), nm_e ?_⟩⟩⟩
                · rw [show fI (setA (setA X (stC s 6) (nI F.length) (nI (upS (wDef (fKd F)) (fPa F) g + if kd = 0 then 0 else 1))) (stC s 7) (nI F.length) (nI (upS (wGrp (fTy F)) (fPa F) g + if ty = 4 then 1 else 0))) s 1 = fI X s 1 from rfl, eI 1, h.2.1]
                generalize hY : setA (setA (setA (setA X (stC s 6) (nI F.length) (nI (upS (wDef (fKd F)) (fPa F) g + if kd = 0 then 0 else 1))) (stC s 7) (nI F.length) (nI (upS (wGrp (fTy F)) (fPa F) g + if ty = 4 then 1 else 0))) (stC s 9) (nI F.length) (nI (ncol F))) (stC s 11) (nI F.length) (nI n) = Y
                have yQ : fA Y q = fA x q := by rw [← hY, gA_ne (hq 11 (by decide) (by decide)), gA_ne (hq 9 (by decide) (by decide)), gA_ne (hq 7 (by decide) (by decide)), gA_ne (hq 6 (by decide) (by decide)), eQ]
                have yN : ∀ r, fN Y r = fN x r := fun r => by rw [← hY, ← hX]; rfl
                have yI : ∀ k, fI Y s k = fI x s k := fun k => by rw [← hY]; exact eI k
                have y12 : fA Y (stC s 12) = fA x (stC s 12) := by rw [← hY, ← hX, gA_ne (sch_ne s hs 12 (by decide) (by decide) 11 (by decide) (by decide) (by decide)), gA_ne (sch_ne s hs 12 (by decide) (by decide) 9 (by decide) (by decide) (by decide)), gA_ne (sch_ne s hs 12 (by decide) (by decide) 7 (by decide) (by decide) (by decide)), gA_ne (sch_ne s hs 12 (by decide) (by decide) 6 (by decide) (by decide) (by decide)), gA_ne (sch_ne s hs 12 (by decide) (by decide) 5 (by decide) (by decide) (by decide)), gA_ne (sch_ne s hs 12 (by decide) (by decide) 4 (by decide) (by decide) (by decide)), gA_ne (sch_ne s hs 12 (by decide) (by decide) 3 (by decide) (by decide) (by decide)), gA_ne (sch_ne s hs 12 (by decide) (by decide) 2 (by decide) (by decide) (by decide))]
                rw [e16, nI_clamp (show a < 2 ^ 31 by omega), nI_clamp (show n < 2 ^ 31 by omega), nI_clamp (show 16 * F.length < 2 ^ 31 by omega), yQ, y12, yN, yN, hL.s hs (by decide) (by decide)]
                refine ⟨⟨by (first | omega | (simp (disch := omega) only [Int32.le_iff_toInt_le, Int32.lt_iff_toInt_lt, z_eq, z_in, nI_toInt, z_cl, z_m1, z_sg, z_255, Int32.reduceToInt] <;> omega) | (simp only [Int32.le_iff_toInt_le, Int32.lt_iff_toInt_lt, z_eq, z_in, z_add, z_sub, z_mul, z_neg, z_nI, z_cl, z_sg, z_255, z_lit, Int32.reduceToInt] <;> omega)), by (first | omega | (simp (disch := omega) only [Int32.le_iff_toInt_le, Int32.lt_iff_toInt_lt, z_eq, z_in, nI_toInt, z_cl, z_m1, z_sg, z_255, Int32.reduceToInt] <;> omega) | (simp only [Int32.le_iff_toInt_le, Int32.lt_iff_toInt_lt, z_eq, z_in, z_add, z_sub, z_mul, z_neg, z_nI, z_cl, z_sg, z_255, z_lit, Int32.reduceToInt] <;> omega)), by (first | omega | (simp (disch := omega) only [Int32.le_iff_toInt_le, Int32.lt_iff_toInt_lt, z_eq, z_in, nI_toInt, z_cl, z_m1, z_sg, z_255, Int32.reduceToInt] <;> omega) | (simp only [Int32.le_iff_toInt_le, Int32.lt_iff_toInt_lt, z_eq, z_in, z_add, z_sub, z_mul, z_neg, z_nI, z_cl, z_sg, z_255, z_lit, Int32.reduceToInt] <;> omega)), hb1, by show _ ≤ 2048; omega, fun i hi => by rw [(hb.2.2 i hi).1]; exact fits_sg _⟩, nm_e (nm_r (e' := setI (setW Y (stC s 12) (va_cpy (fA x q) (fA x (stC s 12)) a (16 * F.length) n)) s 0 (nI (F.length + 1))) ?_ ⟨by show vp_in _ (fN Y (stC s 8)); rw [yN, hL.s hs (by decide) (by decide)]; exact vp_in_nI (by show _ < 128; omega) (by decide), nm_r (e' := setA (setI (setW Y (stC s 12) (va_cpy (fA x q) (fA x (stC s 12)) a (16 * F.length) n)) s 0 (nI (F.length + 1))) (stC s 8) (nI F.length) (nI (F.length + 1))) ?_ ?_⟩)⟩
                · rw [show fI (setW Y (stC s 12) (va_cpy (fA x q) (fA x (stC s 12)) a (16 * F.length) n)) s 0 = fI Y s 0 from rfl, yI 0, h.1, nI_1]
                · rw [gI_at]
                generalize hZ : setA (setI (setW Y (stC s 12) (va_cpy (fA x q) (fA x (stC s 12)) a (16 * F.length) n)) s 0 (nI (F.length + 1))) (stC s 8) (nI F.length) (nI (F.length + 1)) = Z
                have zA : ∀ r, fA Z r = if r = stC s 8 then upd (fA x (stC s 8)) F.length (nI (F.length + 1)) else if r = stC s 12 then va_cpy (fA x q) (fA x (stC s 12)) a (16 * F.length) n else fA Y r := by
                  intro r
                  have y8 : fA Y (stC s 8) = fA x (stC s 8) := by rw [← hY, ← hX, gA_ne (sch_ne s hs 8 (by decide) (by decide) 11 (by decide) (by decide) (by decide)), gA_ne (sch_ne s hs 8 (by decide) (by decide) 9 (by decide) (by decide) (by decide)), gA_ne (sch_ne s hs 8 (by decide) (by decide) 7 (by decide) (by decide) (by decide)), gA_ne (sch_ne s hs 8 (by decide) (by decide) 6 (by decide) (by decide) (by decide)), gA_ne (sch_ne s hs 8 (by decide) (by decide) 5 (by decide) (by decide) (by decide)), gA_ne (sch_ne s hs 8 (by decide) (by decide) 4 (by decide) (by decide) (by decide)), gA_ne (sch_ne s hs 8 (by decide) (by decide) 3 (by decide) (by decide) (by decide)), gA_ne (sch_ne s hs 8 (by decide) (by decide) 2 (by decide) (by decide) (by decide))]
                  rw [← hZ]
                  by_cases c8 : r = stC s 8
                  · rw [if_pos c8, c8, gA_at, cN]
                    show upd (fA (setW Y (stC s 12) _) (stC s 8)) F.length _ = _
                    rw [gW_ne (sch_ne s hs 8 (by decide) (by decide) 12 (by decide) (by decide) (by decide)), y8]
                  · rw [if_neg c8, gA_ne c8]
                    show fA (setW Y (stC s 12) _) r = _
                    by_cases c12 : r = stC s 12
                    · rw [if_pos c12, c12, gW_at]
                    · rw [if_neg c12, gW_ne c12]
                have zI0 : fI Z s 0 = nI (F.length + 1) := by rw [← hZ]; exact gI_at
                have zI1 : fI Z s 1 = nI (ncol F) := by rw [← hZ]; show fI (setI _ s 0 _) s 1 = _; rw [gI_ne (by decide)]; exact (yI 1).trans h.2.1
                have zF : Fr (fun o _ => o = s) (rwS s) x Z := by
                  have fA' : ∀ (u : St) (k : Nat) (i v : Int32), 2 ≤ k → k ≤ 12 → Fr (fun o _ => o = s) (rwS s) u (setA u (stC s k) i v) := fun u k i v a b => Fr.A ⟨k, a, b, rfl⟩
                  have f1 : Fr (fun o _ => o = s) (rwS s) x X := by
                    rw [← hX]
                    exact (((fA' _ 2 _ _ (by decide) (by decide)).trans (fA' _ 3 _ _ (by decide) (by decide))).trans (fA' _ 4 _ _ (by decide) (by decide))).trans (fA' _ 5 _ _ (by decide) (by decide))
                  have f2 : Fr (fun o _ => o = s) (rwS s) X Y := by
                    rw [← hY]
                    exact (((fA' _ 6 _ _ (by decide) (by decide)).trans (fA' _ 7 _ _ (by decide) (by decide))).trans (fA' _ 9 _ _ (by decide) (by decide))).trans (fA' _ 11 _ _ (by decide) (by decide))
                  have f3 : Fr (fun o _ => o = s) (rwS s) Y Z := by
                    rw [← hZ]
                    refine Fr.trans (Fr.trans (y := setW Y (stC s 12) (va_cpy (fA x q) (fA x (stC s 12)) a (16 * F.length) n)) ?_ ?_) (fA' _ 8 _ _ (by decide) (by decide))
                    · exact Fr.W ⟨12, by decide, by decide, rfl⟩
                    · exact Fr.I rfl
                  exact (f1.trans f2).trans f3
                have zN : ∀ r, fN Z r = fN x r := fun r => by rw [← hZ]; exact yN r
                have zL : LC Z := fun r hr => (zN r).trans (hL r hr)
                have y4 : fA Y (stC s 4) = upd (fA x (stC s 4)) F.length g := by
                  rw [← hY, ← hX, gA_ne (sch_ne s hs 4 (by decide) (by decide) 11 (by decide) (by decide) (by decide)), gA_ne (sch_ne s hs 4 (by decide) (by decide) 9 (by decide) (by decide) (by decide)), gA_ne (sch_ne s hs 4 (by decide) (by decide) 7 (by decide) (by decide) (by decide)), gA_ne (sch_ne s hs 4 (by decide) (by decide) 6 (by decide) (by decide) (by decide)), gA_ne (sch_ne s hs 4 (by decide) (by decide) 5 (by decide) (by decide) (by decide)), gA_at, cN, gA_ne (sch_ne s hs 4 (by decide) (by decide) 3 (by decide) (by decide) (by decide)), gA_ne (sch_ne s hs 4 (by decide) (by decide) 2 (by decide) (by decide) (by decide))]
                refine c_add258 hs zL hw.2.2.1 c1 hg.ok (dep_le hw hg) (fun f hf => by rw [zA, if_neg (sch_ne s hs 4 (by decide) (by decide) 8 (by decide) (by decide) (by decide)), if_neg (sch_ne s hs 4 (by decide) (by decide) 12 (by decide) (by decide) (by decide)), y4, upd_ne (by omega)]; exact (h.2.2.2.1 f hf).2.2.1) zI0 (fun l10 l11 => ?_)
                have hv2 := p1 ⟨by omega, by omega, hm, z⟩
                have y2 : fA Y (stC s 2) = upd (fA x (stC s 2)) F.length kd := by rw [← hY, ← hX, gA_ne (sch_ne s hs 2 (by decide) (by decide) 11 (by decide) (by decide) (by decide)), gA_ne (sch_ne s hs 2 (by decide) (by decide) 9 (by decide) (by decide) (by decide)), gA_ne (sch_ne s hs 2 (by decide) (by decide) 7 (by decide) (by decide) (by decide)), gA_ne (sch_ne s hs 2 (by decide) (by decide) 6 (by decide) (by decide) (by decide)), gA_ne (sch_ne s hs 2 (by decide) (by decide) 5 (by decide) (by decide) (by decide)), gA_ne (sch_ne s hs 2 (by decide) (by decide) 4 (by decide) (by decide) (by decide)), gA_ne (sch_ne s hs 2 (by decide) (by decide) 3 (by decide) (by decide) (by decide)), gA_at, cN]
                have y3 : fA Y (stC s 3) = upd (fA x (stC s 3)) F.length ty := by rw [← hY, ← hX, gA_ne (sch_ne s hs 3 (by decide) (by decide) 11 (by decide) (by decide) (by decide)), gA_ne (sch_ne s hs 3 (by decide) (by decide) 9 (by decide) (by decide) (by decide)), gA_ne (sch_ne s hs 3 (by decide) (by decide) 7 (by decide) (by decide) (by decide)), gA_ne (sch_ne s hs 3 (by decide) (by decide) 6 (by decide) (by decide) (by decide)), gA_ne (sch_ne s hs 3 (by decide) (by decide) 5 (by decide) (by decide) (by decide)), gA_ne (sch_ne s hs 3 (by decide) (by decide) 4 (by decide) (by decide) (by decide)), gA_at, cN, gA_ne (sch_ne s hs 3 (by decide) (by decide) 2 (by decide) (by decide) (by decide))]
                have y5 : fA Y (stC s 5) = upd (fA x (stC s 5)) F.length (nI (upS (wRep (fKd F)) (fPa F) g + if kd = 2 then 1 else 0)) := by rw [← hY, ← hX, gA_ne (sch_ne s hs 5 (by decide) (by decide) 11 (by decide) (by decide) (by decide)), gA_ne (sch_ne s hs 5 (by decide) (by decide) 9 (by decide) (by decide) (by decide)), gA_ne (sch_ne s hs 5 (by decide) (by decide) 7 (by decide) (by decide) (by decide)), gA_ne (sch_ne s hs 5 (by decide) (by decide) 6 (by decide) (by decide) (by decide)), gA_at, cN, gA_ne (sch_ne s hs 5 (by decide) (by decide) 4 (by decide) (by decide) (by decide)), gA_ne (sch_ne s hs 5 (by decide) (by decide) 3 (by decide) (by decide) (by decide)), gA_ne (sch_ne s hs 5 (by decide) (by decide) 2 (by decide) (by decide) (by decide))]
                have y6 : fA Y (stC s 6) = upd (fA x (stC s 6)) F.length (nI (upS (wDef (fKd F)) (fPa F) g + if kd = 0 then 0 else 1)) := by rw [← hY, ← hX, gA_ne (sch_ne s hs 6 (by decide) (by decide) 11 (by decide) (by decide) (by decide)), gA_ne (sch_ne s hs 6 (by decide) (by decide) 9 (by decide) (by decide) (by decide)), gA_ne (sch_ne s hs 6 (by decide) (by decide) 7 (by decide) (by decide) (by decide)), gA_at, cN, gA_ne (sch_ne s hs 6 (by decide) (by decide) 5 (by decide) (by decide) (by decide)), gA_ne (sch_ne s hs 6 (by decide) (by decide) 4 (by decide) (by decide) (by decide)), gA_ne (sch_ne s hs 6 (by decide) (by decide) 3 (by decide) (by decide) (by decide)), gA_ne (sch_ne s hs 6 (by decide) (by decide) 2 (by decide) (by decide) (by decide))]
                have y7 : fA Y (stC s 7) = upd (fA x (stC s 7)) F.length (nI (upS (wGrp (fTy F)) (fPa F) g + if ty = 4 then 1 else 0)) := by rw [← hY, ← hX, gA_ne (sch_ne s hs 7 (by decide) (by decide) 11 (by decide) (by decide) (by decide)), gA_ne (sch_ne s hs 7 (by decide) (by decide) 9 (by decide) (by decide) (by decide)), gA_at, cN, gA_ne (sch_ne s hs 7 (by decide) (by decide) 6 (by decide) (by decide) (by decide)), gA_ne (sch_ne s hs 7 (by decide) (by decide) 5 (by decide) (by decide) (by decide)), gA_ne (sch_ne s hs 7 (by decide) (by decide) 4 (by decide) (by decide) (by decide)), gA_ne (sch_ne s hs 7 (by decide) (by decide) 3 (by decide) (by decide) (by decide)), gA_ne (sch_ne s hs 7 (by decide) (by decide) 2 (by decide) (by decide) (by decide))]
                have y9 : fA Y (stC s 9) = upd (fA x (stC s 9)) F.length (nI (ncol F)) := by rw [← hY, ← hX, gA_ne (sch_ne s hs 9 (by decide) (by decide) 11 (by decide) (by decide) (by decide)), gA_at, cN, gA_ne (sch_ne s hs 9 (by decide) (by decide) 7 (by decide) (by decide) (by decide)), gA_ne (sch_ne s hs 9 (by decide) (by decide) 6 (by decide) (by decide) (by decide)), gA_ne (sch_ne s hs 9 (by decide) (by decide) 5 (by decide) (by decide) (by decide)), gA_ne (sch_ne s hs 9 (by decide) (by decide) 4 (by decide) (by decide) (by decide)), gA_ne (sch_ne s hs 9 (by decide) (by decide) 3 (by decide) (by decide) (by decide)), gA_ne (sch_ne s hs 9 (by decide) (by decide) 2 (by decide) (by decide) (by decide))]
                have y11 : fA Y (stC s 11) = upd (fA x (stC s 11)) F.length (nI n) := by rw [← hY, ← hX, gA_at, cN, gA_ne (sch_ne s hs 11 (by decide) (by decide) 9 (by decide) (by decide) (by decide)), gA_ne (sch_ne s hs 11 (by decide) (by decide) 7 (by decide) (by decide) (by decide)), gA_ne (sch_ne s hs 11 (by decide) (by decide) 6 (by decide) (by decide) (by decide)), gA_ne (sch_ne s hs 11 (by decide) (by decide) 5 (by decide) (by decide) (by decide)), gA_ne (sch_ne s hs 11 (by decide) (by decide) 4 (by decide) (by decide) (by decide)), gA_ne (sch_ne s hs 11 (by decide) (by decide) 3 (by decide) (by decide) (by decide)), gA_ne (sch_ne s hs 11 (by decide) (by decide) 2 (by decide) (by decide) (by decide))]
                have y10 : fA Y (stC s 10) = fA x (stC s 10) := by rw [← hY, ← hX, gA_ne (sch_ne s hs 10 (by decide) (by decide) 11 (by decide) (by decide) (by decide)), gA_ne (sch_ne s hs 10 (by decide) (by decide) 9 (by decide) (by decide) (by decide)), gA_ne (sch_ne s hs 10 (by decide) (by decide) 7 (by decide) (by decide) (by decide)), gA_ne (sch_ne s hs 10 (by decide) (by decide) 6 (by decide) (by decide) (by decide)), gA_ne (sch_ne s hs 10 (by decide) (by decide) 5 (by decide) (by decide) (by decide)), gA_ne (sch_ne s hs 10 (by decide) (by decide) 4 (by decide) (by decide) (by decide)), gA_ne (sch_ne s hs 10 (by decide) (by decide) 3 (by decide) (by decide) (by decide)), gA_ne (sch_ne s hs 10 (by decide) (by decide) 2 (by decide) (by decide) (by decide))]
                generalize hU : setW Z (stC s 8) (psR (fPa F) g (-1) F.length (fA Z (stC s 8))) = U
                have u2 : fA U (stC s 2) = fA Y (stC s 2) := by rw [← hU, gW_ne (sch_ne s hs 2 (by decide) (by decide) 8 (by decide) (by decide) (by decide)), zA, if_neg (sch_ne s hs 2 (by decide) (by decide) 8 (by decide) (by decide) (by decide)), if_neg (sch_ne s hs 2 (by decide) (by decide) 12 (by decide) (by decide) (by decide))]
                have u3 : fA U (stC s 3) = fA Y (stC s 3) := by rw [← hU, gW_ne (sch_ne s hs 3 (by decide) (by decide) 8 (by decide) (by decide) (by decide)), zA, if_neg (sch_ne s hs 3 (by decide) (by decide) 8 (by decide) (by decide) (by decide)), if_neg (sch_ne s hs 3 (by decide) (by decide) 12 (by decide) (by decide) (by decide))]
                have u4 : fA U (stC s 4) = fA Y (stC s 4) := by rw [← hU, gW_ne (sch_ne s hs 4 (by decide) (by decide) 8 (by decide) (by decide) (by decide)), zA, if_neg (sch_ne s hs 4 (by decide) (by decide) 8 (by decide) (by decide) (by decide)), if_neg (sch_ne s hs 4 (by decide) (by decide) 12 (by decide) (by decide) (by decide))]
                have u5 : fA U (stC s 5) = fA Y (stC s 5) := by rw [← hU, gW_ne (sch_ne s hs 5 (by decide) (by decide) 8 (by decide) (by decide) (by decide)), zA, if_neg (sch_ne s hs 5 (by decide) (by decide) 8 (by decide) (by decide) (by decide)), if_neg (sch_ne s hs 5 (by decide) (by decide) 12 (by decide) (by decide) (by decide))]
                have u6 : fA U (stC s 6) = fA Y (stC s 6) := by rw [← hU, gW_ne (sch_ne s hs 6 (by decide) (by decide) 8 (by decide) (by decide) (by decide)), zA, if_neg (sch_ne s hs 6 (by decide) (by decide) 8 (by decide) (by decide) (by decide)), if_neg (sch_ne s hs 6 (by decide) (by decide) 12 (by decide) (by decide) (by decide))]
                have u7 : fA U (stC s 7) = fA Y (stC s 7) := by rw [← hU, gW_ne (sch_ne s hs 7 (by decide) (by decide) 8 (by decide) (by decide) (by decide)), zA, if_neg (sch_ne s hs 7 (by decide) (by decide) 8 (by decide) (by decide) (by decide)), if_neg (sch_ne s hs 7 (by decide) (by decide) 12 (by decide) (by decide) (by decide))]
                have u9 : fA U (stC s 9) = fA Y (stC s 9) := by rw [← hU, gW_ne (sch_ne s hs 9 (by decide) (by decide) 8 (by decide) (by decide) (by decide)), zA, if_neg (sch_ne s hs 9 (by decide) (by decide) 8 (by decide) (by decide) (by decide)), if_neg (sch_ne s hs 9 (by decide) (by decide) 12 (by decide) (by decide) (by decide))]
                have u11 : fA U (stC s 11) = fA Y (stC s 11) := by rw [← hU, gW_ne (sch_ne s hs 11 (by decide) (by decide) 8 (by decide) (by decide) (by decide)), zA, if_neg (sch_ne s hs 11 (by decide) (by decide) 8 (by decide) (by decide) (by decide)), if_neg (sch_ne s hs 11 (by decide) (by decide) 12 (by decide) (by decide) (by decide))]
                have u10 : fA U (stC s 10) = fA Y (stC s 10) := by rw [← hU, gW_ne (sch_ne s hs 10 (by decide) (by decide) 8 (by decide) (by decide) (by decide)), zA, if_neg (sch_ne s hs 10 (by decide) (by decide) 8 (by decide) (by decide) (by decide)), if_neg (sch_ne s hs 10 (by decide) (by decide) 12 (by decide) (by decide) (by decide))]
                have u8 : fA U (stC s 8) = psR (fPa F) g (-1) F.length (upd (fA x (stC s 8)) F.length (nI (F.length + 1))) := by rw [← hU, gW_at, zA, if_pos rfl]
                have u12 : ∀ i, fA U (stC s 12) i = if 16 * F.length ≤ i ∧ i < 16 * F.length + n then (T (a + (i - 16 * F.length))).toInt8.toInt32 else fA x (stC s 12) i := by
                  intro i
                  rw [← hU, gW_ne (sch_ne s hs 12 (by decide) (by decide) 8 (by decide) (by decide) (by decide)), zA, if_neg (sch_ne s hs 12 (by decide) (by decide) 8 (by decide) (by decide) (by decide)), if_pos rfl]
                  show (if 16 * F.length ≤ i ∧ i < 16 * F.length + n then fA x q (a + (i - 16 * F.length)) else fA x (stC s 12) i) = _
                  by_cases c : 16 * F.length ≤ i ∧ i < 16 * F.length + n
                  · rw [if_pos c, if_pos c, (hb.2.2 (i - 16 * F.length) (by omega)).1]
                  · rw [if_neg c, if_neg c]
                have uF : Fr (fun o _ => o = s) (rwS s) x U := by rw [← hU]; exact zF.trans (Fr.W ⟨8, by decide, by decide, rfl⟩)
                have uI0 : fI U s 0 = nI (F.length + 1) := by rw [← hU]; exact zI0
                have uI1 : fI U s 1 = nI (ncol F) := by rw [← hU]; exact zI1
                have uN : ∀ r, fN U r = fN x r := fun r => by rw [← hU]; exact zN r
                unfold j_Sch_add_297 j_Sch_add_323
                refine ⟨fun d => hv2 U uF (RepC_add (q := q) hw h hg c1 (by omega) hT uI0 (by rw [if_pos d]; exact uI1) (by rw [u2, y2]) (by rw [u3, y3]) (by rw [u4, y4]) (by rw [u5, y5]) (by rw [u6, y6]) (by rw [u7, y7]) u8 (by rw [u9, y9]) (by rw [if_pos d, u10, y10]) (by rw [u11, y11]) u12), fun d => ?_⟩
                have hC4 : ncol F < 64 := by exact (ht.mp c2).2 d
                rw [uI1]
                refine ⟨by rw [uN, hL.s hs (by decide) (by decide)]; exact vp_in_nI (by show _ < 64; omega) (by decide), nm_e (nm_r (e' := setI (setA U (stC s 10) (nI (ncol F)) (nI F.length)) s 1 (nI (ncol F + 1))) ?_ (hv2 _ (uF.trans ((Fr.A ⟨10, by decide, by decide, rfl⟩).trans (Fr.I rfl))) ?_))⟩
                · rw [show fI (setA U (stC s 10) (nI (ncol F)) (nI F.length)) s 1 = fI U s 1 from rfl, uI1, nI_1]
                · exact RepC_add (q := q) hw h hg c1 (by omega) hT (by rw [gI_ne (by decide)]; exact uI0) (by rw [gI_at, if_neg d]) (by show fA (setA U (stC s 10) (nI (ncol F)) (nI F.length)) (stC s 2) = _; rw [gA_ne (sch_ne s hs 2 (by decide) (by decide) 10 (by decide) (by decide) (by decide)), u2, y2]) (by show fA (setA U (stC s 10) (nI (ncol F)) (nI F.length)) (stC s 3) = _; rw [gA_ne (sch_ne s hs 3 (by decide) (by decide) 10 (by decide) (by decide) (by decide)), u3, y3]) (by show fA (setA U (stC s 10) (nI (ncol F)) (nI F.length)) (stC s 4) = _; rw [gA_ne (sch_ne s hs 4 (by decide) (by decide) 10 (by decide) (by decide) (by decide)), u4, y4]) (by show fA (setA U (stC s 10) (nI (ncol F)) (nI F.length)) (stC s 5) = _; rw [gA_ne (sch_ne s hs 5 (by decide) (by decide) 10 (by decide) (by decide) (by decide)), u5, y5]) (by show fA (setA U (stC s 10) (nI (ncol F)) (nI F.length)) (stC s 6) = _; rw [gA_ne (sch_ne s hs 6 (by decide) (by decide) 10 (by decide) (by decide) (by decide)), u6, y6]) (by show fA (setA U (stC s 10) (nI (ncol F)) (nI F.length)) (stC s 7) = _; rw [gA_ne (sch_ne s hs 7 (by decide) (by decide) 10 (by decide) (by decide) (by decide)), u7, y7]) (by show fA (setA U (stC s 10) (nI (ncol F)) (nI F.length)) (stC s 8) = _; rw [gA_ne (sch_ne s hs 8 (by decide) (by decide) 10 (by decide) (by decide) (by decide)), u8]) (by show fA (setA U (stC s 10) (nI (ncol F)) (nI F.length)) (stC s 9) = _; rw [gA_ne (sch_ne s hs 9 (by decide) (by decide) 10 (by decide) (by decide) (by decide)), u9, y9]) (by show fA (setA U (stC s 10) (nI (ncol F)) (nI F.length)) (stC s 10) = _; rw [if_neg d, gA_at, nI_clamp (by omega), u10, y10]) (by show fA (setA U (stC s 10) (nI (ncol F)) (nI F.length)) (stC s 11) = _; rw [gA_ne (sch_ne s hs 11 (by decide) (by decide) 10 (by decide) (by decide) (by decide)), u11, y11]) (fun i => by show fA (setA U (stC s 10) (nI (ncol F)) (nI F.length)) (stC s 12) i = _; rw [gA_ne (sch_ne s hs 12 (by decide) (by decide) 10 (by decide) (by decide) (by decide)), u12])
              exact ⟨fun d => m191 0 (by rw [if_neg d]; rfl), fun d => m191 1 (by rw [if_pos d]; rfl)⟩
            exact ⟨fun d => m171 1 (by rw [if_neg d]; rfl), fun d => m171 0 (by rw [if_pos d]; rfl)⟩
          exact ⟨fun d => m149 0 (by rw [if_neg d]; rfl), fun d => m149 1 (by rw [if_pos d]; rfl)⟩
        · refine bn_f c2 (p0 (fun z => c2 (ht.mpr (of_decide_eq_true z.2.2.1).2)))
      · exact br_t (by (first | omega | (simp (disch := omega) only [Int32.le_iff_toInt_le, Int32.lt_iff_toInt_lt, z_eq, z_in, nI_toInt, z_cl, z_m1, z_sg, z_255, Int32.reduceToInt] <;> omega) | (simp only [Int32.le_iff_toInt_le, Int32.lt_iff_toInt_lt, z_eq, z_in, z_add, z_sub, z_mul, z_neg, z_nI, z_cl, z_sg, z_255, z_lit, Int32.reduceToInt] <;> omega))) (p0 (fun z => c1 (of_decide_eq_true z.2.2.1).1))
    unfold j_Sch_add_15
    rw [h.2.1]
    have hC := hw.2.1
    by_cases c : ty = 4
    · refine bn_t c ?_
      by_cases d : upS wOne (fPa F) g < 16
      · exact br_t (by (first | omega | (simp (disch := omega) only [Int32.le_iff_toInt_le, Int32.lt_iff_toInt_lt, z_eq, z_in, nI_toInt, z_cl, z_m1, z_sg, z_255, Int32.reduceToInt] <;> omega) | (simp only [Int32.le_iff_toInt_le, Int32.lt_iff_toInt_lt, z_eq, z_in, z_add, z_sub, z_mul, z_neg, z_nI, z_cl, z_sg, z_255, z_lit, Int32.reduceToInt] <;> omega))) (m51 0 ⟨fun _ => ⟨fun _ => d, fun z => absurd c z⟩, fun _ => rfl⟩)
      · exact br_f (by (first | omega | (simp (disch := omega) only [Int32.le_iff_toInt_le, Int32.lt_iff_toInt_lt, z_eq, z_in, nI_toInt, z_cl, z_m1, z_sg, z_255, Int32.reduceToInt] <;> omega) | (simp only [Int32.le_iff_toInt_le, Int32.lt_iff_toInt_lt, z_eq, z_in, z_add, z_sub, z_mul, z_neg, z_nI, z_cl, z_sg, z_255, z_lit, Int32.reduceToInt] <;> omega))) (m51 1 ⟨fun z => absurd z (by decide), fun z => absurd (z.1 c) d⟩)
    · refine bn_f c ?_
      by_cases d : ncol F < 64
      · exact br_t (by (first | omega | (simp (disch := omega) only [Int32.le_iff_toInt_le, Int32.lt_iff_toInt_lt, z_eq, z_in, nI_toInt, z_cl, z_m1, z_sg, z_255, Int32.reduceToInt] <;> omega) | (simp only [Int32.le_iff_toInt_le, Int32.lt_iff_toInt_lt, z_eq, z_in, z_add, z_sub, z_mul, z_neg, z_nI, z_cl, z_sg, z_255, z_lit, Int32.reduceToInt] <;> omega))) (m51 0 ⟨fun _ => ⟨fun z => absurd z c, fun _ => d⟩, fun _ => rfl⟩)
      · exact br_f (by (first | omega | (simp (disch := omega) only [Int32.le_iff_toInt_le, Int32.lt_iff_toInt_lt, z_eq, z_in, nI_toInt, z_cl, z_m1, z_sg, z_255, Int32.reduceToInt] <;> omega) | (simp only [Int32.le_iff_toInt_le, Int32.lt_iff_toInt_lt, z_eq, z_in, z_add, z_sub, z_mul, z_neg, z_nI, z_cl, z_sg, z_255, z_lit, Int32.reduceToInt] <;> omega))) (m51 1 ⟨fun z => absurd z (by decide), fun z => absurd (z.2 c) d⟩)
  unfold wp_Sch_add
  rcases hg.ok with rfl | ⟨f, hf, rfl⟩
  · rw [upS_neg] at main
    exact bn_t rfl main
  · refine bn_f (nI_nm1 (by omega)) ⟨by rw [l7]; exact vp_in_nI (by omega) (by decide), ?_⟩
    rw [rA_nI (by omega), (h.2.2.2.1 f hf).2.2.2.2.2.1, grp_in hw hg]
    exact main
