/-! the class reads a FIELD, and a SCHEMA -/
theorem ScC.bt {x : St} {q : Nat} {T : Nat → Int32} {n k : Nat} {e : Int32} (h : ScC x q T n k e) {a w : Nat} (ha : a + w ≤ n) : BtC x q T a w := by
  obtain ⟨h1, h2, h3, h4, h5, h6⟩ := h.1
  exact ⟨by omega, h5, fun i hi => h6 (a + i) (by omega)⟩
theorem d_f35i {post : Int32 → St → Prop} {s q : Nat} {g kd ty : Int32} {x : St} {T : Nat → Int32} {n k : Nat} {e : Int32} (h : ScC x q T n k e) (he : e ≠ -1) (p : post g x) : j_Sch_readField_35 post s 10 g kd ty x := by
  unfold j_Sch_readField_35
  refine c_good ?_
  rw [if_neg (fun z => he (h.2.2.1.symm.trans z))]
  exact bn_t rfl p
theorem d_f91 {post : Int32 → St → Prop} {s q : Nat} {g kd ty v : Int32} {x : St} {T : Nat → Int32} {n k N : Nat} (hs : SchId s) (h : ScC x q T n k (-1)) (hN : fI x s 0 = nI (N + 1)) (hv : 0 ≤ v)
    (p1 : skip T n k < n → T (skip T n k) = v → ∀ y, FrN x y → ScC y q T n (skip T n k + 1) (-1) → post (if ty = 4 then nI N else g) y)
    (p0 : ¬ (skip T n k < n ∧ T (skip T n k) = v) → ∀ r y, FrN x y → ScC y q T n (skip T n k) (nI (skip T n k)) → post r y) : j_Sch_readField_91 post s 10 g kd ty v 10 x := by
  have e10 : s ≠ 10 := by rcases hs with rfl | rfl | rfl <;> decide
  unfold j_Sch_readField_91
  refine d_needSign h hv (fun a b y f z => ?_) (fun c y f z => ⟨fun _ => p0 c _ y f z, fun _ => p0 c _ y f z⟩)
  have p := p1 a b y f z
  by_cases c : ty = 4
  · rw [if_pos c] at p
    refine bn_t c ?_
    rw [show fI y s 0 = nI (N + 1) from (f.1 s 0 e10).trans hN, nI_pred]
    exact p
  · rw [if_neg c] at p
    exact bn_f c p
theorem d_readField {post : Int32 → St → Prop} {s q : Nat} {x : St} {T : Nat → Int32} {n k : Nat} {g : Int32} {F : List SFd} (hs : SchId s) (hL : LC x) (h : ScC x q T n k (-1)) (hR : RepC x s F) (hw : WfS F) (hg : gIn F g) (hq : ∀ k, 2 ≤ k → k ≤ 12 → q ≠ stC s k)
    (p0 : (rdF T n F k g).1 ≠ -1 → ∀ v y k', FrX s x y → ScC y q T n k' (rdF T n F k g).1 → post v y)
    (p1 : (rdF T n F k g).1 = -1 → ∀ y, FrX s x y → ScC y q T n (rdF T n F k g).2.2.1 (-1) → RepC y s (rdF T n F k g).2.1 → WfS (rdF T n F k g).2.1 → gIn (rdF T n F k g).2.1 (rdF T n F k g).2.2.2 → k < (rdF T n F k g).2.2.1 → post (rdF T n F k g).2.2.2 y) : wp_Sch_readField post s 10 g x := by
  have hn := h.1.2.2.1
  have hk := h.2.2.2
  have hs1 := @skip_le T n k hk
  have hg1 := skip_ge T n k
  unfold wp_Sch_readField
  refine d_readMode h (fun ck v y f z => ?_) (fun j hj ckd y f z => ?_)
  · have er : rdF T n F k g = (nI (skip T n k), F, skip T n k, g) := by unfold rdF; rw [if_pos ck]
    rw [er] at p0
    have he := @nI_nm1 (skip T n k) (by omega)
    unfold wp_Sch_readType
    refine c_good ?_
    rw [if_neg (fun w => he (z.2.2.1.symm.trans w))]
    refine bn_t rfl (c_good ?_)
    rw [if_neg (fun w => he (z.2.2.1.symm.trans w))]
    exact br_t rfl (d_f35i z he (p0 he _ y _ f.x z))
  · have ck : ¬ nI j = -1 := nI_nm1 (by omega)
    have hjp : 0 < (kW.getD j []).length := by
      rcases (show j = 0 ∨ j = 1 ∨ j = 2 by omega) with e | e | e <;> rw [e] <;> decide
    have hL1 := z.2.2.2
    have ej : (kW.getD (nI j).toNatClampNeg []).length = (kW.getD j []).length := by rw [nI_clamp (by omega)]
    generalize hK1 : skip T n k + (kW.getD j []).length = k1 at *
    have hs2 := @skip_le T n k1 hL1
    have hg2 := skip_ge T n k1
    refine d_readType z (fun ct v y2 f2 z2 => ?_) (fun i hi cty y2 f2 z2 => ?_)
    · have er : rdF T n F k g = (nI (skip T n k1), F, skip T n k1, g) := by unfold rdF; simp only [ckd, if_neg ck, ej, hK1, ct, if_true]
      rw [er] at p0
      have he := @nI_nm1 (skip T n k1) (by omega)
      refine c_good ?_
      rw [if_neg (fun w => he (z2.2.2.1.symm.trans w))]
      exact br_t rfl (d_f35i z2 he (p0 he _ y2 _ (FrN.x (f.trans f2)) z2))
    · have ct : ¬ nI i = -1 := nI_nm1 (by omega)
      have ei : (tW.getD (nI i).toNatClampNeg []).length = (tW.getD i []).length := by rw [nI_clamp (by omega)]
      have hL2 := z2.2.2.2
      generalize hK2 : skip T n k1 + (tW.getD i []).length = k2 at *
      have hs3 := @skip_le T n k2 hL2
      have hg3 := skip_ge T n k2
      have hw3 := @wln_le T n (skip T n k2) hs3
      have L2 := hL.fr (f.trans f2)
      have R2 := hR.frN hs (f.trans f2)
      refine c_good ?_
      rw [if_pos z2.2.2.1]
      refine br_f (by decide) (d_takeAnyWord z2 (fun cw y3 f3 z3 e4 e5 => bn_f (by decide) ?_) (fun cw y3 f3 z3 => bn_t rfl ?_))
      · have L3 := L2.fr f3
        have R3 := R2.frN hs f3
        have B3 := z3.bt (a := skip T n k2) (w := wln T n (skip T n k2)) hw3
        unfold j_Sch_readField_35
        refine c_good ?_
        rw [if_pos z3.2.2.1]
        refine bn_f (by decide) ⟨q, z3.1.1, ?_⟩
        rw [e4, e5]
        refine c_add hs L3 R3 hw hg B3 hq (fun c => bn_t rfl ?_) (fun c y4 f4 R4 => bn_f (by decide) ?_)
        · have er : rdF T n F k g = (nI (skip T n k2), F, skip T n k2, g) := by
            unfold rdF
            simp only [ckd, if_neg ck, ej, hK1, cty, if_neg ct, ei, hK2]
            rw [if_pos ?_]
            by_cases c1 : 16 < wln T n (skip T n k2)
            · exact Or.inr (Or.inl c1)
            · by_cases c2 : mayF F (nI i) g = false
              · exact Or.inr (Or.inr (Or.inl c2))
              · refine Or.inr (Or.inr (Or.inr (bf_t (fun c3 => c ⟨cw, by omega, bf_t c2, c3⟩))))
          rw [er] at p0
          have he := @nI_nm1 (skip T n k2) (by omega)
          rw [e4]
          refine c_refuse ?_
          rw [if_pos z3.2.2.1]
          exact p0 he _ _ _ (FrN.x (((f.trans f2).trans f3).trans FrN.i)) z3.ill
        · have z4 := z3.fr hs hq f4
          have fx : FrX s x y4 := (FrN.x ((f.trans f2).trans f3)).trans (f4.wk (fun _ _ w => Or.inr w) (fun _ w => w))
          have hc : ¬ (wln T n (skip T n k2) = 0 ∨ 16 < wln T n (skip T n k2) ∨ mayF F (nI i) g = false ∨ hasN F g (rowL T (skip T n k2) (wln T n (skip T n k2))) = true) := by
            rintro (w | w | w | w)
            · omega
            · omega
            · rw [c.2.2.1] at w; exact absurd w (by decide)
            · rw [c.2.2.2] at w; exact absurd w (by decide)
          have er : rdF T n F k g = if skip T n (skip T n k2 + wln T n (skip T n k2)) < n ∧ T (skip T n (skip T n k2 + wln T n (skip T n k2))) = (if nI i = 4 then 123 else 59) then (-1, F ++ [(nI j, nI i, g, rowL T (skip T n k2) (wln T n (skip T n k2)))], skip T n (skip T n k2 + wln T n (skip T n k2)) + 1, if nI i = 4 then nI F.length else g) else (nI (skip T n (skip T n k2 + wln T n (skip T n k2))), F ++ [(nI j, nI i, g, rowL T (skip T n k2) (wln T n (skip T n k2)))], skip T n (skip T n k2 + wln T n (skip T n k2)), g) := by
            unfold rdF
            simp only [ckd, if_neg ck, ej, hK1, cty, if_neg ct, ei, hK2, if_neg hc]
          have hm := of_decide_eq_true c.2.2.1
          have w4 : WfS (F ++ [(nI j, nI i, g, rowL T (skip T n k2) (wln T n (skip T n k2)))]) := WfS_add hw hg (by
            rcases (show j = 0 ∨ j = 1 ∨ j = 2 by omega) with e | e | e <;> rw [e]
            · exact Or.inl rfl
            · exact Or.inr (Or.inl rfl)
            · exact Or.inr (Or.inr rfl)) (by
            rcases (show i = 0 ∨ i = 1 ∨ i = 2 ∨ i = 3 ∨ i = 4 by omega) with e | e | e | e | e <;> rw [e] <;> decide) c.2.2.1 c.2.2.2 (by rw [rowL_len]; omega) (by rw [rowL_len]; omega)
          have hs4 := @skip_le T n (skip T n k2 + wln T n (skip T n k2)) hw3
          have hg4 := skip_ge T n (skip T n k2 + wln T n (skip T n k2))
          have hl : (F ++ [(nI j, nI i, g, rowL T (skip T n k2) (wln T n (skip T n k2)))]).length = F.length + 1 := by rw [List.length_append]; rfl
          have i0 : fI y4 s 0 = nI (F.length + 1) := by rw [← hl]; exact R4.1
          have go : ∀ v, v = (if nI i = 4 then 123 else 59) → 0 ≤ v → j_Sch_readField_91 post s 10 g (nI j) (nI i) v 10 y4 := by
            intro v hv hv0
            refine d_f91 hs z4 i0 hv0 (fun a b y5 f5 z5 => ?_) (fun cn r y5 f5 z5 => ?_)
            · rw [if_pos ⟨a, by rw [← hv]; exact b⟩] at er
              rw [er] at p1
              refine p1 rfl y5 (fx.trans f5.x) z5 (R4.frN hs f5) w4 ?_ (by show k < skip T n (skip T n k2 + wln T n (skip T n k2)) + 1; omega)
              show gIn _ (if nI i = 4 then nI F.length else g)
              by_cases c4 : nI i = 4
              · rw [if_pos c4, c4]; exact gIn_new hw hm.1 hg
              · rw [if_neg c4]; exact gIn_same hw hm.1 hg
            · rw [if_neg (fun w => cn ⟨w.1, by rw [hv]; exact w.2⟩)] at er
              rw [er] at p0
              exact p0 (nI_nm1 (by omega)) _ y5 _ (fx.trans f5.x) z5
          exact ⟨fun c4 => go 59 (by rw [if_neg c4]) (by decide), fun c4 => go 123 (by rw [if_pos c4]) (by decide)⟩
      · have er : rdF T n F k g = (nI (skip T n k2), F, skip T n k2, g) := by
          unfold rdF
          simp only [ckd, if_neg ck, ej, hK1, cty, if_neg ct, ei, hK2]
          rw [if_pos (Or.inl cw)]
        rw [er] at p0
        have he := @nI_nm1 (skip T n k2) (by omega)
        rw [z3.2.1]
        refine c_refuse ?_
        rw [if_pos z3.2.2.1]
        exact d_f35i z3.ill he (p0 he _ _ _ (FrN.x (((f.trans f2).trans f3).trans FrN.i)) z3.ill)
