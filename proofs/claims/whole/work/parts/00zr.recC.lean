/-! the class reads a RECORD: what lacks, names -/
def RvC (x : St) (F : List SFd) (s : Nat) (E : List SEn) (t : Nat) : Prop := LC x ∧ RepC x s F ∧ fR x 36 13 = some 10 ∧ fR x 36 14 = some s ∧ RcC x F E t
theorem RcC.t {x y : St} {F : List SFd} {E : List SEn} {t : Nat} (h : RcC x F E t) (f : FrT x y) : RcC y F E t := by
  obtain ⟨f1, f2, f3⟩ := f
  obtain ⟨h1, h2, h3⟩ := h
  have eA : ∀ a, fA y a = fA x a := fun a => by show y.2.2.2.1 a = _; rw [f3]
  have eL : ∀ a, fL y a = fL x a := fun a => by show y.2.2.2.2.1 a = _; rw [f3]
  refine ⟨(f1 36 3 (by decide)).trans h1, (f1 36 4 (by decide)).trans h2, fun i a b => ?_⟩
  have := h3 i a b
  unfold EnC VlC at this ⊢
  rw [eA 40, eA 37, eA 38, eL 39, eA 42]
  exact this
theorem RvC.t {x y : St} {F : List SFd} {s : Nat} {E : List SEn} {t : Nat} (hs : SchId s) (h : RvC x F s E t) (f : FrT x y) : RvC y F s E t := by
  have z : FrZ 0 0 x y := f.z
  have e : y.2.2.1 = x.2.2.1 := z.2.2.1
  exact ⟨h.1.z z, h.2.1.z hs z, by show y.2.2.1 36 13 = _; rw [e]; exact h.2.2.1, by show y.2.2.1 36 14 = _; rw [e]; exact h.2.2.2.1, h.2.2.2.2.t f⟩
theorem missF_up {F : List SFd} {g : Int32} {a b c : Nat} (h : b ≤ c) (m : missF F g a b = true) : missF F g a c = true := by
  obtain ⟨f, f1, f2, f3⟩ := missF_iff.mp m
  exact missF_iff.mpr ⟨f, f1, by omega, f3⟩
theorem d_someRequired {post : Int32 → St → Prop} {x : St} {F : List SFd} {s a b : Nat} {g : Int32} (hs : SchId s) (hw : WfS F) (hL : LC x) (hR : RepC x s F) (h14 : fR x 36 14 = some s) (ha : a ≤ 1000) (hb : b ≤ F.length)
    (p : post (if missF F g a b = true then 1 else 0) x) : wp_Rec_someRequired post 36 (nI a) (nI b) g x := by
  have hF := hw.1
  refine lp_Rec_someRequired_3 (fun o _ l2 l3 l4 y => 36 = o ∧ nI b = l2 ∧ g = l3 ∧ x = y ∧ ∃ f, nI f = l4 ∧ f ≤ 1000 ∧ missF F g a f = false ∧ a ≤ f) (fun _ _ _ _ l4 _ => b - l4.toNatClampNeg) ?_ _ _ _ _ _ _ ⟨rfl, rfl, rfl, rfl, a, rfl, ha, missF_0 (Nat.le_refl _), Nat.le_refl _⟩
  rintro R o l1 l2 l3 l4 y ⟨rfl, rfl, rfl, rfl, f, rfl, f1, f2, f3⟩ ih
  unfold j_Rec_someRequired_3 j_Rec_someRequired_38
  by_cases c : f < b
  · refine br_f (by (first | omega | (simp (disch := omega) only [Int32.le_iff_toInt_le, Int32.lt_iff_toInt_lt, z_eq, z_in, nI_toInt, z_cl, z_m1, z_sg, z_255, Int32.reduceToInt] <;> omega) | (simp only [Int32.le_iff_toInt_le, Int32.lt_iff_toInt_lt, z_eq, z_in, z_add, z_sub, z_mul, z_neg, z_nI, z_cl, z_sg, z_255, z_lit, Int32.reduceToInt] <;> omega))) ⟨s, h14, by rw [hL.s hs (by decide) (by decide)]; exact vp_in_nI (by show _ < 128; omega) (by decide), ?_⟩
    have hf := hR.2.2.2.1 f (by omega)
    have go : missF F g a (f + 1) = false → R 36 l1 (nI b) g (nI f + 1) x := by
      intro m
      rw [nI_1]
      refine ih _ _ _ _ _ _ ⟨rfl, rfl, rfl, rfl, f + 1, rfl, by omega, m, by omega⟩ ?_
      rw [nI_clamp (by omega), nI_clamp (by omega)]
      omega
    have ms := missF_s (F := F) (g := g) f3
    rw [f2, Bool.false_or] at ms
    rw [rA_nI (by omega), hf.2.2.1]
    by_cases c2 : fPa F f = g
    · refine bn_t c2 ⟨s, h14, by rw [hL.s hs (by decide) (by decide)]; exact vp_in_nI (by show _ < 128; omega) (by decide), ?_⟩
      rw [rA_nI (by omega), hf.1]
      by_cases c3 : fKd F f = 0
      · refine bn_t c3 ?_
        rw [decide_eq_true ⟨c2, c3⟩] at ms
        rw [if_pos (missF_up (show f + 1 ≤ b by omega) ms)] at p
        exact p
      · exact bn_f c3 (go (by rw [ms]; exact decide_eq_false (fun z => c3 z.2)))
    · exact bn_f c2 (go (by rw [ms]; exact decide_eq_false (fun z => c2 z.1)))
  · refine br_t (by (first | omega | (simp (disch := omega) only [Int32.le_iff_toInt_le, Int32.lt_iff_toInt_lt, z_eq, z_in, nI_toInt, z_cl, z_m1, z_sg, z_255, Int32.reduceToInt] <;> omega) | (simp only [Int32.le_iff_toInt_le, Int32.lt_iff_toInt_lt, z_eq, z_in, z_add, z_sub, z_mul, z_neg, z_nI, z_cl, z_sg, z_255, z_lit, Int32.reduceToInt] <;> omega))) ?_
    rw [if_neg (fun z => by rw [missF_up (show b ≤ f by omega) z] at f2; exact absurd f2 (by decide))] at p
    exact p
theorem c_columnsBefore {post : Int32 → St → Prop} {x : St} {s f : Nat} {F : List SFd} (hs : SchId s) (hL : LC x) (hw : WfS F) (h : RepC x s F) (hf : f ≤ F.length) (p : post (nI (cB F f)) x) : wp_Sch_columnsBefore post s (nI f) x := by
  have hF := hw.1
  unfold wp_Sch_columnsBefore
  rw [h.1, h.2.1]
  by_cases c : f < F.length
  · refine br_f (by (first | omega | (simp (disch := omega) only [Int32.le_iff_toInt_le, Int32.lt_iff_toInt_lt, z_eq, z_in, nI_toInt, z_cl, z_m1, z_sg, z_255, Int32.reduceToInt] <;> omega) | (simp only [Int32.le_iff_toInt_le, Int32.lt_iff_toInt_lt, z_eq, z_in, z_add, z_sub, z_mul, z_neg, z_nI, z_cl, z_sg, z_255, z_lit, Int32.reduceToInt] <;> omega))) ⟨by rw [hL.s hs (by decide) (by decide)]; exact vp_in_nI (by show _ < 128; omega) (by decide), ?_⟩
    rw [rA_nI (by omega), (h.2.2.2.1 f c).2.2.2.2.2.2.2.1]
    exact p
  · refine br_t (by (first | omega | (simp (disch := omega) only [Int32.le_iff_toInt_le, Int32.lt_iff_toInt_lt, z_eq, z_in, nI_toInt, z_cl, z_m1, z_sg, z_255, Int32.reduceToInt] <;> omega) | (simp only [Int32.le_iff_toInt_le, Int32.lt_iff_toInt_lt, z_eq, z_in, z_add, z_sub, z_mul, z_neg, z_nI, z_cl, z_sg, z_255, z_lit, Int32.reduceToInt] <;> omega))) ?_
    have e : cB F f = ncol F := by unfold cB; rw [List.take_of_length_le (by omega)]
    rw [e] at p
    exact p
theorem VlC.no {x : St} {F : List SFd} {t c : Nat} : VlC x F t c 0 0 [] := ⟨fun _ => rfl, fun _ => ⟨by decide, 0, rfl, Nat.zero_le _, fun j h => absurd h (Nat.not_lt_zero j)⟩⟩
theorem RvC.e {x y : St} {F : List SFd} {s : Nat} {E E' : List SEn} {t t' e0 t0 : Nat} (hs : SchId s) (h : RvC x F s E t) (f : FrZ e0 t0 x y) (k : RcC y F E' t') : RvC y F s E' t' :=
  ⟨h.1.z f, h.2.1.z hs f, by show y.2.2.1 36 13 = _; rw [f.2.2.1]; exact h.2.2.1, by show y.2.2.1 36 14 = _; rw [f.2.2.1]; exact h.2.2.2.1, k⟩
theorem d_enterMissing {post : St → Prop} {x : St} {F : List SFd} {s a b r t e0 t0 : Nat} {E : List SEn} {g : Int32} (hs : SchId s) (hw : WfS F) (h : RvC x F s E t) (he : e0 ≤ E.length) (hb : E.length < 2 ^ 29) (hr : r < 128) (hg : gOk F.length g) (ha : a ≤ F.length) (hbl : b ≤ F.length)
    (p : ∀ y, FrZ e0 t0 x y → (∀ k, fI y 10 k = fI x 10 k) → RvC y F s (E ++ misE F a b r g) t → post y) : wp_Rec_enterMissing post 36 (nI a) (nI b) (nI r) g x := by
  have hC := hw.2.1
  have hcb := cB_le F b
  have hd := dG_le hw hg
  unfold wp_Rec_enterMissing
  refine ⟨s, h.2.2.2.1, c_columnsBefore hs h.1 hw h.2.1 hbl ⟨s, h.2.2.2.1, c_columnsBefore hs h.1 hw h.2.1 ha ?_⟩⟩
  refine lp_Rec_enterMissing_20 (fun o _ _ l3 l4 l5 l6 y => 36 = o ∧ nI r = l3 ∧ g = l4 ∧ nI (cB F b) = l5 ∧ ∃ i, i ≤ cB F b - cB F a ∧ nI (cB F a + i) = l6 ∧ FrZ e0 t0 x y ∧ (∀ k, fI y 10 k = fI x 10 k) ∧ RvC y F s (E ++ (List.range i).map (fun i => (cB F a + i, r, dG F g, (0 : Int64), ([] : List Int32)))) t) (fun _ _ _ _ _ _ l6 _ => 1000 - l6.toNatClampNeg) ?_ _ _ _ _ _ _ _ _ ⟨rfl, rfl, rfl, rfl, 0, Nat.zero_le _, rfl, FrZ.refl _ _ _, fun _ => rfl, by rw [List.range_zero, List.map_nil, List.append_nil]; exact h⟩
  rintro R o l1 l2 l3 l4 l5 l6 y ⟨rfl, rfl, rfl, rfl, i, hi, rfl, f1, f2, f3⟩ ih
  have hcl := cB_le F a
  unfold j_Rec_enterMissing_20
  by_cases c : cB F a + i < cB F b
  · refine br_f (by (first | omega | (simp (disch := omega) only [Int32.le_iff_toInt_le, Int32.lt_iff_toInt_lt, z_eq, z_in, nI_toInt, z_cl, z_m1, z_sg, z_255, Int32.reduceToInt] <;> omega) | (simp only [Int32.le_iff_toInt_le, Int32.lt_iff_toInt_lt, z_eq, z_in, z_add, z_sub, z_mul, z_neg, z_nI, z_cl, z_sg, z_255, z_lit, Int32.reduceToInt] <;> omega))) ⟨s, f3.2.2.2.1, c_defOf (r := wDef (fKd F)) (f3.1.s hs (by decide) (by decide)) hw.1 hg (fun f hf => (f3.2.1.2.2.2.1 f hf).2.2.2.2.1) ?_⟩
    have hl : (E ++ (List.range i).map (fun i => (cB F a + i, r, dG F g, (0 : Int64), ([] : List Int32)))).length = E.length + i := by rw [List.length_append, List.length_map, List.length_range]
    refine d_enter (w := 0) (b := []) (e0 := e0) (t0 := t0) f3.1 f3.2.2.2.2 (by omega) (by omega) (by omega) hr (show dG F g < 128 by omega) VlC.no (fun z z1 z2 z3 => ?_)
    rw [nI_1]
    refine ih _ _ _ _ _ _ _ _ ⟨rfl, rfl, rfl, rfl, i + 1, by omega, by rw [Nat.add_assoc], f1.trans z1, fun k => (z2 k).trans (f2 k), ?_⟩ ?_
    · rw [List.range_succ, List.map_append, ← List.append_assoc]
      exact f3.e hs z1 z3
    · rw [nI_clamp (by omega), nI_clamp (by omega)]
      omega
  · refine br_t (by (first | omega | (simp (disch := omega) only [Int32.le_iff_toInt_le, Int32.lt_iff_toInt_lt, z_eq, z_in, nI_toInt, z_cl, z_m1, z_sg, z_255, Int32.reduceToInt] <;> omega) | (simp only [Int32.le_iff_toInt_le, Int32.lt_iff_toInt_lt, z_eq, z_in, z_add, z_sub, z_mul, z_neg, z_nI, z_cl, z_sg, z_255, z_lit, Int32.reduceToInt] <;> omega))) (p y f1 f2 ?_)
    have e : i = cB F b - cB F a := by omega
    unfold misE
    rw [← e]
    exact f3
/-- the name that comes: the first field of the group from a on, none missed out -/
theorem d_readName {post : Int32 → St → Prop} {x : St} {q : Nat} {T : Nat → Int32} {n k : Nat} {F : List SFd} {s a b t : Nat} {E : List SEn} {g : Int32} (hs : SchId s) (hw : WfS F) (h : ScC x q T n k (-1)) (hv : RvC x F s E t) (ha : a ≤ 1000) (hb : b ≤ F.length)
    (p1 : ∀ f, 0 < wln T n (skip T n k) → a ≤ f → f < b → fPa F f = g → fNm F f = rowL T (skip T n k) (wln T n (skip T n k)) → missF F g a f = false → ∀ y, FrT x y → ScC y q T n (skip T n k + wln T n (skip T n k)) (-1) → post (nI f) y)
    (p0 : (wln T n (skip T n k) = 0 ∨ ∀ f, a ≤ f → f < b → fPa F f = g → fNm F f = rowL T (skip T n k) (wln T n (skip T n k)) → missF F g a f = true) → ∀ y j, FrT x y → ScC y q T n j (nI (skip T n k)) → post (-1) y) : wp_Rec_readName post 36 (nI a) (nI b) g x := by
  have hF := hw.1
  have hs1 := @skip_le T n k h.2.2.2
  unfold wp_Rec_readName
  refine ⟨10, hv.2.2.1, d_takeAnyWord h (fun c Y f0 s0 e4 e5 => bn_f (by decide) ?_) (fun c Y f0 s0 => bn_t rfl ?_)⟩
  · have vY := hv.t hs f0.t
    have hwl := @wln_le T n (skip T n k) hs1
    obtain ⟨x1, x2, x3, x4, x5, x6⟩ := s0.1
    have bt : BtC Y q T (skip T n k) (wln T n (skip T n k)) := ⟨by omega, x5, fun i hi => x6 _ (by omega)⟩
    have no : ∀ l1 l4 l5, (∀ f, a ≤ f → f < b → fPa F f = g → fNm F f = rowL T (skip T n k) (wln T n (skip T n k)) → missF F g a f = true) → j_Rec_readName_119 post 36 l1 (nI b) g l4 l5 Y := by
      intro l1 l4 l5 u
      unfold j_Rec_readName_119
      refine ⟨10, vY.2.2.1, 10, vY.2.2.1, ?_⟩
      rw [e4]
      refine c_refuse ?_
      rw [if_pos s0.2.2.1]
      exact p0 (Or.inr u) _ _ (f0.t.trans FrT.i) s0.ill
    refine lp_Rec_readName_32 (fun o _ l2 l3 l4 l5 y => 36 = o ∧ nI b = l2 ∧ g = l3 ∧ Y = y ∧ ∃ f, nI f = l5 ∧ f ≤ 1000 ∧ a ≤ f ∧ (if missF F g a f = true then 1 else 0) = l4 ∧ ∀ f', a ≤ f' → f' < f → fPa F f' = g → ¬ fNm F f' = rowL T (skip T n k) (wln T n (skip T n k))) (fun _ _ _ _ _ l5 _ => b - l5.toNatClampNeg) ?_ _ _ _ _ _ _ _ ⟨rfl, rfl, rfl, rfl, a, rfl, ha, Nat.le_refl _, by rw [missF_0 (Nat.le_refl _)]; rfl, fun f' h1 h2 => by omega⟩
    rintro R o l1 l2 l3 l4 l5 y ⟨rfl, rfl, rfl, rfl, f, rfl, f1, f2, rfl, f3⟩ ih
    unfold j_Rec_readName_32 j_Rec_readName_111 j_Rec_readName_113
    by_cases c1 : f < b
    · refine br_f (by (first | omega | (simp (disch := omega) only [Int32.le_iff_toInt_le, Int32.lt_iff_toInt_lt, z_eq, z_in, nI_toInt, z_cl, z_m1, z_sg, z_255, Int32.reduceToInt] <;> omega) | (simp only [Int32.le_iff_toInt_le, Int32.lt_iff_toInt_lt, z_eq, z_in, z_add, z_sub, z_mul, z_neg, z_nI, z_cl, z_sg, z_255, z_lit, Int32.reduceToInt] <;> omega))) ?_
      by_cases c2 : missF F g a f = true
      · rw [if_pos c2]
        refine bn_f (by decide) (no _ _ _ (fun f' h1 h2 h3 h4 => ?_))
        rcases Nat.lt_or_ge f' f with d | d
        · exact absurd h4 (f3 f' h1 d h3)
        · exact missF_up d c2
      · rw [if_neg c2]
        have hf := vY.2.1.2.2.2.1 f (by omega)
        have ms := missF_s (F := F) (g := g) f2
        rw [bt_f c2, Bool.false_or] at ms
        have go : ∀ v, (if missF F g a (f + 1) = true then 1 else 0) = v → (fPa F f = g → ¬ fNm F f = rowL T (skip T n k) (wln T n (skip T n k))) → R 36 l1 (nI b) g v (nI f + 1) Y := by
          intro v e u
          rw [nI_1]
          refine ih _ _ _ _ _ _ _ ⟨rfl, rfl, rfl, rfl, f + 1, rfl, by omega, by omega, e, fun f' h1 h2 h3 => ?_⟩ ?_
          · rcases Nat.lt_or_ge f' f with d | d
            · exact f3 f' h1 d h3
            · have e : f' = f := by omega
              subst e
              exact u h3
          · rw [nI_clamp (by omega), nI_clamp (by omega)]
            omega
        refine bn_t rfl ⟨s, vY.2.2.2.1, by rw [vY.1.s hs (by decide) (by decide)]; exact vp_in_nI (by show _ < 128; omega) (by decide), ?_⟩
        rw [rA_nI (by omega), hf.2.2.1]
        by_cases c3 : fPa F f = g
        · refine bn_t c3 ⟨s, vY.2.2.2.1, 10, vY.2.2.1, q, x1, 10, vY.2.2.1, 10, vY.2.2.1, ?_⟩
          rw [e4, e5]
          refine c_hasName hs vY.1 vY.2.1 hw (by omega) bt (fun u => br_f (by decide) ?_) (fun u => br_t rfl ?_)
          · exact p1 f c f2 c1 c3 u (bt_f c2) Y f0.t s0
          · refine ⟨s, vY.2.2.2.1, by rw [vY.1.s hs (by decide) (by decide)]; exact vp_in_nI (by show _ < 128; omega) (by decide), ?_⟩
            rw [rA_nI (by omega), hf.1]
            by_cases c4 : fKd F f = 0
            · exact bn_t c4 (go 1 (by rw [ms, decide_eq_true ⟨c3, c4⟩]; rfl) (fun _ => u))
            · exact bn_f c4 (go 0 (by rw [ms, decide_eq_false (fun z => c4 z.2)]; rfl) (fun _ => u))
        · exact bn_f c3 (go 0 (by rw [ms, decide_eq_false (fun z => c3 z.1)]; rfl) (fun z => absurd z c3))
    · refine br_t (by (first | omega | (simp (disch := omega) only [Int32.le_iff_toInt_le, Int32.lt_iff_toInt_lt, z_eq, z_in, nI_toInt, z_cl, z_m1, z_sg, z_255, Int32.reduceToInt] <;> omega) | (simp only [Int32.le_iff_toInt_le, Int32.lt_iff_toInt_lt, z_eq, z_in, z_add, z_sub, z_mul, z_neg, z_nI, z_cl, z_sg, z_255, z_lit, Int32.reduceToInt] <;> omega))) (no _ _ _ (fun f' h1 h2 h3 h4 => absurd h4 (f3 f' h1 (by omega) h3)))
  · have vY := hv.t hs f0.t
    refine ⟨10, vY.2.2.1, 10, vY.2.2.1, ?_⟩
    rw [s0.2.1]
    refine c_refuse ?_
    rw [if_pos s0.2.2.1]
    exact p0 (Or.inl c) _ _ (f0.t.trans FrT.i) s0.ill
