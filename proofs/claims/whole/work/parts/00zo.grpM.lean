/-! the model reads a group -/
theorem fnd_cg {p q : Nat → Bool} : ∀ {N : Nat}, (∀ f, f < N → p f = q f) → fnd p N = fnd q N := by
  intro N
  induction N with
  | zero => intro _; rfl
  | succ N ih =>
    intro h
    show (if p N = true then nI N else fnd p N) = if q N = true then nI N else fnd q N
    rw [h N (by omega), ih (fun f hf => h f (by omega))]
theorem fnd_is {p : Nat → Bool} : ∀ {N : Nat}, fnd p N = -1 ∨ ∃ f, f < N ∧ fnd p N = nI f ∧ p f = true := by
  intro N
  induction N with
  | zero => exact Or.inl rfl
  | succ N ih =>
    show (if p N = true then nI N else fnd p N) = -1 ∨ ∃ f, f < N + 1 ∧ (if p N = true then nI N else fnd p N) = nI f ∧ p f = true
    by_cases c : p N = true
    · rw [if_pos c]
      exact Or.inr ⟨N, by omega, rfl, c⟩
    · rw [if_neg c]
      rcases ih with z | ⟨f, f1, f2, f3⟩
      · exact Or.inl z
      · exact Or.inr ⟨f, by omega, f2, f3⟩
theorem s_ends {post : St → Prop} {x : St} {T : Nat → Int32} {n k fr s : Nat} {F : List SFd} {L : List SNd} {g : Int32} (h : RsM x T n F k L s) (hk : k < n) (hfr : fr ≤ 1000) (hb : L.length ≤ k)
    (q : ∀ y, FrR x y → ((pEnd F g k fr L).1 = -1 → (pEnd F g k fr L) = (-1, k + 1, L) ∧ RsM y T n F (k + 1) L s) → ((pEnd F g k fr L).1 ≠ -1 → errR x y (pEnd F g k fr L).1) → post y) : wp_Mod_ends post g (nI fr) x := by
  obtain ⟨a1, a2, a3, a4, a5, a6, a7, a8, a9, a10, a11⟩ := h
  have h' : RsM x T n F k L s := ⟨a1, a2, a3, a4, a5, a6, a7, a8, a9, a10, a11⟩
  unfold wp_Mod_ends
  rw [show rA x 9 0 = nI F.length from a3.1, a2 9]
  refine ⟨vp_in_nI (n := 0) (by decide) (by decide), s_misses a2 a3 a4 (Nat.le_refl _) hfr ?_⟩
  unfold j_Mod_ends_23
  have nn : ¬ nI k = -1 := nI_nm1 (by omega)
  by_cases c : missF F g fr F.length = true
  · have e : pEnd F g k fr L = (nI k, k, L) := by unfold pEnd; rw [if_pos c]
    rw [e] at q
    rw [if_pos c]
    refine br_f (by decide) ?_
    rw [a5]
    refine s_fail ?_
    rw [if_pos a6]
    refine nm_e (q _ ((FrR.i (by decide)).trans (FrR.i (by decide))) (fun z => absurd z nn) (fun _ => ⟨(FrR.i (by decide)).trans (FrR.i (by decide)), nn, rfl, k + 1, by omega, ?_⟩))
    show fI x 0 16 + 1 = _
    rw [a5, nI_1]
  · have e : pEnd F g k fr L = (-1, k + 1, L) := by unfold pEnd; rw [if_neg c]
    rw [e] at q
    rw [if_neg c]
    refine br_t rfl ?_
    rw [a5, nI_1]
    exact nm_e (q _ (FrR.i (by decide)) (fun _ => ⟨rfl, h'.go (by omega) (by omega)⟩) (fun z => absurd rfl z))
theorem depI_le {F : List SFd} {g : Int32} (h : WfS F) (hg : gIs F g) : upS wOne (fPa F) g ≤ 16 := by
  rcases hg with rfl | ⟨f, h1, h2, h3⟩
  · rw [upS_neg]; decide
  · rw [h2]
    exact h.2.2.2.2.2.1 f h1 h3
theorem gIs.ok {F : List SFd} {g : Int32} (h : gIs F g) : gOk F.length g := by
  rcases h with h | ⟨f, h1, h2, -⟩
  · exact Or.inl h
  · exact Or.inr ⟨f, h1, h2⟩
/-- a group's fields, with a way to read values and rows -/
theorem s_flds {T : Nat → Int32} {n D : Nat} {F : List SFd} {P : PGr} {SG SR SV : (St → Prop) → Int32 → Int32 → St → Prop} {post : St → Prop} {x : St} {k p s : Nat} {g : Int32} {L : List SNd} (hgk : gOk F.length g)
    (hv : ∀ f, f < F.length → fPa F f = g → okV T n F P p f SV) (hr : ∀ f, f < F.length → fPa F f = g → fKd F f = 2 → ∀ (post : St → Prop) (x : St) (k : Nat) (L : List SNd) (s : Nat), RsM x T n F k L s → L.length + 1 ≤ k → (∀ y, outR x y T n F k (pVals T n F P k p f L) → post y) → SR post (nI p) (nI f) x)
    {k0 : Nat} {x0 : St} (f0 : FrR x0 x) (hk0 : k0 < k) (h : RsM x T n F k L s) (hb : L.length ≤ k)
    (q : ∀ y, outR x0 y T n F k0 (pFld T n F P g p 200 k 0 true L) → post y) : ∃ m, wl_Mod_readGroup_11 post SG SR SV m (nI p) g 0 1 x := by
  have hF := h.2.2.2.1.1
  have hn := h.2.2.2.2.2.2.2.2.1
  generalize hR : pFld T n F P g p 200 k 0 true L = Res at *
  refine lp_Mod_readGroup_11 (fun a0 a1 a2 a3 y => nI p = a0 ∧ g = a1 ∧ ((∃ d k2 fr b L2 s2, nI fr = a2 ∧ (if b = true then 1 else 0) = a3 ∧ FrR x0 y ∧ RsM y T n F k2 L2 s2 ∧ L2.length ≤ k2 ∧ k0 < k2 ∧ fr ≤ 128 ∧ 200 ≤ fr + d ∧ Res = pFld T n F P g p d k2 fr b L2) ∨ errR x0 y Res.1)) (fun _ _ a2 _ y => if fI y 0 17 = -1 then 200 - a2.toNatClampNeg else 0) ?_ _ _ _ _ _ ⟨rfl, rfl, Or.inl ⟨200, k, 0, true, L, s, rfl, rfl, f0, h, hb, hk0, by decide, by decide, hR.symm⟩⟩
  rintro R a0 a1 a2 a3 y ⟨rfl, rfl, ⟨d, k2, fr, b, L2, s2, rfl, rfl, f1, f2, f3, f4, f5, f6, f7⟩ | he⟩ ih
  · cases d with
    | zero => omega
    | succ d =>
    have hk2 := f2.2.2.2.2.2.2.2.1
    have hs := @skip_le T n k2 hk2
    have hg := skip_ge T n k2
    have hx := f2.go hg hs
    have fx : FrR x0 (setI y 0 16 (nI (skip T n k2))) := f1.trans (FrR.i (by decide))
    -- a fault
    have err : ∀ Y : St, FrR x0 Y → fI Y 0 17 = Res.1 → Res.1 ≠ -1 → (∃ j, j ≤ 4100 ∧ fI Y 0 16 = nI j) → post Y := fun Y g1 g2 g3 g4 => q Y ⟨g1, Or.inr ⟨g3, g2, g4⟩⟩
    unfold j_Mod_readGroup_11
    refine bn_t f2.2.2.2.2.2.1 (s_blanks f2.1 f2.2.2.2.2.1 (by omega) ?_)
    have e0 : Res = if b = true ∧ skip T n k2 < n ∧ T (skip T n k2) = 125 then pEnd F g (skip T n k2) fr L2 else if wln T n (skip T n k2) = 0 ∨ fdF F g (rowL T (skip T n k2) (wln T n (skip T n k2))) = -1 ∨ (fdF F g (rowL T (skip T n k2) (wln T n (skip T n k2)))).toNatClampNeg < fr ∨ missF F g fr (fdF F g (rowL T (skip T n k2) (wln T n (skip T n k2)))).toNatClampNeg = true then (nI (skip T n k2), skip T n k2, L2) else if ¬ (skip T n (skip T n k2 + wln T n (skip T n k2)) < n ∧ T (skip T n (skip T n k2 + wln T n (skip T n k2))) = 58) then (nI (skip T n (skip T n k2 + wln T n (skip T n k2))), skip T n (skip T n k2 + wln T n (skip T n k2)), L2) else (if ¬ (pVals T n F P (skip T n (skip T n k2 + wln T n (skip T n k2)) + 1) p (fdF F g (rowL T (skip T n k2) (wln T n (skip T n k2)))).toNatClampNeg L2).1 = -1 then pVals T n F P (skip T n (skip T n k2 + wln T n (skip T n k2)) + 1) p (fdF F g (rowL T (skip T n k2) (wln T n (skip T n k2)))).toNatClampNeg L2 else if skip T n (pVals T n F P (skip T n (skip T n k2 + wln T n (skip T n k2)) + 1) p (fdF F g (rowL T (skip T n k2) (wln T n (skip T n k2)))).toNatClampNeg L2).2.1 < n ∧ T (skip T n (pVals T n F P (skip T n (skip T n k2 + wln T n (skip T n k2)) + 1) p (fdF F g (rowL T (skip T n k2) (wln T n (skip T n k2)))).toNatClampNeg L2).2.1) = 125 then pEnd F g (skip T n (pVals T n F P (skip T n (skip T n k2 + wln T n (skip T n k2)) + 1) p (fdF F g (rowL T (skip T n k2) (wln T n (skip T n k2)))).toNatClampNeg L2).2.1) ((fdF F g (rowL T (skip T n k2) (wln T n (skip T n k2)))).toNatClampNeg + 1) (pVals T n F P (skip T n (skip T n k2 + wln T n (skip T n k2)) + 1) p (fdF F g (rowL T (skip T n k2) (wln T n (skip T n k2)))).toNatClampNeg L2).2.2 else if skip T n (pVals T n F P (skip T n (skip T n k2 + wln T n (skip T n k2)) + 1) p (fdF F g (rowL T (skip T n k2) (wln T n (skip T n k2)))).toNatClampNeg L2).2.1 < n ∧ T (skip T n (pVals T n F P (skip T n (skip T n k2 + wln T n (skip T n k2)) + 1) p (fdF F g (rowL T (skip T n k2) (wln T n (skip T n k2)))).toNatClampNeg L2).2.1) = 44 then pFld T n F P g p d (skip T n (pVals T n F P (skip T n (skip T n k2 + wln T n (skip T n k2)) + 1) p (fdF F g (rowL T (skip T n k2) (wln T n (skip T n k2)))).toNatClampNeg L2).2.1 + 1) ((fdF F g (rowL T (skip T n k2) (wln T n (skip T n k2)))).toNatClampNeg + 1) false (pVals T n F P (skip T n (skip T n k2 + wln T n (skip T n k2)) + 1) p (fdF F g (rowL T (skip T n k2) (wln T n (skip T n k2)))).toNatClampNeg L2).2.2 else (nI (skip T n (pVals T n F P (skip T n (skip T n k2 + wln T n (skip T n k2)) + 1) p (fdF F g (rowL T (skip T n k2) (wln T n (skip T n k2)))).toNatClampNeg L2).2.1), skip T n (pVals T n F P (skip T n (skip T n k2 + wln T n (skip T n k2)) + 1) p (fdF F g (rowL T (skip T n k2) (wln T n (skip T n k2)))).toNatClampNeg L2).2.1, (pVals T n F P (skip T n (skip T n k2 + wln T n (skip T n k2)) + 1) p (fdF F g (rowL T (skip T n k2) (wln T n (skip T n k2)))).toNatClampNeg L2).2.2)) := f7
    generalize hS : skip T n k2 = s1 at *
    generalize hY : setI y 0 16 (nI s1) = Y at *
    obtain ⟨a1, a2, a3, a4, a5, a6, a7, a8, a9, a10, a11⟩ := hx
    have hY' : RsM Y T n F s1 L2 s2 := ⟨a1, a2, a3, a4, a5, a6, a7, a8, a9, a10, a11⟩
    -- } of an empty or a whole group
    have ends : ∀ (Z : St) (k3 fr3 : Nat) (L3 : List SNd) (s3 : Nat), FrR x0 Z → RsM Z T n F k3 L3 s3 → k3 < n → fr3 ≤ 1000 → L3.length ≤ k3 → k0 < k3 → Res = pEnd F g k3 fr3 L3 → wp_Mod_ends (fun x324 => post x324) g (nI fr3) Z := by
      intro Z k3 fr3 L3 s3 g1 g2 g3 g4 g5 g6 g7
      refine s_ends g2 g3 g4 g5 (fun W w1 w2 w3 => q W ⟨g1.trans w1, ?_⟩)
      rw [g7]
      by_cases c : (pEnd F g k3 fr3 L3).1 = -1
      · obtain ⟨u1, u2⟩ := w2 c
        rw [u1]
        exact Or.inl ⟨rfl, by show k0 < k3 + 1; omega, by show L3.length + 1 ≤ k3 + 1; omega, s3, u2⟩
      · obtain ⟨-, u2, u3, u4⟩ := w3 c
        exact Or.inr ⟨u2, u3, u4⟩
    have hw := @wln_le T n s1 a8
    have nn1 : ¬ nI s1 = -1 := nI_nm1 (by omega)
    have bad : Res = (nI s1, s1, L2) → ∀ l4 l5 l6 (Z : St), FrR Y Z → fI Z 0 16 = nI s1 → fI Z 0 17 = -1 → j_Mod_readGroup_101 post SG SR SV (nI p) g (nI fr) l4 l5 l6 Z := by
      intro er l4 l5 l6 Z g1 g2 g3
      unfold j_Mod_readGroup_101
      rw [g2]
      refine s_fail ?_
      rw [if_pos g3]
      exact err _ ((fx.trans g1).trans (FrR.i (by decide))) (by rw [er]; rfl) (by rw [er]; exact nn1) ⟨s1, by omega, g2⟩
    have m44 : ¬ (b = true ∧ s1 < n ∧ T s1 = 125) → ∀ l4, j_Mod_readGroup_44 post SG SR SV R (nI p) g (nI fr) l4 Y := by
      intro nb l4
      rw [if_neg nb] at e0
      unfold j_Mod_readGroup_44
      rw [a5]
      refine s_wordAt a1 (by omega) ?_
      by_cases cw : wln T n s1 = 0
      · rw [if_pos (Or.inl cw)] at e0
        refine bn_t (by rw [cw]; rfl) ?_
        unfold j_Mod_readGroup_82
        refine br_t ?_ (bad e0 _ _ _ Y (FrR.refl Y) a5 a6)
        have : fr < 2 ^ 31 := by omega
        (first | omega | (simp (disch := omega) only [Int32.le_iff_toInt_le, Int32.lt_iff_toInt_lt, z_eq, z_in, nI_toInt, z_cl, z_m1, z_sg, z_255, Int32.reduceToInt] <;> omega) | (simp only [Int32.le_iff_toInt_le, Int32.lt_iff_toInt_lt, z_eq, z_in, z_add, z_sub, z_mul, z_neg, z_nI, z_cl, z_sg, z_255, z_lit, Int32.reduceToInt] <;> omega))
      · have h40 : fN Y 2 = 40000 := a1.2.2.1
        rw [a5]
        refine bn_f (fun z => cw ((nI_eq (b := 0) (by omega) (by decide)).mp z)) ?_
        show wp_Mod_find _ (nI 0) g 2 (nI s1) (nI (wln T n s1)) Y
        refine s_find a2 (by decide) a3.1 hF (fun f hf z => by
          rw [(a3.2.2.1 f hf).2.2.2.1] at z
          have := (a4.2.2.2.1 f hf).2.2.2.2
          rw [nI_eq (by omega) (by omega)] at z
          omega) (by rw [h40]; omega) (by rw [h40]; decide) ?_
        have hT : rowL (fA Y 2) s1 (wln T n s1) = rowL T s1 (wln T n s1) := by
          rw [nm_eq]
          refine ⟨rowL_len, fun i hi => ?_⟩
          rw [rowL_at hi]
          exact (a1.2.2.2 (s1 + i) (by omega)).1
        have ef : fnd (mtM Y 0 g 2 s1 (wln T n s1)) F.length = fdF F g (rowL T s1 (wln T n s1)) := fnd_cg (fun f hf => by
          have := mtM_iff (g := g) (r := 2) (fr := s1) (n := wln T n s1) a3 a4 (by omega) hf
          rw [hT] at this
          by_cases c : fPa F f = g ∧ fNm F f = rowL T s1 (wln T n s1)
          · rw [this.mpr c, decide_eq_true c]
          · rw [decide_eq_false c]; exact bt_f (fun z => c (this.mp z)))
        rw [ef]
        unfold j_Mod_readGroup_82
        rcases (fnd_is : fdF F g (rowL T s1 (wln T n s1)) = -1 ∨ _) with z | ⟨f, hf, hfr, hfp⟩
        · have z : fdF F g (rowL T s1 (wln T n s1)) = -1 := z
          rw [if_pos (Or.inr (Or.inl z))] at e0
          rw [z]
          refine br_t ?_ (bad e0 _ _ _ Y (FrR.refl Y) a5 a6)
          have : fr < 2 ^ 31 := by omega
          (first | omega | (simp (disch := omega) only [Int32.le_iff_toInt_le, Int32.lt_iff_toInt_lt, z_eq, z_in, nI_toInt, z_cl, z_m1, z_sg, z_255, Int32.reduceToInt] <;> omega) | (simp only [Int32.le_iff_toInt_le, Int32.lt_iff_toInt_lt, z_eq, z_in, z_add, z_sub, z_mul, z_neg, z_nI, z_cl, z_sg, z_255, z_lit, Int32.reduceToInt] <;> omega))
        · have hfr : fdF F g (rowL T s1 (wln T n s1)) = nI f := hfr
          have hfp := (of_decide_eq_true hfp).1
          have cf : (nI f).toNatClampNeg = f := nI_clamp (by omega)
          rw [hfr] at e0 ⊢
          rw [cf] at e0
          by_cases c1 : f < fr
          · rw [if_pos (Or.inr (Or.inr (Or.inl c1)))] at e0
            exact br_t (by (first | omega | (simp (disch := omega) only [Int32.le_iff_toInt_le, Int32.lt_iff_toInt_lt, z_eq, z_in, nI_toInt, z_cl, z_m1, z_sg, z_255, Int32.reduceToInt] <;> omega) | (simp only [Int32.le_iff_toInt_le, Int32.lt_iff_toInt_lt, z_eq, z_in, z_add, z_sub, z_mul, z_neg, z_nI, z_cl, z_sg, z_255, z_lit, Int32.reduceToInt] <;> omega))) (bad e0 _ _ _ Y (FrR.refl Y) a5 a6)
          refine br_f (by (first | omega | (simp (disch := omega) only [Int32.le_iff_toInt_le, Int32.lt_iff_toInt_lt, z_eq, z_in, nI_toInt, z_cl, z_m1, z_sg, z_255, Int32.reduceToInt] <;> omega) | (simp only [Int32.le_iff_toInt_le, Int32.lt_iff_toInt_lt, z_eq, z_in, z_add, z_sub, z_mul, z_neg, z_nI, z_cl, z_sg, z_255, z_lit, Int32.reduceToInt] <;> omega))) (s_misses a2 a3 a4 (by omega) (by omega) ?_)
          by_cases c2 : missF F g fr f = true
          · rw [if_pos (Or.inr (Or.inr (Or.inr c2)))] at e0
            rw [if_pos c2]
            exact br_f (by decide) (bad e0 _ _ _ Y (FrR.refl Y) a5 a6)
          rw [if_neg (by
            rintro (u | u | u | u)
            · exact cw u
            · exact nI_nm1 (by omega) u
            · exact c1 u
            · exact c2 u)] at e0
          rw [if_neg c2]
          have h1 := hY'.go (show s1 ≤ s1 + wln T n s1 by omega) hw
          have hs2 := @skip_le T n (s1 + wln T n s1) hw
          have hg2 := skip_ge T n (s1 + wln T n s1)
          refine br_t rfl (nm_r (e' := setI Y 0 16 (nI (s1 + wln T n s1))) (by rw [a5, nI_add]) (nm_r (e' := nI (f + 1)) (nI_1 f) ?_))
          refine s_wantSign h1.1 h1.2.2.2.2.1 hw (by decide) (fun _ b1 b2 => ?_) (fun _ c3 => ?_) (fun u => absurd a6 u)
          · rw [if_neg (fun u => u ⟨b1, b2⟩)] at e0
            have h2 := h1.go (show s1 + wln T n s1 ≤ skip T n (s1 + wln T n s1) + 1 by omega) (by omega)
            have f2' : FrR x0 (setI (setI Y 0 16 (nI (s1 + wln T n s1))) 0 16 (nI (skip T n (s1 + wln T n s1) + 1))) := (fx.trans (FrR.i (by decide))).trans (FrR.i (by decide))
            generalize hk3 : skip T n (s1 + wln T n s1) + 1 = k3 at *
            generalize hZ : setI (setI Y 0 16 (nI (s1 + wln T n s1))) 0 16 (nI k3) = Z at *
            -- behind the value
            have c173 : ∀ W, outR Z W T n F k3 (pVals T n F P k3 p f L2) → ∀ l5, j_Mod_readGroup_173 post SG SR SV R (nI p) g (nI (f + 1)) 0 l5 (nI f) W := by
              intro W o l5
              generalize hV : pVals T n F P k3 p f L2 = V at *
              have fW := f2'.trans o.1
              unfold j_Mod_readGroup_173
              rcases o.2 with ⟨o1, o2, o3, s3, o4⟩ | ⟨o1, o2, j, o3, o4⟩
              · rw [if_neg (fun u => u o1)] at e0
                have hk4 := o4.2.2.2.2.2.2.2.1
                have hs4 := @skip_le T n V.2.1 hk4
                have hg4 := skip_ge T n V.2.1
                refine s_blanks o4.1 o4.2.2.2.2.1 (by omega) (bn_t o4.2.2.2.2.2.1 ?_)
                have h4 := o4.go hg4 hs4
                refine s_look h4.1 h4.2.2.2.2.1 (by omega) ?_
                by_cases c5 : skip T n V.2.1 < n ∧ T (skip T n V.2.1) = 125
                · rw [if_pos c5] at e0
                  rw [if_pos c5.1]
                  exact bn_t c5.2 (ends _ (skip T n V.2.1) (f + 1) V.2.2 s3 (fW.trans (FrR.i (by decide))) h4 c5.1 (by omega) (by omega) (by omega) e0)
                · rw [if_neg c5] at e0
                  refine bn_f (fun u => ?_) ?_
                  · by_cases c6 : skip T n V.2.1 < n
                    · rw [if_pos c6] at u; exact c5 ⟨c6, u⟩
                    · rw [if_neg c6] at u; exact absurd u (by decide)
                  · unfold j_Mod_readGroup_201
                    refine s_wantSign h4.1 h4.2.2.2.2.1 hs4 (by decide) (fun _ d1 d2 => ?_) (fun _ d1 => ?_) (fun u => absurd h4.2.2.2.2.2.1 u)
                    · rw [skip_skip] at d1 d2 ⊢
                      rw [if_pos ⟨d1, d2⟩] at e0
                      refine ih _ _ _ _ _ ⟨rfl, rfl, Or.inl ⟨d, _, f + 1, false, V.2.2, s3, rfl, rfl, (fW.trans (FrR.i (by decide))).trans (FrR.i (by decide)), h4.go (by omega) (by omega), by omega, by omega, by omega, by omega, e0⟩⟩ ?_
                      rw [if_pos f2.2.2.2.2.2.1, if_pos (show fI (setI (setI W 0 16 (nI (skip T n V.2.1))) 0 16 (nI (skip T n V.2.1 + 1))) 0 17 = -1 from o4.2.2.2.2.2.1), nI_clamp (by omega), nI_clamp (by omega)]
                      omega
                    · rw [skip_skip] at d1 ⊢
                      rw [if_neg d1] at e0
                      have nn : ¬ nI (skip T n V.2.1) = -1 := nI_nm1 (by omega)
                      refine ih _ _ _ _ _ ⟨rfl, rfl, Or.inr ⟨((fW.trans (FrR.i (by decide))).trans (FrR.i (by decide))).trans (FrR.i (by decide)), by rw [e0]; exact nn, by rw [e0]; rfl, skip T n V.2.1, by omega, rfl⟩⟩ ?_
                      rw [if_pos f2.2.2.2.2.2.1, if_neg (show ¬ fI (setI (setI (setI W 0 16 (nI (skip T n V.2.1))) 0 16 (nI (skip T n V.2.1))) 0 17 (nI (skip T n V.2.1))) 0 17 = -1 from nn), nI_clamp (by omega)]
                      omega
              · rw [if_pos o1] at e0
                have TW := h2.1.r o.1
                have e17 : fI W 0 17 ≠ -1 := by rw [o2]; exact o1
                refine s_blanks TW o4 (by omega) (bn_f e17 ?_)
                unfold j_Mod_readGroup_201
                refine s_wantSign_i (TW.I (by decide)) rfl (Nat.le_trans (skip_b o3 (by omega)) (by omega)) e17 ?_
                refine ih _ _ _ _ _ ⟨rfl, rfl, Or.inr ⟨(fW.trans (FrR.i (by decide))).trans (FrR.i (by decide)), by rw [e0]; exact o1, by rw [e0]; exact o2, _, skip_b (skip_b o3 (by omega)) (by omega), rfl⟩⟩ ?_
                rw [if_pos f2.2.2.2.2.2.1, if_neg (show ¬ fI (setI (setI W 0 16 (nI (skip T n j))) 0 16 (nI (skip T n (skip T n j)))) 0 17 = -1 from e17), nI_clamp (by omega)]
                omega
            refine br_t h2.2.2.2.2.2.1 ?_
            unfold wp_Mod_place
            dsimp only
            rw [show (128 : Int32) * 0 + nI f = nI f by rw [Int32.mul_zero, Int32.zero_add], h2.2.1 3, rA_nI (by omega), show fA Z 3 f = fKd F f by have := (h2.2.2.1.2.2.1 f hf).1; rw [show 128 * 0 + f = f by omega] at this; exact this]
            refine ⟨vp_in_nI (by show _ < 384; omega) (by decide), fun u => ?_, fun u => ?_⟩
            · have ev : pVals T n F P k3 p f L2 = pVal T n F P k3 p f L2 := by unfold pVals; rw [if_neg u]
              exact hv f hf hfp _ Z k3 L2 s2 h2 (by omega) (fun W o => c173 W (by rw [ev]; exact o) _)
            · exact hr f hf hfp u _ Z k3 L2 s2 h2 (by omega) (fun W o => c173 W o _)
          · rw [if_pos c3] at e0
            have nn : ¬ nI (skip T n (s1 + wln T n s1)) = -1 := nI_nm1 (by omega)
            exact br_f (show ¬ fI (setI (setI (setI Y 0 16 (nI (s1 + wln T n s1))) 0 16 (nI (skip T n (s1 + wln T n s1)))) 0 17 (nI (skip T n (s1 + wln T n s1)))) 0 17 = -1 from nn) (err _ (((fx.trans (FrR.i (by decide))).trans (FrR.i (by decide))).trans (FrR.i (by decide))) (by rw [e0]; rfl) (by rw [e0]; exact nn) ⟨_, by omega, rfl⟩)
    by_cases cb : b = true
    · refine br_f (by rw [if_pos cb]; decide) (s_look a1 a5 (by omega) ?_)
      by_cases c5 : s1 < n ∧ T s1 = 125
      · rw [if_pos ⟨cb, c5⟩] at e0
        rw [if_pos c5.1]
        exact bn_t c5.2 (ends Y s1 fr L2 s2 fx hY' c5.1 (by omega) (by omega) (by omega) e0)
      · refine bn_f (fun u => ?_) (m44 (fun z => c5 z.2) _)
        by_cases c6 : s1 < n
        · rw [if_pos c6] at u; exact c5 ⟨c6, u⟩
        · rw [if_neg c6] at u; exact absurd u (by decide)
    · exact br_t (by rw [if_neg cb]) (m44 (fun z => cb z.1) _)
  · unfold j_Mod_readGroup_11
    exact bn_f (by rw [he.2.2.1]; exact he.2.1) (q y ⟨he.1, Or.inr ⟨he.2.1, he.2.2.1, he.2.2.2⟩⟩)
/-- reading a group, so deep -/
theorem s_grp {T : Nat → Int32} {n : Nat} {F : List SFd} : ∀ D d, 3 * D ≤ d → okG T n F D (wr_Mod_readGroup d).1 := by
  intro D
  induction D with
  | zero =>
    intro d _ post x k p g L s h hg hd
    have := depI_le h.2.2.2.1 hg
    omega
  | succ D ih =>
    intro d hd post x k p g L s h hg hdep q
    have hw := h.2.2.2.1
    have hk := h.2.2.2.2.2.2.2.1
    have hn := h.2.2.2.2.2.2.2.2.1
    have hs := @skip_le T n k hk
    have hsg := skip_ge T n k
    obtain ⟨d1, rfl⟩ : ∃ d1, d = d1 + 3 := ⟨d - 3, by omega⟩
    show wb_Mod_readGroup post (wr_Mod_readGroup (d1 + 2)).1 (wr_Mod_readGroup (d1 + 2)).2.1 (wr_Mod_readGroup (d1 + 2)).2.2 (nI p) g x
    have sub : ∀ f, f < F.length → fPa F f = g → fTy F f = 4 → 18 ≤ D + upS wOne (fPa F) (nI f) := by
      intro f hf e _
      rw [upS_at hw.2.2.1 hf, e]
      show 18 ≤ D + (1 + _)
      omega
    have hv : ∀ d2, 3 * D ≤ d2 → ∀ f, f < F.length → fPa F f = g → okV T n F (pGrp T n F D) p f (wr_Mod_readGroup (d2 + 1)).2.2 := by
      intro d2 h2 f hf e post x k L s h hb q
      exact s_value (ih d2 h2) h hf hb (sub f hf e) q
    have e0 : pGrp T n F (D + 1) k g p L = if skip T n k < n ∧ T (skip T n k) = 123 then pFld T n F (pGrp T n F D) g p 200 (skip T n k + 1) 0 true L else (nI (skip T n k), skip T n k, L) := rfl
    unfold wb_Mod_readGroup
    refine s_wantSign h.1 h.2.2.2.2.1 hk (by decide) (fun _ a b => ?_) (fun _ c => ?_) (fun z => absurd h.2.2.2.2.2.1 z)
    · rw [if_pos ⟨a, b⟩] at e0
      rw [e0] at q
      have hb := h.2.2.2.2.2.2.2.2.2.1
      exact s_flds (D := D) hg.ok (hv (d1 + 1) (by omega)) (fun f hf e e2 post x k L s h hb q => s_row (hv d1 (by omega) f hf e) h hb e2 q) (FrR.i (by decide)) (show k < skip T n k + 1 by omega) (h.go (by omega) (by omega)) (by omega) q
    · rw [if_neg c] at e0
      rw [e0] at q
      have nn : ¬ nI (skip T n k) = -1 := nI_nm1 (by omega)
      refine ⟨1, ?_⟩
      show j_Mod_readGroup_11 post _ _ _ _ _ _ _ _ _
      unfold j_Mod_readGroup_11
      exact bn_f (show ¬ fI (setI (setI x 0 16 (nI (skip T n k))) 0 17 (nI (skip T n k))) 0 17 = -1 from nn) (q _ ⟨(FrR.i (by decide)).trans (FrR.i (by decide)), Or.inr ⟨nn, rfl, skip T n k, by omega, rfl⟩⟩)
