/-! a page of the class: levels, bounds -/
theorem App.k {κ : Nat → Nat} {s : Nat} {B C : List Nat} {Pre : St → Prop} {W : (St → Prop) → Nat → Nat → St → Prop} (h : App κ s B C Pre W) : ∃ κ', Kle κ κ' ∧ ∀ κ2, Kle κ' κ2 → ∀ (x : St) (post : Nat → Nat → St → Prop) kb nb, SkS x → Caps x κ → Snk x s B → Pre x → KP κ ≤ kb + KP κ2 → NP κ ≤ nb + NP κ2 → (∀ y k n, SkS y → Caps y κ' → FK s x y → Snk y s (B ++ C) → KP κ' ≤ k + KP κ2 → NP κ' ≤ n + NP κ2 → post k n y) → ∃ k1 n1 k2 n2 : Nat, k1 + k2 = kb ∧ n1 + n2 = nb ∧ W (fun y => post k2 n2 y) k1 n1 x := by
  obtain ⟨κ1, m1, f1⟩ := h
  exact ⟨κ1, m1, fun κ2 m2 x post kb nb hK hC h hp hk hn p => bseq m1 m2 hk hn (fun k1 n1 k2 n2 b1 b2 b3 b4 => f1 x _ k1 n1 hK hC h hp b1 b2 (fun y y1 y2 y3 y4 => p y k2 n2 y1 y2 y3 y4 b3 b4))⟩
theorem k_levels {κ : Nat → Nat} {r most E : Nat} {R : Nat → Int32} {B : List Nat} (hr : stRow r) (hm : most ≤ 17) (hE : E ≤ 1000) (hκ : ∀ t, SnkId t → κ t ≤ roomOf t) : App κ 52 B (lvB R E most) (fun x => RwI x r R E ∧ fI x 45 11 = nI E) (fun post kb nb x => wp_Wrt_putLevels post 45 r (nI most) kb nb x) := by
  have hs : SnkId 52 := by unfold SnkId; decide
  by_cases c0 : most = 0
  · subst c0
    refine (App.nil hκ).cg (fun post kb nb x _ _ _ z => ?_)
    unfold wp_Wrt_putLevels
    exact bn_t rfl z
  · have b5 := bl5 hm
    have ev : lvB R E most = varB (runB R E (bl most)).length ++ runB R E (bl most) := by unfold lvB; rw [if_neg c0]
    rw [ev]
    obtain ⟨κ1, m1, f1⟩ := k_runs (κ := κ) (s := 52) (r := r) (n := E) (w := bl most) (R := R) (B := B) hs hr (by omega) (by omega) hκ
    obtain ⟨κ', m2, f2⟩ := k_tell (κ := κ1) (s := 52) (B := B) (C := runB R E (bl most)) hs (fun t ht => (m1 t ht).2)
    refine ⟨κ', m1.trans m2, fun x post kb nb hK hC h hp hk hn p => ?_⟩
    show wp_Wrt_putLevels post 45 r (nI most) kb nb x
    unfold wp_Wrt_putLevels
    refine bn_f (fun z => c0 (nI_inj (b := 0) (by omega) (by decide) z)) (nm_e ?_)
    refine c_widthOf ?_
    rw [nI_l (by omega), uL_lN (by omega), hp.2]
    refine bseq m1 m2 hk hn (fun k1 n1 k2 n2 b1 b2 b3 b4 => f1 x _ k1 n1 hK hC h hp.1 b1 b2 (fun y y1 y2 y3 y4 => ?_))
    refine ⟨k2, n2, 0, 0, by omega, by omega, f2 y _ k2 n2 (fI x (stC 45 2) 1) y1 y2 y4 (fun hb => ?_) b3 b4 (fun z z1 z2 z3 z4 => p z z1 z2 (FK.trans hs y3 z3) z4)⟩
    exact h.ct hb
/-- bounds of the class -/
abbrev FBd (x y : St) : Prop := FX no2 (fun o k => o = 45 ∧ (k = 13 ∨ k = 14)) no2 no1 no1 no1 x y
theorem FBd.trans {x y z : St} (h : FBd x y) (k : FBd y z) : FBd x z := FX.trans (fun _ _ => id) id (fun _ z => z.elim) h k
theorem FBd.j {x : St} {k : Nat} {v : Int64} (h : k = 13 ∨ k = 14) : FBd x (setJ x 45 k v) := by
  refine ⟨fun _ _ _ => rfl, fun o j c => ?_, fun _ _ _ _ => rfl, fun _ _ _ _ => ⟨rfl, rfl⟩, fun _ _ => rfl, fun _ _ => rfl, fun t r a b => Or.inl ⟨t, a, b⟩⟩
  show (if o = 45 ∧ j = k then v else x.2.1 o j) = _
  rw [if_neg (fun z => c ⟨z.1, by rw [z.2]; exact h⟩)]
theorem gJ_at {x : St} {o k : Nat} {v : Int64} : fJ (setJ x o k v) o k = v := by show (if o = o ∧ k = k then v else _) = _; rw [if_pos ⟨rfl, rfl⟩]
theorem gJ_ne {x : St} {o k p j : Nat} {v : Int64} (h : ¬ (p = o ∧ j = k)) : fJ (setJ x o k v) p j = fJ x p j := by show (if p = o ∧ j = k then v else _) = _; rw [if_neg h]
theorem c_bounds {post : St → Prop} {x : St} {s ty : Nat} {V : Nat → Int64} {P : List PV} (hty : ty < 4) (h : PgC x s ty V P) (hn : P.length ≠ 0) (q : ∀ y, FBd x y → PgC y s ty V P → (y.1 = x.1 ∧ y.2.2 = x.2.2) → fJ y 45 13 = V (mnF ty P (P.length - 1)) → fJ y 45 14 = V (mxF ty P (P.length - 1)) → post y) : wp_Wrt_findBounds post 45 (nI ty) x := by
  have hl := h.2.2.2
  have pg : ∀ {y : St}, y.1 = x.1 → y.2.2 = x.2.2 → PgC y s ty V P := fun {y} e1 e2 => by
    obtain ⟨z1, ⟨z5, z6, z7, z8⟩, z3, z4⟩ := h
    have eI : ∀ o k, fI y o k = fI x o k := fun o k => by show y.1 o k = _; rw [e1]
    have eR : ∀ o k, fR y o k = fR x o k := fun o k => by show y.2.2.1 o k = _; rw [e2]
    have eA : ∀ o, fA y o = fA x o := fun o => by show y.2.2.2.1 o = _; rw [e2]
    have eL : ∀ o, fL y o = fL x o := fun o => by show y.2.2.2.2.1 o = _; rw [e2]
    have eN : ∀ o, fN y o = fN x o := fun o => by show y.2.2.2.2.2 o = _; rw [e2]
    refine ⟨fun r hr => (eN r).trans (z1 r hr), ⟨(eR 45 4).trans z5, (eR 45 6).trans z6, ?_, fun k hk => ?_⟩, (eI 45 12).trans z3, z4⟩
    · unfold RwL; rw [eN, eL]; exact z7
    · have := z8 k hk
      unfold RfC at this ⊢
      rw [eN, eA]; exact this
  have e64 : fN x (stC 45 10) = 1000 := (h.1 64 (by decide)).trans (by decide +kernel)
  unfold wp_Wrt_findBounds
  have e0 : rL x (stC 45 10) 0 = V 0 := by
    rw [show (0 : Int32) = nI 0 from rfl, rL_nI (by decide)]
    exact h.2.1.2.2.1.2.2 0 (by omega)
  refine ⟨by rw [show (0 : Int32) = nI 0 from rfl]; exact vp_in_nI (by omega) (by omega), nm_e ⟨by rw [show (0 : Int32) = nI 0 from rfl]; exact vp_in_nI (by show 0 < fN x (stC 45 10); omega) (by show fN x (stC 45 10) < _; omega), nm_e ?_⟩⟩
  have e0' : ∀ v, rL (setJ x 45 13 v) (stC 45 10) 0 = V 0 := fun v => e0
  rw [e0', e0]
  refine lp_Wrt_findBounds_22 (fun a0 a1 a2 y => 45 = a0 ∧ nI ty = a1 ∧ ∃ k, nI (k + 1) = a2 ∧ k + 1 ≤ P.length ∧ FBd x y ∧ y.1 = x.1 ∧ y.2.2 = x.2.2 ∧ fJ y 45 13 = V (mnF ty P k) ∧ fJ y 45 14 = V (mxF ty P k)) (fun _ _ a2 _ => P.length - a2.toNatClampNeg) ?_ _ _ _ _ ⟨rfl, rfl, 0, rfl, by omega, FBd.trans (FBd.j (Or.inl rfl)) (FBd.j (Or.inr rfl)), rfl, rfl, by rw [gJ_ne (by decide)]; exact gJ_at, gJ_at⟩
  rintro Q a0 a1 a2 y ⟨rfl, rfl, k, rfl, k1, y1, y2, y3, y4, y5⟩ ih
  have m1 := mnF_le (ty := ty) (P := P) k
  have m2 := mxF_le (ty := ty) (P := P) k
  have hy := pg y2 y3
  have f64 : ∀ {z : St}, z.2.2 = x.2.2 → fN z (stC 45 10) = 1000 := fun {z} e => by show z.2.2.2.2.2 _ = _; rw [e]; exact e64
  unfold j_Wrt_findBounds_22
  rw [hy.2.2.1]
  by_cases c : k + 1 < P.length
  · have ev : ∀ {z : St}, z.2.2 = x.2.2 → rL z (stC 45 10) (nI (k + 1)) = V (k + 1) := fun {z} e => by
      rw [rL_nI (by omega)]
      show z.2.2.2.2.1 64 (k + 1) = _
      rw [e]
      exact h.2.1.2.2.1.2.2 (k + 1) c
    have vin : ∀ {z : St}, z.2.2 = x.2.2 → vp_in (nI (k + 1)) (fN z (stC 45 10)) := fun {z} e => by rw [f64 e]; exact vp_in_nI (by omega) (by decide)
    refine br_f (by (first | omega | (simp (disch := omega) only [Int32.le_iff_toInt_le, Int32.lt_iff_toInt_lt, z_eq, z_in, nI_toInt, z_cl, z_m1, z_sg, z_255, Int32.reduceToInt] <;> omega) | (simp only [Int32.le_iff_toInt_le, Int32.lt_iff_toInt_lt, z_eq, z_in, z_add, z_sub, z_mul, z_neg, z_nI, z_cl, z_sg, z_255, z_lit, Int32.reduceToInt] <;> omega))) ⟨vin y3, ?_⟩
    rw [ev y3, y4]
    unfold wp_Wrt_compare
    refine ⟨36, hy.2.1.2.1, 36, hy.2.1.2.1, c_compare hty (hy.2.1.2.2.2 (k + 1) c) (hy.2.1.2.2.2 (mnF ty P k) (by omega)) ?_⟩
    -- the greatest
    have nxt : ∀ z : St, FBd x z → z.1 = x.1 → z.2.2 = x.2.2 → fJ z 45 13 = V (mnF ty P (k + 1)) → fJ z 45 14 = V (mxF ty P k) → j_Wrt_findBounds_58 post Q 45 (nI ty) (nI (k + 1)) z := fun z z1 z2 z3 z4 z5 => by
      have hz := pg z2 z3
      unfold j_Wrt_findBounds_58 j_Wrt_findBounds_86
      refine ⟨vin z3, ?_⟩
      rw [ev z3, z5]
      unfold wp_Wrt_compare
      refine ⟨36, hz.2.1.2.1, 36, hz.2.1.2.1, c_compare hty (hz.2.1.2.2.2 (k + 1) c) (hz.2.1.2.2.2 (mxF ty P k) (by omega)) ?_⟩
      rw [nI_1]
      by_cases e : 0 < cmpV ty (pvd P (k + 1)) (pvd P (mxF ty P k))
      · refine br_f (by rw [Int32.le_iff_toInt_le]; rw [Int32.lt_iff_toInt_lt] at e; show ¬ (cmpV ty (pvd P (k + 1)) (pvd P (mxF ty P k))).toInt ≤ _; omega) ⟨vin z3, nm_e ?_⟩
        rw [ev z3]
        refine ih _ _ _ _ ⟨rfl, rfl, k + 1, rfl, by omega, FBd.trans z1 (FBd.j (Or.inr rfl)), z2, z3, by rw [gJ_ne (by decide)]; exact z4, ?_⟩ (by rw [nI_clamp (by omega), nI_clamp (by omega)]; omega)
        rw [gJ_at]
        simp only [mxF]
        rw [if_pos e]
      · refine br_t (by rw [Int32.le_iff_toInt_le]; rw [Int32.lt_iff_toInt_lt] at e; show (cmpV ty (pvd P (k + 1)) (pvd P (mxF ty P k))).toInt ≤ _; omega) ?_
        refine ih _ _ _ _ ⟨rfl, rfl, k + 1, rfl, by omega, z1, z2, z3, z4, ?_⟩ (by rw [nI_clamp (by omega), nI_clamp (by omega)]; omega)
        simp only [mxF]
        rw [if_neg e]
        exact z5
    by_cases e : cmpV ty (pvd P (k + 1)) (pvd P (mnF ty P k)) < 0
    · refine br_f (by rw [Int32.le_iff_toInt_le]; rw [Int32.lt_iff_toInt_lt] at e; show ¬ _ ≤ (cmpV ty (pvd P (k + 1)) (pvd P (mnF ty P k))).toInt; omega) ⟨vin y3, nm_e ?_⟩
      rw [ev y3]
      refine nxt _ (FBd.trans y1 (FBd.j (Or.inl rfl))) y2 y3 ?_ (by rw [gJ_ne (by decide)]; exact y5)
      rw [gJ_at]
      simp only [mnF]
      rw [if_pos e]
    · refine br_t (by rw [Int32.le_iff_toInt_le]; rw [Int32.lt_iff_toInt_lt] at e; show _ ≤ (cmpV ty (pvd P (k + 1)) (pvd P (mnF ty P k))).toInt; omega) (nxt _ y1 y2 y3 ?_ y5)
      simp only [mnF]
      rw [if_neg e]
      exact y4
  · refine br_t (by (first | omega | (simp (disch := omega) only [Int32.le_iff_toInt_le, Int32.lt_iff_toInt_lt, z_eq, z_in, nI_toInt, z_cl, z_m1, z_sg, z_255, Int32.reduceToInt] <;> omega) | (simp only [Int32.le_iff_toInt_le, Int32.lt_iff_toInt_lt, z_eq, z_in, z_add, z_sub, z_mul, z_neg, z_nI, z_cl, z_sg, z_255, z_lit, Int32.reduceToInt] <;> omega))) (q y y1 hy ⟨y2, y3⟩ ?_ ?_)
    · rw [show P.length - 1 = k by omega]; exact y4
    · rw [show P.length - 1 = k by omega]; exact y5
