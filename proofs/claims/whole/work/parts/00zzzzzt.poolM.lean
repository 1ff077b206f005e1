/-! the pool of the model: the values that are open -/
def PoM (x : St) (Q : List PV) : Prop := fI x 0 93 = nI Q.length ∧ fI x 0 94 = nI (oF Q Q.length) ∧ Q.length ≤ 50000 ∧ oF Q Q.length ≤ 160000 ∧ ∀ k, k < Q.length → fL x 54 k = (pvd Q k).1 ∧ fA x 55 k = nI (oF Q k) ∧ fA x 56 k = nI (pvd Q k).2.length ∧ ∀ j, j < (pvd Q k).2.length → fA x 57 (oF Q k + j) = (pvd Q k).2.getD j 0
abbrev FrPo (x y : St) : Prop := Fg (fun o k => o = 0 ∧ (k = 93 ∨ k = 94)) no2 no2 (fun a => a = 55 ∨ a = 56 ∨ a = 57) (fun a => a = 54) x y
section
variable {x : St} {Q : List PV}
theorem PoM.cg {y : St} (h : PoM x Q) (e1 : fI y 0 93 = fI x 0 93) (e2 : fI y 0 94 = fI x 0 94) (e3 : fL y 54 = fL x 54) (e4 : fA y 55 = fA x 55) (e5 : fA y 56 = fA x 56) (e6 : fA y 57 = fA x 57) : PoM y Q := by
  unfold PoM
  rw [e1, e2, e3, e4, e5, e6]
  exact h
theorem s_poolAdd {post : Int32 → St → Prop} {v : Int64} {t : List Int32} {r : Nat} {fr : Int32} (hL : LM x) (h : PoM x Q) (hQ : Q.length < 50000) (ho : oF Q Q.length + t.length ≤ 160000) (hr : r ≠ 55 ∧ r ≠ 56 ∧ r ≠ 57)
    (ht : ∀ j, j < t.length → vp_in (fr + nI j) (fN x r) ∧ rA x r (fr + nI j) = t.getD j 0)
    (p : ∀ y, FrPo x y → PoM y (Q ++ [(v, t)]) → post (nI Q.length) y) : wp_Mod_poolAdd post v r fr (nI t.length) x := by
  obtain ⟨h1, h2, h3, h4, h5⟩ := h
  have e54 : fN x 54 = 50000 := hL 54
  have e55 : fN x 55 = 50000 := hL 55
  have e56 : fN x 56 = 50000 := hL 56
  have e57 : fN x 57 = 160000 := hL 57
  unfold wp_Mod_poolAdd
  rw [h1]
  refine ⟨vp_in_nI (by omega) (by omega), nm_e ?_⟩
  rw [show fI (setL x 54 (nI Q.length) v) 0 93 = nI Q.length from h1, show fI (setL x 54 (nI Q.length) v) 0 94 = nI (oF Q Q.length) from h2]
  refine ⟨vp_in_nI (by show _ < fN x 55; omega) (by show fN x 55 < _; omega), nm_e ?_⟩
  rw [show fI (setA (setL x 54 (nI Q.length) v) 55 (nI Q.length) (nI (oF Q Q.length))) 0 93 = nI Q.length from h1]
  refine ⟨vp_in_nI (by show _ < fN x 56; omega) (by show fN x 56 < _; omega), nm_e ?_⟩
  generalize hz : setA (setA (setL x 54 (nI Q.length) v) 55 (nI Q.length) (nI (oF Q Q.length))) 56 (nI Q.length) (nI t.length) = z
  have f1 : FrPo x z := by
    rw [← hz]
    exact Fg.trans (Fg.l rfl) (Fg.trans (Fg.a (Or.inl rfl)) (Fg.a (Or.inr (Or.inl rfl))))
  have zc : (nI Q.length).toNatClampNeg = Q.length := nI_clamp (by omega)
  have z54 : fL z 54 = vp_updL (fL x 54) Q.length v := by rw [← hz]; show vp_updL (fL x 54) (nI Q.length).toNatClampNeg v = _; rw [zc]
  have z55 : fA z 55 = upd (fA x 55) Q.length (nI (oF Q Q.length)) := by rw [← hz, gA_ne (by decide), gA_at, zc]; rfl
  have z56 : fA z 56 = upd (fA x 56) Q.length (nI t.length) := by rw [← hz, gA_at, zc, gA_ne (by decide)]; rfl
  have z57 : fA z 57 = fA x 57 := by rw [← hz, gA_ne (by decide), gA_ne (by decide)]; rfl
  have zI : ∀ k, fI z 0 k = fI x 0 k := fun k => by rw [← hz]; rfl
  have zr : ∀ j, rA z r j = rA x r j := fun j => by
    show fA z r _ = fA x r _
    rw [← hz, gA_ne hr.2.1, gA_ne hr.1]; rfl
  clear hz
  have zN : ∀ o, fN z o = fN x o := fun o => by show z.2.2.2.2.2 o = _; rw [f1.2.2.2.2.2]
  refine lp_Mod_poolAdd_37 (fun a0 a1 a2 a3 a4 y => v = a0 ∧ r = a1 ∧ fr = a2 ∧ nI t.length = a3 ∧ ∃ k, nI k = a4 ∧ k ≤ t.length ∧ Fg no2 no2 no2 (fun a => a = 57) no1 z y ∧ (∀ j, j < oF Q Q.length → fA y 57 j = fA x 57 j) ∧ ∀ j, j < k → fA y 57 (oF Q Q.length + j) = t.getD j 0) (fun _ _ _ _ a4 _ => t.length - a4.toNatClampNeg) ?_ _ _ _ _ _ _ ⟨rfl, rfl, rfl, rfl, 0, rfl, Nat.zero_le _, Fg.refl z, fun j _ => by rw [z57], fun j hj => absurd hj (Nat.not_lt_zero _)⟩
  rintro R a0 a1 a2 a3 a4 y ⟨rfl, rfl, rfl, rfl, k, rfl, k1, y1, y2, y3⟩ ih
  have I0 : ∀ k, fI y 0 k = fI x 0 k := fun k => (y1.1 0 k id).trans (zI k)
  have N0 : ∀ o, fN y o = fN x o := fun o => by show y.2.2.2.2.2 o = _; rw [y1.2.2.2.2.2]; exact zN o
  have n57 := N0 57
  unfold j_Mod_poolAdd_37
  by_cases c : k < t.length
  · obtain ⟨t1, t2⟩ := ht k c
    have er : rA y r (fr + nI k) = t.getD k 0 := by
      rw [← t2, ← zr]
      show fA y r _ = fA z r _
      rw [show fA y r = fA z r from y1.2.2.2.1 r hr.2.2]
    refine br_f (by (first | omega | (simp (disch := omega) only [Int32.le_iff_toInt_le, Int32.lt_iff_toInt_lt, z_eq, z_in, nI_toInt, z_cl, z_m1, z_sg, z_255, Int32.reduceToInt] <;> omega) | (simp only [Int32.le_iff_toInt_le, Int32.lt_iff_toInt_lt, z_eq, z_in, z_add, z_sub, z_mul, z_neg, z_nI, z_cl, z_sg, z_255, z_lit, Int32.reduceToInt] <;> omega))) ⟨by rw [N0 r]; exact t1, ?_⟩
    rw [I0 94, h2, nI_add, er]
    refine ⟨vp_in_nI (by omega) (by omega), nm_e ?_⟩
    rw [nI_1]
    refine ih _ _ _ _ _ _ ⟨rfl, rfl, rfl, rfl, k + 1, rfl, c, Fg.trans y1 (Fg.a rfl), fun j hj => ?_, fun j hj => ?_⟩ (by rw [nI_clamp (by omega), nI_clamp (by omega)]; omega)
    · rw [gA_at, nI_clamp (by omega), upd_ne (by omega)]; exact y2 j hj
    · rw [gA_at, nI_clamp (by omega)]
      by_cases e : j = k
      · rw [e, upd_at]
      · rw [upd_ne (by omega)]; exact y3 j (by omega)
  · have ek : k = t.length := by omega
    subst ek
    refine br_t (by (first | omega | (simp (disch := omega) only [Int32.le_iff_toInt_le, Int32.lt_iff_toInt_lt, z_eq, z_in, nI_toInt, z_cl, z_m1, z_sg, z_255, Int32.reduceToInt] <;> omega) | (simp only [Int32.le_iff_toInt_le, Int32.lt_iff_toInt_lt, z_eq, z_in, z_add, z_sub, z_mul, z_neg, z_nI, z_cl, z_sg, z_255, z_lit, Int32.reduceToInt] <;> omega))) (nm_e (nm_e ?_))
    rw [I0 94, h2, nI_add]
    have e93 : fI (setI y 0 94 (nI (oF Q Q.length + t.length))) 0 93 = nI Q.length := (gI_ne (by decide)).trans ((I0 93).trans h1)
    rw [e93, nI_1]
    have er : fI (setI (setI y 0 94 (nI (oF Q Q.length + t.length))) 0 93 (nI (Q.length + 1))) 0 93 - 1 = nI Q.length := by
      rw [gI_at, show (1 : Int32) = nI 1 from rfl, nI_sub (by omega), Nat.add_sub_cancel]
    rw [er]
    refine p _ (Fg.trans f1 (Fg.trans (y1.mono (fun _ _ z => z.elim) (fun _ _ z => z) (fun _ _ z => z) (fun _ z => Or.inr (Or.inr z)) (fun _ z => z.elim)) (Fg.trans (Fg.i ⟨rfl, by decide⟩) (Fg.i ⟨rfl, by decide⟩)))) ?_
    have hl : (Q ++ [(v, t)]).length = Q.length + 1 := by rw [List.length_append]; rfl
    have Y55 : fA y 55 = upd (fA x 55) Q.length (nI (oF Q Q.length)) := (y1.2.2.2.1 55 (by decide)).trans z55
    have Y56 : fA y 56 = upd (fA x 56) Q.length (nI t.length) := (y1.2.2.2.1 56 (by decide)).trans z56
    have Y54 : fL y 54 = vp_updL (fL x 54) Q.length v := (y1.2.2.2.2.1 54 id).trans z54
    refine ⟨by rw [hl]; exact gI_at, by rw [hl, oF_a2]; exact (gI_ne (by decide)).trans gI_at, by omega, by rw [hl, oF_a2]; exact ho, fun k hk => ?_⟩
    rw [hl] at hk
    show fL y 54 k = _ ∧ fA y 55 k = _ ∧ fA y 56 k = _ ∧ ∀ j, _ → fA y 57 _ = _
    rw [Y55, Y56, Y54, oF_a1 k (by omega)]
    by_cases e : k = Q.length
    · subst e
      rw [pvd_a2, upd_at, upd_at]
      refine ⟨?_, rfl, rfl, fun j hj => y3 j hj⟩
      unfold vp_updL
      rw [if_pos rfl]
    · rw [pvd_a1 (by omega), upd_ne e, upd_ne e]
      obtain ⟨q1, q2, q3, q4⟩ := h5 k (by omega)
      refine ⟨?_, q2, q3, fun j hj => ?_⟩
      · unfold vp_updL
        rw [if_neg e]
        exact q1
      · have := oF_le (P := Q) (show k + 1 ≤ Q.length by omega)
        have e2 : oF Q (k + 1) = oF Q k + (pvd Q k).2.length := rfl
        rw [y2 _ (by omega)]
        exact q4 j hj
theorem s_compare {post : Int32 → St → Prop} {ty a b : Nat} (hL : LM x) (h : PoM x Q) (ha : a < Q.length) (hb : b < Q.length) (hty : ty < 4) (va : okVv ty (pvd Q a)) (vb : okVv ty (pvd Q b)) (p : post (cmpV ty (pvd Q a) (pvd Q b)) x) : wp_Mod_compare post (nI ty) (nI a) (nI b) x := by
  obtain ⟨h1, h2, h3, h4, h5⟩ := h
  have e54 : fN x 54 = 50000 := hL 54
  have e55 : fN x 55 = 50000 := hL 55
  have e56 : fN x 56 = 50000 := hL 56
  have e57 : fN x 57 = 160000 := hL 57
  obtain ⟨a1, a2, a3, a4⟩ := h5 a ha
  obtain ⟨b1, b2, b3, b4⟩ := h5 b hb
  unfold wp_Mod_compare
  unfold cmpV at p
  by_cases c : ty = 3
  · rw [if_pos c] at p
    have la := (va c).1
    have lb := (vb c).1
    refine br_t (by rw [c]; rfl) ?_
    refine lp_Mod_compare_50 (fun a0 a1 a2 a3 y => nI ty = a0 ∧ nI a = a1 ∧ nI b = a2 ∧ x = y ∧ ∃ i, nI i = a3 ∧ i ≤ (pvd Q a).2.length ∧ i ≤ (pvd Q b).2.length ∧ ∀ q, q < i → (pvd Q a).2.getD q 0 = (pvd Q b).2.getD q 0) (fun _ _ _ a3 _ => 257 - a3.toNatClampNeg) ?_ _ _ _ _ _ ⟨rfl, rfl, rfl, rfl, 0, rfl, Nat.zero_le _, Nat.zero_le _, fun q hq => absurd hq (Nat.not_lt_zero _)⟩
    rintro R a0 a1' a2' a3' y ⟨rfl, rfl, rfl, rfl, i, rfl, i1, i2, i3⟩ ih
    have oa := oF_le (P := Q) (show a + 1 ≤ Q.length by omega)
    have ob := oF_le (P := Q) (show b + 1 ≤ Q.length by omega)
    have oa2 : oF Q (a + 1) = oF Q a + (pvd Q a).2.length := rfl
    have ob2 : oF Q (b + 1) = oF Q b + (pvd Q b).2.length := rfl
    have stop : (i = (pvd Q a).2.length ∨ i = (pvd Q b).2.length) → j_Mod_compare_139 post (nI ty) (nI a) (nI b) (nI i) x := fun hi => by
      have ec := cpl_is (s := (pvd Q a).2) (t := (pvd Q b).2) (c := i) i1 i2 i3 (by omega)
      unfold j_Mod_compare_139
      refine ⟨vp_in_nI (by omega) (by omega), vp_in_nI (by omega) (by omega), ?_⟩
      rw [rA_nI (by omega), rA_nI (by omega), a3, b3]
      unfold cmpT at p
      rw [← ec, if_neg (by omega)] at p
      exact p
    unfold j_Mod_compare_50
    rw [rA_nI (o := 56) (k := a) (by omega), rA_nI (o := 56) (k := b) (by omega), a3, b3]
    refine ⟨vp_in_nI (by omega) (by omega), ?_⟩
    by_cases ca : i < (pvd Q a).2.length
    · refine br_f (by (first | omega | (simp (disch := omega) only [Int32.le_iff_toInt_le, Int32.lt_iff_toInt_lt, z_eq, z_in, nI_toInt, z_cl, z_m1, z_sg, z_255, Int32.reduceToInt] <;> omega) | (simp only [Int32.le_iff_toInt_le, Int32.lt_iff_toInt_lt, z_eq, z_in, z_add, z_sub, z_mul, z_neg, z_nI, z_cl, z_sg, z_255, z_lit, Int32.reduceToInt] <;> omega))) ⟨vp_in_nI (by omega) (by omega), ?_⟩
      by_cases cb : i < (pvd Q b).2.length
      · have ra : rA x 57 (rA x 55 (nI a) + nI i) = (pvd Q a).2.getD i 0 := by rw [rA_nI (by omega), a2, nI_add, rA_nI (by omega), a4 i ca]
        have rb : rA x 57 (rA x 55 (nI b) + nI i) = (pvd Q b).2.getD i 0 := by rw [rA_nI (by omega), b2, nI_add, rA_nI (by omega), b4 i cb]
        have va1 : vp_in (nI a) (fN x 55) := vp_in_nI (by omega) (by omega)
        have vb1 : vp_in (nI b) (fN x 55) := vp_in_nI (by omega) (by omega)
        have va2 : vp_in (rA x 55 (nI a) + nI i) (fN x 57) := by rw [rA_nI (by omega), a2, nI_add]; exact vp_in_nI (by omega) (by omega)
        have vb2 : vp_in (rA x 55 (nI b) + nI i) (fN x 57) := by rw [rA_nI (by omega), b2, nI_add]; exact vp_in_nI (by omega) (by omega)
        rw [ra, rb]
        refine br_f (by (first | omega | (simp (disch := omega) only [Int32.le_iff_toInt_le, Int32.lt_iff_toInt_lt, z_eq, z_in, nI_toInt, z_cl, z_m1, z_sg, z_255, Int32.reduceToInt] <;> omega) | (simp only [Int32.le_iff_toInt_le, Int32.lt_iff_toInt_lt, z_eq, z_in, z_add, z_sub, z_mul, z_neg, z_nI, z_cl, z_sg, z_255, z_lit, Int32.reduceToInt] <;> omega))) ⟨va1, va2, vb1, vb2, ?_⟩
        by_cases e : (pvd Q a).2.getD i 0 = (pvd Q b).2.getD i 0
        · refine br_t e ?_
          rw [nI_1]
          refine ih _ _ _ _ _ ⟨rfl, rfl, rfl, rfl, i + 1, rfl, ca, cb, fun q hq => ?_⟩ (by rw [nI_clamp (by omega), nI_clamp (by omega)]; omega)
          by_cases z : q = i
          · rw [z]; exact e
          · exact i3 q (by omega)
        · have ec := cpl_is (s := (pvd Q a).2) (t := (pvd Q b).2) (c := i) i1 i2 i3 (Or.inr (Or.inr e))
          unfold cmpT at p
          rw [← ec, if_pos ⟨ca, cb⟩] at p
          exact br_f e ⟨va1, va2, vb1, vb2, p⟩
      · exact br_t (by (first | omega | (simp (disch := omega) only [Int32.le_iff_toInt_le, Int32.lt_iff_toInt_lt, z_eq, z_in, nI_toInt, z_cl, z_m1, z_sg, z_255, Int32.reduceToInt] <;> omega) | (simp only [Int32.le_iff_toInt_le, Int32.lt_iff_toInt_lt, z_eq, z_in, z_add, z_sub, z_mul, z_neg, z_nI, z_cl, z_sg, z_255, z_lit, Int32.reduceToInt] <;> omega))) (stop (by omega))
    · exact br_t (by (first | omega | (simp (disch := omega) only [Int32.le_iff_toInt_le, Int32.lt_iff_toInt_lt, z_eq, z_in, nI_toInt, z_cl, z_m1, z_sg, z_255, Int32.reduceToInt] <;> omega) | (simp only [Int32.le_iff_toInt_le, Int32.lt_iff_toInt_lt, z_eq, z_in, z_add, z_sub, z_mul, z_neg, z_nI, z_cl, z_sg, z_255, z_lit, Int32.reduceToInt] <;> omega))) (stop (by omega))
  · rw [if_neg c] at p
    refine br_f (fun z => c (nI_inj (b := 3) (by omega) (by decide) z)) ?_
    have va1 : vp_in (nI a) (fN x 54) := vp_in_nI (by omega) (by omega)
    have vb1 : vp_in (nI b) (fN x 54) := vp_in_nI (by omega) (by omega)
    refine ⟨va1, vb1, ?_⟩
    rw [rL_nI (by omega), rL_nI (by omega), a1, b1]
    by_cases c1 : (pvd Q a).1 < (pvd Q b).1
    · rw [if_pos c1] at p
      refine br_f (fun z => ?_) p
      rw [lg_cmp_ge] at z
      rw [Int64.lt_iff_toInt_lt] at c1
      rw [Int64.le_iff_toInt_le] at z
      omega
    · rw [if_neg c1] at p
      refine br_t (by rw [lg_cmp_ge, Int64.le_iff_toInt_le]; rw [Int64.lt_iff_toInt_lt] at c1; omega) ⟨va1, vb1, ?_⟩
      by_cases c2 : (pvd Q b).1 < (pvd Q a).1
      · rw [if_pos c2] at p
        refine br_f (fun z => ?_) p
        rw [lg_cmp_le] at z
        rw [Int64.lt_iff_toInt_lt] at c2
        rw [Int64.le_iff_toInt_le] at z
        omega
      · rw [if_neg c2] at p
        exact br_t (by rw [lg_cmp_le, Int64.le_iff_toInt_le]; rw [Int64.lt_iff_toInt_lt] at c2; omega) p
end
