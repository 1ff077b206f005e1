/-! values are written, model -/
section
variable {x y : St} {B : List Nat} {Q : List PV}
theorem s_true {post : St → Prop} (hL : LM x) (h : OutM x B) (hB : B.length < 2 ^ 29) (p : ∀ y, FrTl x y → OutM y (B ++ [116, 114, 117, 101]) → post y) : wp_Mod_tellWord post 1953658213 x := by
  refine ⟨9, ?_⟩
  unfold wl_Mod_tellWord_3 j_Mod_tellWord_3 j_Mod_tellWord_31
  refine br_f (by decide) (br_t (by decide) ?_)
  unfold wl_Mod_tellWord_3 j_Mod_tellWord_3 j_Mod_tellWord_31
  refine br_f (by decide) (br_t (by decide) ?_)
  unfold wl_Mod_tellWord_3 j_Mod_tellWord_3 j_Mod_tellWord_31
  refine br_f (by decide) (br_t (by decide) ?_)
  unfold wl_Mod_tellWord_3 j_Mod_tellWord_3 j_Mod_tellWord_31
  refine br_f (by decide) (br_t (by decide) ?_)
  unfold wl_Mod_tellWord_3 j_Mod_tellWord_3 j_Mod_tellWord_31
  refine br_f (by decide) (br_f (by decide) (s_tell (b := 116) hL h (by omega) (by decide) (fun y1 f1 o1 => ?_)))
  unfold wl_Mod_tellWord_3 j_Mod_tellWord_3 j_Mod_tellWord_31
  refine br_f (by decide) (br_f (by decide) (s_tell (b := 114) (f1.lm hL) o1 (by rw [List.length_append]; show B.length + 1 < _; omega) (by decide) (fun y2 f2 o2 => ?_)))
  unfold wl_Mod_tellWord_3 j_Mod_tellWord_3 j_Mod_tellWord_31
  refine br_f (by decide) (br_f (by decide) (s_tell (b := 117) (f2.lm (f1.lm hL)) o2 (by rw [List.length_append, List.length_append]; show B.length + 1 + 1 < _; omega) (by decide) (fun y3 f3 o3 => ?_)))
  unfold wl_Mod_tellWord_3 j_Mod_tellWord_3 j_Mod_tellWord_31
  refine br_f (by decide) (br_f (by decide) (s_tell (b := 101) (f3.lm (f2.lm (f1.lm hL))) o3 (by rw [List.length_append, List.length_append, List.length_append]; show B.length + 1 + 1 + 1 < _; omega) (by decide) (fun y4 f4 o4 => ?_)))
  unfold wl_Mod_tellWord_3 j_Mod_tellWord_3
  refine br_t (by decide) (p y4 (Fg.trans (Fg.trans (Fg.trans f1 f2) f3) f4) ?_)
  rw [List.append_assoc, List.append_assoc, List.append_assoc] at o4
  exact o4
theorem s_false {post : St → Prop} (hL : LM x) (h : OutM x B) (hB : B.length < 2 ^ 29) (p : ∀ y, FrTl x y → OutM y (B ++ [102, 97, 108, 115, 101]) → post y) : wp_Mod_tellWord post 439721161573 x := by
  refine ⟨9, ?_⟩
  unfold wl_Mod_tellWord_3 j_Mod_tellWord_3 j_Mod_tellWord_31
  refine br_f (by decide) (br_t (by decide) ?_)
  unfold wl_Mod_tellWord_3 j_Mod_tellWord_3 j_Mod_tellWord_31
  refine br_f (by decide) (br_t (by decide) ?_)
  unfold wl_Mod_tellWord_3 j_Mod_tellWord_3 j_Mod_tellWord_31
  refine br_f (by decide) (br_t (by decide) ?_)
  unfold wl_Mod_tellWord_3 j_Mod_tellWord_3 j_Mod_tellWord_31
  refine br_f (by decide) (br_f (by decide) (s_tell (b := 102) hL h (by omega) (by decide) (fun y1 f1 o1 => ?_)))
  unfold wl_Mod_tellWord_3 j_Mod_tellWord_3 j_Mod_tellWord_31
  refine br_f (by decide) (br_f (by decide) (s_tell (b := 97) (f1.lm hL) o1 (by rw [List.length_append]; show B.length + 1 < _; omega) (by decide) (fun y2 f2 o2 => ?_)))
  unfold wl_Mod_tellWord_3 j_Mod_tellWord_3 j_Mod_tellWord_31
  refine br_f (by decide) (br_f (by decide) (s_tell (b := 108) (f2.lm (f1.lm hL)) o2 (by rw [List.length_append, List.length_append]; show B.length + 1 + 1 < _; omega) (by decide) (fun y3 f3 o3 => ?_)))
  unfold wl_Mod_tellWord_3 j_Mod_tellWord_3 j_Mod_tellWord_31
  refine br_f (by decide) (br_f (by decide) (s_tell (b := 115) (f3.lm (f2.lm (f1.lm hL))) o3 (by rw [List.length_append, List.length_append, List.length_append]; show B.length + 1 + 1 + 1 < _; omega) (by decide) (fun y4 f4 o4 => ?_)))
  unfold wl_Mod_tellWord_3 j_Mod_tellWord_3 j_Mod_tellWord_31
  refine br_f (by decide) (br_f (by decide) (s_tell (b := 101) (f4.lm (f3.lm (f2.lm (f1.lm hL)))) o4 (by rw [List.length_append, List.length_append, List.length_append, List.length_append]; show B.length + 1 + 1 + 1 + 1 < _; omega) (by decide) (fun y5 f5 o5 => ?_)))
  unfold wl_Mod_tellWord_3 j_Mod_tellWord_3
  refine br_t (by decide) (p y5 (Fg.trans (Fg.trans (Fg.trans (Fg.trans f1 f2) f3) f4) f5) ?_)
  rw [List.append_assoc, List.append_assoc, List.append_assoc, List.append_assoc] at o5
  exact o5
theorem s_digit {post : St → Prop} {d : Nat} (hL : LM x) (h : OutM x B) (hB : B.length < 2 ^ 30) (hd : d < 16) (p : ∀ y, FrTl x y → OutM y (B ++ [hx d]) → post y) : wp_Mod_tellDigit post (nI d) x := by
  unfold wp_Mod_tellDigit j_Mod_tellDigit_21
  by_cases c : d < 10
  · have e : hx d = 48 + d := if_pos c
    rw [e] at p
    rw [show (48 : Int32) + nI d = nI (48 + d) from by rw [show (48 : Int32) = nI 48 from rfl, nI_add]]
    exact br_f (by (first | omega | (simp (disch := omega) only [Int32.le_iff_toInt_le, Int32.lt_iff_toInt_lt, z_eq, z_in, nI_toInt, z_cl, z_m1, z_sg, z_255, Int32.reduceToInt] <;> omega) | (simp only [Int32.le_iff_toInt_le, Int32.lt_iff_toInt_lt, z_eq, z_in, z_add, z_sub, z_mul, z_neg, z_nI, z_cl, z_sg, z_255, z_lit, Int32.reduceToInt] <;> omega))) (s_tell hL h hB (by omega) p)
  · have e : hx d = 87 + d := if_neg c
    rw [e] at p
    rw [show (97 : Int32) + nI d - 10 = nI (87 + d) from by rw [show (97 : Int32) = nI 97 from rfl, nI_add, show (10 : Int32) = nI 10 from rfl, nI_sub (by omega)]; congr 1; omega]
    exact br_t (by (first | omega | (simp (disch := omega) only [Int32.le_iff_toInt_le, Int32.lt_iff_toInt_lt, z_eq, z_in, nI_toInt, z_cl, z_m1, z_sg, z_255, Int32.reduceToInt] <;> omega) | (simp only [Int32.le_iff_toInt_le, Int32.lt_iff_toInt_lt, z_eq, z_in, z_add, z_sub, z_mul, z_neg, z_nI, z_cl, z_sg, z_255, z_lit, Int32.reduceToInt] <;> omega))) (s_tell hL h hB (by omega) p)
theorem by_15 : ∀ c, c < 256 → nI c &&& 15 = nI (c % 16) ∧ nI c >>> ((4 : Int32) &&& 31) = nI (c / 16) := by decide +kernel
theorem qt1_len (c : Nat) : (qt1 c).length ≤ 4 := by
  unfold qt1
  split
  · exact Nat.le_refl _
  · split
    · show 2 ≤ 4; decide
    · show 1 ≤ 4; decide
theorem s_tellText {post : St → Prop} {a : Nat} (hL : LM x) (h : OutM x B) (hP : PoM x Q) (ha : a < Q.length) (hQ : Q.length ≤ 50000) (hq : oF Q Q.length ≤ 160000) (hok : okT (pvd Q a).2) (hB : B.length < 2 ^ 29) (p : ∀ y, FrTl x y → OutM y (B ++ qtB (pvd Q a).2) → post y) : wp_Mod_tellText post (nI a) x := by
  have tl := hok.1
  generalize ht : (pvd Q a).2 = t at *
  have key : ∀ k y, FrTl x y → OutM y (B ++ 39 :: ((t.take k).map (fun v => qt1 (uI v))).flatten) → k ≤ t.length → ∃ nn, wl_Mod_tellText_8 post nn (nI a) (nI k) y := fun k y y1 y2 hk => by
    refine lp_Mod_tellText_8 (fun a0 a1 y => nI a = a0 ∧ FrTl x y ∧ ∃ k, nI k = a1 ∧ k ≤ t.length ∧ OutM y (B ++ 39 :: ((t.take k).map (fun v => qt1 (uI v))).flatten)) (fun _ a1 _ => t.length - a1.toNatClampNeg) ?_ _ _ _ ⟨rfl, y1, k, rfl, hk, y2⟩
    clear y1 y2 hk
    rintro R a0 a1 y ⟨rfl, y1, k, rfl, k1, y2⟩ ih
    have hLy := y1.lm hL
    have l55 : fN y 55 = 50000 := hLy 55
    have l56 : fN y 56 = 50000 := hLy 56
    have l57 : fN y 57 = 160000 := hLy 57
    have hPy : PoM y Q := hP.cg (y1.ii (by decide)) (y1.ii (by decide)) (y1.ll id) (y1.aa (by decide)) (y1.aa (by decide)) (y1.aa (by decide))
    obtain ⟨-, g1, g2, g3⟩ := hPy.2.2.2.2 a ha
    rw [ht] at g2 g3
    have fb : ∀ k, k ≤ t.length → ((t.take k).map (fun v => qt1 (uI v))).flatten.length ≤ 4 * k := fun k hk => by
      induction k with
      | zero => exact Nat.zero_le _
      | succ k ih =>
        have := ih (by omega)
        rw [List.take_succ_eq_append_getElem (by omega), List.map_append, List.flatten_append, List.length_append]
        have e : ((List.map (fun v => qt1 (uI v)) [t[k]]).flatten).length ≤ 4 := by
          show (qt1 (uI t[k]) ++ []).length ≤ 4
          rw [List.append_nil]
          exact qt1_len _
        omega
    have lb : (B ++ 39 :: ((t.take k).map (fun v => qt1 (uI v))).flatten).length < 2 ^ 29 + 1025 := by
      rw [List.length_append, List.length_cons]
      have := fb k k1
      omega
    unfold j_Mod_tellText_8
    rw [rA_nI (by omega : a < 2 ^ 31), rA_nI (by omega : a < 2 ^ 31), g1, g2]
    refine ⟨by rw [l56]; exact vp_in_nI (by omega) (by decide), ?_⟩
    by_cases ck : k < t.length
    · have o1 := oF_le (P := Q) (show a + 1 ≤ Q.length by omega)
      have o2 : oF Q (a + 1) = oF Q a + t.length := by rw [← ht]; rfl
      refine br_f (by (first | omega | (simp (disch := omega) only [Int32.le_iff_toInt_le, Int32.lt_iff_toInt_lt, z_eq, z_in, nI_toInt, z_cl, z_m1, z_sg, z_255, Int32.reduceToInt] <;> omega) | (simp only [Int32.le_iff_toInt_le, Int32.lt_iff_toInt_lt, z_eq, z_in, z_add, z_sub, z_mul, z_neg, z_nI, z_cl, z_sg, z_255, z_lit, Int32.reduceToInt] <;> omega))) ⟨by rw [l55]; exact vp_in_nI (by omega) (by decide), ?_⟩
      rw [nI_add]
      refine ⟨by rw [l57]; exact vp_in_nI (by omega) (by decide), nm_r (e' := t.getD k 0) (by rw [rA_nI (by omega)]; exact g3 k ck) ?_⟩
      have hv := hok.2 k ck
      have c256 := uI_by hv
      have ev : t.getD k 0 = nI (uI (t.getD k 0)) := (nI_uI _).symm
      have tk : (t.take (k + 1)).map (fun v => qt1 (uI v)) = (t.take k).map (fun v => qt1 (uI v)) ++ [qt1 (uI (t.getD k 0))] := by
        rw [tk_sn (d := 0) ck, List.map_append]
        rfl
      generalize hc : uI (t.getD k 0) = c at *
      rw [ev]
      have nx : ∀ z, FrTl x z → OutM z (B ++ 39 :: ((t.take k).map (fun v => qt1 (uI v))).flatten ++ qt1 c) → j_Mod_tellText_97 post R (nI a) (nI k) (nI c) z := fun z z1 z2 => by
        unfold j_Mod_tellText_97
        rw [nI_1]
        refine ih _ _ _ ⟨rfl, z1, k + 1, rfl, ck, ?_⟩ (by rw [nI_clamp (by omega), nI_clamp (by omega)]; omega)
        rw [tk, List.flatten_append]
        show OutM z (B ++ 39 :: (_ ++ (qt1 c ++ [])))
        rw [List.append_nil, ← List.cons_append, ← List.append_assoc]
        exact z2
      have esc : (c < 32 ∨ 126 < c) → j_Mod_tellText_44 post R (nI a) (nI k) (nI c) y := fun h => by
        obtain ⟨e1, e2⟩ := by_15 c c256
        have eq : qt1 c = [92, 120, hx (c / 16), hx (c % 16)] := if_pos h
        unfold j_Mod_tellText_44
        rw [e1, e2]
        refine s_tell (b := 92) hLy y2 (by omega) (by decide) (fun z1 f1 o1 => s_tell (b := 120) (f1.lm hLy) o1 (by rw [List.length_append]; show _ + 1 < _; omega) (by decide) (fun z2 f2 o2 => s_digit (f2.lm (f1.lm hLy)) o2 (by rw [List.length_append, List.length_append]; show _ + 1 + 1 < _; omega) (by omega) (fun z3 f3 o3 => s_digit (f3.lm (f2.lm (f1.lm hLy))) o3 (by rw [List.length_append, List.length_append, List.length_append]; show _ + 1 + 1 + 1 < _; omega) (by omega) (fun z4 f4 o4 => nx z4 (Fg.trans y1 (Fg.trans (Fg.trans (Fg.trans f1 f2) f3) f4)) ?_))))
        rw [eq]
        rw [List.append_assoc, List.append_assoc, List.append_assoc] at o4
        exact o4
      by_cases c1 : c < 32
      · exact br_t (by (first | omega | (simp (disch := omega) only [Int32.le_iff_toInt_le, Int32.lt_iff_toInt_lt, z_eq, z_in, nI_toInt, z_cl, z_m1, z_sg, z_255, Int32.reduceToInt] <;> omega) | (simp only [Int32.le_iff_toInt_le, Int32.lt_iff_toInt_lt, z_eq, z_in, z_add, z_sub, z_mul, z_neg, z_nI, z_cl, z_sg, z_255, z_lit, Int32.reduceToInt] <;> omega))) (esc (Or.inl c1))
      refine br_f (by (first | omega | (simp (disch := omega) only [Int32.le_iff_toInt_le, Int32.lt_iff_toInt_lt, z_eq, z_in, nI_toInt, z_cl, z_m1, z_sg, z_255, Int32.reduceToInt] <;> omega) | (simp only [Int32.le_iff_toInt_le, Int32.lt_iff_toInt_lt, z_eq, z_in, z_add, z_sub, z_mul, z_neg, z_nI, z_cl, z_sg, z_255, z_lit, Int32.reduceToInt] <;> omega))) ?_
      by_cases c2 : c ≤ 126
      rotate_left
      · exact br_f (by (first | omega | (simp (disch := omega) only [Int32.le_iff_toInt_le, Int32.lt_iff_toInt_lt, z_eq, z_in, nI_toInt, z_cl, z_m1, z_sg, z_255, Int32.reduceToInt] <;> omega) | (simp only [Int32.le_iff_toInt_le, Int32.lt_iff_toInt_lt, z_eq, z_in, z_add, z_sub, z_mul, z_neg, z_nI, z_cl, z_sg, z_255, z_lit, Int32.reduceToInt] <;> omega))) (esc (Or.inr (by omega)))
      refine br_t (by (first | omega | (simp (disch := omega) only [Int32.le_iff_toInt_le, Int32.lt_iff_toInt_lt, z_eq, z_in, nI_toInt, z_cl, z_m1, z_sg, z_255, Int32.reduceToInt] <;> omega) | (simp only [Int32.le_iff_toInt_le, Int32.lt_iff_toInt_lt, z_eq, z_in, z_add, z_sub, z_mul, z_neg, z_nI, z_cl, z_sg, z_255, z_lit, Int32.reduceToInt] <;> omega))) ?_
      have q1 : qt1 c = if c = 39 ∨ c = 92 then [92, c] else [c] := if_neg (by omega)
      have two : c = 39 ∨ c = 92 → j_Mod_tellText_86 post R (nI a) (nI k) (nI c) y := fun h => by
        rw [if_pos h] at q1
        unfold j_Mod_tellText_86 j_Mod_tellText_92
        refine s_tell (b := 92) hLy y2 (by omega) (by decide) (fun z1 f1 o1 => s_tell (f1.lm hLy) o1 (by rw [List.length_append]; show _ + 1 < _; omega) c256 (fun z2 f2 o2 => nx z2 (Fg.trans y1 (Fg.trans f1 f2)) ?_))
        rw [q1]
        rw [List.append_assoc] at o2
        exact o2
      by_cases c3 : c = 39
      · exact br_t (by rw [c3]; rfl) (two (Or.inl c3))
      refine br_f (fun z => c3 (nI_inj (b := 39) (by omega) (by decide) z)) ?_
      by_cases c4 : c = 92
      · exact bn_t (by rw [c4]; rfl) (two (Or.inr c4))
      refine bn_f (fun z => c4 (nI_inj (b := 92) (by omega) (by decide) z)) ?_
      rw [if_neg (by omega)] at q1
      unfold j_Mod_tellText_92
      exact s_tell hLy y2 (by omega) c256 (fun z1 f1 o1 => nx z1 (Fg.trans y1 f1) (by rw [q1]; exact o1))
    · have e : k = t.length := by omega
      subst e
      refine br_t (by (first | omega | (simp (disch := omega) only [Int32.le_iff_toInt_le, Int32.lt_iff_toInt_lt, z_eq, z_in, nI_toInt, z_cl, z_m1, z_sg, z_255, Int32.reduceToInt] <;> omega) | (simp only [Int32.le_iff_toInt_le, Int32.lt_iff_toInt_lt, z_eq, z_in, z_add, z_sub, z_mul, z_neg, z_nI, z_cl, z_sg, z_255, z_lit, Int32.reduceToInt] <;> omega))) (s_tell (b := 39) hLy y2 (by omega) (by decide) (fun z z1 z2 => p z (Fg.trans y1 z1) ?_))
      rw [List.take_length, List.append_assoc] at z2
      exact z2
  unfold wp_Mod_tellText
  exact s_tell (b := 39) hL h (by omega) (by decide) (fun y y1 y2 => key 0 y y1 y2 (Nat.zero_le _))
theorem s_tellValue {post : St → Prop} {ty a : Nat} (hL : LM x) (h : OutM x B) (hP : PoM x Q) (ha : a < Q.length) (hQ : Q.length ≤ 50000) (hq : oF Q Q.length ≤ 160000) (hty : ty < 4) (hok : okPv ty (pvd Q a)) (hB : B.length < 2 ^ 29) (p : ∀ y, FrTl x y → OutM y (B ++ vlB ty (pvd Q a)) → post y) : wp_Mod_tellValue post (nI ty) (nI a) x := by
  have l54 : fN x 54 = 50000 := hL 54
  have e54 : rL x 54 (nI a) = (pvd Q a).1 := by rw [rL_nI (by omega)]; exact (hP.2.2.2.2 a ha).1
  unfold vlB at p
  unfold wp_Mod_tellValue j_Mod_tellValue_38
  rw [l54, e54]
  by_cases c3 : ty = 3
  · rw [if_pos c3] at p
    exact bn_t (by rw [c3]; rfl) (s_tellText hL h hP ha hQ hq (hok.1 c3).1 hB p)
  rw [if_neg c3] at p
  refine bn_f (fun z => c3 (nI_inj (b := 3) (by omega) (by decide) z)) ?_
  by_cases c0 : ty = 0
  · rw [if_pos c0] at p
    refine bn_t (by rw [c0]; rfl) ⟨vp_in_nI (by omega) (by decide), ?_⟩
    by_cases c1 : (pvd Q a).1 = 1
    · rw [if_pos c1] at p
      exact bn_t ((lg_cmp_eq _ _).mpr c1) (s_true hL h hB p)
    · rw [if_neg c1] at p
      exact bn_f (fun z => c1 ((lg_cmp_eq _ _).mp z)) (s_false hL h hB p)
  · rw [if_neg c0] at p
    exact bn_f (fun z => c0 (nI_inj (b := 0) (by omega) (by decide) z)) ⟨vp_in_nI (by omega) (by decide), s_tellNumber hL h hB p⟩
end
