/-! the truth of a condition, class -/
abbrev FrA (o : Nat) (x y : St) : Prop := Fg (fun a _ => a = o) no2 no2 (fun a => o + 1 ≤ a ∧ a ≤ o + 8) (fun a => a = o + 4) x y
abbrev FgS (o : Nat) (x y : St) : Prop := Fg no2 no2 no2 (fun a => a = o + 6) no1 x y
theorem FgS.fa {o : Nat} {x y : St} (f : FgS o x y) : FrA o x y := f.mono (fun _ _ z => z.elim) (fun _ _ z => z) (fun _ _ z => z) (fun a z => by omega) (fun _ z => z.elim)
section
variable {x y : St} {F : List SFd} {G : List Nat} {K : List ChT} {CK : List (List PgW)} {b dE f r o qo s : Nat} {Q : Qy}
theorem AnC.fa (A : AnC x o qo F G K CK b dE Q) (f : FrA o x y) : AnC y o qo F G K CK b dE Q := by
  obtain ⟨R, h1, h2, h3, h4, h5, h6, h7⟩ := A
  have ho : 128 ≤ o ∧ o ≤ 137 := by rcases h1 with rfl | rfl <;> decide
  have hq : 106 ≤ qo ∧ qo ≤ 117 := by rcases h2 with rfl | rfl <;> decide
  refine ⟨R.cg (fun r hr => by rw [f.len]; exact R.1 r hr) (fun a k ha => f.1 a k (fun z => by omega)) (fun a a1 a2 => f.2.2.2.1 a (fun z => by omega)) (fun a a1 a2 => f.2.2.2.2.1 a (fun z => by omega)), h1, h2, (f.2.2.1 o 14 (fun z => z)).trans h3, (f.2.2.1 o 15 (fun z => z)).trans h4, h5.cg (fun k => f.1 qo k (fun z => by omega)) (fun a a1 a2 => f.2.2.2.1 a (fun z => by omega)) (f.2.2.2.2.1 _ (fun z => by omega)), h6, h7⟩
/-- forms of steps -/
theorem clS_k5 {t : QSt} {v w : Int32} (e : t.1 = v) (e2 : (clS F t).1 = w) (h : 0 ≤ v ∧ v ≤ 7 ∧ (¬ 5 ≤ v → v < 5 ∧ ¬ 9 ≤ w) ∧ (v = 5 → w = 9) ∧ (v = 6 → w = 10) ∧ (v = 7 → w = 11)) : 0 ≤ t.1 ∧ t.1 ≤ 7 ∧ (¬ 5 ≤ t.1 → t.1 < 5 ∧ ¬ 9 ≤ (clS F t).1) ∧ (t.1 = 5 → (clS F t).1 = 9) ∧ (t.1 = 6 → (clS F t).1 = 10) ∧ (t.1 = 7 → (clS F t).1 = 11) := by
  rw [e, e2]
  exact h
theorem clS_kd {L : List QLt} {t : QSt} (h : stW F L t) : 0 ≤ t.1 ∧ t.1 ≤ 7 ∧ (¬ 5 ≤ t.1 → t.1 < 5 ∧ ¬ 9 ≤ (clS F t).1) ∧ (t.1 = 5 → (clS F t).1 = 9) ∧ (t.1 = 6 → (clS F t).1 = 10) ∧ (t.1 = 7 → (clS F t).1 = 11) := by
  rcases h with ⟨f, hf, rfl | rfl⟩ | ⟨f, a, m, hf, hm, ham, hlt, rfl⟩ | ⟨f, op, a, hf, hop, ha, hlt, rfl⟩ | ⟨f, op, g, hf, hop, hg, hty, rfl⟩ | rfl | rfl | rfl
  · exact clS_k5 (v := 0) (w := 6) rfl rfl (by decide)
  · exact clS_k5 (v := 1) (w := 7) rfl rfl (by decide)
  · exact clS_k5 (v := 2) (w := 8) rfl rfl (by decide)
  · have q := (cop_is hop).2.2.2.2
    exact clS_k5 (v := 3) (w := cop (nI op)) rfl rfl ⟨by decide, by decide, fun _ => ⟨by decide, fun z => absurd (Int32.lt_of_le_of_lt z q) (by decide)⟩, fun z => absurd z (by decide), fun z => absurd z (by decide), fun z => absurd z (by decide)⟩
  · have q := (cop_is hop).2.2.2.2
    exact clS_k5 (v := 4) (w := cop (nI op)) rfl rfl ⟨by decide, by decide, fun _ => ⟨by decide, fun z => absurd (Int32.lt_of_le_of_lt z q) (by decide)⟩, fun z => absurd z (by decide), fun z => absurd z (by decide), fun z => absurd z (by decide)⟩
  · exact clS_k5 (v := 5) (w := 9) rfl rfl (by decide)
  · exact clS_k5 (v := 6) (w := 10) rfl rfl (by decide)
  · exact clS_k5 (v := 7) (w := 11) rfl rfl (by decide)
theorem k_cond {post : Int32 → St → Prop} {l1 : Int32} {tv : QSt → Nat} (A : AnC x o qo F G K CK b dE Q) (hne : Q.2.2.1 ≠ []) (h8 : ∀ t, tv t < 8)
    (hT : ∀ i, i < Q.2.2.1.length → (Q.2.2.1.getD i (0, 0, 0, 0, 0)).1 < 5 → ∀ (y : St) (P : Int32 → St → Prop), FgS o x y → P (nI (tv (Q.2.2.1.getD i (0, 0, 0, 0, 0)))) y → ((¬ l1 = -1 → wp_Ans_truthOfTest P o (nI i) l1 y) ∧ (l1 = -1 → wp_Ans_truthsThatCanBe P o (nI i) y)))
    (p : ∀ y, FgS o x y → post (nI (cnd tv Q.2.2.1)) y) : wp_Ans_truthsOf post o l1 x := by
  obtain ⟨c4, c5, c8, c9, c10, c11, c12, c13⟩ := sta A.2.1
  have hg : hgt Q.2.2.1 0 = some 1 := A.2.2.2.2.2.2.1.2.2.2.2.1.resolve_left hne
  obtain ⟨V, hV⟩ : ∃ V, V = evl tv Q.2.2.1 [] := ⟨_, rfl⟩
  unfold wp_Ans_truthsOf
  refine lp_Ans_truthsOf_4 (fun b0 b1 b2 b3 y => o = b0 ∧ l1 = b1 ∧ ∃ k st, k ≤ Q.2.2.1.length ∧ nI k = b3 ∧ nI st.length = b2 ∧ st.length ≤ k ∧ StkR (fA y (o + 6)) st ∧ evl tv (Q.2.2.1.drop k) st = V ∧ hgt (Q.2.2.1.drop k) st.length = some 1 ∧ FgS o x y) (fun _ _ _ b3 _ => Q.2.2.1.length - b3.toNatClampNeg) ?_ _ _ _ _ _ ⟨rfl, rfl, 0, [], Nat.zero_le _, rfl, rfl, Nat.le_refl _, trivial, hV.symm, hg, Fg.refl x⟩
  rintro R b0 b1 b2 b3 y ⟨rfl, rfl, k, st, hkl, rfl, rfl, hlk, hS, hE, hH, f⟩ ih
  have Ay := A.fa f.fa
  have l64 : Q.2.2.1.length ≤ 64 := Ay.2.2.2.2.2.1.2.2.1.2.1
  have h15 := Ay.2.2.2.2.1
  obtain ⟨-, -, ⟨e8, -, sS⟩, -⟩ := Ay.2.2.2.2.2.1
  have q9 := (stq A.2.2.1).2.2.2.2.1
  have n5 := (A.2.2.1.len Ay.1.1).2.2.2.2.1
  have n6 := (A.2.1.len Ay.1.1).2.2.2.2.2.1
  unfold j_Ans_truthsOf_4
  refine ⟨qo, h15, ?_⟩
  rw [e8, c11]
  by_cases c : k < Q.2.2.1.length
  · refine br_f (by (first | omega | (simp (disch := omega) only [Int32.le_iff_toInt_le, Int32.lt_iff_toInt_lt, z_eq, z_in, nI_toInt, z_cl, z_m1, z_sg, z_255, Int32.reduceToInt] <;> omega) | (simp only [Int32.le_iff_toInt_le, Int32.lt_iff_toInt_lt, z_eq, z_in, z_add, z_sub, z_mul, z_neg, z_nI, z_cl, z_sg, z_255, z_lit, Int32.reduceToInt] <;> omega))) ⟨qo, h15, ?_⟩
    have ed : Q.2.2.1.drop k = Q.2.2.1.getD k (0, 0, 0, 0, 0) :: Q.2.2.1.drop (k + 1) := by
      rw [List.drop_eq_getElem_cons c, List.getD_eq_getElem?_getD, List.getElem?_eq_getElem c]
      rfl
    have kd := clS_kd (Ay.2.2.2.2.2.2.1.2.2.2.1 _ (mem_gD (d := (0, 0, 0, 0, 0)) c))
    have r0 := (sS k c).1
    have hTk := hT k c
    rw [ed] at hE hH
    generalize hst : Q.2.2.1.getD k (0, 0, 0, 0, 0) = t at *
    rw [q9, n5]
    refine ⟨vp_in_nI (by omega) (by decide), nm_r (show _ = (clS F t).1 from by rw [rA_nI (by omega)]; exact r0) ?_⟩
    -- one step further
    have nx : ∀ (st2 : List Nat) (z : St) (w : Int32), w = nI st2.length → st2.length ≤ k + 1 → StkR (fA z (o + 6)) st2 → evl tv (Q.2.2.1.drop (k + 1)) st2 = V → hgt (Q.2.2.1.drop (k + 1)) st2.length = some 1 → FgS o x z → ∀ l4, j_Ans_truthsOf_132 post R o l1 w (nI k) l4 z := by
      intro st2 z w ew h1 h2 h3 h4 h5 l4
      unfold j_Ans_truthsOf_132
      rw [nI_1, ew]
      refine ih _ _ _ _ _ ⟨rfl, rfl, k + 1, st2, c, rfl, rfl, h1, h2, h3, h4, h5⟩ ?_
      rw [nI_clamp (by omega), nI_clamp (by omega)]
      omega
    unfold evl at hE
    unfold hgt at hH
    by_cases c5 : 5 ≤ t.1
    · by_cases e5 : t.1 = 5
      · rw [if_pos e5] at hE hH
        rw [kd.2.2.2.1 e5]
        refine br_t (by decide) (bn_t rfl ?_)
        match st, hlk, hS, hE, hH with
        | [], _, _, _, hH => exact absurd hH (by simp)
        | a :: st, hlk, hS, hE, hH =>
          have hlk : st.length + 1 ≤ k := hlk
          have hH : (if st.length + 1 = 0 then none else hgt (Q.2.2.1.drop (k + 1)) (st.length + 1)) = some 1 := hH
          rw [if_neg (by omega)] at hH
          have e1 : nI (a :: st).length - 1 = nI st.length := by show nI (st.length + 1) - nI 1 = _; rw [nI_sub (by omega), Nat.add_sub_cancel]
          have e0 : ¬ nI (a :: st).length ≤ 0 := by
            show ¬ nI (st.length + 1) ≤ 0
            clear hTk nx p ih
            (first | omega | (simp (disch := omega) only [Int32.le_iff_toInt_le, Int32.lt_iff_toInt_lt, z_eq, z_in, nI_toInt, z_cl, z_m1, z_sg, z_255, Int32.reduceToInt] <;> omega) | (simp only [Int32.le_iff_toInt_le, Int32.lt_iff_toInt_lt, z_eq, z_in, z_add, z_sub, z_mul, z_neg, z_nI, z_cl, z_sg, z_255, z_lit, Int32.reduceToInt] <;> omega))
          have cl : (nI st.length).toNatClampNeg = st.length := nI_clamp (by omega)
          refine br_f e0 ?_
          rw [e1, n6, rA_nI (by omega), hS.1]
          have iv : vp_in (nI st.length) 65 := vp_in_nI (by omega) (by decide)
          refine ⟨iv, k_turned hS.2.1 ?_⟩
          rw [n6]
          refine ⟨iv, nm_e (nx (sNot a :: st) _ _ rfl (by show st.length + 1 ≤ k + 1; omega) ⟨?_, sNot_lt a, ?_⟩ hE hH (f.trans (Fg.a rfl)) _)⟩
          · show fA (setA y (o + 6) _ _) (o + 6) st.length = _
            rw [gA_on (by omega)]
          · have : fA (setA y (o + 6) (nI st.length) (nI (sNot a))) (o + 6) = upd (fA y (o + 6)) st.length (nI (sNot a)) := by rw [gA_at, cl]
            rw [this]
            exact hS.2.2.upd (Nat.le_refl _)
      · rw [if_neg e5] at hE hH
        have e67 : t.1 = 6 ∨ t.1 = 7 := by
          have := kd.2.1
          generalize t.1 = w at *
          clear hTk hE hH nx hS kd
          (first | omega | (simp (disch := omega) only [Int32.le_iff_toInt_le, Int32.lt_iff_toInt_lt, z_eq, z_in, nI_toInt, z_cl, z_m1, z_sg, z_255, Int32.reduceToInt] at * <;> omega) | (simp only [Int32.le_iff_toInt_le, Int32.lt_iff_toInt_lt, z_eq, z_in, z_add, z_sub, z_mul, z_neg, z_nI, z_cl, z_sg, z_255, z_lit, Int32.reduceToInt] at * <;> omega))
        rw [if_pos e67] at hE hH
        have k67 : (clS F t).1 = (if t.1 = 6 then 10 else 11) := by
          rcases e67 with e | e
          · rw [kd.2.2.2.2.1 e, e]; rfl
          · rw [kd.2.2.2.2.2 e, e]; rfl
        have w9 : (9 : Int32) ≤ (clS F t).1 ∧ ¬ (clS F t).1 = 9 ∧ ((clS F t).1 = 10 ∨ (clS F t).1 = 11) ∧ ((clS F t).1 = 10 ↔ t.1 = 6) := by
          rcases e67 with e | e
          · rw [kd.2.2.2.2.1 e, e]; decide
          · rw [kd.2.2.2.2.2 e, e]; decide
        refine br_t w9.1 (bn_f w9.2.1 ?_)
        unfold j_Ans_truthsOf_97
        match st, hlk, hS, hE, hH with
        | [], _, _, _, hH => exact absurd hH (by simp)
        | [_], _, _, _, hH => exact absurd hH (by simp)
        | c1 :: a :: st, hlk, hS, hE, hH =>
          have hlk : st.length + 1 + 1 ≤ k := hlk
          have hH : (if st.length + 1 + 1 < 2 then none else hgt (Q.2.2.1.drop (k + 1)) (st.length + 1 + 1 - 1)) = some 1 := hH
          rw [if_neg (by omega), Nat.add_sub_cancel] at hH
          have e0 : nI (c1 :: a :: st).length + -1 = nI (st.length + 1) := by
            show nI (st.length + 1 + 1) + -1 = _
            rw [show (-1 : Int32) = -nI 1 from rfl, ← Int32.sub_eq_add_neg, nI_sub (by omega), Nat.add_sub_cancel]
          have e1 : nI (st.length + 1) - 1 = nI st.length := by show nI (st.length + 1) - nI 1 = _; rw [nI_sub (by omega), Nat.add_sub_cancel]
          have e2 : ¬ nI (c1 :: a :: st).length ≤ 1 := by
            show ¬ nI (st.length + 1 + 1) ≤ 1
            clear hTk nx p ih
            (first | omega | (simp (disch := omega) only [Int32.le_iff_toInt_le, Int32.lt_iff_toInt_lt, z_eq, z_in, nI_toInt, z_cl, z_m1, z_sg, z_255, Int32.reduceToInt] <;> omega) | (simp only [Int32.le_iff_toInt_le, Int32.lt_iff_toInt_lt, z_eq, z_in, z_add, z_sub, z_mul, z_neg, z_nI, z_cl, z_sg, z_255, z_lit, Int32.reduceToInt] <;> omega))
          have cl : (nI st.length).toNatClampNeg = st.length := nI_clamp (by omega)
          have s1 : fA y (o + 6) (st.length + 1) = nI c1 := hS.1
          have s2 : fA y (o + 6) st.length = nI a := hS.2.2.1
          refine br_f e2 ?_
          rw [e0, e1, c11, n6, rA_nI (by omega), rA_nI (by omega), s1, s2]
          have iv : vp_in (nI st.length) 65 := vp_in_nI (by omega) (by decide)
          refine ⟨iv, vp_in_nI (by omega) (by decide), k_join hS.2.2.2.1 hS.2.1 w9.2.2.1 ?_⟩
          rw [n6]
          refine ⟨iv, nm_e (nx ((if t.1 = 6 then sAnd a c1 else sOr a c1) :: st) _ _ rfl (by show st.length + 1 ≤ k + 1; omega) ⟨?_, ?_, ?_⟩ hE hH (f.trans (Fg.a rfl)) _)⟩
          · rw [gA_on (by omega)]
            by_cases e6 : t.1 = 6
            · rw [if_pos (w9.2.2.2.mpr e6), if_pos e6]
            · rw [if_neg (fun z => e6 (w9.2.2.2.mp z)), if_neg e6]
          · split
            · exact sAnd_lt _ _
            · exact sOr_lt _ _
          · have : ∀ v, fA (setA y (o + 6) (nI st.length) v) (o + 6) = upd (fA y (o + 6)) st.length v := fun v => by rw [gA_at, cl]
            rw [this]
            exact hS.2.2.2.2.upd (Nat.le_refl _)
    · have n5' : ¬ t.1 = 5 := fun z => c5 (by rw [z]; decide)
      have n67 : ¬ (t.1 = 6 ∨ t.1 = 7) := fun z => c5 (by rcases z with z | z <;> rw [z] <;> decide)
      rw [if_neg n5', if_neg n67] at hE hH
      obtain ⟨t5, t9⟩ := kd.2.2.1 c5
      have cl : (nI st.length).toNatClampNeg = st.length := nI_clamp (by omega)
      refine br_f t9 (hTk t5 y _ f ?_)
      unfold j_Ans_truthsOf_57
      rw [n6]
      refine ⟨vp_in_nI (by omega) (by decide), nm_e (nx (tv t :: st) _ _ (by show nI st.length + 1 = nI (st.length + 1); rw [nI_1]) (by show st.length + 1 ≤ k + 1; omega) ⟨?_, h8 t, ?_⟩ hE hH (f.trans (Fg.a rfl)) _)⟩
      · rw [gA_on (by omega)]
      · have : ∀ v, fA (setA y (o + 6) (nI st.length) v) (o + 6) = upd (fA y (o + 6)) st.length v := fun v => by rw [gA_at, cl]
        rw [this]
        exact hS.upd (Nat.le_refl _)
  · have ek : k = Q.2.2.1.length := by omega
    refine br_t (by (first | omega | (simp (disch := omega) only [Int32.le_iff_toInt_le, Int32.lt_iff_toInt_lt, z_eq, z_in, nI_toInt, z_cl, z_m1, z_sg, z_255, Int32.reduceToInt] <;> omega) | (simp only [Int32.le_iff_toInt_le, Int32.lt_iff_toInt_lt, z_eq, z_in, z_add, z_sub, z_mul, z_neg, z_nI, z_cl, z_sg, z_255, z_lit, Int32.reduceToInt] <;> omega))) ?_
    rw [ek, List.drop_length] at hE hH
    have hE : st = V := hE
    have hH : some st.length = some 1 := hH
    injection hH with hH
    match st, hH, hS, hE with
    | [a], _, hS, hE =>
      have e : rA y (o + 6) 0 = nI a := hS.1
      have : cnd tv Q.2.2.1 = a := by unfold cnd; rw [← hV, ← hE]; rfl
      refine br_f (by show ¬ nI 1 ≤ 0; decide) ?_
      rw [n6, e]
      refine ⟨vp_in_nI (n := 0) (by decide) (by decide), ?_⟩
      rw [← this]
      exact p y f
theorem k_condR {post : Int32 → St → Prop} (A : AnC x o qo F G K CK b dE Q) (hne : Q.2.2.1 ≠ []) (hr : r < smN G) (p : ∀ y, FgS o x y → post (nI (cnd (tst F Q.2.2.2 (celR F G CK r)) Q.2.2.1)) y) : wp_Ans_truthsOf post o (nI r) x := by
  have h2000 := A.1.2.2.1.2.2.2.2.2.2.2.1
  refine k_cond A hne (fun t => tst_lt) (fun i hi ht y P f h => bn_f (nI_nm1 (by omega)) ?_) p
  exact k_tstR (A.fa f.fa) hi hr ht h
end
