/-! the truth of a condition, model -/
def StkR (a : Nat → Int32) : List Nat → Prop
  | [] => True
  | t :: st => a st.length = nI t ∧ t < 8 ∧ StkR a st
theorem StkR.upd {a : Nat → Int32} {j : Nat} {v : Int32} : ∀ {st : List Nat}, st.length ≤ j → StkR a st → StkR (upd a j v) st := by
  intro st
  induction st with
  | nil => intro _ _; exact trivial
  | cons t st ih =>
    intro hj h
    have hj : st.length + 1 ≤ j := hj
    exact ⟨by rw [upd_ne (by omega)]; exact h.1, h.2.1, ih (by omega) h.2.2⟩
abbrev Fg96 (x y : St) : Prop := Fg no2 no2 no2 (fun a => a = 96) no1 x y
section
variable {x : St} {s : Nat} {Q : Qy}
theorem s_cond {post : Int32 → St → Prop} {l1 : Int32} {tv : QSt → Nat} (hL : LM x) (hs : s < 3) (h117 : fI x 0 117 = nI s) (hQ : SqM x s Q) (hne : Q.2.2.1 ≠ []) (hg : hgt Q.2.2.1 0 = some 1) (hk : ∀ t, t ∈ Q.2.2.1 → 0 ≤ t.1 ∧ t.1 ≤ 7) (h8 : ∀ t, tv t < 8)
    (hT : ∀ i, i < Q.2.2.1.length → ¬ 5 ≤ (Q.2.2.1.getD i (0, 0, 0, 0, 0)).1 → ∀ (y : St) (P : Int32 → St → Prop), Fg96 x y → P (nI (tv (Q.2.2.1.getD i (0, 0, 0, 0, 0)))) y → ((¬ l1 = -1 → wp_Mod_truthOf P (nI (64 * s + i)) l1 y) ∧ (l1 = -1 → wp_Mod_canOf P (nI (64 * s + i)) y)))
    (p : ∀ y, Fg96 x y → post (nI (cnd tv Q.2.2.1)) y) : wp_Mod_condition post l1 x := by
  obtain ⟨-, -, ⟨q1, q64l, q3⟩, -⟩ := hQ
  have l79 : fN x 79 = 12 := hL 79
  have l84 : fN x 84 = 192 := hL 84
  have l96 : fN x 96 = 64 := hL 96
  obtain ⟨V, hV⟩ : ∃ V, V = evl tv Q.2.2.1 [] := ⟨_, rfl⟩
  unfold wp_Mod_condition
  refine lp_Mod_condition_4 (fun b1 b2 b3 y => l1 = b1 ∧ ∃ k st, k ≤ Q.2.2.1.length ∧ nI k = b3 ∧ nI st.length = b2 ∧ st.length ≤ k ∧ StkR (fA y 96) st ∧ evl tv (Q.2.2.1.drop k) st = V ∧ hgt (Q.2.2.1.drop k) st.length = some 1 ∧ Fg96 x y) (fun _ _ b3 _ => Q.2.2.1.length - b3.toNatClampNeg) ?_ _ _ _ _ ⟨rfl, 0, [], Nat.zero_le _, rfl, rfl, Nat.le_refl _, trivial, hV.symm, hg, Fg.refl x⟩
  rintro R b1 b2 b3 y ⟨rfl, k, st, hkl, rfl, rfl, hlk, hS, hE, hH, f⟩ ih
  have yI : fI y 0 117 = nI s := (f.1 0 117 (fun z => z)).trans h117
  have yN : ∀ a, fN y a = fN x a := fun a => congrFun f.2.2.2.2.2 a
  have y79 : fA y 79 = fA x 79 := f.2.2.2.1 79 (by decide)
  have y84 : fA y 84 = fA x 84 := f.2.2.2.1 84 (by decide)
  unfold j_Mod_condition_4
  rw [yI, q42, yN, l79, rA_nI (by omega), y79, q1]
  refine ⟨vp_in_nI (by omega) (by decide), ?_⟩
  by_cases c : k < Q.2.2.1.length
  · refine br_f (by (first | omega | (simp (disch := omega) only [Int32.le_iff_toInt_le, Int32.lt_iff_toInt_lt, z_eq, z_in, nI_toInt, z_cl, z_m1, z_sg, z_255, Int32.reduceToInt] <;> omega) | (simp only [Int32.le_iff_toInt_le, Int32.lt_iff_toInt_lt, z_eq, z_in, z_add, z_sub, z_mul, z_neg, z_nI, z_cl, z_sg, z_255, z_lit, Int32.reduceToInt] <;> omega))) ?_
    have ed : Q.2.2.1.drop k = Q.2.2.1.getD k (0, 0, 0, 0, 0) :: Q.2.2.1.drop (k + 1) := by
      rw [List.drop_eq_getElem_cons c, List.getD_eq_getElem?_getD, List.getElem?_eq_getElem c]
      rfl
    have hm : Q.2.2.1.getD k (0, 0, 0, 0, 0) ∈ Q.2.2.1 := by
      rw [List.getD_eq_getElem?_getD, List.getElem?_eq_getElem c]
      exact List.getElem_mem c
    have kd := hk _ hm
    have r0 := (q3 k c).1
    have hTk := hT k c
    rw [ed] at hE hH
    generalize hst : Q.2.2.1.getD k (0, 0, 0, 0, 0) = t at *
    rw [q64]
    refine nm_e ?_
    rw [yN, l84]
    refine ⟨vp_in_nI (by omega) (by decide), nm_r (show _ = t.1 from by rw [rA_nI (by omega), y84]; exact r0) ?_⟩
    -- one step further
    have nx : ∀ (st2 : List Nat) (z : St) (w : Int32), w = nI st2.length → st2.length ≤ k + 1 → StkR (fA z 96) st2 → evl tv (Q.2.2.1.drop (k + 1)) st2 = V → hgt (Q.2.2.1.drop (k + 1)) st2.length = some 1 → Fg96 x z → ∀ l4 l5, j_Mod_condition_148 post R l1 w (nI k) l4 l5 z := by
      intro st2 z w ew h1 h2 h3 h4 h5 l4 l5
      unfold j_Mod_condition_148
      rw [nI_1, ew]
      refine ih _ _ _ _ ⟨rfl, k + 1, st2, c, rfl, rfl, h1, h2, h3, h4, h5⟩ ?_
      rw [nI_clamp (by omega), nI_clamp (by omega)]
      omega
    unfold evl at hE
    unfold hgt at hH
    by_cases c5 : 5 ≤ t.1
    · refine br_t c5 ?_
      by_cases e5 : t.1 = 5
      · rw [if_pos e5] at hE hH
        refine bn_t e5 ?_
        match st, hlk, hS, hE, hH with
        | [], _, _, _, hH => exact absurd hH (by simp)
        | a :: st, hlk, hS, hE, hH =>
          have hlk : st.length + 1 ≤ k := hlk
          have hH : (if st.length + 1 = 0 then none else hgt (Q.2.2.1.drop (k + 1)) (st.length + 1)) = some 1 := hH
          rw [if_neg (by omega)] at hH
          have e1 : nI (a :: st).length - 1 = nI st.length := by show nI (st.length + 1) - nI 1 = _; rw [nI_sub (by omega), Nat.add_sub_cancel]
          have cl : (nI st.length).toNatClampNeg = st.length := nI_clamp (by omega)
          rw [e1, yN, l96, rA_nI (by omega), hS.1]
          have iv : vp_in (nI st.length) 64 := vp_in_nI (by omega) (by decide)
          refine ⟨iv, s_not hS.2.1 ?_⟩
          rw [yN, l96]
          refine ⟨iv, nm_e (nx (sNot a :: st) _ _ rfl (by show st.length + 1 ≤ k + 1; omega) ⟨?_, sNot_lt a, ?_⟩ hE hH (f.trans (Fg.a rfl)) _ _)⟩
          · show upd (fA y 96) (nI st.length).toNatClampNeg _ st.length = _
            rw [cl, upd_at]
          · show StkR (upd (fA y 96) (nI st.length).toNatClampNeg _) st
            rw [cl]
            exact hS.2.2.upd (Nat.le_refl _)
      · rw [if_neg e5] at hE hH
        have e67 : t.1 = 6 ∨ t.1 = 7 := by
          have := kd.2
          generalize t.1 = w at *
          clear hTk hE hH nx hS
          (first | omega | (simp (disch := omega) only [Int32.le_iff_toInt_le, Int32.lt_iff_toInt_lt, z_eq, z_in, nI_toInt, z_cl, z_m1, z_sg, z_255, Int32.reduceToInt] at * <;> omega) | (simp only [Int32.le_iff_toInt_le, Int32.lt_iff_toInt_lt, z_eq, z_in, z_add, z_sub, z_mul, z_neg, z_nI, z_cl, z_sg, z_255, z_lit, Int32.reduceToInt] at * <;> omega))
        rw [if_pos e67] at hE hH
        refine bn_f e5 ?_
        match st, hlk, hS, hE, hH with
        | [], _, _, _, hH => exact absurd hH (by simp)
        | [_], _, _, _, hH => exact absurd hH (by simp)
        | c1 :: a :: st, hlk, hS, hE, hH =>
          have hlk : st.length + 1 + 1 ≤ k := hlk
          have hH : (if st.length + 1 + 1 < 2 then none else hgt (Q.2.2.1.drop (k + 1)) (st.length + 1 + 1 - 1)) = some 1 := hH
          rw [if_neg (by omega), Nat.add_sub_cancel] at hH
          have e0 : nI (c1 :: a :: st).length + -1 = nI (st.length + 1) := by
            show nI (st.length + 1 + 1) + -1 = _
            rw [show (-1 : Int32) = -nI 1 from rfl, ← Int32.sub_eq_add_neg, nI_sub (by omega), Nat.add_sub_cancel]
          have e1 : nI (st.length + 1) - 1 = nI st.length := by show nI (st.length + 1) - nI 1 = _; rw [nI_sub (by omega), Nat.add_sub_cancel]
          have cl : (nI st.length).toNatClampNeg = st.length := nI_clamp (by omega)
          have s1 : fA y 96 (st.length + 1) = nI c1 := hS.1
          have s2 : fA y 96 st.length = nI a := hS.2.2.1
          rw [e0, e1, yN, l96, rA_nI (by omega), rA_nI (by omega), s1, s2]
          have iv : vp_in (nI st.length) 64 := vp_in_nI (by omega) (by decide)
          have fin : ∀ w, w < 8 → w = (if t.1 = 6 then sAnd a c1 else sOr a c1) → (vp_in (nI st.length) (fN y 96) ∧ ∀ z : St, z = setA y 96 (nI st.length) (nI w) → j_Mod_condition_148 post R l1 (nI (st.length + 1)) (nI k) (nI (64 * s + k)) t.1 z) := by
            intro w w8 ew
            rw [yN, l96]
            refine ⟨iv, nm_e (nx (w :: st) _ _ rfl (by show st.length + 1 ≤ k + 1; omega) ⟨?_, w8, ?_⟩ (by rw [ew]; exact hE) hH (f.trans (Fg.a rfl)) _ _)⟩
            · show upd (fA y 96) (nI st.length).toNatClampNeg _ st.length = _
              rw [cl, upd_at]
            · show StkR (upd (fA y 96) (nI st.length).toNatClampNeg _) st
              rw [cl]
              exact hS.2.2.2.2.upd (Nat.le_refl _)
          refine ⟨iv, vp_in_nI (by omega) (by decide), ?_⟩
          unfold j_Mod_condition_144
          by_cases e6 : t.1 = 6
          · refine bn_t e6 (s_both1 hS.2.2.2.1 hS.2.1 (fin _ (sAnd_lt _ _) (by rw [if_pos e6])))
          · refine bn_f e6 (s_both0 hS.2.2.2.1 hS.2.1 (fin _ (sOr_lt _ _) (by rw [if_neg e6])))
    · refine br_f c5 ?_
      have n5 : ¬ t.1 = 5 := fun z => c5 (by rw [z]; decide)
      have n67 : ¬ (t.1 = 6 ∨ t.1 = 7) := fun z => c5 (by rcases z with z | z <;> rw [z] <;> decide)
      rw [if_neg n5, if_neg n67] at hE hH
      have cl : (nI st.length).toNatClampNeg = st.length := nI_clamp (by omega)
      refine hTk c5 y _ f ?_
      unfold j_Mod_condition_73
      rw [yN, l96]
      refine ⟨vp_in_nI (by omega) (by decide), nm_e (nx (tv t :: st) _ _ (by show nI st.length + 1 = nI (st.length + 1); rw [nI_1]) (by show st.length + 1 ≤ k + 1; omega) ⟨?_, h8 t, ?_⟩ hE hH (f.trans (Fg.a rfl)) _ _)⟩
      · show upd (fA y 96) (nI st.length).toNatClampNeg _ st.length = _
        rw [cl, upd_at]
      · show StkR (upd (fA y 96) (nI st.length).toNatClampNeg _) st
        rw [cl]
        exact hS.upd (Nat.le_refl _)
  · have ek : k = Q.2.2.1.length := by omega
    refine br_t (by (first | omega | (simp (disch := omega) only [Int32.le_iff_toInt_le, Int32.lt_iff_toInt_lt, z_eq, z_in, nI_toInt, z_cl, z_m1, z_sg, z_255, Int32.reduceToInt] <;> omega) | (simp only [Int32.le_iff_toInt_le, Int32.lt_iff_toInt_lt, z_eq, z_in, z_add, z_sub, z_mul, z_neg, z_nI, z_cl, z_sg, z_255, z_lit, Int32.reduceToInt] <;> omega))) ?_
    rw [ek, List.drop_length] at hE hH
    have hE : st = V := hE
    have hH : some st.length = some 1 := hH
    injection hH with hH
    match st, hH, hS, hE with
    | [a], _, hS, hE =>
      rw [yN, l96]
      refine ⟨vp_in_nI (n := 0) (by decide) (by decide), ?_⟩
      have e : rA y 96 0 = nI a := hS.1
      rw [e]
      have : cnd tv Q.2.2.1 = a := by unfold cnd; rw [← hV, ← hE]; rfl
      rw [← this]
      exact p y f
end
