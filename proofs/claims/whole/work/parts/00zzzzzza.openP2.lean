/-! a page of a column is opened, model -/
abbrev FrOp (x y : St) : Prop := Fg (fun o k => o = 0 ∧ (38 ≤ k ∧ k ≤ 43 ∨ k = 58 ∨ k = 59 ∨ k = 67 ∨ k = 68 ∨ k = 69 ∨ k = 71 ∨ k = 86 ∨ k = 87 ∨ k = 88 ∨ k = 93 ∨ k = 94)) no2 no2 (fun a => a = 28 ∨ a = 29 ∨ a = 34 ∨ a = 35 ∨ a = 37 ∨ a = 38 ∨ a = 44 ∨ a = 45 ∨ a = 46 ∨ a = 48 ∨ a = 49 ∨ a = 55 ∨ a = 56 ∨ a = 57 ∨ a = 58 ∨ a = 59 ∨ a = 60 ∨ 66 ≤ a ∧ a ≤ 74) (fun a => a = 31 ∨ a = 32 ∨ a = 43 ∨ a = 47 ∨ a = 54) x y
section
variable {x : St} {F : List SFd} {T : Nat → Nat} {n c row st p : Nat} {Q P W : List PV} {E : List SEn} {PP : List OPg} {R D : List Nat}
theorem FrPr.op {y : St} (f : FrPr x y) : FrOp x y := f.mono (fun _ _ z => ⟨z.1, by omega⟩) (fun _ _ z => z) (fun _ _ z => z) (fun _ z => by omega) (fun _ z => by omega)
theorem FrOl.op {y : St} (f : FrOl x y) : FrOp x y := f.mono (fun _ _ z => ⟨z.1, by omega⟩) (fun _ _ z => z) (fun _ _ z => z) (fun _ z => by omega) (fun _ z => by omega)
theorem FrPo.op {y : St} (f : FrPo x y) : FrOp x y := f.mono (fun _ _ z => ⟨z.1, by omega⟩) (fun _ _ z => z) (fun _ _ z => z) (fun _ z => by omega) (fun _ z => by omega)
theorem FrOp.fi {y : St} (f : FrOp x y) (h : FiM x T n) : FiM y T n := h.cg (f.2.2.2.1 41 (by decide)) (fun o => by show y.2.2.2.2.2 o = _; rw [f.2.2.2.2.2])
theorem FrOp.rep {y : St} {q : Nat} (f : FrOp x y) (h : RepM x q F) : RepM y q F := by
  have e : ∀ a, 3 ≤ a → a ≤ 11 → fA y a = fA x a := fun a h1 h2 => f.2.2.2.1 a (by omega)
  unfold RepM
  rw [e 3 (by decide) (by decide), e 4 (by decide) (by decide), e 5 (by decide) (by decide), e 6 (by decide) (by decide), e 7 (by decide) (by decide), e 8 (by decide) (by decide), e 9 (by decide) (by decide), e 10 (by decide) (by decide), e 11 (by decide) (by decide)]
  exact h
theorem tyC_ok (hw : WfS F) (hc : c < ncol F) : fTy F (lfC F c) = nI (tyC F c) ∧ tyC F c < 4 := ⟨(ty_lt hw hc).2, (ty_lt hw hc).1⟩
theorem lv17 (hw : WfS F) (hc : c < ncol F) : mrC F c ≤ 17 ∧ mdC F c ≤ 17 := by
  have gk : gOk F.length (nI (lfC F c)) := Or.inr ⟨_, (lfC_ok hc).1, rfl⟩
  exact ⟨up17 hw gk (fun _ => by unfold wRep; split <;> decide), up17 hw gk (fun _ => by unfold wDef; split <;> decide)⟩
theorem oF_app {A B : List PV} : ∀ k, k ≤ B.length → oF (A ++ B) (A.length + k) = oF A A.length + oF B k := by
  intro k
  induction k with
  | zero =>
    intro _
    have : ∀ j, j ≤ A.length → oF (A ++ B) j = oF A j := by
      intro j
      induction j with
      | zero => intro _; rfl
      | succ j ih => intro hj; show oF (A ++ B) j + (pvd (A ++ B) j).2.length = _; rw [ih (by omega), pvd_l (by omega)]; rfl
    exact this _ (Nat.le_refl _)
  | succ k ih =>
    intro hk
    show oF (A ++ B) (A.length + k) + (pvd (A ++ B) (A.length + k)).2.length = oF A A.length + (oF B k + (pvd B k).2.length)
    rw [ih (by omega), pvd_r]
    omega
theorem oF_all {A B : List PV} : oF (A ++ B) (A ++ B).length = oF A A.length + oF B B.length := by
  rw [List.length_append]
  exact oF_app _ (Nat.le_refl _)
/-- words of a DICTIONARY, and the end -/
theorem s_opW {post : St → Prop} {S : Int32 → Int32 → Int32 → Int32 → Int32 → Int32 → St → Prop} {l1 l2 l3 l5 : Int32} {how : Nat} (hL : LM x) (hty : tyC F c < 4) (hh : how < nCod (tyC F c)) (h41 : fI x 0 41 = nI D.length) (hD : D.length ≤ 1000) (h38 : fI x 0 38 = nI (tyC F c)) (h43 : fI x 0 43 = nI how) (hpp : PP.length < 10000) (hP : PoM x Q) (hQ : Q.length + W.length ≤ 50000) (hoQ : oF Q Q.length + oF W W.length ≤ 160000) (h86 : fI x 0 86 = nI PP.length) (hW : WdM x (tyC F c) how W) (hW0 : (tyC F c = 0 ∨ how ≠ nCod (tyC F c) - 1) → W = []) (hok : ∀ v, v ∈ W → okPv (tyC F c) v) (hWl : W.length ≤ 1000)
    (pk : ∀ y Z a, FrOp x y → PoM y (Q ++ Z) → fI y 0 86 = nI (PP.length + 1) → (∀ r, r ≠ 73 → r ≠ 74 → r ≠ 55 → r ≠ 56 → r ≠ 57 → fA y r = fA x r) → (∀ j, j < 88 → j ≠ 86 → fI y 0 j = fI x 0 j) → fI y 0 88 = fI x 0 88 → (∀ k, k ≠ PP.length → fA y 73 k = fA x 73 k ∧ fA y 74 k = fA x 74 k) → fA y 73 PP.length = nI a → fA y 74 PP.length = nI (if W.length ≤ 100 then W else []).length → a + (if W.length ≤ 100 then W else []).length ≤ (Q ++ Z).length → (∀ i, i < (if W.length ≤ 100 then W else []).length → pvd (Q ++ Z) (a + i) = pvd (if W.length ≤ 100 then W else []) i) → Z.length ≤ W.length → oF Z Z.length ≤ oF W W.length → post y) : j_Mod_openPage_232 post S l1 l2 l3 (nI PP.length) l5 (nI D.length) x := by
  have n73 : fN x 73 = 10000 := hL 73
  have n74 : fN x 74 = 10000 := hL 74
  have n32 : fN x 32 = 1000 := hL 32
  have n35 : fN x 35 = 1001 := hL 35
  have n38 : fN x 38 = 20000 := hL 38
  unfold j_Mod_openPage_232
  rw [h41, hP.1]
  refine br_t (by (first | omega | (simp (disch := omega) only [Int32.le_iff_toInt_le, Int32.lt_iff_toInt_lt, z_eq, z_in, nI_toInt, z_cl, z_m1, z_sg, z_255, Int32.reduceToInt] <;> omega) | (simp only [Int32.le_iff_toInt_le, Int32.lt_iff_toInt_lt, z_eq, z_in, z_add, z_sub, z_mul, z_neg, z_nI, z_cl, z_sg, z_255, z_lit, Int32.reduceToInt] <;> omega))) ⟨vp_in_nI (by omega) (by omega), nm_e ⟨vp_in_nI (by show _ < fN x 74; omega) (by show fN x 74 < _; omega), nm_e ?_⟩⟩
  generalize hz : setA (setA x 73 (nI PP.length) (nI Q.length)) 74 (nI PP.length) 0 = z
  have zI : ∀ o j, fI z o j = fI x o j := fun o j => by rw [← hz]; rfl
  have zA : ∀ r, r ≠ 73 → r ≠ 74 → fA z r = fA x r := fun r r1 r2 => by rw [← hz, gA_ne r2, gA_ne r1]
  have zF : ∀ r k, k ≠ PP.length → fA z r k = fA x r k := fun r k hk => by rw [← hz, gA_off (by omega) hk, gA_off (by omega) hk]
  have z73 : fA z 73 PP.length = nI Q.length := by rw [← hz, gA_ne (by decide), gA_on (by omega)]
  have z74 : fA z 74 PP.length = 0 := by rw [← hz, gA_on (by omega)]
  have zf : FrOp x z := by
    rw [← hz]
    exact Fg.trans (Fg.a (by decide)) (Fg.a (by decide))
  have zL' : ∀ a, fL z a = fL x a := fun a => by rw [← hz]; rfl
  have zN : ∀ o, fN z o = fN x o := fun o => by rw [← hz]; rfl
  clear hz
  have zP : PoM z Q := hP.cg (zI 0 93) (zI 0 94) (zL' 54) (zA 55 (by decide) (by decide)) (zA 56 (by decide) (by decide)) (zA 57 (by decide) (by decide))
  -- none are kept
  have none : (if W.length ≤ 100 then W else []) = [] → j_Mod_openPage_658 post l1 l2 l3 (nI PP.length) l5 (nI D.length) z := fun e => by
    unfold j_Mod_openPage_658
    refine nm_e ?_
    rw [zI 0 86, h86, nI_1]
    refine pk _ [] Q.length (Fg.trans zf (Fg.i ⟨rfl, by decide⟩)) ?_ gI_at (fun r r1 r2 _ _ _ => zA r r1 r2) (fun j _ hj => (gI_ne hj).trans (zI 0 j)) ((gI_ne (by decide)).trans (zI 0 88)) (fun k hk => ⟨zF 73 k hk, zF 74 k hk⟩) z73 (by rw [e]; exact z74) (by rw [e, List.append_nil]; exact Nat.le_refl _) (fun i hi => by rw [e] at hi; exact absurd hi (Nat.not_lt_zero _)) (Nat.zero_le _) (Nat.zero_le _)
    rw [List.append_nil]
    exact zP.cg (gI_ne (by decide)) (gI_ne (by decide)) rfl rfl rfl rfl
  have e38 : fI z 0 38 = nI (tyC F c) := (zI 0 38).trans h38
  rw [e38]
  by_cases c0 : tyC F c = 0
  · refine br_t (by rw [c0]; rfl) (none ?_)
    rw [hW0 (Or.inl c0)]; rfl
  · refine br_f (fun w => c0 (nI_inj (b := 0) (by omega) (by decide) w)) (s_cdg e38 hty ?_)
    have n4 : nCod (tyC F c) ≤ 4 ∧ 2 ≤ nCod (tyC F c) := by unfold nCod; split; decide; split <;> decide
    rw [show fI z 0 43 = nI how from (zI 0 43).trans h43, show (1 : Int32) = nI 1 from rfl, nI_sub (by omega)]
    by_cases ch : how = nCod (tyC F c) - 1
    · refine bn_t (by rw [ch]) ?_
      obtain ⟨wT, wW⟩ := hW c0 ch
      have h59 : fI z 0 59 = nI W.length := by
        rw [zI 0 59]
        by_cases c3 : tyC F c = 3
        · exact (wT c3).1
        · exact (wW c3).1
      rw [h59]
      by_cases cl : W.length ≤ 100
      · rw [if_pos cl] at pk
        refine br_f (by (first | omega | (simp (disch := omega) only [Int32.le_iff_toInt_le, Int32.lt_iff_toInt_lt, z_eq, z_in, nI_toInt, z_cl, z_m1, z_sg, z_255, Int32.reduceToInt] <;> omega) | (simp only [Int32.le_iff_toInt_le, Int32.lt_iff_toInt_lt, z_eq, z_in, z_add, z_sub, z_mul, z_neg, z_nI, z_cl, z_sg, z_255, z_lit, Int32.reduceToInt] <;> omega))) ⟨by rw [zN]; exact vp_in_nI (by omega) (by omega), nm_e ?_⟩
        generalize hg : setA z 74 (nI PP.length) (nI W.length) = g
        have gI : ∀ o j, fI g o j = fI x o j := fun o j => by rw [← hg]; exact zI o j
        have gA' : ∀ r, r ≠ 73 → r ≠ 74 → fA g r = fA x r := fun r r1 r2 => by rw [← hg, gA_ne r2]; exact zA r r1 r2
        have gF : ∀ r k, k ≠ PP.length → fA g r k = fA x r k := fun r k hk => by rw [← hg, gA_off (by omega) hk]; exact zF r k hk
        have g73 : fA g 73 PP.length = nI Q.length := by rw [← hg, gA_ne (by decide)]; exact z73
        have g74 : fA g 74 PP.length = nI W.length := by rw [← hg, gA_on (by omega)]
        have gf : FrOp x g := by
          rw [← hg]
          exact Fg.trans zf (Fg.a (by decide))
        have gP : PoM g Q := by
          rw [← hg]
          exact zP.cg rfl rfl rfl (gA_ne (by decide)) (gA_ne (by decide)) (gA_ne (by decide))
        have gN : ∀ o, fN g o = fN x o := fun o => by rw [← hg]; exact zN o
        have gL' : ∀ a, fL g a = fL x a := fun a => by rw [← hg]; exact zL' a
        clear hg
        refine lp_Mod_openPage_579 (fun a0 a1 a2 a3 a4 a5 u => l1 = a0 ∧ l2 = a1 ∧ l3 = a2 ∧ nI PP.length = a3 ∧ l5 = a4 ∧ ∃ k, nI k = a5 ∧ k ≤ W.length ∧ FrPo g u ∧ PoM u (Q ++ W.take k)) (fun _ _ _ _ _ a5 _ => W.length - a5.toNatClampNeg) ?_ _ _ _ _ _ _ _ ⟨rfl, rfl, rfl, rfl, rfl, 0, rfl, Nat.zero_le _, Fg.refl g, by rw [List.take_zero, List.append_nil]; exact gP⟩
        rintro S2 a0 a1 a2 a3 a4 a5 u ⟨rfl, rfl, rfl, rfl, rfl, k, rfl, k1, u1, u2⟩ ih
        have uN : ∀ o, fN u o = fN x o := fun o => by show u.2.2.2.2.2 o = _; rw [u1.2.2.2.2.2]; exact gN o
        have uL : LM u := fun o => (uN o).trans (hL o)
        unfold j_Mod_openPage_579
        rw [show fI u 0 59 = nI W.length from (u1.1 0 59 (by decide)).trans ((gI 0 59).trans ((zI 0 59).symm.trans h59)), show fI u 0 38 = nI (tyC F c) from (u1.1 0 38 (by decide)).trans ((gI 0 38).trans h38)]
        by_cases ck : k < W.length
        · have vk : okPv (tyC F c) (pvd W k) := hok _ (pvd_mem ck)
          have lq : (Q ++ W.take k).length = Q.length + k := by rw [List.length_append, List.length_take]; omega
          have oq : oF (Q ++ W.take k) (Q ++ W.take k).length = oF Q Q.length + oF W k := by rw [oF_all, oF_take (by omega)]
          have o1 : oF W (k + 1) = oF W k + (pvd W k).2.length := rfl
          have o2 := oF_le (P := W) (show k + 1 ≤ W.length by omega)
          have call : ∀ fr, (∀ j, j < (pvd W k).2.length → vp_in (fr + nI j) (fN u 38) ∧ rA u 38 (fr + nI j) = (pvd W k).2.getD j 0) → j_Mod_openPage_648 post S2 l1 l2 l3 (nI PP.length) l5 (nI k) (nI (pvd W k).2.length) fr 38 (pvd W k).1 u := fun fr hfr => by
            unfold j_Mod_openPage_648
            refine s_poolAdd (t := (pvd W k).2) uL u2 (by omega) (by omega) ⟨by decide, by decide, by decide⟩ hfr (fun y y1 y2 => ?_)
            rw [nI_1]
            refine ih _ _ _ _ _ _ _ ⟨rfl, rfl, rfl, rfl, rfl, k + 1, rfl, by omega, Fg.trans u1 y1, ?_⟩ (by rw [nI_clamp (by omega), nI_clamp (by omega)]; omega)
            rw [pv_take ck, ← List.append_assoc]
            exact y2
          have c608 : ∀ s, s = (pvd W k).1 → j_Mod_openPage_608 post S2 l1 l2 l3 (nI PP.length) l5 (nI k) s u := fun s hs => by
            unfold j_Mod_openPage_608
            rw [hs, show fI u 0 38 = nI (tyC F c) from (u1.1 0 38 (by decide)).trans ((gI 0 38).trans h38)]
            refine ⟨by rw [uN]; exact vp_in_nI (by omega) (by omega), ?_⟩
            by_cases c3 : tyC F c = 3
            · refine bn_t (by rw [c3]; rfl) ⟨by rw [uN, nI_1]; exact vp_in_nI (by omega) (by omega), by rw [uN]; exact vp_in_nI (by omega) (by omega), ?_⟩
              obtain ⟨t1, t2, t3, t4, t5⟩ := wT c3
              have b35 : fA u 35 = fA x 35 := (u1.2.2.2.1 35 (by decide)).trans (gA' 35 (by decide) (by decide))
              have b38 : fA u 38 = fA x 38 := (u1.2.2.2.1 38 (by decide)).trans (gA' 38 (by decide) (by decide))
              rw [nI_1, rA_nI (by omega), rA_nI (by omega), b35, t4 _ (by omega), t4 _ (by omega), nI_sub (oF_le (by omega)), o1, Nat.add_sub_cancel_left]
              refine call _ (fun j hj => ?_)
              rw [nI_add, uN]
              refine ⟨vp_in_nI (by omega) (by omega), ?_⟩
              rw [rA_nI (by omega), b38]
              exact t5 k ck j hj
            · have e0 : (pvd W k).2 = [] := vk.2.1 c3
              refine bn_f (fun z => c3 (nI_inj (b := 3) (by omega) (by decide) z)) ?_
              have := call (rA u 35 (nI k)) (fun j hj => by rw [e0] at hj; exact absurd hj (Nat.not_lt_zero _))
              rw [e0] at this
              exact this
          refine br_f (by (first | omega | (simp (disch := omega) only [Int32.le_iff_toInt_le, Int32.lt_iff_toInt_lt, z_eq, z_in, nI_toInt, z_cl, z_m1, z_sg, z_255, Int32.reduceToInt] <;> omega) | (simp only [Int32.le_iff_toInt_le, Int32.lt_iff_toInt_lt, z_eq, z_in, z_add, z_sub, z_mul, z_neg, z_nI, z_cl, z_sg, z_255, z_lit, Int32.reduceToInt] <;> omega))) ?_
          by_cases c3 : tyC F c = 3
          · exact bn_t (by rw [c3]; rfl) (c608 0 (vk.1 c3).2.symm)
          · refine bn_f (fun z => c3 (nI_inj (b := 3) (by omega) (by decide) z)) ⟨by rw [uN]; exact vp_in_nI (by omega) (by omega), c608 _ ?_⟩
            rw [rL_nI (by omega), show fL u 32 = fL x 32 from (u1.2.2.2.2.1 32 (by decide)).trans (gL' 32)]
            exact (wW c3).2.2 k ck
        · have ek : k = W.length := by omega
          subst ek
          rw [List.take_length] at u2
          refine br_t (by (first | omega | (simp (disch := omega) only [Int32.le_iff_toInt_le, Int32.lt_iff_toInt_lt, z_eq, z_in, nI_toInt, z_cl, z_m1, z_sg, z_255, Int32.reduceToInt] <;> omega) | (simp only [Int32.le_iff_toInt_le, Int32.lt_iff_toInt_lt, z_eq, z_in, z_add, z_sub, z_mul, z_neg, z_nI, z_cl, z_sg, z_255, z_lit, Int32.reduceToInt] <;> omega))) ?_
          unfold j_Mod_openPage_658
          refine nm_e ?_
          rw [show fI u 0 86 = nI PP.length from (u1.1 0 86 (by decide)).trans ((gI 0 86).trans h86), nI_1]
          have uA : ∀ r, r ≠ 55 → r ≠ 56 → r ≠ 57 → fA u r = fA g r := fun r r1 r2 r3 => u1.2.2.2.1 r (by omega)
          refine pk _ W Q.length (Fg.trans gf (Fg.trans u1.op (Fg.i ⟨rfl, by decide⟩))) (u2.cg (gI_ne (by decide)) (gI_ne (by decide)) rfl rfl rfl rfl) gI_at (fun r r1 r2 r3 r4 r5 => (uA r r3 r4 r5).trans (gA' r r1 r2)) (fun j hj hj2 => (gI_ne hj2).trans ((u1.1 0 j (by omega)).trans (gI 0 j))) ((gI_ne (by decide)).trans ((u1.1 0 88 (by decide)).trans (gI 0 88))) (fun k hk => ⟨?_, ?_⟩) ?_ ?_ (by rw [List.length_append]; exact Nat.le_refl _) (fun i _ => pvd_r) (Nat.le_refl _) (Nat.le_refl _)
          · show fA u 73 k = _
            rw [uA 73 (by decide) (by decide) (by decide)]; exact gF 73 k hk
          · show fA u 74 k = _
            rw [uA 74 (by decide) (by decide) (by decide)]; exact gF 74 k hk
          · show fA u 73 _ = _
            rw [uA 73 (by decide) (by decide) (by decide)]; exact g73
          · show fA u 74 _ = _
            rw [uA 74 (by decide) (by decide) (by decide)]; exact g74
      · exact br_t (by (first | omega | (simp (disch := omega) only [Int32.le_iff_toInt_le, Int32.lt_iff_toInt_lt, z_eq, z_in, nI_toInt, z_cl, z_m1, z_sg, z_255, Int32.reduceToInt] <;> omega) | (simp only [Int32.le_iff_toInt_le, Int32.lt_iff_toInt_lt, z_eq, z_in, z_add, z_sub, z_mul, z_neg, z_nI, z_cl, z_sg, z_255, z_lit, Int32.reduceToInt] <;> omega))) (none (by rw [if_neg cl]))
    · refine bn_f (fun w => ch (nI_inj (by omega) (by omega) w)) (none ?_)
      rw [hW0 (Or.inr ch)]; rfl
end
