/-! write of the model -/
def WI (F : List SFd) (RS : List (List SEn)) (most g : Nat) (x : St) (n : Nat) (W : List Nat) (y : St) : Prop := FrWt x y ∧ fA y 33 0 = 0 ∧ Wk y (magB ++ W) ∧ W.length ≤ 2 ^ 27 ∧ allF (ckF F RS most g) n = some W ∧ ∀ i, i < n → fA y 50 i = nI (blF F RS most g i) ∧ blF F RS most g i < 2 ^ 30 ∧ fA y 51 i = nI (pgF F RS most g i) ∧ pgF F RS most g i < 2 ^ 30
section
variable {x : St} {F : List SFd} {RS : List (List SEn)} {most g : Nat}
theorem fil_none1 {n : Nat} (hn : n ≤ nGr RS g * ncol F) (h : allF (ckF F RS most g) n = none) : filB F RS most g = none := by
  unfold filB
  have e := allF_none h (nGr RS g * ncol F - n)
  rw [show n + (nGr RS g * ncol F - n) = nGr RS g * ncol F from by omega] at e
  rw [e]
theorem fil_none2 {n : Nat} {W : List Nat} (hn : n ≤ nGr RS g * ncol F) (h : allF (ckF F RS most g) n = some W) (hW : 40000 < (magB ++ W).length) : filB F RS most g = none := by
  unfold filB
  cases e : allF (ckF F RS most g) (nGr RS g * ncol F) with
  | none => rfl
  | some V =>
    have q := allF_le h (nGr RS g * ncol F - n) V (by rw [show n + (nGr RS g * ncol F - n) = nGr RS g * ncol F from by omega]; exact e)
    rw [List.length_append] at hW
    simp only [List.length_append]
    exact if_neg (by omega)
theorem s_writeTail {post : Int32 → St → Prop} {y : St} {l1 l2 l3 : Int32} {W D : List Nat} (hL : LM y) (h33 : fA y 33 0 = 0) (hWk : Wk y W) (hW : W.length ≤ 2 ^ 27 + 4) (hS : Sh y D) (hD : D.length ≤ 2 ^ 25)
    (p0 : 40000 < W.length + D.length + 12 → post (-1) y) (p1 : W.length + D.length + 12 ≤ 40000 → ∀ z, FrWx y z → fA z 33 0 = 0 → Fil z (W ++ endB D) → post (nI (W ++ endB D).length) z) :
    ((((fI y 0 66) + (fI y 0 64)) + 12) ≤ 40000 → wp_Mod_addSheet (fun (x879 : St) => (∀ v880 : Int32, v880 = (fI x879 0 64) → wp_Mod_check (fun (r882 : Int32) (x881 : St) => ∃ n : Nat, wl_Mod_write_204 post n l1 l2 l3 v880 r882 0 x881) 39 0 v880 x879))  y) ∧ (¬ (((fI y 0 66) + (fI y 0 64)) + 12) ≤ 40000 → post (-1) y) := by
  rw [hWk.1, hS.1, nI_add, show nI (W.length + D.length) + 12 = nI (W.length + D.length + 12) from by rw [show (12 : Int32) = nI 12 from rfl, nI_add]]
  by_cases c : W.length + D.length + 12 ≤ 40000
  · refine br_t (by (first | omega | (simp (disch := omega) only [Int32.le_iff_toInt_le, Int32.lt_iff_toInt_lt, z_eq, z_in, nI_toInt, z_cl, z_m1, z_sg, z_255, Int32.reduceToInt] <;> omega) | (simp only [Int32.le_iff_toInt_le, Int32.lt_iff_toInt_lt, z_eq, z_in, z_add, z_sub, z_mul, z_neg, z_nI, z_cl, z_sg, z_255, z_lit, Int32.reduceToInt] <;> omega))) (s_addSheet hWk hS (by omega) (by omega) (fun z z1 z2 => ?_))
    have e64 : fI z 0 64 = nI D.length := (z1.1 0 64 (by decide)).trans hS.1
    have e39 : fN z 39 = 60000 := by show z.2.2.2.2.2 39 = _; rw [z1.2.2.2.2.2]; exact hS.2.1
    have a39 : fA z 39 = fA y 39 := z1.2.2.2.1 39 (by decide)
    rw [e64]
    refine nm_e ?_
    refine s_check (T := fun i => nI (D.getD i 0)) (a := 0) (e := D.length) (by omega) (by omega) (Nat.zero_le _) (fun i _ hi => ⟨by rw [a39]; exact hS.2.2.2 i hi (by omega), ?_⟩) ?_
    · have hb : D.getD i 0 < 256 := by
        rw [List.getD_eq_getElem?_getD, List.getElem?_eq_getElem hi]
        exact hS.2.2.1 _ (List.getElem_mem hi)
      constructor <;> (first | omega | (simp (disch := omega) only [Int32.le_iff_toInt_le, Int32.lt_iff_toInt_lt, z_eq, z_in, nI_toInt, z_cl, z_m1, z_sg, z_255, Int32.reduceToInt] <;> omega) | (simp only [Int32.le_iff_toInt_le, Int32.lt_iff_toInt_lt, z_eq, z_in, z_add, z_sub, z_mul, z_neg, z_nI, z_cl, z_sg, z_255, z_lit, Int32.reduceToInt] <;> omega))
    · refine s_wr204 z2 (by rw [List.length_append]; omega) (fun u u1 u2 => ?_)
      refine s_wr235 u2 (by rw [List.length_append, List.length_append]; show _ + 4 < _; omega) (fun v v1 v2 => ?_)
      have fv : FrW y v := Fg.trans z1 (Fg.trans u1 v1)
      have eq : W ++ D ++ fixB (uL (nI D.length).toInt64) 4 ++ (fixB (uL (crcS (fun i => nI (D.getD i 0)) 0 D.length).toInt64) 4 ++ magB) = W ++ endB D := by
        rw [show (nI D.length).toInt64 = lN D.length from nI_l (by omega), uL_lN (by omega)]
        unfold endB ckB
        simp only [List.append_assoc]
      rw [eq] at v2
      have le : (W ++ endB D).length = W.length + D.length + 12 := by
        unfold endB ckB
        simp only [List.length_append]
        show W.length + (D.length + (4 + (4 + 4))) = _
        omega
      have fL : LM v := FrWt.lm fv.wt hL
      refine s_wr270 fL v2 (by omega) (fun w w1 w2 w3 => p1 c w (Fg.trans fv.wt.x w1) ?_ w3)
      rw [w2 33 (by decide)]
      show v.2.2.2.1 33 0 = _
      rw [fv.2.2.2.1 33 (by decide)]
      exact h33
  · exact br_f (by (first | omega | (simp (disch := omega) only [Int32.le_iff_toInt_le, Int32.lt_iff_toInt_lt, z_eq, z_in, nI_toInt, z_cl, z_m1, z_sg, z_255, Int32.reduceToInt] <;> omega) | (simp only [Int32.le_iff_toInt_le, Int32.lt_iff_toInt_lt, z_eq, z_in, z_add, z_sub, z_mul, z_neg, z_nI, z_cl, z_sg, z_255, z_lit, Int32.reduceToInt] <;> omega))) (p0 (by omega))
theorem s_wrCols {post : Int32 → St → Prop} {rec68 : Int32 → Int32 → Int32 → Int32 → St → Prop} {x1 : St} {k : Nat} {W : List Nat} (hL : LM x) (hR : RepM x 0 F) (h : RcM x RS) (hH : WrH F RS) (hm1 : 1 ≤ most) (hm : most ≤ 1000) (hg1 : 1 ≤ g) (hg : g ≤ 2000) (hk : k * g < RS.length) (hI : WI F RS most g x (k * ncol F) W x1)
    (p0 : ∀ y, FrWt x y → fA y 33 0 = 0 → filB F RS most g = none → post (-1) y)
    (p1 : ∀ y W', WI F RS most g x ((k + 1) * ncol F) W' y → rec68 (nI most) (nI g) (nI ((k + 1) * ncol F)) (nI ((k + 1) * g)) y) : ∃ n : Nat, wl_Mod_write_80 post rec68 n (nI most) (nI g) (nI (k * ncol F)) (nI (k * g)) 0 x1 := by
  obtain ⟨hw, hN, ho, hnc, hcol⟩ := id hH
  have h4 := h.2.2.2.1
  have hc64 := hw.2.1
  have kg := (gr_lt hg1).mp hk
  have gl := grp_le (L := RS.length) hg1
  have b1 : (k + 1) * ncol F ≤ nGr RS g * ncol F := Nat.mul_le_mul_right _ kg
  have b2 : nGr RS g * ncol F ≤ RS.length * ncol F := Nat.mul_le_mul_right _ gl
  have s1 : (k + 1) * ncol F = k * ncol F + ncol F := Nat.succ_mul _ _
  have s2 : (k + 1) * g = k * g + g := Nat.succ_mul _ _
  refine lp_Mod_write_80 (fun a0 a1 a2 a3 a4 y => nI most = a0 ∧ nI g = a1 ∧ nI (k * g) = a3 ∧ ∃ c W, nI c = a4 ∧ nI (k * ncol F + c) = a2 ∧ c ≤ ncol F ∧ WI F RS most g x (k * ncol F + c) W y) (fun _ _ _ _ a4 _ => ncol F - a4.toNatClampNeg) ?_ _ _ _ _ _ _ ⟨rfl, rfl, rfl, 0, W, rfl, rfl, Nat.zero_le _, hI⟩
  rintro Q a0 a1 a2 a3 a4 y ⟨rfl, rfl, rfl, c, W, rfl, rfl, c1, y1, y33, yW, yl, ya, yb⟩ ih
  have hLy := y1.lm hL
  have hRy := y1.rep hR
  have e10 : fN y 10 = 3 := hLy 10
  have e34 : fI y 0 34 = nI RS.length := (y1.1 0 34 (by decide)).trans h.2.2.1
  have mw : (magB ++ W).length = W.length + 4 := by rw [List.length_append]; show 4 + _ = _; omega
  unfold j_Mod_write_80
  refine ⟨by rw [show (0 : Int32) = nI 0 from rfl]; exact vp_in_nI (by omega) (by omega), ?_⟩
  rw [show rA y 10 0 = nI (ncol F) from by rw [show (0 : Int32) = nI 0 from rfl, rA_nI (by decide)]; exact hRy.2.1, yW.1, e34]
  by_cases cc : c < ncol F
  · refine br_f (by (first | omega | (simp (disch := omega) only [Int32.le_iff_toInt_le, Int32.lt_iff_toInt_lt, z_eq, z_in, nI_toInt, z_cl, z_m1, z_sg, z_255, Int32.reduceToInt] <;> omega) | (simp only [Int32.le_iff_toInt_le, Int32.lt_iff_toInt_lt, z_eq, z_in, z_add, z_sub, z_mul, z_neg, z_nI, z_cl, z_sg, z_255, z_lit, Int32.reduceToInt] <;> omega))) ?_
    by_cases cw : 40000 < (magB ++ W).length
    · refine br_t (by (first | omega | (simp (disch := omega) only [Int32.le_iff_toInt_le, Int32.lt_iff_toInt_lt, z_eq, z_in, nI_toInt, z_cl, z_m1, z_sg, z_255, Int32.reduceToInt] <;> omega) | (simp only [Int32.le_iff_toInt_le, Int32.lt_iff_toInt_lt, z_eq, z_in, z_add, z_sub, z_mul, z_neg, z_nI, z_cl, z_sg, z_255, z_lit, Int32.reduceToInt] <;> omega))) (p0 y y1 y33 (fil_none2 (n := k * ncol F + c) (by omega) ya cw))
    · refine br_f (by (first | omega | (simp (disch := omega) only [Int32.le_iff_toInt_le, Int32.lt_iff_toInt_lt, z_eq, z_in, nI_toInt, z_cl, z_m1, z_sg, z_255, Int32.reduceToInt] <;> omega) | (simp only [Int32.le_iff_toInt_le, Int32.lt_iff_toInt_lt, z_eq, z_in, z_add, z_sub, z_mul, z_neg, z_nI, z_cl, z_sg, z_255, z_lit, Int32.reduceToInt] <;> omega))) ?_
      have key : ∀ to, to = min RS.length (k * g + g) → j_Mod_write_128 post rec68 Q (nI most) (nI g) (nI (k * ncol F + c)) (nI (k * g)) (nI c) (nI to) (nI (k * g)) (nI c) (nI (k * ncol F + c)) y := fun to ht => by
        obtain ⟨o1, o2, o3, o4, o5⟩ := ho.2 c cc
        obtain ⟨q1, q2, q3, q4⟩ := hcol c cc
        have ek : ckF F RS most g (k * ncol F + c) = chF RS (tyC F c) (rF F (lfC F c)) (mdC F c) c most to (to - k * g) (k * g) := by rw [ckF_at cc, ← ht]
        unfold j_Mod_write_128
        refine s_writeChunk (RS := RS) (W := magB ++ W) hLy hw hRy cc (by omega) o2 o1 (y1.rc h) y33 (by omega) (by omega) (by omega) hm1 hm ho.1 q1 o3 (fun r hr => q2 r (by omega)) (fun r e a b d => q3 r e a (by omega) d) (fun r e a b => q4 r e a (by omega)) yW (by omega) (fun z z1 z2 z3 => ?_) (fun z B n z1 z2 z3 z4 z5 z6 => ?_)
        · refine ⟨fun z => absurd rfl z, fun _ => ?_⟩
          unfold j_Mod_write_135
          refine p0 z (Fg.trans y1 z1.wt) z2 (fil_none1 (n := k * ncol F + c + 1) (by omega) ?_)
          simp only [allF]
          rw [ya]
          simp only
          rw [ek, show mdC F c = dG F (nI (lfC F c)) from rfl, z3]
        · refine ⟨fun _ => ?_, fun z => absurd z (by decide)⟩
          have z3' : ckF F RS most g (k * ncol F + c) = some (B, n) := by rw [ek]; exact z3
          obtain ⟨l1, l2⟩ := ck_len hH cc (by omega) hm _ _ _ _ z3
          have bl1 : blF F RS most g (k * ncol F + c) = B.length := by unfold blF; rw [z3']
          have pg1 : pgF F RS most g (k * ncol F + c) = n := by unfold pgF; rw [z3']
          have b5 : 34100 * (to - k * g) ≤ 34100 * 2000 := Nat.mul_le_mul_left _ (by omega)
          rw [nI_1, nI_1]
          refine ih _ _ _ _ _ _ ⟨rfl, rfl, rfl, c + 1, W ++ B, rfl, rfl, cc, Fg.trans y1 z1.wt, z2, ?_, ?_, ?_, fun i hi => ?_⟩ (by rw [nI_clamp (by omega), nI_clamp (by omega)]; omega)
          · rw [← List.append_assoc]; exact z4
          · rw [List.length_append]; omega
          · show allF (ckF F RS most g) (k * ncol F + c + 1) = _
            simp only [allF]
            rw [ya]
            simp only
            rw [z3']
          · rw [z5 i, z6 i]
            by_cases ei : i = k * ncol F + c
            · rw [if_pos ei, if_pos ei, ei, bl1, pg1]
              exact ⟨rfl, by omega, rfl, by omega⟩
            · rw [if_neg ei, if_neg ei]
              exact yb i (by omega)
      rw [nI_add]
      by_cases c2 : RS.length ≤ k * g + g
      · exact br_t (by (first | omega | (simp (disch := omega) only [Int32.le_iff_toInt_le, Int32.lt_iff_toInt_lt, z_eq, z_in, nI_toInt, z_cl, z_m1, z_sg, z_255, Int32.reduceToInt] <;> omega) | (simp only [Int32.le_iff_toInt_le, Int32.lt_iff_toInt_lt, z_eq, z_in, z_add, z_sub, z_mul, z_neg, z_nI, z_cl, z_sg, z_255, z_lit, Int32.reduceToInt] <;> omega))) (key _ (by omega))
      · exact br_f (by (first | omega | (simp (disch := omega) only [Int32.le_iff_toInt_le, Int32.lt_iff_toInt_lt, z_eq, z_in, nI_toInt, z_cl, z_m1, z_sg, z_255, Int32.reduceToInt] <;> omega) | (simp only [Int32.le_iff_toInt_le, Int32.lt_iff_toInt_lt, z_eq, z_in, z_add, z_sub, z_mul, z_neg, z_nI, z_cl, z_sg, z_255, z_lit, Int32.reduceToInt] <;> omega))) (key _ (by omega))
  · have ec : c = ncol F := by omega
    subst ec
    refine br_t (by (first | omega | (simp (disch := omega) only [Int32.le_iff_toInt_le, Int32.lt_iff_toInt_lt, z_eq, z_in, nI_toInt, z_cl, z_m1, z_sg, z_255, Int32.reduceToInt] <;> omega) | (simp only [Int32.le_iff_toInt_le, Int32.lt_iff_toInt_lt, z_eq, z_in, z_add, z_sub, z_mul, z_neg, z_nI, z_cl, z_sg, z_255, z_lit, Int32.reduceToInt] <;> omega))) (nm_r (nI_add _ _) ?_)
    rw [← s1, ← s2]
    refine p1 y W ⟨y1, y33, yW, yl, ?_, ?_⟩
    · rw [s1]; exact ya
    · rw [s1]; exact yb
theorem s_write {post : Int32 → St → Prop} (hL : LM x) (hR : RepM x 0 F) (h : RcM x RS) (hH : WrH F RS) (h33 : fA x 33 0 = 0) (hm1 : 1 ≤ most) (hm : most ≤ 1000) (hg1 : 1 ≤ g) (hg : g ≤ 2000) (hn : nGr RS g ≤ 500) (h14 : ¬ fI x 0 14 = 0)
    (p0 : ∀ y, FrWt x y → fA y 33 0 = 0 → filB F RS most g = none → post (-1) y)
    (p1 : ∀ y B, FrWx x y → fA y 33 0 = 0 → filB F RS most g = some B → Fil y B → post (nI B.length) y) : wp_Mod_write post (nI most) (nI g) x := by
  obtain ⟨hw, hN, ho, hnc, hcol⟩ := id hH
  have h4 := h.2.2.2.1
  have hc64 := hw.2.1
  have gl := grp_le (L := RS.length) hg1
  have b2 : nGr RS g * ncol F ≤ RS.length * ncol F := Nat.mul_le_mul_right _ gl
  unfold wp_Mod_write
  refine nm_e ?_
  rw [gI_ne (by decide : (14 : Nat) ≠ 0), gI_ne (by decide : (34 : Nat) ≠ 0)]
  refine br_f h14 (br_f (by (first | omega | (simp (disch := omega) only [Int32.le_iff_toInt_le, Int32.lt_iff_toInt_lt, z_eq, z_in, nI_toInt, z_cl, z_m1, z_sg, z_255, Int32.reduceToInt] <;> omega) | (simp only [Int32.le_iff_toInt_le, Int32.lt_iff_toInt_lt, z_eq, z_in, z_add, z_sub, z_mul, z_neg, z_nI, z_cl, z_sg, z_255, z_lit, Int32.reduceToInt] <;> omega))) (br_f (by (first | omega | (simp (disch := omega) only [Int32.le_iff_toInt_le, Int32.lt_iff_toInt_lt, z_eq, z_in, nI_toInt, z_cl, z_m1, z_sg, z_255, Int32.reduceToInt] <;> omega) | (simp only [Int32.le_iff_toInt_le, Int32.lt_iff_toInt_lt, z_eq, z_in, z_add, z_sub, z_mul, z_neg, z_nI, z_cl, z_sg, z_255, z_lit, Int32.reduceToInt] <;> omega))) (br_f (by (first | omega | (simp (disch := omega) only [Int32.le_iff_toInt_le, Int32.lt_iff_toInt_lt, z_eq, z_in, nI_toInt, z_cl, z_m1, z_sg, z_255, Int32.reduceToInt] <;> omega) | (simp only [Int32.le_iff_toInt_le, Int32.lt_iff_toInt_lt, z_eq, z_in, z_add, z_sub, z_mul, z_neg, z_nI, z_cl, z_sg, z_255, z_lit, Int32.reduceToInt] <;> omega))) (br_f (by (first | omega | (simp (disch := omega) only [Int32.le_iff_toInt_le, Int32.lt_iff_toInt_lt, z_eq, z_in, nI_toInt, z_cl, z_m1, z_sg, z_255, Int32.reduceToInt] <;> omega) | (simp only [Int32.le_iff_toInt_le, Int32.lt_iff_toInt_lt, z_eq, z_in, z_add, z_sub, z_mul, z_neg, z_nI, z_cl, z_sg, z_255, z_lit, Int32.reduceToInt] <;> omega))) ⟨fun z => by have := nI_inj (b := 0) (by omega) (by decide) z; omega, ?_⟩))))
  rw [h.2.2.1, nI_add, show nI (RS.length + g) - 1 = nI (RS.length + g - 1) from by rw [show (1 : Int32) = nI 1 from rfl, nI_sub (by omega)], nI_dv (by omega) (by omega) (by omega), show nI ((RS.length + g - 1) / g) = nI (nGr RS g) from rfl]
  refine br_t (by (first | omega | (simp (disch := omega) only [Int32.le_iff_toInt_le, Int32.lt_iff_toInt_lt, z_eq, z_in, nI_toInt, z_cl, z_m1, z_sg, z_255, Int32.reduceToInt] <;> omega) | (simp only [Int32.le_iff_toInt_le, Int32.lt_iff_toInt_lt, z_eq, z_in, z_add, z_sub, z_mul, z_neg, z_nI, z_cl, z_sg, z_255, z_lit, Int32.reduceToInt] <;> omega))) (nm_e ?_)
  have f0 : FrWt x (setI (setI x 0 0 0) 0 66 0) := Fg.trans (Fg.i ⟨rfl, by decide⟩) (Fg.i ⟨rfl, by decide⟩)
  refine s_addFrame (W := []) ⟨gI_at, hL 42, fun b hb => absurd hb (by simp), fun i hi => absurd hi (Nat.not_lt_zero _)⟩ (by decide) (fun x1 f1 w1 => ?_)
  rw [List.nil_append] at w1
  have g1 : FrWt x x1 := Fg.trans f0 f1.wt
  refine lp_Mod_write_68 (fun a0 a1 a2 a3 y => nI most = a0 ∧ nI g = a1 ∧ ∃ k W, nI (k * ncol F) = a2 ∧ nI (k * g) = a3 ∧ k ≤ nGr RS g ∧ k * g ≤ RS.length + g ∧ WI F RS most g x (k * ncol F) W y) (fun _ _ _ a3 _ => RS.length + 2000 - a3.toNatClampNeg) ?_ _ _ _ _ _ ⟨rfl, rfl, 0, [], by rw [Nat.zero_mul]; rfl, by rw [Nat.zero_mul]; rfl, Nat.zero_le _, by omega, g1, ?_, ?_, Nat.zero_le _, ?_, fun i hi => ?_⟩
  · rintro Q a0 a1 a2 a3 y ⟨rfl, rfl, k, W, rfl, rfl, k1, k2, hI⟩ ih
    have e34 : fI y 0 34 = nI RS.length := (hI.1.1 0 34 (by decide)).trans h.2.2.1
    have s2 : (k + 1) * g = k * g + g := Nat.succ_mul _ _
    unfold j_Mod_write_68
    rw [e34]
    by_cases c : k * g < RS.length
    · refine br_f (by (first | omega | (simp (disch := omega) only [Int32.le_iff_toInt_le, Int32.lt_iff_toInt_lt, z_eq, z_in, nI_toInt, z_cl, z_m1, z_sg, z_255, Int32.reduceToInt] <;> omega) | (simp only [Int32.le_iff_toInt_le, Int32.lt_iff_toInt_lt, z_eq, z_in, z_add, z_sub, z_mul, z_neg, z_nI, z_cl, z_sg, z_255, z_lit, Int32.reduceToInt] <;> omega))) (s_wrCols (F := F) (RS := RS) hL hR h hH hm1 hm hg1 hg c hI p0 (fun z W' z1 => ?_))
      refine ih _ _ _ _ _ ⟨rfl, rfl, k + 1, W', rfl, rfl, (gr_lt hg1).mp c, by omega, z1⟩ (by rw [nI_clamp (by omega), nI_clamp (by omega)]; omega)
    · have ek : k = nGr RS g := by
        have : ¬ k < nGr RS g := fun z => c ((gr_lt hg1).mpr z)
        omega
      subst ek
      obtain ⟨y1, y33, yW, yl, ya, yb⟩ := hI
      have mw : (magB ++ W).length = W.length + 4 := by rw [List.length_append]; show 4 + _ = _; omega
      refine br_t (by (first | omega | (simp (disch := omega) only [Int32.le_iff_toInt_le, Int32.lt_iff_toInt_lt, z_eq, z_in, nI_toInt, z_cl, z_m1, z_sg, z_255, Int32.reduceToInt] <;> omega) | (simp only [Int32.le_iff_toInt_le, Int32.lt_iff_toInt_lt, z_eq, z_in, z_add, z_sub, z_mul, z_neg, z_nI, z_cl, z_sg, z_255, z_lit, Int32.reduceToInt] <;> omega))) (s_putFooter (NN := nGr RS g * ncol F) (BL := blF F RS most g) (PG := pgF F RS most g) (y1.lm hL) hw hN (y1.rep hR) (y1.rc h) ho hg1 hg (by omega) (fun j hj => Nat.mul_le_mul_right _ ((gr_lt hg1).mp hj)) (fun j hj => by have q : j < nGr RS g := (gr_lt hg1).mp hj; omega) yb (fun z z1 z2 z3 => ?_))
      have fz : FrWt x z := Fg.trans y1 z1.wt
      have z33 : fA z 33 0 = 0 := by
        show z.2.2.2.1 33 0 = 0
        rw [z1.2.2.2.1 33 (by decide)]
        exact y33
      refine s_writeTail (fz.lm hL) z33 (yW.sh z1) (by omega) z2 z3 (fun q => p0 z fz z33 ?_) (fun q w w1 w33 w2 => ?_)
      · unfold filB
        rw [ya]
        exact if_neg (by rw [show ftF F RS most g = footB F RS (blF F RS most g) (pgF F RS most g) g from rfl]; omega)
      · refine p1 w _ (Fg.trans fz.x w1) w33 ?_ w2
        unfold filB
        rw [ya]
        simp only
        rw [if_pos (by rw [show ftF F RS most g = footB F RS (blF F RS most g) (pgF F RS most g) g from rfl]; exact q), List.append_assoc]
        rfl
  · show x1.2.2.2.1 33 0 = 0
    rw [f1.2.2.2.1 33 (by decide)]
    exact h33
  · rw [List.append_nil]; exact w1
  · rw [Nat.zero_mul]; rfl
  · rw [Nat.zero_mul] at hi; exact absurd hi (Nat.not_lt_zero _)
end
