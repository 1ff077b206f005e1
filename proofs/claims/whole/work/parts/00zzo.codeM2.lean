/-! the CODE of the model: all of it -/
theorem s_writeLongs {post : St → Prop} {x : St} {V : Nat → Int64} {m : Nat} {B : List Nat} (h : LgM x V m) (hS : Sh x B) (hB : B.length ≤ 2 ^ 27) (q : ∀ y, FrSh x y → Sh y (B ++ codeB V m) → post y) : wp_Mod_writeLongs post x := by
  have hm := h.2.1
  have h71 : ∀ y, FrSh x y → fI y 0 71 = nI m := fun y f => (h.sh f).1
  have em : uL (nI m).toInt64 = m := by rw [nI_l (by omega), uL_lN (by omega)]
  -- the blocks
  have blocks : ∀ y B0, FrSh x y → Sh y B0 → B0.length ≤ 2 ^ 27 + 100 → B0 ++ codF V m m 0 = B ++ codeB V m → j_Mod_writeLongs_29 post y := by
    intro y B0 y1 y2 y3 y4
    have tot : (B ++ codeB V m).length ≤ 2 ^ 27 + 2 ^ 21 := by rw [List.length_append]; have := @codeB_len V m; omega
    unfold j_Mod_writeLongs_29
    refine lp_Mod_writeLongs_31 (fun l1 z => ∃ a d Bz, nI a = l1 ∧ a ≤ m + 64 ∧ d ≤ m ∧ m ≤ a + 1 + d ∧ FrSh x z ∧ Sh z Bz ∧ Bz ++ codF V m d a = B ++ codeB V m) (fun l1 _ => 10000 - l1.toNatClampNeg) ?_ _ _ ⟨0, m, B0, rfl, by omega, Nat.le_refl _, by omega, y1, y2, y4⟩
    rintro Q l1 z ⟨a, d, Bz, rfl, a1, d1, d2, z1, z2, z3⟩ ih
    have hz := h.sh z1
    unfold j_Mod_writeLongs_31
    rw [h71 z z1]
    by_cases c : a + 1 < m
    · obtain ⟨d, rfl⟩ : ∃ e, d = e + 1 := ⟨d - 1, by omega⟩
      simp only [codF] at z3
      rw [if_neg (by omega)] at z3
      have hlz : Bz.length ≤ 2 ^ 27 + 2 ^ 21 := by
        have e := congrArg List.length z3
        simp only [List.length_append] at e tot
        omega
      have e1 : nI m - 1 = nI (m - 1) := nI_sub (b := 1) (by omega)
      rw [e1, show (64 : Int32) = nI 64 from rfl, nI_add]
      have main : ∀ last, last = min (a + 64) (m - 1) → j_Mod_writeLongs_67 post Q (nI a) (nI last) z := by
        intro last hlast
        rw [← hlast] at z3
        unfold j_Mod_writeLongs_67
        refine s_difference hz (by omega) ?_
        refine lp_Mod_writeLongs_77 (fun l1 l2 l3 l5 y' => nI a = l1 ∧ nI last = l2 ∧ z = y' ∧ ∃ c, nI (a + c) = l5 ∧ c ≤ last - a ∧ lsF V a c = l3) (fun _ _ _ l5 _ => 10000 - l5.toNatClampNeg) ?_ _ _ _ _ _ ⟨rfl, rfl, rfl, 0, rfl, Nat.zero_le _, rfl⟩
        rintro Q2 l1 l2 l3 l5 y' ⟨rfl, rfl, rfl, c, rfl, c1, rfl⟩ ih2
        unfold j_Mod_writeLongs_77 j_Mod_writeLongs_104
        by_cases cc : a + c < last
        · have next : ∀ v, v = lsF V a (c + 1) → Q2 (nI a) (nI last) v (nI (a + c) + 1) z := by
            intro v ev
            rw [nI_1]
            refine ih2 _ _ _ _ _ ⟨rfl, rfl, rfl, c + 1, by rw [Nat.add_assoc], by omega, ev.symm⟩ ?_
            rw [nI_clamp (by omega), nI_clamp (by omega)]; omega
          refine br_f (by (first | omega | (simp (disch := omega) only [Int32.le_iff_toInt_le, Int32.lt_iff_toInt_lt, z_eq, z_in, nI_toInt, z_cl, z_m1, z_sg, z_255, Int32.reduceToInt] <;> omega) | (simp only [Int32.le_iff_toInt_le, Int32.lt_iff_toInt_lt, z_eq, z_in, z_add, z_sub, z_mul, z_neg, z_nI, z_cl, z_sg, z_255, z_lit, Int32.reduceToInt] <;> omega))) (s_difference hz (by omega) ?_)
          by_cases cd : df V (a + c) < lsF V a c
          · refine br_f (fun w => absurd cd (Int64.not_lt.mpr ((lg_cmp_ge _ _).mp w))) (s_difference hz (by omega) (next _ ?_))
            show _ = if df V (a + c) < lsF V a c then _ else _
            rw [if_pos cd]
          · refine br_t ((lg_cmp_ge _ _).mpr (Int64.not_lt.mp cd)) (next _ ?_)
            show _ = if df V (a + c) < lsF V a c then _ else _
            rw [if_neg cd]
        · have ec : c = last - a := by omega
          refine br_t (by (first | omega | (simp (disch := omega) only [Int32.le_iff_toInt_le, Int32.lt_iff_toInt_lt, z_eq, z_in, nI_toInt, z_cl, z_m1, z_sg, z_255, Int32.reduceToInt] <;> omega) | (simp only [Int32.le_iff_toInt_le, Int32.lt_iff_toInt_lt, z_eq, z_in, z_add, z_sub, z_mul, z_neg, z_nI, z_cl, z_sg, z_255, z_lit, Int32.reduceToInt] <;> omega))) (s_zigzag (s_varint z2 (by omega) (fun Y u1 u2 => ?_)))
          rw [ec] at u2 ⊢
          generalize hl : lsF V a (last - a) = l at *
          have z3 : Bz ++ (varB (uL (zg l)) ++ (wdsF V l last 4 a ++ prtF V l last 4 a) ++ codF V m d (a + 64)) = B ++ codeB V m := by rw [← z3]; unfold blkB; rw [hl]
          -- the four widths
          refine lp_Mod_writeLongs_122 (fun l1 l2 l3 l5 y' => nI a = l1 ∧ nI last = l2 ∧ l = l3 ∧ ∃ k Bw, k ≤ 4 ∧ nI (a + 16 * k) = l5 ∧ FrSh x y' ∧ Sh y' Bw ∧ Bw ++ wdsF V l last (4 - k) (a + 16 * k) = Bz ++ varB (uL (zg l)) ++ wdsF V l last 4 a) (fun _ _ _ l5 _ => 10000 - l5.toNatClampNeg) ?_ _ _ _ _ _ ⟨rfl, rfl, rfl, 0, _, by decide, rfl, z1.trans u1, u2, rfl⟩
          rintro Q3 l1 l2 l3 l5 y' ⟨rfl, rfl, rfl, k, Bw, k1, rfl, v1, v2, v3⟩ ih3
          have hlw : Bw.length ≤ 2 ^ 27 + 2 ^ 21 := by
            have e := congrArg List.length z3
            have e2 := congrArg List.length v3
            simp only [List.length_append] at e e2 tot
            omega
          unfold j_Mod_writeLongs_122
          rw [show (64 : Int32) = nI 64 from rfl, nI_add]
          by_cases ck : k < 4
          · have hwp := @wP_le V l last (a + 16 * k)
            refine br_f (by (first | omega | (simp (disch := omega) only [Int32.le_iff_toInt_le, Int32.lt_iff_toInt_lt, z_eq, z_in, nI_toInt, z_cl, z_m1, z_sg, z_255, Int32.reduceToInt] <;> omega) | (simp only [Int32.le_iff_toInt_le, Int32.lt_iff_toInt_lt, z_eq, z_in, z_add, z_sub, z_mul, z_neg, z_nI, z_cl, z_sg, z_255, z_lit, Int32.reduceToInt] <;> omega))) (s_widthOf (h.sh v1) (by omega) (by omega) (s_put (b := wP V l last (a + 16 * k)) v2 (by omega) (by omega) (by rw [nI_255, Nat.mod_eq_of_lt (by omega)]) (fun W w1 w2 => ?_)))
            rw [show (16 : Int32) = nI 16 from rfl, nI_add]
            refine ih3 _ _ _ _ _ ⟨rfl, rfl, rfl, k + 1, Bw ++ [wP V l last (a + 16 * k)], by omega, by rw [Nat.mul_succ, Nat.add_assoc], v1.trans w1, w2, ?_⟩ ?_
            · rw [← v3, show 4 - k = (4 - (k + 1)) + 1 by omega, List.append_assoc]
              show _ ++ _ :: wdsF V l last (4 - (k + 1)) (a + 16 * (k + 1)) = _ ++ _ :: wdsF V l last (4 - (k + 1)) (a + 16 * k + 16)
              rw [Nat.mul_succ, Nat.add_assoc]
            · rw [nI_clamp (by omega), nI_clamp (by omega)]; omega
          · have ek : k = 4 := by omega
            subst ek
            refine br_t (by (first | omega | (simp (disch := omega) only [Int32.le_iff_toInt_le, Int32.lt_iff_toInt_lt, z_eq, z_in, nI_toInt, z_cl, z_m1, z_sg, z_255, Int32.reduceToInt] <;> omega) | (simp only [Int32.le_iff_toInt_le, Int32.lt_iff_toInt_lt, z_eq, z_in, z_add, z_sub, z_mul, z_neg, z_nI, z_cl, z_sg, z_255, z_lit, Int32.reduceToInt] <;> omega))) ?_
            have v3 : Bw = Bz ++ varB (uL (zg l)) ++ wdsF V l last 4 a := by rw [← v3]; show Bw = Bw ++ []; rw [List.append_nil]
            -- the parts
            refine lp_Mod_writeLongs_152 (fun l1 l2 l3 l5 y' => nI a = l1 ∧ nI last = l2 ∧ l = l3 ∧ ∃ k Bp, k ≤ 4 ∧ nI (a + 16 * k) = l5 ∧ FrSh x y' ∧ Sh y' Bp ∧ Bp ++ prtF V l last (4 - k) (a + 16 * k) = Bw ++ prtF V l last 4 a) (fun _ _ _ l5 _ => 10000 - l5.toNatClampNeg) ?_ _ _ _ _ _ ⟨rfl, rfl, rfl, 0, Bw, by decide, rfl, v1, v2, rfl⟩
            rintro Q4 l1 l2 l3 l5 y'' ⟨rfl, rfl, rfl, k, Bp, k2, rfl, p1, p2, p3⟩ ih4
            have hlp : Bp.length ≤ 2 ^ 27 + 2 ^ 21 := by
              have e := congrArg List.length z3
              have e2 := congrArg List.length p3
              rw [v3] at e2
              simp only [List.length_append] at e e2 tot
              omega
            unfold j_Mod_writeLongs_152
            by_cases cp : a + 16 * k < last
            · have hwp := @wP_le V l last (a + 16 * k)
              refine br_f (by (first | omega | (simp (disch := omega) only [Int32.le_iff_toInt_le, Int32.lt_iff_toInt_lt, z_eq, z_in, nI_toInt, z_cl, z_m1, z_sg, z_255, Int32.reduceToInt] <;> omega) | (simp only [Int32.le_iff_toInt_le, Int32.lt_iff_toInt_lt, z_eq, z_in, z_add, z_sub, z_mul, z_neg, z_nI, z_cl, z_sg, z_255, z_lit, Int32.reduceToInt] <;> omega))) (s_widthOf (h.sh p1) (by omega) (by omega) (s_writePart (h.sh p1) (by omega) (by omega) hwp p2 (by omega) (fun W w1 w2 => ?_)))
              rw [show (16 : Int32) = nI 16 from rfl, nI_add]
              refine ih4 _ _ _ _ _ ⟨rfl, rfl, rfl, k + 1, _, by omega, by rw [Nat.mul_succ, Nat.add_assoc], p1.trans w1, w2, ?_⟩ ?_
              · rw [← p3, show 4 - k = (4 - (k + 1)) + 1 by omega, List.append_assoc]
                show _ ++ (_ ++ prtF V l last (4 - (k + 1)) (a + 16 * (k + 1))) = _ ++ (_ ++ prtF V l last (4 - (k + 1)) (a + 16 * k + 16))
                rw [Nat.mul_succ, Nat.add_assoc]
              · rw [nI_clamp (by omega), nI_clamp (by omega)]; omega
            · rw [prtF_nil _ _ (by omega), List.append_nil] at p3
              refine br_t (by (first | omega | (simp (disch := omega) only [Int32.le_iff_toInt_le, Int32.lt_iff_toInt_lt, z_eq, z_in, nI_toInt, z_cl, z_m1, z_sg, z_255, Int32.reduceToInt] <;> omega) | (simp only [Int32.le_iff_toInt_le, Int32.lt_iff_toInt_lt, z_eq, z_in, z_add, z_sub, z_mul, z_neg, z_nI, z_cl, z_sg, z_255, z_lit, Int32.reduceToInt] <;> omega))) ?_
              rw [show (64 : Int32) = nI 64 from rfl, nI_add]
              refine ih _ _ ⟨a + 64, d, Bp, rfl, by omega, by omega, by omega, p1, p2, ?_⟩ ?_
              · rw [p3, v3, ← z3]
                simp only [List.append_assoc]
              · rw [nI_clamp (by omega), nI_clamp (by omega)]; omega
      refine br_f (by (first | omega | (simp (disch := omega) only [Int32.le_iff_toInt_le, Int32.lt_iff_toInt_lt, z_eq, z_in, nI_toInt, z_cl, z_m1, z_sg, z_255, Int32.reduceToInt] <;> omega) | (simp only [Int32.le_iff_toInt_le, Int32.lt_iff_toInt_lt, z_eq, z_in, z_add, z_sub, z_mul, z_neg, z_nI, z_cl, z_sg, z_255, z_lit, Int32.reduceToInt] <;> omega))) ?_
      by_cases c6 : m - 1 ≤ a + 64
      · exact br_t (by (first | omega | (simp (disch := omega) only [Int32.le_iff_toInt_le, Int32.lt_iff_toInt_lt, z_eq, z_in, nI_toInt, z_cl, z_m1, z_sg, z_255, Int32.reduceToInt] <;> omega) | (simp only [Int32.le_iff_toInt_le, Int32.lt_iff_toInt_lt, z_eq, z_in, z_add, z_sub, z_mul, z_neg, z_nI, z_cl, z_sg, z_255, z_lit, Int32.reduceToInt] <;> omega))) (main _ (by omega))
      · exact br_f (by (first | omega | (simp (disch := omega) only [Int32.le_iff_toInt_le, Int32.lt_iff_toInt_lt, z_eq, z_in, nI_toInt, z_cl, z_m1, z_sg, z_255, Int32.reduceToInt] <;> omega) | (simp only [Int32.le_iff_toInt_le, Int32.lt_iff_toInt_lt, z_eq, z_in, z_add, z_sub, z_mul, z_neg, z_nI, z_cl, z_sg, z_255, z_lit, Int32.reduceToInt] <;> omega))) (main _ (by omega))
    · refine br_t ?_ (q z z1 ?_)
      · rcases Nat.eq_zero_or_pos m with e | e
        · subst e
          show (nI 0 - 1 : Int32) ≤ nI a
          rw [show nI 0 - 1 = (-1 : Int32) from rfl]
          (first | omega | (simp (disch := omega) only [Int32.le_iff_toInt_le, Int32.lt_iff_toInt_lt, z_eq, z_in, nI_toInt, z_cl, z_m1, z_sg, z_255, Int32.reduceToInt] <;> omega) | (simp only [Int32.le_iff_toInt_le, Int32.lt_iff_toInt_lt, z_eq, z_in, z_add, z_sub, z_mul, z_neg, z_nI, z_cl, z_sg, z_255, z_lit, Int32.reduceToInt] <;> omega))
        · rw [show nI m - 1 = nI (m - 1) from nI_sub (b := 1) (by omega)]; (first | omega | (simp (disch := omega) only [Int32.le_iff_toInt_le, Int32.lt_iff_toInt_lt, z_eq, z_in, nI_toInt, z_cl, z_m1, z_sg, z_255, Int32.reduceToInt] <;> omega) | (simp only [Int32.le_iff_toInt_le, Int32.lt_iff_toInt_lt, z_eq, z_in, z_add, z_sub, z_mul, z_neg, z_nI, z_cl, z_sg, z_255, z_lit, Int32.reduceToInt] <;> omega))
      · have e : codF V m d a = [] := by
          cases d with
          | zero => rfl
          | succ d => simp only [codF]; rw [if_pos (by omega)]
        rw [e, List.append_nil] at z3
        rw [← z3]; exact z2
  unfold wp_Mod_writeLongs
  rw [h.1]
  refine s_varint hS (by omega) (fun y y1 y2 => ?_)
  rw [em] at y2
  have hv1 := varB_len m
  rw [h71 y y1]
  by_cases c0 : m = 0
  · subst c0
    refine br_t (by decide) (blocks y _ y1 y2 (by rw [List.length_append]; omega) ?_)
    unfold codeB
    rw [if_pos rfl, List.append_assoc]
    rfl
  · have hy := h.sh y1
    refine br_f (by (first | omega | (simp (disch := omega) only [Int32.le_iff_toInt_le, Int32.lt_iff_toInt_lt, z_eq, z_in, nI_toInt, z_cl, z_m1, z_sg, z_255, Int32.reduceToInt] <;> omega) | (simp only [Int32.le_iff_toInt_le, Int32.lt_iff_toInt_lt, z_eq, z_in, z_add, z_sub, z_mul, z_neg, z_nI, z_cl, z_sg, z_255, z_lit, Int32.reduceToInt] <;> omega))) ⟨by rw [hy.2.2.1]; exact vp_in_nI (n := 0) (by decide) (by decide), s_zigzag (s_varint y2 (by rw [List.length_append]; omega) (fun z z1 z2 => ?_))⟩
    rw [show rL y 43 0 = V 0 from hy.2.2.2 0 (by omega)] at z2
    have hv2 := varB_len (uL (zg (V 0)))
    refine blocks z _ (y1.trans z1) z2 (by rw [List.length_append, List.length_append]; omega) ?_
    unfold codeB
    rw [if_neg c0]
    simp only [List.append_assoc]
/-- with how many bytes it has in front -/
theorem s_writeCode {post : St → Prop} {x : St} {V : Nat → Int64} {m : Nat} {B : List Nat} (h : LgM x V m) (hS : Sh x B) (hB : B.length ≤ 2 ^ 26) (q : ∀ y, FrSh x y → Sh y (B ++ (varB (codeB V m).length ++ codeB V m)) → post y) : wp_Mod_writeCode post x := by
  have hm := h.2.1
  have hc := @codeB_len V m
  unfold wp_Mod_writeCode
  rw [hS.1]
  refine nm_e (s_writeLongs h hS (by omega) (fun y y1 y2 => ?_))
  rw [y2.1, List.length_append, nI_sub (by omega), show B.length + (codeB V m).length - B.length = (codeB V m).length by omega]
  refine nm_e (nm_e ?_)
  have s1 : Sh (setI y 0 64 (nI B.length)) B := ⟨gI_at, y2.2.1, hS.2.2.1, fun i hi hi2 => by
    show fA y 39 i = _
    rw [y2.2.2.2 i (by rw [List.length_append]; omega) hi2, getD_app1 hi]⟩
  have f1 : FrSh x (setI y 0 64 (nI B.length)) := y1.trans (Fg.i ⟨rfl, rfl⟩)
  have e : uL (nI (codeB V m).length).toInt64 = (codeB V m).length := by rw [nI_l (by omega), uL_lN (by omega)]
  refine s_varint s1 (by omega) (fun z z1 z2 => ?_)
  rw [e] at z2
  have hv := varB_len (codeB V m).length
  refine s_writeLongs (h.sh (f1.trans z1)) z2 (by rw [List.length_append]; omega) (fun w w1 w2 => q w ((f1.trans z1).trans w1) ?_)
  rw [← List.append_assoc]
  exact w2
