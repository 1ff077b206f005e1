/-! a page of the model is written -/
section
variable {x : St} {ty : Nat} {P : List PV}
theorem Sh.nil {y : St} (h : LM y) : Sh (setI y 0 64 0) [] := ⟨gI_at, h 39, fun b hb => absurd hb (by simp), fun i hi => absurd hi (Nat.not_lt_zero _)⟩
theorem body_len {mr md E : Nat} {Rp Df : Nat → Int32} (hP : okP ty P) (hl : P.length ≤ 1000) (ho : oF P P.length ≤ 20000) (h1 : mr ≤ 17) (h2 : md ≤ 17) (h3 : E ≤ 1000) : (bodyB ty mr md Rp Df E P).length ≤ 33520 := by
  unfold bodyB
  have a := lv_len (R := Rp) (n := E) h1 h3
  have b := lv_len (R := Df) (n := E) h2 h3
  have c := val_len (how := cod ty P) hP hl (fun _ => ho)
  rw [List.length_append, List.length_append]
  omega
theorem told_len {p : PV} (h : okVv ty p) : (toldB ty p).length ≤ 265 := by
  unfold toldB
  split
  · rename_i c
    have := (h c).1
    have := varB_len p.2.length
    unfold txB
    rw [List.length_append, tB_len]
    omega
  · split
    · exact (by decide : 1 ≤ 265)
    · have := varB_len (uL (zg p.1)); omega
theorem s_writePage {post : St → Prop} {mr md E : Nat} {Rp Df : Nat → Int32} (h : PgM x ty P) (hL : PgL x mr md Rp Df E) (hEP : P.length ≤ E) (p : ∀ y, FrP x y → Sh y (pageB ty mr md Rp Df E P) → post y) : wp_Mod_writePage post x := by
  have hl := h.2.2.2.2.1
  have hok := h.2.2.2.1
  have ho := h.2.2.2.2.2.2.2.2.2
  obtain ⟨l1, l2, l3, l4, l5, l6, l7, l8⟩ := id hL
  have hn4 : nCod ty ≤ 4 ∧ 2 ≤ nCod ty := by unfold nCod; split; decide; split <;> decide
  have vl : ∀ c, (valB ty c P).length ≤ 30000 := fun c => val_len hok hl (fun _ => ho)
  unfold wp_Mod_writePage
  refine lp_Mod_writePage_4 (fun a0 a1 z => ∃ c, nI c = a1 ∧ c ≤ nCod ty ∧ FrP x z ∧ (c = 0 → a0 = -1) ∧ (¬ c = 0 → a0 = nI (valB ty (bC ty P (c - 1)) P).length ∧ fI z 0 43 = nI (bC ty P (c - 1)))) (fun _ a1 _ => nCod ty - a1.toNatClampNeg) ?_ _ _ _ ⟨0, rfl, Nat.zero_le _, Fg.refl x, fun _ => rfl, fun z => absurd rfl z⟩
  rintro Q a0 a1 z ⟨c, rfl, c1, z1, z2, z3⟩ ih
  have hz := h.p z1
  unfold j_Mod_writePage_4
  refine s_codings hz ?_
  by_cases cc : c < nCod ty
  · refine br_f (by (first | omega | (simp (disch := omega) only [Int32.le_iff_toInt_le, Int32.lt_iff_toInt_lt, z_eq, z_in, nI_toInt, z_cl, z_m1, z_sg, z_255, Int32.reduceToInt] <;> omega) | (simp only [Int32.le_iff_toInt_le, Int32.lt_iff_toInt_lt, z_eq, z_in, z_add, z_sub, z_mul, z_neg, z_nI, z_cl, z_sg, z_255, z_lit, Int32.reduceToInt] <;> omega))) (nm_e ?_)
    have fz : FrP x (setI z 0 64 0) := Fg.trans z1 (Fg.i ⟨rfl, by decide⟩)
    have hz' := h.p fz
    refine s_values hz' (Sh.nil hz.2.2.2.2.2.1) (by decide) cc (fun y y1 y2 => ?_)
    rw [List.nil_append] at y2
    have fy : FrP x y := Fg.trans fz y1.p
    have e64 := y2.1
    have vc := vl c
    have e43 : fI y 0 43 = fI z 0 43 := (y1.1 0 43 (by decide)).trans (gI_ne (by decide))
    have better : (c = 0 ∨ (valB ty c P).length < (valB ty (bC ty P (c - 1)) P).length) → j_Mod_writePage_38 post Q a0 (nI c) y := fun w => by
      have eb : bC ty P c = c := by
        cases c with
        | zero => rfl
        | succ c =>
          simp only [bC]
          rcases w with w | w
          · omega
          · rw [Nat.add_sub_cancel] at w; exact if_pos w
      unfold j_Mod_writePage_38 j_Mod_writePage_48
      rw [e64]
      refine nm_e (nm_e ?_)
      rw [nI_1]
      exact ih _ _ _ ⟨c + 1, rfl, by omega, Fg.trans fy (Fg.i ⟨rfl, by decide⟩), fun z => by omega, fun _ => ⟨by rw [Nat.add_sub_cancel, eb], by rw [Nat.add_sub_cancel, eb]; exact gI_at⟩⟩ (by rw [nI_clamp (by omega), nI_clamp (by omega)]; omega)
    by_cases c0 : c = 0
    · exact br_t (z2 c0) (better (Or.inl c0))
    · obtain ⟨w1, w2⟩ := z3 c0
      have vb := vl (bC ty P (c - 1))
      refine br_f (by rw [w1]; (first | omega | (simp (disch := omega) only [Int32.le_iff_toInt_le, Int32.lt_iff_toInt_lt, z_eq, z_in, nI_toInt, z_cl, z_m1, z_sg, z_255, Int32.reduceToInt] <;> omega) | (simp only [Int32.le_iff_toInt_le, Int32.lt_iff_toInt_lt, z_eq, z_in, z_add, z_sub, z_mul, z_neg, z_nI, z_cl, z_sg, z_255, z_lit, Int32.reduceToInt] <;> omega))) ?_
      rw [e64]
      by_cases w : (valB ty c P).length < (valB ty (bC ty P (c - 1)) P).length
      · exact br_t (by rw [w1]; (first | omega | (simp (disch := omega) only [Int32.le_iff_toInt_le, Int32.lt_iff_toInt_lt, z_eq, z_in, nI_toInt, z_cl, z_m1, z_sg, z_255, Int32.reduceToInt] <;> omega) | (simp only [Int32.le_iff_toInt_le, Int32.lt_iff_toInt_lt, z_eq, z_in, z_add, z_sub, z_mul, z_neg, z_nI, z_cl, z_sg, z_255, z_lit, Int32.reduceToInt] <;> omega))) (better (Or.inr w))
      · refine br_f (by rw [w1]; (first | omega | (simp (disch := omega) only [Int32.le_iff_toInt_le, Int32.lt_iff_toInt_lt, z_eq, z_in, nI_toInt, z_cl, z_m1, z_sg, z_255, Int32.reduceToInt] <;> omega) | (simp only [Int32.le_iff_toInt_le, Int32.lt_iff_toInt_lt, z_eq, z_in, z_add, z_sub, z_mul, z_neg, z_nI, z_cl, z_sg, z_255, z_lit, Int32.reduceToInt] <;> omega))) ?_
        have eb : bC ty P c = bC ty P (c - 1) := by
          cases c with
          | zero => exact absurd rfl c0
          | succ c =>
            simp only [bC]
            rw [Nat.add_sub_cancel] at w ⊢
            exact if_neg w
        unfold j_Mod_writePage_48
        rw [nI_1]
        exact ih _ _ _ ⟨c + 1, rfl, by omega, fy, fun z => by omega, fun _ => ⟨by rw [Nat.add_sub_cancel, eb]; exact w1, by rw [Nat.add_sub_cancel, eb, e43]; exact w2⟩⟩ (by rw [nI_clamp (by omega), nI_clamp (by omega)]; omega)
  · have ec : c = nCod ty := by omega
    subst ec
    refine br_t (by (first | omega | (simp (disch := omega) only [Int32.le_iff_toInt_le, Int32.lt_iff_toInt_lt, z_eq, z_in, nI_toInt, z_cl, z_m1, z_sg, z_255, Int32.reduceToInt] <;> omega) | (simp only [Int32.le_iff_toInt_le, Int32.lt_iff_toInt_lt, z_eq, z_in, z_add, z_sub, z_mul, z_neg, z_nI, z_cl, z_sg, z_255, z_lit, Int32.reduceToInt] <;> omega))) (nm_e ?_)
    obtain ⟨w1, w2⟩ := z3 (by omega)
    have fz : FrP x (setI z 0 64 0) := Fg.trans z1 (Fg.i ⟨rfl, by decide⟩)
    have hz' := hL.p fz
    have lm := (h.p fz).2.2.2.2.2.1
    have q43 : fI (setI z 0 64 0) 0 43 = nI (cod ty P) := (gI_ne (by decide)).trans w2
    rw [hz'.1]
    refine s_levels (R := Rp) (E := E) (by decide) ⟨by rw [lm 26]; exact l6, by rw [lm 26]; decide, hz'.2.2.2.2.2.2.1⟩ hz'.2.2.1 l6 l4 (Sh.nil hz.2.2.2.2.2.1) (by decide) (fun y y1 y2 => ?_)
    rw [List.nil_append] at y2
    have fy : FrP x y := Fg.trans fz y1.v.p
    have hy := hL.p fy
    have lmy := (h.p fy).2.2.2.2.2.1
    have ll1 := lv_len (R := Rp) (n := E) l4 l6
    have ll2 := lv_len (R := Df) (n := E) l5 l6
    rw [hy.2.1]
    refine s_levels (R := Df) (E := E) (by decide) ⟨by rw [lmy 27]; exact l6, by rw [lmy 27]; decide, hy.2.2.2.2.2.2.2⟩ hy.2.2.1 l6 l5 y2 (by omega) (fun v v1 v2 => ?_)
    have fv : FrP x v := Fg.trans fy v1.v.p
    have hv := h.p fv
    rw [show fI v 0 43 = nI (cod ty P) from (v1.1 0 43 (by decide)).trans ((y1.1 0 43 (by decide)).trans q43)]
    refine s_values hv v2 (by rw [List.length_append]; omega) cod_lt (fun u u1 u2 => nm_e ?_)
    rw [List.append_assoc] at u2
    have u2 : Sh u (bodyB ty mr md Rp Df E P) := u2
    have fu : FrP x u := Fg.trans fv u1.p
    have u43 : fI u 0 43 = nI (cod ty P) := (u1.1 0 43 (by decide)).trans ((v1.1 0 43 (by decide)).trans ((y1.1 0 43 (by decide)).trans q43))
    have bl := body_len (Rp := Rp) (Df := Df) (E := E) hok hl ho l4 l5 l6
    generalize hb : bodyB ty mr md Rp Df E P = body at *
    rw [u2.1]
    refine lp_Mod_writePage_101 (fun _ a1 t => ∃ i, nI i = a1 ∧ i ≤ body.length ∧ FrP x t ∧ fI t 0 43 = nI (cod ty P) ∧ fI t 0 44 = nI body.length ∧ Sh t body ∧ ∀ j, j < i → fA t 40 j = nI (body.getD j 0)) (fun _ a1 _ => body.length - a1.toNatClampNeg) ?_ _ _ _ ⟨0, rfl, Nat.zero_le _, Fg.trans fu (Fg.i ⟨rfl, by decide⟩), (gI_ne (by decide)).trans u43, gI_at, ⟨(gI_ne (by decide)).trans u2.1, u2.2⟩, fun j hj => absurd hj (Nat.not_lt_zero _)⟩
    rintro Q1 a2 a1 t ⟨i, rfl, i1, t1, t2, t3, t4, t5⟩ ih1
    have ht := h.p t1
    have e39 : fN t 39 = 60000 := ht.2.2.2.2.2.1 39
    have e40 : fN t 40 = 60000 := ht.2.2.2.2.2.1 40
    unfold j_Mod_writePage_101
    rw [t3]
    by_cases ci : i < body.length
    · refine br_f (by (first | omega | (simp (disch := omega) only [Int32.le_iff_toInt_le, Int32.lt_iff_toInt_lt, z_eq, z_in, nI_toInt, z_cl, z_m1, z_sg, z_255, Int32.reduceToInt] <;> omega) | (simp only [Int32.le_iff_toInt_le, Int32.lt_iff_toInt_lt, z_eq, z_in, z_add, z_sub, z_mul, z_neg, z_nI, z_cl, z_sg, z_255, z_lit, Int32.reduceToInt] <;> omega))) ⟨vp_in_nI (by omega) (by omega), vp_in_nI (by omega) (by omega), nm_e ?_⟩
      rw [nI_1, rA_nI (by omega), t4.2.2.2 i ci (by omega)]
      refine ih1 _ _ _ ⟨i + 1, rfl, by omega, Fg.trans t1 (Fg.a (by decide)), t2, t3, ⟨t4.1, t4.2.1, t4.2.2.1, fun j a b => by rw [gA_ne (by decide)]; exact t4.2.2.2 j a b⟩, fun j hj => ?_⟩ (by rw [nI_clamp (by omega), nI_clamp (by omega)]; omega)
      rw [gA_at, nI_clamp (by omega)]
      by_cases e : j = i
      · rw [e, upd_at]
      · rw [upd_ne e]; exact t5 j (by omega)
    · have ei : i = body.length := by omega
      subst ei
      refine br_t (by (first | omega | (simp (disch := omega) only [Int32.le_iff_toInt_le, Int32.lt_iff_toInt_lt, z_eq, z_in, nI_toInt, z_cl, z_m1, z_sg, z_255, Int32.reduceToInt] <;> omega) | (simp only [Int32.le_iff_toInt_le, Int32.lt_iff_toInt_lt, z_eq, z_in, z_add, z_sub, z_mul, z_neg, z_nI, z_cl, z_sg, z_255, z_lit, Int32.reduceToInt] <;> omega))) (nm_e ?_)
      have f0 : FrP x (setI t 0 64 0) := Fg.trans t1 (Fg.i ⟨rfl, by decide⟩)
      have hbb := t4.2.2.1
      rw [(hL.p f0).2.2.1, nI_l (by omega)]
      refine s_varint (Sh.nil ht.2.2.2.2.2.1) (by decide) (fun g1 a1 b1 => ?_)
      rw [List.nil_append, uL_lN (by omega)] at b1
      have fg1 : FrP x g1 := Fg.trans f0 a1.v.p
      have vE := varB_len E
      rw [(hL.p fg1).2.2.1, (h.p fg1).2.1, nI_sub hEP, nI_l (by omega)]
      refine s_varint b1 (by omega) (fun g2 a2 b2 => ?_)
      rw [uL_lN (by omega)] at b2
      have fg2 : FrP x g2 := Fg.trans fg1 a2.v.p
      have vE2 := varB_len (E - P.length)
      have cl := cod_lt (ty := ty) (P := P)
      have c43 : fI g2 0 43 = nI (cod ty P) := (a2.1 0 43 (by decide)).trans ((a1.1 0 43 (by decide)).trans ((gI_ne (by decide)).trans t2))
      rw [c43]
      refine s_put b2 (by rw [List.length_append]; omega) (b := cod ty P) (by omega) (by rw [nI_255, Nat.mod_eq_of_lt (by omega)]) (fun g3 a3 b3 => ?_)
      have fg3 : FrP x g3 := Fg.trans fg2 a3.v.p
      have len3 : (varB E ++ varB (E - P.length) ++ [cod ty P]).length ≤ 21 := by rw [List.length_append, List.length_append, List.length_singleton]; omega
      have vb := varB_len body.length
      have key : ∀ i, i < body.length → (0 : Int32) ≤ nI (body.getD i 0) ∧ nI (body.getD i 0) ≤ 255 := fun i hi => by
        have := hbb _ (getD_mem hi)
        constructor <;> (first | omega | (simp (disch := omega) only [Int32.le_iff_toInt_le, Int32.lt_iff_toInt_lt, z_eq, z_in, nI_toInt, z_cl, z_m1, z_sg, z_255, Int32.reduceToInt] <;> omega) | (simp only [Int32.le_iff_toInt_le, Int32.lt_iff_toInt_lt, z_eq, z_in, z_add, z_sub, z_mul, z_neg, z_nI, z_cl, z_sg, z_255, z_lit, Int32.reduceToInt] <;> omega))
      -- the end of it
      have tail : ∀ s, FrP x s → fI s 0 44 = nI body.length → (∀ j, j < body.length → fA s 40 j = nI (body.getD j 0)) → Sh s (varB E ++ varB (E - P.length) ++ [cod ty P] ++ bndB ty P) → (varB E ++ varB (E - P.length) ++ [cod ty P] ++ bndB ty P).length ≤ 600 → ∀ l1, j_Mod_writePage_188 post l1 (nI body.length) s := by
        intro s s1 s2 s3 s4 s5 l1
        unfold j_Mod_writePage_188
        rw [s2, nI_l (by omega)]
        refine s_varint s4 (by omega) (fun w w1 w2 => ?_)
        rw [uL_lN (by omega)] at w2
        have fw : FrP x w := Fg.trans s1 w1.v.p
        have w44 : fI w 0 44 = nI body.length := (w1.1 0 44 (by decide)).trans s2
        have w40 : ∀ j, j < body.length → fA w 40 j = nI (body.getD j 0) := fun j hj => by
          show w.2.2.2.1 40 j = _
          rw [w1.2.2.2.1 40 (by decide)]
          exact s3 j hj
        have f40 : fN w 40 = 60000 := (h.p fw).2.2.2.2.2.1 40
        rw [w44]
        refine s_check (T := fun i => nI (body.getD i 0)) (a := 0) (e := body.length) (by omega) (by omega) (Nat.zero_le _) (fun i _ hi => ⟨w40 i hi, key i hi⟩) ?_
        refine s_fixed (n := 4) (by decide) w2 (by rw [List.length_append]; omega) (fun v v1 v2 => ?_)
        have fv : FrP x v := Fg.trans fw v1.v.p
        have ck : (ckB body).length = 4 := by unfold ckB fixB; rw [fixF_len]
        have v2 : Sh v (varB E ++ varB (E - P.length) ++ [cod ty P] ++ bndB ty P ++ varB body.length ++ ckB body) := v2
        have vlen : (varB E ++ varB (E - P.length) ++ [cod ty P] ++ bndB ty P ++ varB body.length ++ ckB body).length ≤ 614 := by
          rw [List.length_append, List.length_append, ck]; omega
        refine lp_Mod_writePage_217 (fun _ a1 r => ∃ i, nI i = a1 ∧ i ≤ body.length ∧ FrP x r ∧ fI r 0 44 = nI body.length ∧ (∀ j, j < body.length → fA r 40 j = nI (body.getD j 0)) ∧ Sh r (varB E ++ varB (E - P.length) ++ [cod ty P] ++ bndB ty P ++ varB body.length ++ ckB body ++ body.take i)) (fun _ a1 _ => body.length - a1.toNatClampNeg) ?_ _ _ _ ⟨0, rfl, Nat.zero_le _, fv, (v1.1 0 44 (by decide)).trans w44, fun j hj => ?_, by rw [List.take_zero, List.append_nil]; exact v2⟩
        · rintro Q3 b0 b1 r ⟨i, rfl, i1, r1, r2, r3, r4⟩ ih3
          have g40 : fN r 40 = 60000 := (h.p r1).2.2.2.2.2.1 40
          unfold j_Mod_writePage_217
          rw [r2]
          by_cases ci : i < body.length
          · refine br_f (by (first | omega | (simp (disch := omega) only [Int32.le_iff_toInt_le, Int32.lt_iff_toInt_lt, z_eq, z_in, nI_toInt, z_cl, z_m1, z_sg, z_255, Int32.reduceToInt] <;> omega) | (simp only [Int32.le_iff_toInt_le, Int32.lt_iff_toInt_lt, z_eq, z_in, z_add, z_sub, z_mul, z_neg, z_nI, z_cl, z_sg, z_255, z_lit, Int32.reduceToInt] <;> omega))) ⟨vp_in_nI (by omega) (by omega), ?_⟩
            rw [nI_1, rA_nI (by omega), r3 i ci]
            have hb1 := hbb _ (getD_mem ci)
            refine s_put r4 (by rw [List.length_append, List.length_take]; omega) hb1 (by rw [nI_255, Nat.mod_eq_of_lt hb1]) (fun o o1 o2 => ih3 _ _ _ ⟨i + 1, rfl, by omega, Fg.trans r1 o1.v.p, (o1.1 0 44 (by decide)).trans r2, fun j hj => ?_, ?_⟩ (by rw [nI_clamp (by omega), nI_clamp (by omega)]; omega))
            · show o.2.2.2.1 40 j = _
              rw [o1.2.2.2.1 40 (by decide)]
              exact r3 j hj
            · have : body.take (i + 1) = body.take i ++ [body.getD i 0] := by
                rw [List.take_succ_eq_append_getElem ci, List.getD_eq_getElem?_getD, List.getElem?_eq_getElem ci]
                rfl
              rw [this, ← List.append_assoc]
              exact o2
          · refine br_t (by (first | omega | (simp (disch := omega) only [Int32.le_iff_toInt_le, Int32.lt_iff_toInt_lt, z_eq, z_in, nI_toInt, z_cl, z_m1, z_sg, z_255, Int32.reduceToInt] <;> omega) | (simp only [Int32.le_iff_toInt_le, Int32.lt_iff_toInt_lt, z_eq, z_in, z_add, z_sub, z_mul, z_neg, z_nI, z_cl, z_sg, z_255, z_lit, Int32.reduceToInt] <;> omega))) (p r r1 ?_)
            rw [show body.take i = body from List.take_of_length_le (by omega)] at r4
            unfold pageB
            rw [hb, ← List.append_assoc, ← List.append_assoc, ← List.append_assoc, ← List.append_assoc, ← List.append_assoc]
            exact r4
        · show v.2.2.2.1 40 j = _
          rw [v1.2.2.2.1 40 (by decide)]
          exact w40 j hj
      have e44 : ∀ s, FrSh g3 s → fI s 0 44 = nI body.length := fun s hs => (hs.1 0 44 (by decide)).trans ((a3.1 0 44 (by decide)).trans ((a2.1 0 44 (by decide)).trans ((a1.1 0 44 (by decide)).trans ((gI_ne (by decide)).trans t3))))
      have e40b : ∀ s, FrSh g3 s → ∀ j, j < body.length → fA s 40 j = nI (body.getD j 0) := fun s hs j hj => by
        show s.2.2.2.1 40 j = _
        rw [hs.2.2.2.1 40 (by decide), a3.2.2.2.1 40 (by decide), a2.2.2.2.1 40 (by decide), a1.2.2.2.1 40 (by decide)]
        exact t5 j hj
      rw [(h.p fg3).2.1]
      by_cases cP : P.length = 0
      · refine br_t (by (first | omega | (simp (disch := omega) only [Int32.le_iff_toInt_le, Int32.lt_iff_toInt_lt, z_eq, z_in, nI_toInt, z_cl, z_m1, z_sg, z_255, Int32.reduceToInt] <;> omega) | (simp only [Int32.le_iff_toInt_le, Int32.lt_iff_toInt_lt, z_eq, z_in, z_add, z_sub, z_mul, z_neg, z_nI, z_cl, z_sg, z_255, z_lit, Int32.reduceToInt] <;> omega))) (tail g3 fg3 (e44 g3 (Fg.refl _)) (e40b g3 (Fg.refl _)) ?_ ?_ _)
        · unfold bndB
          rw [if_pos cP, List.append_nil]
          exact b3
        · unfold bndB
          rw [if_pos cP, List.append_nil]
          omega
      · refine br_f (by (first | omega | (simp (disch := omega) only [Int32.le_iff_toInt_le, Int32.lt_iff_toInt_lt, z_eq, z_in, nI_toInt, z_cl, z_m1, z_sg, z_255, Int32.reduceToInt] <;> omega) | (simp only [Int32.le_iff_toInt_le, Int32.lt_iff_toInt_lt, z_eq, z_in, z_add, z_sub, z_mul, z_neg, z_nI, z_cl, z_sg, z_255, z_lit, Int32.reduceToInt] <;> omega))) (s_mostOf (h.p fg3) cP (Or.inl rfl) ?_)
        have m1 := mnF_le (ty := ty) (P := P) (P.length - 1)
        have m2 := mxF_le (ty := ty) (P := P) (P.length - 1)
        have okv : ∀ i, i < P.length → okVv ty (pvd P i) := fun i hi c => h.ok c hi
        have tl1 := told_len (okv (mnF ty P (P.length - 1)) (by omega))
        have tl2 := told_len (okv (mxF ty P (P.length - 1)) (by omega))
        rw [if_pos rfl]
        refine s_putOne (h.p fg3) (by omega) b3 (by omega) (fun g4 a4 b4 => ?_)
        have fg4 : FrP x g4 := Fg.trans fg3 a4.v.p
        refine s_mostOf (h.p fg4) cP (Or.inr rfl) ?_
        rw [if_neg (by decide)]
        refine s_putOne (h.p fg4) (by omega) b4 (by rw [List.length_append]; omega) (fun g5 a5 b5 => ?_)
        have fg5 : FrP x g5 := Fg.trans fg4 a5.v.p
        have eb : bndB ty P = toldB ty (pvd P (mnF ty P (P.length - 1))) ++ toldB ty (pvd P (mxF ty P (P.length - 1))) := by unfold bndB; rw [if_neg cP]
        refine tail g5 fg5 (e44 g5 (Fg.trans a4 a5)) (e40b g5 (Fg.trans a4 a5)) ?_ ?_ _
        · rw [eb, ← List.append_assoc]
          exact b5
        · rw [eb, ← List.append_assoc, List.length_append, List.length_append]
          omega
end
