/-! stretches are counted, class -/
abbrev FrKs (o : Nat) (x y : St) : Prop := Fg (fun a k => a = o ∧ (k = 2 ∨ k = 3)) no2 no2 (fun a => a = o + 6 ∨ a = o + 7 ∨ a = o + 8) no1 x y
theorem FrKs.fa {o : Nat} {x y : St} (f : FrKs o x y) : FrA o x y := f.mono (fun _ _ z => z.1) (fun _ _ z => z) (fun _ _ z => z) (fun a z => by omega) (fun _ z => z.elim)
theorem FrKs.s {o : Nat} {x y : St} (f : FgS o x y) : FrKs o x y := f.mono (fun _ _ z => z.elim) (fun _ _ z => z) (fun _ _ z => z) (fun a z => Or.inl z) (fun _ z => z)
section
variable {x y z : St} {F : List SFd} {G : List Nat} {K : List ChT} {CK : List (List PgW)} {b dE f r o qo s t g j c : Nat} {Q : Qy}
theorem clS_all (hw : WfS F) {L : List QLt} {t : QSt} (h : stW F L t) : (¬ 5 ≤ t.1 → ∃ f, colF F f ∧ t.2.1 = nI f ∧ (clS F t).2.1 = nI (ncol (F.take f))) ∧ (t.1 = 4 → ¬ 6 ≤ (clS F t).1 ∧ (clS F t).2.2.2 = 0 ∧ ∃ g, colF F g ∧ t.2.2.2.1 = nI g ∧ (clS F t).2.2.1 = nI (ncol (F.take g))) ∧ (¬ t.1 = 4 → 6 ≤ (clS F t).1 ∨ ¬ (clS F t).2.2.2 = 0) := by
  rcases h with ⟨f, hf, rfl | rfl⟩ | ⟨f, a, m, hf, hm, ham, hlt, rfl⟩ | ⟨f, op, a, hf, hop, ha, hlt, rfl⟩ | ⟨f, op, g, hf, hop, hg, hty, rfl⟩ | rfl | rfl | rfl
  · exact ⟨fun _ => ⟨f, hf, rfl, colI_w hw hf.1⟩, fun z => absurd z (show ¬ (0 : Int32) = 4 by decide), fun _ => Or.inl (by show (6 : Int32) ≤ 6; decide)⟩
  · exact ⟨fun _ => ⟨f, hf, rfl, colI_w hw hf.1⟩, fun z => absurd z (show ¬ (1 : Int32) = 4 by decide), fun _ => Or.inl (by show (6 : Int32) ≤ 7; decide)⟩
  · exact ⟨fun _ => ⟨f, hf, rfl, colI_w hw hf.1⟩, fun z => absurd z (show ¬ (2 : Int32) = 4 by decide), fun _ => Or.inl (by show (6 : Int32) ≤ 8; decide)⟩
  · exact ⟨fun _ => ⟨f, hf, rfl, colI_w hw hf.1⟩, fun z => absurd z (show ¬ (3 : Int32) = 4 by decide), fun _ => Or.inr (by show ¬ (1 : Int32) = 0; decide)⟩
  · have q := (cop_is hop).2.2.2.2
    exact ⟨fun _ => ⟨f, hf, rfl, colI_w hw hf.1⟩, fun _ => ⟨fun z => absurd (Int32.lt_of_le_of_lt z q) (by decide), rfl, g, hg, rfl, colI_w hw hg.1⟩, fun z => absurd rfl z⟩
  · exact ⟨fun z => absurd (by decide) z, fun z => absurd z (by decide), fun _ => Or.inl (by show (6 : Int32) ≤ 9; decide)⟩
  · exact ⟨fun z => absurd (by decide) z, fun z => absurd z (by decide), fun _ => Or.inl (by show (6 : Int32) ≤ 10; decide)⟩
  · exact ⟨fun z => absurd (by decide) z, fun z => absurd z (by decide), fun _ => Or.inl (by show (6 : Int32) ≤ 11; decide)⟩
theorem k_cc {post : Int32 → St → Prop} (A : AnC x o qo F G K CK b dE Q) (hs : s < Q.2.2.1.length) (p : post (if (Q.2.2.1.getD s (0, 0, 0, 0, 0)).1 = 4 then 1 else 0) x) : wp_Ans_comparesColumns post o (nI s) x := by
  have h15 := A.2.2.2.2.1
  obtain ⟨-, -, -, -, c9, c10, c11, c12, c14, c16⟩ := stq A.2.2.1
  obtain ⟨-, -, -, -, n5, n6, n7, n8, n9, n10⟩ := A.2.2.1.len A.1.1
  obtain ⟨-, -, ⟨-, s64, sS⟩, -⟩ := A.2.2.2.2.2.1
  obtain ⟨-, w2, w3⟩ := clS_all A.1.2.2.1.2.1 (A.2.2.2.2.2.2.1.2.2.2.1 _ (mem_gD (d := (0, 0, 0, 0, 0)) hs))
  obtain ⟨s1, -, -, s4⟩ := sS s hs
  have vs : vp_in (nI s) 64 := vp_in_nI (by omega) (by decide)
  unfold wp_Ans_comparesColumns j_Ans_comparesColumns_30
  refine ⟨qo, h15, ?_⟩
  rw [c9, n5, rA_nI (by omega), s1]
  refine ⟨vs, ?_⟩
  by_cases e : (Q.2.2.1.getD s (0, 0, 0, 0, 0)).1 = 4
  · rw [if_pos e] at p
    obtain ⟨v1, v2, -⟩ := w2 e
    refine br_f v1 ⟨qo, h15, ?_⟩
    rw [c12, n8, rA_nI (by omega), s4, v2]
    exact ⟨vs, bn_t rfl p⟩
  · rw [if_neg e] at p
    by_cases c6 : 6 ≤ (clS F (Q.2.2.1.getD s (0, 0, 0, 0, 0))).1
    · exact br_t c6 p
    · refine br_f c6 ⟨qo, h15, ?_⟩
      rw [c12, n8, rA_nI (by omega), s4]
      exact ⟨vs, bn_f ((w3 e).resolve_left c6) p⟩
theorem k_markAsked {post : St → Prop} (A : AnC x o qo F G K CK b dE Q) (p : ∀ y, Fg no2 no2 no2 (fun a => a = o + 8) no1 x y → AskR y o F Q → post y) : wp_Ans_markAsked post o x := by
  have hw := A.1.2.2.1.2.1
  have hC := hw.2.1
  obtain ⟨-, -, -, -, -, -, o12, o13⟩ := sta A.2.1
  obtain ⟨-, -, -, -, c9, c10, c11, c12, c14, c16⟩ := stq A.2.2.1
  unfold wp_Ans_markAsked
  refine lp_Ans_markAsked_2 (fun b0 b1 y => o = b0 ∧ Fg no2 no2 no2 (fun a => a = o + 8) no1 x y ∧ ∃ k, k ≤ 64 ∧ nI k = b1 ∧ ∀ c, c < k → fA y (o + 8) c = 0) (fun _ b1 _ => 64 - b1.toNatClampNeg) ?_ _ _ _ ⟨rfl, Fg.refl x, 0, by decide, rfl, fun c hc => absurd hc (Nat.not_lt_zero _)⟩
  rintro R b0 b1 y ⟨rfl, f, k, hk, rfl, z0⟩ ih
  have fa : ∀ {y}, Fg no2 no2 no2 (fun a => a = o + 8) no1 x y → FrA o x y := fun f => f.mono (fun _ _ z => z.elim) (fun _ _ z => z) (fun _ _ z => z) (fun a z => by omega) (fun _ z => z.elim)
  have n8 := (A.2.1.len (A.fa (fa f)).1.1).2.2.2.2.2.2.2
  unfold j_Ans_markAsked_2
  rw [o13, n8]
  by_cases ck : k = 64
  · subst ck
    refine br_t (by decide) ?_
    refine lp_Ans_markAsked_23 (fun b0 b1 z => o = b0 ∧ Fg no2 no2 no2 (fun a => a = o + 8) no1 x z ∧ ∃ k, k ≤ Q.2.2.1.length ∧ nI k = b1 ∧ ∀ c, c < 64 → fA z (o + 8) c = if (Q.2.2.1.take k).any (askS F c) = true then 1 else 0) (fun _ b1 _ => Q.2.2.1.length - b1.toNatClampNeg) ?_ _ _ _ ⟨rfl, f, 0, Nat.zero_le _, rfl, fun c hc => z0 c hc⟩
    rintro R2 b0 b1 z ⟨rfl, fz, k, hk, rfl, zz⟩ ih2
    have Az := A.fa (fa fz)
    have h15 := Az.2.2.2.2.1
    obtain ⟨-, -, ⟨e8, s64, sS⟩, -⟩ := Az.2.2.2.2.2.1
    have m8 := (A.2.1.len Az.1.1).2.2.2.2.2.2.2
    obtain ⟨-, -, -, -, n5, n6, n7, n8', -, -⟩ := A.2.2.1.len Az.1.1
    unfold j_Ans_markAsked_23
    refine ⟨qo, h15, ?_⟩
    rw [e8]
    by_cases ce : k = Q.2.2.1.length
    · subst ce
      rw [List.take_length] at zz
      refine br_t (by (first | omega | (simp (disch := omega) only [Int32.le_iff_toInt_le, Int32.lt_iff_toInt_lt, z_eq, z_in, nI_toInt, z_cl, z_m1, z_sg, z_255, Int32.reduceToInt] <;> omega) | (simp only [Int32.le_iff_toInt_le, Int32.lt_iff_toInt_lt, z_eq, z_in, z_add, z_sub, z_mul, z_neg, z_nI, z_cl, z_sg, z_255, z_lit, Int32.reduceToInt] <;> omega))) (p z fz (fun c hc => ?_))
      exact zz c (by omega)
    · have kl : k < Q.2.2.1.length := by omega
      have hW := A.2.2.2.2.2.2.1.2.2.2.1 _ (mem_gD (d := (0, 0, 0, 0, 0)) kl)
      obtain ⟨-, -, kd, kd5, kd6, kd7⟩ := clS_kd hW
      obtain ⟨w1, w2, w3⟩ := clS_all hw hW
      obtain ⟨s1, s2, s3, s4⟩ := sS k kl
      have vs : vp_in (nI k) 64 := vp_in_nI (by omega) (by decide)
      have tk : ∀ c, (Q.2.2.1.take (k + 1)).any (askS F c) = ((Q.2.2.1.take k).any (askS F c) || askS F c (Q.2.2.1.getD k (0, 0, 0, 0, 0))) := by
        intro c
        rw [tk_sn (d := (0, 0, 0, 0, 0)) kl, List.any_append]
        congr 1
        show (_ || false) = _
        rw [Bool.or_false]
      refine br_f (by (first | omega | (simp (disch := omega) only [Int32.le_iff_toInt_le, Int32.lt_iff_toInt_lt, z_eq, z_in, nI_toInt, z_cl, z_m1, z_sg, z_255, Int32.reduceToInt] <;> omega) | (simp only [Int32.le_iff_toInt_le, Int32.lt_iff_toInt_lt, z_eq, z_in, z_add, z_sub, z_mul, z_neg, z_nI, z_cl, z_sg, z_255, z_lit, Int32.reduceToInt] <;> omega))) ⟨qo, h15, ?_⟩
      rw [c9, n5]
      refine ⟨vs, nm_r (e' := (clS F (Q.2.2.1.getD k (0, 0, 0, 0, 0))).1) (by rw [rA_nI (by omega)]; exact s1) ?_⟩
      generalize hst : Q.2.2.1.getD k (0, 0, 0, 0, 0) = st at *
      -- the end of a turn
      have fin : ∀ w, Fg no2 no2 no2 (fun a => a = o + 8) no1 x w → (∀ c, c < 64 → fA w (o + 8) c = if (Q.2.2.1.take (k + 1)).any (askS F c) = true then 1 else 0) → ∀ l2, j_Ans_markAsked_88 post R2 o (nI k) l2 w := by
        intro w fw h l2
        unfold j_Ans_markAsked_88
        rw [nI_1]
        refine ih2 _ _ _ ⟨rfl, fw, k + 1, kl, rfl, h⟩ ?_
        rw [nI_clamp (by omega), nI_clamp (by omega)]
        omega
      -- the second column
      have snd : ∀ w, Fg no2 no2 no2 (fun a => a = o + 8) no1 x w → (∀ c, c < 64 → fA w (o + 8) c = if ((Q.2.2.1.take k).any (askS F c) || decide (¬ 5 ≤ st.1 ∧ cOf F st.2.1 = c)) = true then 1 else 0) → ∀ l2, j_Ans_markAsked_65 post R2 o (nI k) l2 w := by
        intro w fw h l2
        have Aw := A.fa (fa fw)
        have k15 := Aw.2.2.2.2.1
        have sW := (Aw.2.2.2.2.2.1.2.2.1.2.2 k kl).2.2.1
        rw [hst] at sW
        have m8 := (A.2.1.len Aw.1.1).2.2.2.2.2.2.2
        have n7 := (A.2.2.1.len Aw.1.1).2.2.2.2.2.2.1
        unfold j_Ans_markAsked_65
        refine k_cc Aw kl ?_
        rw [hst]
        by_cases e4 : st.1 = 4
        · rw [if_pos e4]
          obtain ⟨-, -, g, hg, eg, cg⟩ := w2 e4
          have cgl := (col_ok hw hg).1
          rw [cg] at sW
          refine br_f (by decide) ⟨qo, k15, ?_⟩
          rw [c11, n7, o13, m8, rA_nI (by omega), sW]
          refine ⟨vs, vp_in_nI (by omega) (by decide), nm_e (fin _ (fw.trans (Fg.a rfl)) (fun c hc => ?_) _)⟩
          have ec : cOf F st.2.2.2.1 = ncol (F.take g) := by rw [eg, cOf_w hw hg.1]
          have hh := h c hc
          rw [tk c]
          unfold askS at hh ⊢
          rw [ec, ← Bool.or_assoc]
          by_cases q : c = ncol (F.take g)
          · subst q
            rw [gA_on (by omega), decide_eq_true (show st.1 = 4 ∧ ncol (F.take g) = ncol (F.take g) from ⟨e4, rfl⟩), Bool.or_true]
            rfl
          · rw [gA_off (by omega) q, hh, decide_eq_false (show ¬ (st.1 = 4 ∧ ncol (F.take g) = c) from fun z => q z.2.symm), Bool.or_false]
        · rw [if_neg e4]
          refine br_t rfl (fin w fw (fun c hc => ?_) _)
          have hh := h c hc
          rw [tk c]
          unfold askS at hh ⊢
          rw [hh]
          rw [decide_eq_false (p := st.1 = 4 ∧ _) (fun z => e4 z.1), Bool.or_false]
      by_cases c5 : 5 ≤ st.1
      · have k9 : (9 : Int32) ≤ (clS F st).1 := by
          have k7 := (clS_kd hW).2.1
          have e567 : st.1 = 5 ∨ st.1 = 6 ∨ st.1 = 7 := by
            clear fin snd tk ih2 ih kd kd5 kd6 kd7 w1 w2 w3 zz
            generalize st.1 = v at *
            (first | omega | (simp (disch := omega) only [Int32.le_iff_toInt_le, Int32.lt_iff_toInt_lt, z_eq, z_in, nI_toInt, z_cl, z_m1, z_sg, z_255, Int32.reduceToInt] at * <;> omega) | (simp only [Int32.le_iff_toInt_le, Int32.lt_iff_toInt_lt, z_eq, z_in, z_add, z_sub, z_mul, z_neg, z_nI, z_cl, z_sg, z_255, z_lit, Int32.reduceToInt] at * <;> omega))
          rcases e567 with e | e | e
          · rw [kd5 e]; decide
          · rw [kd6 e]; decide
          · rw [kd7 e]; decide
        refine br_t k9 (snd z fz (fun c hc => ?_) _)
        rw [decide_eq_false (fun q => q.1 c5), Bool.or_false]
        exact zz c hc
      · obtain ⟨f0, hf, ef, cf⟩ := w1 c5
        have cfl := (col_ok hw hf).1
        rw [cf] at s2
        refine br_f (kd c5).2 ⟨qo, h15, ?_⟩
        rw [c10, n6, o13, m8, rA_nI (by omega), s2]
        refine ⟨vs, vp_in_nI (by omega) (by decide), nm_e (snd _ (fz.trans (Fg.a rfl)) (fun c hc => ?_) _)⟩
        have ec : cOf F st.2.1 = ncol (F.take f0) := by rw [ef, cOf_w hw hf.1]
        rw [ec]
        by_cases q : c = ncol (F.take f0)
        · subst q
          rw [gA_on (by omega), decide_eq_true ⟨c5, rfl⟩, Bool.or_true]
          rfl
        · rw [gA_off (by omega) q, zz c hc, decide_eq_false (fun z => q z.2.symm), Bool.or_false]
  · have k64 : k < 64 := by omega
    refine br_f (by (first | omega | (simp (disch := omega) only [Int32.le_iff_toInt_le, Int32.lt_iff_toInt_lt, z_eq, z_in, nI_toInt, z_cl, z_m1, z_sg, z_255, Int32.reduceToInt] <;> omega) | (simp only [Int32.le_iff_toInt_le, Int32.lt_iff_toInt_lt, z_eq, z_in, z_add, z_sub, z_mul, z_neg, z_nI, z_cl, z_sg, z_255, z_lit, Int32.reduceToInt] <;> omega))) ⟨vp_in_nI (by omega) (by decide), nm_e ?_⟩
    rw [nI_1]
    refine ih _ _ _ ⟨rfl, f.trans (Fg.a rfl), k + 1, by omega, rfl, fun c hc => ?_⟩ ?_
    · by_cases q : c = k
      · subst q
        rw [gA_on (by omega)]
        rfl
      · rw [gA_off (by omega) q]
        exact z0 c (by omega)
    · rw [nI_clamp (by omega), nI_clamp (by omega)]
      omega
end
