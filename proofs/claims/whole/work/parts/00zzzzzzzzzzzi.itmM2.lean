/-! kind, value, letter, skipped, model -/
section
variable {x y z : St} {F : List SFd} {G : List Nat} {K : List ChT} {CK : List (List PgW)} {Pl : List PV} {s : Nat} {Q : Qy} {o : Bool}
theorem itm_col (h4 : QyW F Q) (hc : cll Q = true) {it : QIt} (mq : it ∈ Q.1) (h : it.1 ≠ 1) : ∃ f, colF F f ∧ it.2.1 = nI f := by
  rcases h4.2.1 it mq with ⟨z, -⟩ | ⟨z, -⟩ | ⟨-, -, f, hf, ef, -⟩
  · have by1 := h4.2.2.2.2.2 hc it mq z
    unfold byB at by1
    rw [List.any_eq_true] at by1
    obtain ⟨f, f1, f2⟩ := by1
    exact ⟨f, h4.2.2.1 f f1, (of_decide_eq_true f2).symm⟩
  · exact absurd z h
  · exact ⟨f, hf, ef⟩
theorem itm_k {it : QIt} (h : itF F it) (h1 : it.1 ≠ 1) (h2 : it.1 ≠ 2) (h3 : it.1 ≠ 3) : it.1 = 0 ∨ 4 ≤ it.1 := by
  rcases h with ⟨z, -⟩ | ⟨z, -⟩ | ⟨z, -, -⟩
  · exact Or.inl z
  · exact absurd z h1
  · right
    have h2 : ¬ it.1 = 2 := h2
    have h3 : ¬ it.1 = 3 := h3
    clear h1
    (first | omega | (simp (disch := omega) only [Int32.le_iff_toInt_le, Int32.lt_iff_toInt_lt, z_eq, z_in, nI_toInt, z_cl, z_m1, z_sg, z_255, Int32.reduceToInt] at * <;> omega) | (simp only [Int32.le_iff_toInt_le, Int32.lt_iff_toInt_lt, z_eq, z_in, z_add, z_sub, z_mul, z_neg, z_nI, z_cl, z_sg, z_255, z_lit, Int32.reduceToInt] at * <;> omega))
theorem s_kindOf {post : Int32 → St → Prop} {v w : Int32} (hL : LM x) (h : AnM x o s F G CK Pl Q) (hO : o = true → RdM x F G CK Pl ∧ WfS F ∧ OkO F G CK ∧ CK.length = ncol F * G.length)
    (p0 : itA o F G CK Q v w = none → post (-1) x) (p1 : ∀ g i A, o = true → cll Q = true → v = nI g → w = nI i → grpA F G CK Q = some A → g < A.length → i < Q.1.length → itA o F G CK Q v w = some (Q.1.getD i (0, 0, 0), A.getD g (0, [])) → post (kdG F G CK (Q.1.getD i (0, 0, 0), A.getD g (0, []))) x) : wp_Mod_kindOf post v w x := by
  unfold wp_Mod_kindOf
  refine s_isItem hL h (fun g i A ho hc ev ew eA hg hi hit => bn_f (by decide) ?_) (fun hn => bn_t rfl (p0 hn))
  subst ho
  have p1 := p1 g i A rfl hc ev ew eA hg hi hit
  obtain ⟨H, hw, ok, hl⟩ := hO rfl
  obtain ⟨h1, h2, h3, h4, h5, h6⟩ := h.2 rfl
  obtain ⟨A', eA', n161, n5, hA⟩ := h5.2.2.2 hc
  rw [eA] at eA'
  injection eA' with eA'
  subst eA'
  obtain ⟨⟨q1, q2, q3⟩, -⟩ := h3.1
  obtain ⟨g1, g2, g3⟩ := hA g hg
  obtain ⟨t1, t2, -⟩ := q3 i hi
  rw [ev, ew]
  have e16 : (16 * (fI x 0 119)) + nI i = nI (16 * s + i) := by
    rw [h2]
    show nI 16 * nI s + nI i = _
    rw [nI_mul, nI_add]
  have eg : (16 * nI g) + nI i = nI (16 * g + i) := by
    show nI 16 * nI g + nI i = _
    rw [nI_mul, nI_add]
  have r80 : rA x 80 (nI (16 * s + i)) = (Q.1.getD i (0, 0, 0)).1 := by rw [rA_nI (by omega)]; exact t1
  have r81 : rA x 81 (nI (16 * s + i)) = (Q.1.getD i (0, 0, 0)).2.1 := by rw [rA_nI (by omega)]; exact t2
  have r111 : rA x 111 (nI (16 * g + i)) = nI (itV F G CK (Q.1.getD i (0, 0, 0)) (A.getD g (0, [])).2).length := by rw [rA_nI (by omega)]; exact (g3 i hi).1
  rw [e16, eg, r80, r81, r111, show fN x 80 = 48 from hL 80, show fN x 81 = 48 from hL 81, show fN x 111 = 8000 from hL 111]
  refine ⟨vp_in_nI (by omega) (by decide), nm_e ?_⟩
  have mq := mem_gD (d := ((0, 0, 0) : QIt)) hi
  have best := s_bestOf (g := g) (i := i) (post := fun (r2672 : Int32) (x2671 : St) => ((¬ r2672 = (-1) → ((¬ nI (tOf F (Q.1.getD i (0, 0, 0)).2.1) = 0 → ((¬ nI (tOf F (Q.1.getD i (0, 0, 0)).2.1) = 3 → post 2 x2671) ∧ (nI (tOf F (Q.1.getD i (0, 0, 0)).2.1) = 3 → post 3 x2671))) ∧ (nI (tOf F (Q.1.getD i (0, 0, 0)).2.1) = 0 → post 1 x2671))) ∧ (r2672 = (-1) → post 0 x2671))) H hw ok hl h hc eA hg hi
  generalize Q.1.getD i (0, 0, 0) = it at *
  have vl : (itV F G CK it (A.getD g (0, [])).2).length < 2 ^ 31 := by
    unfold itV
    split
    · decide
    · refine Nat.lt_of_le_of_lt (List.length_filterMap_le _ _) ?_
      have := grpA_len eA hg
      omega
  unfold kdG at p1
  by_cases c1 : it.1 = 1
  · rw [if_pos (Or.inl c1)] at p1
    refine br_t c1 ?_
    unfold j_Mod_kindOf_36
    exact p1
  refine br_f c1 ?_
  by_cases c2 : it.1 = 2
  · rw [if_pos (Or.inr c2)] at p1
    refine bn_t c2 ?_
    unfold j_Mod_kindOf_36
    exact p1
  rw [if_neg (fun z => z.elim c1 c2)] at p1
  refine bn_f c2 ?_
  by_cases c3 : it.1 = 3
  · rw [if_pos c3] at p1
    refine bn_t c3 ⟨vp_in_nI (by omega) (by decide), ?_⟩
    by_cases n : (itV F G CK it (A.getD g (0, [])).2).length = 0
    · rw [if_pos n] at p1
      rw [n]
      exact br_t (by decide) p1
    · rw [if_neg n] at p1
      refine br_f ?_ p1
      clear best p1
      (first | omega | (simp (disch := omega) only [Int32.le_iff_toInt_le, Int32.lt_iff_toInt_lt, z_eq, z_in, nI_toInt, z_cl, z_m1, z_sg, z_255, Int32.reduceToInt] <;> omega) | (simp only [Int32.le_iff_toInt_le, Int32.lt_iff_toInt_lt, z_eq, z_in, z_add, z_sub, z_mul, z_neg, z_nI, z_cl, z_sg, z_255, z_lit, Int32.reduceToInt] <;> omega))
  rw [if_neg c3] at p1
  refine bn_f c3 ⟨vp_in_nI (by omega) (by decide), ?_⟩
  obtain ⟨f, hf, ef⟩ := itm_col h4 hc mq c1
  obtain ⟨-, t4, tE⟩ := tOf_n hw hf
  have f1 := hf.1
  have hF := hw.1
  rw [ef, k_plM, show (128 : Int32) * 1 + nI f = nI (128 + f) from nI_add 128 f]
  have e4 : rA x 4 (nI (128 + f)) = nI (tOf F (nI f)) := by
    rw [rA_nI (by omega)]
    exact ((H.2.1.2.2.1 f hf.1).2.1).trans tE
  rw [e4, show fN x 4 = 384 from hL 4]
  refine ⟨vp_in_nI (by omega) (by decide), nm_e ?_⟩
  rw [ef] at best p1
  refine best (itm_k (h4.2.1 _ mq) c1 c2 c3) (fun n => bn_t rfl ?_) (fun a ha n => bn_f (nI_nm1 (by have := H.2.2.2.2.2.2.2.2.1.2.2.1; omega)) ?_)
  · rw [n] at p1
    exact p1
  · rw [n] at p1
    generalize tOf F (nI f) = ty at *
    have p1 : post (if ty = 0 then 1 else if ty = 3 then 3 else 2) x := p1
    by_cases z0 : ty = 0
    · rw [if_pos z0] at p1
      exact bn_t (by rw [z0]; rfl) p1
    · rw [if_neg z0] at p1
      refine bn_f (fun z => z0 (nI_inj (b := 0) (by omega) (by omega) z)) ?_
      by_cases z3 : ty = 3
      · rw [if_pos z3] at p1
        exact bn_t (by rw [z3]; rfl) p1
      · rw [if_neg z3] at p1
        exact bn_f (fun z => z3 (nI_inj (b := 3) (by omega) (by omega) z)) p1
theorem vaG_n {a : QIt × GrT} (h : ¬ (kdG F G CK a = 1 ∨ kdG F G CK a = 2)) : vaG F G CK a = 0 := by
  unfold vaG
  rw [if_neg h]
theorem s_v24 {post : Int64 → St → Prop} {g i : Nat} {A : List GrT} {l3 : Int32} (H : RdM x F G CK Pl) (hw : WfS F) (ok : OkO F G CK) (hl : CK.length = ncol F * G.length) (h : AnM x true s F G CK Pl Q) (hc : cll Q = true) (eA : grpA F G CK Q = some A) (hg : g < A.length) (hi : i < Q.1.length)
    (hk : kdG F G CK (Q.1.getD i (0, 0, 0), A.getD g (0, [])) = 1 ∨ kdG F G CK (Q.1.getD i (0, 0, 0), A.getD g (0, [])) = 2) (p : post (vaG F G CK (Q.1.getD i (0, 0, 0), A.getD g (0, []))) x) : j_Mod_value_24 post (nI g) (nI i) l3 x := by
  have hL := H.1
  obtain ⟨h1, h2, h3, h4, h5, h6⟩ := h.2 rfl
  obtain ⟨A', eA', n161, n5, hA⟩ := h5.2.2.2 hc
  rw [eA] at eA'
  injection eA' with eA'
  subst eA'
  obtain ⟨⟨q1, q2, q3⟩, -⟩ := h3.1
  obtain ⟨g1, g2, g3⟩ := hA g hg
  obtain ⟨t1, t2, -⟩ := q3 i hi
  obtain ⟨g31, g32, -⟩ := g3 i hi
  have e16 : (16 * (fI x 0 119)) + nI i = nI (16 * s + i) := by
    rw [h2]
    show nI 16 * nI s + nI i = _
    rw [nI_mul, nI_add]
  have eg : (16 * nI g) + nI i = nI (16 * g + i) := by
    show nI 16 * nI g + nI i = _
    rw [nI_mul, nI_add]
  have r80 : rA x 80 (nI (16 * s + i)) = (Q.1.getD i (0, 0, 0)).1 := by rw [rA_nI (by omega)]; exact t1
  have r110 : rA x 110 (nI g) = nI (A.getD g (0, [])).2.length := by rw [rA_nI (by omega)]; exact g2
  have r111 : rA x 111 (nI (16 * g + i)) = nI (itV F G CK (Q.1.getD i (0, 0, 0)) (A.getD g (0, [])).2).length := by rw [rA_nI (by omega)]; exact g31
  have r114 : rL x 114 (nI (16 * g + i)) = sumL (itV F G CK (Q.1.getD i (0, 0, 0)) (A.getD g (0, [])).2) := by rw [rL_nI (by omega)]; exact g32
  unfold j_Mod_value_24
  rw [e16, eg, r80, r110, r111, r114, show fN x 80 = 48 from hL 80, show fN x 110 = 500 from hL 110, show fN x 111 = 8000 from hL 111, show fN x 114 = 8000 from hL 114]
  refine ⟨vp_in_nI (by omega) (by decide), nm_e ?_⟩
  have mq := mem_gD (d := ((0, 0, 0) : QIt)) hi
  have best := s_bestOf (g := g) (i := i) (post := fun (r2685 : Int32) (x2684 : St) => (vp_in r2685 (fN x2684 54) ∧ post (rL x2684 54 r2685) x2684)) H hw ok hl h hc eA hg hi
  have hP := H.2.2.2.2.2.2.2.2.1
  have hP1 := hP.2.2.1
  unfold vaG at p
  rw [if_pos hk] at p
  generalize Q.1.getD i (0, 0, 0) = it at *
  by_cases c1 : it.1 = 1
  · rw [if_pos c1] at p
    exact bn_t c1 ⟨vp_in_nI (by omega) (by decide), p⟩
  rw [if_neg c1] at p
  refine bn_f c1 ?_
  by_cases c2 : it.1 = 2
  · rw [if_pos c2] at p
    exact bn_t c2 ⟨vp_in_nI (by omega) (by decide), p⟩
  rw [if_neg c2] at p
  refine bn_f c2 ?_
  by_cases c3 : it.1 = 3
  · rw [if_pos c3] at p
    exact bn_t c3 ⟨vp_in_nI (by omega) (by decide), p⟩
  rw [if_neg c3] at p
  refine bn_f c3 (best (itm_k (h4.2.1 _ mq) c1 c2 c3) (fun n => ?_) (fun a ha n => ?_))
  · exfalso
    unfold kdG at hk
    rw [if_neg (fun z => z.elim c1 c2), if_neg c3, n] at hk
    rcases hk with hk | hk
    · exact absurd hk (by show ¬ (0 : Int32) = 1; decide)
    · exact absurd hk (by show ¬ (0 : Int32) = 2; decide)
  · rw [n] at p
    rw [rL_nI (by omega), (hP.2.2.2.2 a ha).1, show fN x 54 = 50000 from hL 54]
    exact ⟨vp_in_nI (by omega) (by decide), p⟩
theorem s_kindQ {post : Int32 → St → Prop} {v w : Int32} (hL : LM x) (h : AnM x o s F G CK Pl Q) (hO : o = true → RdM x F G CK Pl ∧ WfS F ∧ OkO F G CK ∧ CK.length = ncol F * G.length)
    (p : post (match itA o F G CK Q v w with | none => -1 | some a => kdG F G CK a) (setI x 0 0 0)) : wp_Mod_kind post v w x := by
  have f : FrR0 x (setI x 0 0 0) := Fg.i (by decide)
  unfold wp_Mod_kind
  refine nm_e (s_kindOf hL (h.cg (fun k hk => gI_ne (by omega)) (fun _ _ => rfl) (fun _ _ => rfl)) (fun ho => ⟨(hO ho).1.run f.run, (hO ho).2⟩) (fun n => ?_) (fun g i A _ _ _ _ _ _ _ n => ?_))
  · rw [n] at p; exact p
  · rw [n] at p; exact p
theorem s_valueQ {post : Int64 → St → Prop} {v w : Int32} (hL : LM x) (h : AnM x o s F G CK Pl Q) (hO : o = true → RdM x F G CK Pl ∧ WfS F ∧ OkO F G CK ∧ CK.length = ncol F * G.length)
    (p : post (match itA o F G CK Q v w with | none => 0 | some a => vaG F G CK a) (setI x 0 0 0)) : wp_Mod_value post v w x := by
  have f : FrR0 x (setI x 0 0 0) := Fg.i (by decide)
  have h' : AnM (setI x 0 0 0) o s F G CK Pl Q := h.cg (fun k hk => gI_ne (by omega)) (fun _ _ => rfl) (fun _ _ => rfl)
  have hO' := fun ho => (⟨(hO ho).1.run f.run, (hO ho).2⟩ : RdM (setI x 0 0 0) F G CK Pl ∧ WfS F ∧ OkO F G CK ∧ CK.length = ncol F * G.length)
  unfold wp_Mod_value
  refine nm_e (s_kindOf hL h' hO' (fun n => ?_) (fun g i A ho hc ev ew eA hg hi n => ?_))
  · rw [n] at p
    exact br_f (by decide) (br_f (by decide) p)
  · rw [n] at p
    subst ho
    obtain ⟨H, hw, ok, hl⟩ := hO' rfl
    have go : ∀ l3, (kdG F G CK (Q.1.getD i (0, 0, 0), A.getD g (0, [])) = 1 ∨ kdG F G CK (Q.1.getD i (0, 0, 0), A.getD g (0, [])) = 2) → j_Mod_value_24 post v w l3 (setI x 0 0 0) := fun l3 hk => by
      rw [ev, ew]
      exact s_v24 H hw ok hl h' hc eA hg hi hk p
    by_cases c1 : kdG F G CK (Q.1.getD i (0, 0, 0), A.getD g (0, [])) = 1
    · exact br_t c1 (go _ (Or.inl c1))
    refine br_f c1 ?_
    by_cases c2 : kdG F G CK (Q.1.getD i (0, 0, 0), A.getD g (0, [])) = 2
    · exact br_t c2 (go _ (Or.inr c2))
    refine br_f c2 ?_
    have p : post (vaG F G CK (Q.1.getD i (0, 0, 0), A.getD g (0, []))) (setI x 0 0 0) := p
    rw [vaG_n (fun z => z.elim c1 c2)] at p
    exact p
theorem s_letter {post : Int32 → St → Prop} {v w u : Int32} (hL : LM x) (h : AnM x o s F G CK Pl Q) (hO : o = true → RdM x F G CK Pl ∧ WfS F ∧ OkO F G CK ∧ CK.length = ncol F * G.length)
    (p : post (match itA o F G CK Q v w with | none => -1 | some a => leG F G CK a u) (setI x 0 0 0)) : wp_Mod_letter post v w u x := by
  have f : FrR0 x (setI x 0 0 0) := Fg.i (by decide)
  have h' : AnM (setI x 0 0 0) o s F G CK Pl Q := h.cg (fun k hk => gI_ne (by omega)) (fun _ _ => rfl) (fun _ _ => rfl)
  have hO' := fun ho => (⟨(hO ho).1.run f.run, (hO ho).2⟩ : RdM (setI x 0 0 0) F G CK Pl ∧ WfS F ∧ OkO F G CK ∧ CK.length = ncol F * G.length)
  unfold wp_Mod_letter
  refine nm_e (s_kindOf hL h' hO' (fun n => ?_) (fun g i A ho hc ev ew eA hg hi n => ?_))
  · rw [n] at p
    exact br_f (by decide) p
  · rw [n] at p
    have p : post (leG F G CK (Q.1.getD i (0, 0, 0), A.getD g (0, [])) u) (setI x 0 0 0) := p
    subst ho
    obtain ⟨H, hw, ok, hl⟩ := hO' rfl
    have hP := H.2.2.2.2.2.2.2.2.1
    have hP1 := hP.2.2.1
    have hP2 := hP.2.2.2.1
    have h4 := (h'.2 rfl).2.2.2.1
    have mq := mem_gD (d := ((0, 0, 0) : QIt)) hi
    have Lx := H.1
    generalize setI x 0 0 0 = y at *
    unfold leG at p
    by_cases c3 : kdG F G CK (Q.1.getD i (0, 0, 0), A.getD g (0, [])) = 3
    rotate_left
    · rw [if_neg c3] at p
      exact br_f c3 p
    rw [if_pos c3] at p
    refine br_t c3 ?_
    rw [ev, ew]
    have hn : (Q.1.getD i (0, 0, 0)).1 = 0 ∨ 4 ≤ (Q.1.getD i (0, 0, 0)).1 := by
      have c3' := c3
      unfold kdG at c3'
      by_cases d : (Q.1.getD i (0, 0, 0)).1 = 1 ∨ (Q.1.getD i (0, 0, 0)).1 = 2
      · rw [if_pos d] at c3'
        exact absurd c3' (by decide)
      · rw [if_neg d] at c3'
        by_cases e : (Q.1.getD i (0, 0, 0)).1 = 3
        · rw [if_pos e] at c3'
          split at c3' <;> exact absurd c3' (by decide)
        · exact itm_k (h4.2.1 _ mq) (fun z => d (Or.inl z)) (fun z => d (Or.inr z)) e
    refine s_bestOf H hw ok hl h' hc eA hg hi hn (fun n => ?_) (fun a ha n => ?_)
    · rw [n] at p
      exfalso
      unfold kdG at c3
      rw [n] at c3
      split at c3
      · exact absurd c3 (by decide)
      · split at c3
        · split at c3 <;> exact absurd c3 (by decide)
        · exact absurd c3 (by show ¬ (0 : Int32) = 3; decide)
    · rw [n] at p
      obtain ⟨-, b1, b2, b3⟩ := hP.2.2.2.2 a ha
      have o1 : oF Pl (a + 1) ≤ oF Pl Pl.length := oF_le ha
      have o2 : oF Pl (a + 1) = oF Pl a + (pvd Pl a).2.length := rfl
      have p : post (if 0 ≤ u ∧ u < nI (pvd Pl a).2.length then (pvd Pl a).2.getD (fOf u) 0 else -1) y := p
      have no : ¬ (0 ≤ u ∧ u < nI (pvd Pl a).2.length) → j_Mod_letter_40 post (nI g) (nI i) u (nI a) y := fun q => by
        rw [if_neg q] at p
        exact p
      by_cases c1 : u < 0
      · exact br_t c1 (no (fun z => absurd c1 (Int32.not_lt.mpr z.1)))
      refine br_f c1 ?_
      rw [rA_nI (o := 56) (by omega), b2, rA_nI (o := 55) (by omega), b1, show fN y 56 = 50000 from Lx 56, show fN y 55 = 50000 from Lx 55, show fN y 57 = 160000 from Lx 57]
      refine ⟨vp_in_nI (by omega) (by decide), ?_⟩
      by_cases c2 : u < nI (pvd Pl a).2.length
      rotate_left
      · exact br_f c2 (no (fun z => c2 z.2))
      rw [if_pos ⟨Int32.not_lt.mp c1, c2⟩] at p
      obtain ⟨j, j1, rfl⟩ := i_fit (by omega) c1 c2
      refine br_t c2 ⟨vp_in_nI (by omega) (by decide), ?_⟩
      rw [nI_add, rA_nI (by omega), b3 j j1]
      unfold fOf at p
      rw [nI_clamp (by omega)] at p
      exact ⟨vp_in_nI (by omega) (by decide), p⟩
/-- what skipped answers -/
def skAn (o : Bool) (F : List SFd) (G : List Nat) (CK : List (List PgW)) (Q : Qy) (v : Int32) : Int32 := if v = 0 then (if o = true then nI (skT F Q G CK).1 else 0) else if v = 1 then (if o = true then nI (skT F Q G CK).2 else 0) else -1
theorem s_skipped {post : Int32 → St → Prop} {v : Int32} (h : AnM x o s F G CK Pl Q) (p : post (skAn o F G CK Q v) (setI x 0 0 0)) : wp_Mod_skipped post v x := by
  unfold wp_Mod_skipped
  refine nm_e ?_
  have e121 : fI (setI x 0 0 0) 0 121 = if o = true then 1 else 0 := h.1
  have e163 : o = true → fI (setI x 0 0 0) 0 163 = nI (skT F Q G CK).1 := fun ho => (h.2 ho).2.2.2.2.1.1
  have e164 : o = true → fI (setI x 0 0 0) 0 164 = nI (skT F Q G CK).2 := fun ho => (h.2 ho).2.2.2.2.1.2.1
  generalize setI x 0 0 0 = y at *
  unfold skAn at p
  by_cases c0 : v = 0
  · subst c0
    rw [if_pos rfl] at p
    refine br_f (by decide) (br_t (by decide) ?_)
    rw [e121]
    cases o with
    | false => exact bn_t rfl p
    | true => exact bn_f (by decide) (bn_t rfl (by rw [e163 rfl]; exact p))
  · rw [if_neg c0] at p
    by_cases c1 : v = 1
    · subst c1
      rw [if_pos rfl] at p
      refine br_f (by decide) (br_t (by decide) ?_)
      rw [e121]
      cases o with
      | false => exact bn_t rfl p
      | true => exact bn_f (by decide) (bn_f (by decide) (by rw [e164 rfl]; exact p))
    · rw [if_neg c1] at p
      by_cases c2 : v < 0
      · exact br_t c2 p
      refine br_f c2 (br_f ?_ p)
      clear p h
      intro c3
      have z : v = nI 0 ∨ v = nI 1 := by
        obtain ⟨j, j1, rfl⟩ := i_fit (v := v) (n := 2) (by decide) c2 (by show v < 2; clear e121 e163 e164 c0 c1; (first | omega | (simp (disch := omega) only [Int32.le_iff_toInt_le, Int32.lt_iff_toInt_lt, z_eq, z_in, nI_toInt, z_cl, z_m1, z_sg, z_255, Int32.reduceToInt] at * <;> omega) | (simp only [Int32.le_iff_toInt_le, Int32.lt_iff_toInt_lt, z_eq, z_in, z_add, z_sub, z_mul, z_neg, z_nI, z_cl, z_sg, z_255, z_lit, Int32.reduceToInt] at * <;> omega)))
        have : j = 0 ∨ j = 1 := by omega
        rcases this with rfl | rfl
        · exact Or.inl rfl
        · exact Or.inr rfl
      exact z.elim c0 c1
end
