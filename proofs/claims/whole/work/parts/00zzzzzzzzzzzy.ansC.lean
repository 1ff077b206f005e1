/-! what an answer tells, class -/
theorem by_255 {z : Int32} (hz : 0 ≤ z ∧ z ≤ 255) : z.toInt8.toInt32 &&& 255 = z := by
  have e : ∀ n, n < 256 → (nI n).toInt8.toInt32 &&& 255 = nI n := by decide +kernel
  have := e _ (uI_by hz)
  rw [nI_uI] at this
  exact this
section
variable {x y z : St} {F : List SFd} {G : List Nat} {K : List ChT} {CK : List (List PgW)} {b dE a : Nat} {Q : Qy} {on : Bool}
theorem kdG_4 {p : QIt × GrT} : kdG F G CK p = 0 ∨ kdG F G CK p = 1 ∨ kdG F G CK p = 2 ∨ kdG F G CK p = 3 := by
  unfold kdG
  split
  · exact Or.inr (Or.inr (Or.inl rfl))
  · split
    · split
      · exact Or.inl rfl
      · exact Or.inr (Or.inr (Or.inl rfl))
    · split
      · exact Or.inl rfl
      · split
        · exact Or.inr (Or.inl rfl)
        · split
          · exact Or.inr (Or.inr (Or.inr rfl))
          · exact Or.inr (Or.inr (Or.inl rfl))
theorem k_rowAt {post : Int32 → St → Prop} {v : Int32} (hL : LC x) (ha : AId a) (hS : smN G ≤ 2000) (h : AnR x a on F G CK b Q) (p : post (match rwA on F G CK Q v with | none => -1 | some r => nI r) x) : wp_Ans_rowAt post a v x := by
  have o5 := (sta ha).2.1
  have n2 := (ha.len hL).2.1
  have no : ¬ (on = true ∧ cll Q = false ∧ 0 ≤ v ∧ v < nI (fndR F G CK Q).length) → j_Ans_rowAt_26 post a v x := fun hn => by
    unfold rwA at p
    rw [if_neg hn] at p
    exact p
  unfold wp_Ans_rowAt
  rw [h.1]
  cases on with
  | false => exact br_t rfl (no (fun z => nomatch z.1))
  | true =>
    obtain ⟨h6, h7, -, -, h1, -⟩ := h.2 rfl
    refine br_f (by decide) ?_
    rw [h6]
    by_cases c : cll Q = true
    · rw [if_pos c]
      exact bn_f (by decide) (no (fun z => by rw [c] at z; exact nomatch z.2.1))
    · have c' : cll Q = false := Bool.not_eq_true _ |>.mp c
      obtain ⟨⟨u1, u2⟩, -⟩ := h1 c'
      have fl := fnd_le (F := F) (G := G) (CK := CK) (Q := Q)
      rw [if_neg c, u1]
      refine bn_t rfl ?_
      by_cases c1 : v < 0
      · exact br_t c1 (no (fun z => absurd c1 (Int32.not_lt.mpr z.2.2.1)))
      refine br_f c1 ?_
      by_cases c2 : v < nI (fndR F G CK Q).length
      · obtain ⟨i, i1, e⟩ := i_fit (by omega) c1 c2
        refine br_t c2 ?_
        unfold rwA at p
        rw [if_pos ⟨rfl, c', Int32.not_lt.mp c1, c2⟩] at p
        have p : post (nI ((fndR F G CK Q).getD (fOf v) 0)) x := p
        rw [e] at p ⊢
        unfold fOf at p
        rw [nI_clamp (by omega)] at p
        rw [o5, n2, rA_nI (by omega), u2 i i1]
        exact ⟨vp_in_nI (by omega) (by decide), p⟩
      · exact br_f c2 (no (fun z => c2 z.2.2.2))
theorem k_rowQ {post : Int32 → St → Prop} {v : Int32} (hL : LC x) (ha : AId a) (h12 : fR x 0 12 = some a) (hS : smN G ≤ 2000) (h : AnR x a on F G CK b Q) (p : post (match rwA on F G CK Q v with | none => -1 | some r => nI r) x) : wp_V_row post 0 v x := ⟨a, h12, k_rowAt hL ha hS h p⟩
theorem k_placeOf {post : Int32 → St → Prop} {v w : Int32} (hL : LC x) (ha : AId a) (hi16 : on = true → Q.1.length ≤ 16) (h : AnR x a on F G CK b Q) (p0 : itA on F G CK Q v w = none → post (-1) x) (p1 : ∀ g i A, on = true → v = nI g → w = nI i → g < 500 → i < 16 → grpA F G CK Q = some A → g < A.length → itA on F G CK Q v w = some (Q.1.getD i (0, 0, 0), A.getD g (0, [])) → GiC x a b (16 * g + i) F G CK (Q.1.getD i (0, 0, 0), A.getD g (0, [])) → post (nI (16 * g + i)) x) : wp_Ans_placeOf post a v w x := by
  have no : ¬ (on = true ∧ cll Q = true ∧ 0 ≤ v ∧ v < nI (agA F G CK Q).length ∧ 0 ≤ w ∧ w < nI Q.1.length) → j_Ans_placeOf_42 post a v w x := fun hn => by
    unfold j_Ans_placeOf_42 j_Ans_placeOf_43
    refine br_t rfl (p0 ?_)
    unfold itA
    rw [if_neg hn]
  unfold wp_Ans_placeOf
  rw [h.1]
  cases on with
  | false => exact br_t rfl (no (fun z => nomatch z.1))
  | true =>
    obtain ⟨h6, h7, -, -, -, h1⟩ := h.2 rfl
    have q16 := hi16 rfl
    refine br_f (by decide) ?_
    rw [h6, h7]
    by_cases c : cll Q = true
    rotate_left
    · rw [if_neg c]
      exact br_t rfl (no (fun z => c z.2.1))
    obtain ⟨A, eA, n1, n5, hA⟩ := h1 c
    have aA : agA F G CK Q = A := by unfold agA; rw [eA]; rfl
    rw [if_pos c, n1]
    refine br_f (by decide) ?_
    by_cases c1 : v < 0
    · exact br_t c1 (no (fun z => absurd c1 (Int32.not_lt.mpr z.2.2.1)))
    refine br_f c1 ?_
    by_cases c2 : v < nI A.length
    rotate_left
    · exact br_t (Int32.not_lt.mp c2) (no (fun z => c2 (by rw [← aA]; exact z.2.2.2.1)))
    refine br_f (Int32.not_le.mpr c2) ?_
    by_cases c3 : w < 0
    · exact br_t c3 (no (fun z => absurd c3 (Int32.not_lt.mpr z.2.2.2.2.1)))
    refine br_f c3 ?_
    by_cases c4 : w < nI Q.1.length
    rotate_left
    · exact br_t (Int32.not_lt.mp c4) (no (fun z => c4 z.2.2.2.2.2))
    refine br_f (Int32.not_le.mpr c4) ?_
    obtain ⟨g, g1, rfl⟩ := i_fit (by omega) c1 c2
    obtain ⟨i, i1, rfl⟩ := i_fit (by omega) c3 c4
    unfold j_Ans_placeOf_43
    have e : (nI g * 16) + nI i = nI (16 * g + i) := by
      show nI g * nI 16 + nI i = _
      rw [nI_mul, nI_add, Nat.mul_comm]
    rw [e]
    refine br_f (by decide) (p1 g i A rfl rfl rfl (by omega) (by omega) eA g1 ?_ ((hA g g1).2 i i1))
    unfold itA
    rw [aA, if_pos ⟨rfl, c, Int32.not_lt.mp c1, c2, Int32.not_lt.mp c3, c4⟩]
    unfold fOf
    rw [nI_clamp (by omega), nI_clamp (by omega)]
theorem k_kindQ {post : Int32 → St → Prop} {v w : Int32} (hL : LC x) (ha : AId a) (h12 : fR x 0 12 = some a) (hi16 : on = true → Q.1.length ≤ 16) (h : AnR x a on F G CK b Q) (p : post (match itA on F G CK Q v w with | none => -1 | some r => kdG F G CK r) x) : wp_V_kind post 0 v w x := by
  have o8 := (sta ha).2.2.1
  have n3 := (ha.len hL).2.2.1
  refine ⟨a, h12, k_placeOf hL ha hi16 h (fun e => bn_t rfl ?_) (fun g i A _ _ _ g5 i6 _ _ e gi => bn_f (nI_nm1 (by omega)) ⟨a, h12, ?_⟩)⟩
  · rw [e] at p
    exact p
  · rw [e] at p
    rw [o8, n3, rA_nI (by omega), gi.1]
    exact ⟨vp_in_nI (by omega) (by decide), p⟩
theorem itV_le {it : QIt} {L : List Nat} : (itV F G CK it L).length ≤ L.length := by
  unfold itV
  split
  · exact Nat.zero_le _
  · exact List.length_filterMap_le _ _
theorem GiC.val {ix : Nat} {pp : QIt × GrT} (h : GiC x a b ix F G CK pp) (hit : itF F pp.1) (pl : pp.2.2.length ≤ 2000) (k : kdG F G CK pp = 1 ∨ kdG F G CK pp = 2) : fL x (a + 4) ix = vaG F G CK pp := by
  obtain ⟨b1, b2, b3, b4, b5⟩ := h
  have il := itV_le (F := F) (G := G) (CK := CK) (it := pp.1) (L := pp.2.2)
  have k' := k
  unfold vaG
  rw [if_pos k]
  by_cases c1 : pp.1.1 = 1
  · rw [if_pos c1, b2 c1, nI_l (by omega)]
  rw [if_neg c1]
  by_cases c2 : pp.1.1 = 2
  · rw [if_pos c2, b3 c2, nI_l (by omega)]
  rw [if_neg c2]
  by_cases c3 : pp.1.1 = 3
  · rw [if_pos c3, b4 c3]
  rw [if_neg c3]
  have h4 := itm_k hit c1 c2 c3
  unfold kdG at k'
  rw [if_neg (fun z => z.elim c1 c2), if_neg c3] at k'
  cases hb : beG F G CK pp with
  | none =>
    rw [hb] at k'
    exact absurd k' (by show ¬ ((0 : Int32) = 1 ∨ (0 : Int32) = 2); decide)
  | some q =>
    rw [hb] at k'
    have k' : (if tOf F pp.1.2.1 = 0 then (1 : Int32) else if tOf F pp.1.2.1 = 3 then 3 else 2) = 1 ∨ (if tOf F pp.1.2.1 = 0 then (1 : Int32) else if tOf F pp.1.2.1 = 3 then 3 else 2) = 2 := k'
    have n3 : tOf F pp.1.2.1 ≠ 3 := by
      intro e
      rw [e] at k'
      exact absurd k' (by decide)
    exact (b5 q h4 hb).1 n3
theorem k_valueQ {post : Int64 → St → Prop} {v w : Int32} (hL : LC x) (ha : AId a) (h12 : fR x 0 12 = some a) (hi16 : on = true → Q.1.length ≤ 16) (hS : smN G ≤ 2000) (hI : on = true → ∀ i, i ∈ Q.1 → itF F i) (h : AnR x a on F G CK b Q) (p : post (match itA on F G CK Q v w with | none => 0 | some r => vaG F G CK r) x) : wp_V_value post 0 v w x := by
  have o8 := (sta ha).2.2.1
  have o9 := (sta ha).2.2.2.1
  have n3 := (ha.len hL).2.2.1
  have n4 := (ha.len hL).2.2.2.1
  refine ⟨a, h12, k_placeOf hL ha hi16 h (fun e => br_t rfl ?_) (fun g i A ho ev ew g5 i6 eA hg e gi => br_f (nI_nm1 (by omega)) ⟨a, h12, ?_⟩)⟩
  · rw [e] at p
    exact p
  · rw [e] at p
    have p : post (vaG F G CK (Q.1.getD i (0, 0, 0), A.getD g (0, []))) x := p
    have gl := grpA_len eA hg
    have iq : i < Q.1.length := by
      unfold itA at e
      split at e
      · rename_i h'
        have := h'.2.2.2.2.2
        rw [ew] at this
        have q16 := hi16 ho
        clear e p gi h'
        (first | omega | (simp (disch := omega) only [Int32.le_iff_toInt_le, Int32.lt_iff_toInt_lt, z_eq, z_in, nI_toInt, z_cl, z_m1, z_sg, z_255, Int32.reduceToInt] at * <;> omega) | (simp only [Int32.le_iff_toInt_le, Int32.lt_iff_toInt_lt, z_eq, z_in, z_add, z_sub, z_mul, z_neg, z_nI, z_cl, z_sg, z_255, z_lit, Int32.reduceToInt] at * <;> omega))
      · exact nomatch e
    have hit := hI ho _ (mem_gD (d := (0, 0, 0)) iq)
    generalize hpp : ((Q.1.getD i (0, 0, 0), A.getD g (0, [])) : QIt × GrT) = pp at *
    have pl : pp.2.2.length ≤ 2000 := by rw [← hpp]; exact Nat.le_trans gl hS
    have hit : itF F pp.1 := by rw [← hpp]; exact hit
    have vx : vp_in (nI (16 * g + i)) 8000 := vp_in_nI (by omega) (by decide)
    have gv := gi.val hit pl
    have b1 := gi.1
    rw [o8, n3, rA_nI (by omega), b1]
    refine ⟨vx, ?_⟩
    have tail : ¬ kdG F G CK pp = 3 → post (fL x (a + 4) (16 * g + i)) x → (∃ q7 : Nat, fR x 0 12 = some q7 ∧ (vp_in (nI (16 * g + i)) (fN x (stC q7 8)) ∧ ((¬ (rA x (stC q7 8) (nI (16 * g + i))) = 3 → (∃ q9 : Nat, fR x 0 12 = some q9 ∧ (vp_in (nI (16 * g + i)) (fN x (stC q9 9)) ∧ post (rL x (stC q9 9) (nI (16 * g + i))) x))) ∧ ((rA x (stC q7 8) (nI (16 * g + i))) = 3 → j_V_value_40 post 0 v w (nI (16 * g + i)) x)))) := by
      intro k3 pv
      refine ⟨a, h12, ?_⟩
      rw [o8, n3, rA_nI (by omega), b1]
      refine ⟨vx, bn_f k3 ⟨a, h12, ?_⟩⟩
      rw [o9, n4, rL_nI (by omega)]
      exact ⟨vx, pv⟩
    rcases kdG_4 (F := F) (G := G) (CK := CK) (p := pp) with k | k | k | k
    · rw [vaG_n (by rw [k]; decide)] at p
      exact br_t k p
    · exact br_f (by rw [k]; decide) (tail (by rw [k]; decide) (by rw [gv (Or.inl k)]; exact p))
    · exact br_f (by rw [k]; decide) (tail (by rw [k]; decide) (by rw [gv (Or.inr k)]; exact p))
    · rw [vaG_n (by rw [k]; decide)] at p
      refine br_f (by rw [k]; decide) ⟨a, h12, ?_⟩
      rw [o8, n3, rA_nI (by omega), b1]
      exact ⟨vx, bn_t k p⟩
theorem k_letterQ {post : Int32 → St → Prop} {v w u : Int32} (hL : LC x) (ha : AId a) (h12 : fR x 0 12 = some a) (hi16 : on = true → Q.1.length ≤ 16) (hb : b ≤ 120255) (hI : on = true → ∀ i, i ∈ Q.1 → itF F i) (h : AnR x a on F G CK b Q) (p : post (match itA on F G CK Q v w with | none => -1 | some r => leG F G CK r u) x) : wp_V_letter post 0 v w u x := by
  have o8 := (sta ha).2.2.1
  have o9 := (sta ha).2.2.2.1
  have n3 := (ha.len hL).2.2.1
  have n4 := (ha.len hL).2.2.2.1
  refine ⟨a, h12, k_placeOf hL ha hi16 h (fun e => br_t rfl ?_) (fun g i A ho ev ew g5 i6 eA hg e gi => br_f (nI_nm1 (by omega)) ⟨a, h12, ?_⟩)⟩
  · rw [e] at p
    exact p
  · rw [e] at p
    have p : post (leG F G CK (Q.1.getD i (0, 0, 0), A.getD g (0, [])) u) x := p
    have iq : i < Q.1.length := by
      unfold itA at e
      split at e
      · rename_i h'
        have := h'.2.2.2.2.2
        rw [ew] at this
        have q16 := hi16 ho
        clear e p gi h'
        (first | omega | (simp (disch := omega) only [Int32.le_iff_toInt_le, Int32.lt_iff_toInt_lt, z_eq, z_in, nI_toInt, z_cl, z_m1, z_sg, z_255, Int32.reduceToInt] at * <;> omega) | (simp only [Int32.le_iff_toInt_le, Int32.lt_iff_toInt_lt, z_eq, z_in, z_add, z_sub, z_mul, z_neg, z_nI, z_cl, z_sg, z_255, z_lit, Int32.reduceToInt] at * <;> omega))
      · exact nomatch e
    have hit := hI ho _ (mem_gD (d := (0, 0, 0)) iq)
    generalize hpp : ((Q.1.getD i (0, 0, 0), A.getD g (0, [])) : QIt × GrT) = pp at *
    have hit : itF F pp.1 := by rw [← hpp]; exact hit
    have vx : vp_in (nI (16 * g + i)) 8000 := vp_in_nI (by omega) (by decide)
    obtain ⟨b1, -, -, -, b5⟩ := gi
    rw [o8, n3, rA_nI (by omega), b1]
    refine ⟨vx, ?_⟩
    unfold leG at p
    by_cases k3 : kdG F G CK pp = 3
    rotate_left
    · rw [if_neg k3] at p
      exact bn_f k3 p
    rw [if_pos k3] at p
    refine bn_t k3 ?_
    have k' := k3
    unfold kdG at k'
    by_cases c12 : pp.1.1 = 1 ∨ pp.1.1 = 2
    · rw [if_pos c12] at k'
      exact absurd k' (by decide)
    rw [if_neg c12] at k'
    by_cases c3 : pp.1.1 = 3
    · rw [if_pos c3] at k'
      split at k' <;> exact absurd k' (by decide)
    rw [if_neg c3] at k'
    have h4 := itm_k hit (fun z => c12 (Or.inl z)) (fun z => c12 (Or.inr z)) c3
    cases hbe : beG F G CK pp with
    | none =>
      rw [hbe] at k'
      exact absurd k' (by show ¬ (0 : Int32) = 3; decide)
    | some q =>
      rw [hbe] at k' p
      have k' : (if tOf F pp.1.2.1 = 0 then (1 : Int32) else if tOf F pp.1.2.1 = 3 then 3 else 2) = 3 := k'
      have p : post (if 0 ≤ u ∧ u < nI q.2.length then q.2.getD (fOf u) 0 else -1) x := p
      have t3 : tOf F pp.1.2.1 = 3 := by
        apply Classical.byContradiction
        intro n
        rw [if_neg n] at k'
        split at k' <;> exact absurd k' (by decide)
      obtain ⟨tk, at0, ae, al, ab⟩ := (b5 q h4 hbe).2 t3
      have no : ¬ (0 ≤ u ∧ u < nI q.2.length) → j_V_letter_52 post 0 v w u (nI (16 * g + i)) x := fun n => by
        rw [if_neg n] at p
        exact p
      have ql := tk.1
      by_cases c1 : u < 0
      · exact br_t c1 (no (fun z => absurd c1 (Int32.not_lt.mpr z.1)))
      refine br_f c1 ⟨a, h12, ?_⟩
      rw [o9, n4, rL_nI (by omega), ae]
      refine ⟨vx, ?_⟩
      unfold wp_V_sizeOf
      rw [ref_sz ql (by omega)]
      by_cases c2 : u < nI q.2.length
      rotate_left
      · exact br_f c2 (no (fun z => c2 z.2))
      rw [if_pos ⟨Int32.not_lt.mp c1, c2⟩] at p
      obtain ⟨j, j1, rfl⟩ := i_fit (by omega) c1 c2
      refine br_t c2 ⟨a, h12, ?_⟩
      rw [o9, n4, rL_nI (by omega), ae]
      refine ⟨vx, ?_⟩
      unfold wp_V_placeOf
      rw [ref_pl ql (by omega)]
      show vp_in (nI at0 + nI j) (fN x (stC (stC 0 8) 6)) ∧ post (rA x (stC (stC 0 8) 6) (nI at0 + nI j) &&& 255) x
      rw [nI_add]
      have l82 : fN x 82 = 120255 := hL 82 (by decide)
      have r82 : rA x (stC (stC 0 8) 6) (nI (at0 + j)) = (q.2.getD j 0).toInt8.toInt32 := by
        have : rA x 82 (nI (at0 + j)) = fA x 82 (at0 + j) := rA_nI (by omega)
        exact this.trans (ab j j1)
      rw [r82, by_255 (tk.2 j j1)]
      unfold fOf at p
      rw [nI_clamp (by omega)] at p
      exact ⟨by show vp_in _ (fN x 82); rw [l82]; exact vp_in_nI (by omega) (by decide), p⟩
theorem k_skippedQ {post : Int32 → St → Prop} {v : Int32} (h12 : fR x 0 12 = some a) (h : AnR x a on F G CK b Q) (p : post (skAn on F G CK Q v) x) : wp_V_skipped post 0 v x := by
  unfold skAn at p
  unfold wp_V_skipped j_V_skipped_11
  by_cases c0 : v = 0
  · subst c0
    rw [if_pos rfl] at p
    refine br_t rfl ⟨a, h12, ?_⟩
    rw [h.1]
    cases on with
    | false => exact bn_t rfl p
    | true => exact bn_f (by decide) (bn_t rfl ⟨a, h12, by rw [(h.2 rfl).2.2.1]; exact p⟩)
  · rw [if_neg c0] at p
    refine br_f c0 ?_
    by_cases c1 : v = 1
    · subst c1
      rw [if_pos rfl] at p
      refine br_t rfl ⟨a, h12, ?_⟩
      rw [h.1]
      cases on with
      | false => exact bn_t rfl p
      | true => exact bn_f (by decide) (bn_f (by decide) ⟨a, h12, by rw [(h.2 rfl).2.2.2.1]; exact p⟩)
    · rw [if_neg c1] at p
      exact br_f c1 p
/-- answer, class -/
theorem k_answerQ {v : Int32} {o : Bool} {κ : Nat → Nat} (ha : AId a) (h12 : fR x 0 12 = some a) (h : AnR x a on F G CK b Q) (hoo : on = true → o = true) (hK : SkS x) (hC : Caps x κ) (hκ : ∀ t, SnkId t → κ t ≤ roomOf t) (hL : LC x) (h5 : fI x 147 5 = 0) (h6 : fI x 147 6 = 0) (h97 : fI x 97 0 = if o = true then 1 else 0) (hO : o = true → OpC x F (smN G) G K CK ∧ OkO F G CK) (hS : smN G ≤ 2000) :
    ∃ κ', Kle κ κ' ∧ ∀ (post : Int32 → St → Prop) kb nb, KP κ ≤ kb + KP κ' → NP κ ≤ nb + NP κ' →
      (rwA on F G CK Q v = none → ∀ y, SkS y → Caps y κ' → FAg x y → Snk y 147 [] → post (-1) y) →
      (∀ r, rwA on F G CK Q v = some r → 100000 < (shO F G CK (wnQ F Q) r).length → ∀ y, SkS y → Caps y κ' → FAg x y → Snk y 147 [] → post (-1) y) →
      (∀ r, rwA on F G CK Q v = some r → (shO F G CK (wnQ F Q) r).length ≤ 100000 → ∀ y, SkS y → Caps y κ' → FAg x y → Snk y 147 (shO F G CK (wnQ F Q) r) → post (nI (shO F G CK (wnQ F Q) r).length) y) →
      wp_V_answer post 0 v kb nb x := by
  have o4 := (sta ha).1
  have n1 := (ha.len hL).1
  have ho2 : 128 ≤ a ∧ a ≤ 137 := by rcases ha with rfl | rfl <;> decide
  have sr : stRow (a + 1) := by rcases ha with rfl | rfl <;> exact ⟨by decide, by unfold skRow; decide, fun s hs => by unfold SnkId at hs; rcases hs with rfl | rfl | rfl | rfl | rfl | rfl | rfl | rfl | rfl <;> decide⟩
  cases hr : rwA on F G CK Q v with
  | none =>
    obtain ⟨κ', k1, k2⟩ := k_asm (l1 := -1) (W := fun c => decide (¬ fA x (a + 1) (lfC F c) = 0)) (wq := a + 1) sr ⟨by omega, by omega⟩ n1 (fun _ c _ => decide_eq_true_iff) hK hC hκ hL h5 h6 h97 hO
    refine ⟨κ', k1, fun post kb nb hk hn pn _ _ => ⟨a, h12, k_rowAt hL ha hS h ?_⟩⟩
    rw [hr]
    refine ⟨a, h12, kb, nb, 0, 0, rfl, rfl, ?_⟩
    rw [o4]
    exact k2 post kb nb hk hn (fun _ => pn rfl) (fun r _ e hr2 => absurd e (fun z => nI_nm1 (by omega) z.symm)) (fun r _ e hr2 => absurd e (fun z => nI_nm1 (by omega) z.symm))
  | some r =>
    have hr' := hr
    unfold rwA at hr'
    split at hr'
    rotate_left
    · exact nomatch hr'
    rename_i hc
    injection hr' with hr'
    have ho := hoo hc.1
    obtain ⟨-, -, -, -, h1, -⟩ := h.2 hc.1
    obtain ⟨-, wn⟩ := h1 hc.2.1
    have fl := fnd_le (F := F) (G := G) (CK := CK) (Q := Q)
    have rs : r < smN G := by
      obtain ⟨i, i1, e⟩ := i_fit (v := v) (n := (fndR F G CK Q).length) (by omega) (Int32.not_lt.mpr hc.2.2.1) hc.2.2.2
      rw [← hr', e]
      unfold fOf
      rw [nI_clamp (by omega)]
      exact fnd_lt (mem_gD i1)
    have z1 : 0 ≤ nI r := by (first | omega | (simp (disch := omega) only [Int32.le_iff_toInt_le, Int32.lt_iff_toInt_lt, z_eq, z_in, nI_toInt, z_cl, z_m1, z_sg, z_255, Int32.reduceToInt] <;> omega) | (simp only [Int32.le_iff_toInt_le, Int32.lt_iff_toInt_lt, z_eq, z_in, z_add, z_sub, z_mul, z_neg, z_nI, z_cl, z_sg, z_255, z_lit, Int32.reduceToInt] <;> omega))
    have z2 : nI r < nI (smN G) := by (first | omega | (simp (disch := omega) only [Int32.le_iff_toInt_le, Int32.lt_iff_toInt_lt, z_eq, z_in, nI_toInt, z_cl, z_m1, z_sg, z_255, Int32.reduceToInt] <;> omega) | (simp only [Int32.le_iff_toInt_le, Int32.lt_iff_toInt_lt, z_eq, z_in, z_add, z_sub, z_mul, z_neg, z_nI, z_cl, z_sg, z_255, z_lit, Int32.reduceToInt] <;> omega))
    obtain ⟨κ', k1, k2⟩ := k_asm (l1 := nI r) (W := wnQ F Q) (wq := a + 1) sr ⟨by omega, by omega⟩ n1 (fun _ c hcc => wn _ (lfC_ok hcc).1) hK hC hκ hL h5 h6 h97 hO
    refine ⟨κ', k1, fun post kb nb hk hn _ pm pk => ⟨a, h12, k_rowAt hL ha hS h ?_⟩⟩
    rw [hr]
    refine ⟨a, h12, kb, nb, 0, 0, rfl, rfl, ?_⟩
    rw [o4]
    refine k2 post kb nb hk hn (fun z => absurd ⟨ho, z1, z2⟩ z) (fun r' _ e hr2 => ?_) (fun r' _ e hr2 => ?_)
    · have : r = r' := nI_inj (by omega) (by omega) e
      subst this
      exact pm r rfl
    · have : r = r' := nI_inj (by omega) (by omega) e
      subst this
      exact pk r rfl
end
