/-! the group of a row, class -/
abbrev FrH (o : Nat) (x y : St) : Prop := Fg (fun a k => a = o ∧ k = 1) no2 no2 (fun a => a = o + 2 ∨ a = o + 3 ∨ a = o + 5) (fun a => a = o + 4) x y
theorem FrH.fa {o : Nat} {x y : St} (f : FrH o x y) : FrA o x y := f.mono (fun _ _ z => z.1) (fun _ _ z => z) (fun _ _ z => z) (fun a z => by omega) (fun _ z => z)
theorem FrH.g {o : Nat} {x y : St} (f : FrGr o x y) : FrH o x y := f.mono (fun _ _ z => z) (fun _ _ z => z) (fun _ _ z => z) (fun a z => by omega) (fun _ z => z)
theorem nx_slotG : ∀ u, u < 1024 → (nI u + 1) &&& 1023 = nI ((u + 1) % 1024) := by decide +kernel
/-- the slots hold the groups whose first rows are W -/
def HG (y : St) (o : Nat) (F : List SFd) (G : List Nat) (CK : List (List PgW)) (B : List Nat) (W : List Nat) : Prop := ∃ S : Nat → Nat, (∀ d, d < W.length → W.getD d 0 < smN G) ∧ (∀ d, d < W.length → S d < 1024 ∧ fA y (o + 5) (S d) = nI (d + 1) ∧ ∃ j, S d = (hB F G CK B (W.getD d 0) + j) % 1024 ∧ ∀ i, i < j → fA y (o + 5) ((hB F G CK B (W.getD d 0) + i) % 1024) ≠ 0) ∧ (∀ u, u < 1024 → fA y (o + 5) u = 0 ∨ ∃ d, d < W.length ∧ fA y (o + 5) u = nI (d + 1) ∧ S d = u) ∧ (∀ d e, d < W.length → e < W.length → keyR F G CK B (W.getD d 0) = keyR F G CK B (W.getD e 0) → d = e) ∧ W.length ≤ 500
def FsW (A : List GrT) (W : List Nat) : Prop := W.length = A.length ∧ ∀ d, d < A.length → (A.getD d (0, [])).1 = nI (W.getD d 0)
section
variable {x y z : St} {F : List SFd} {G : List Nat} {K : List ChT} {CK : List (List PgW)} {b dE f r o qo s t g j c ix : Nat} {Q : Qy} {A : List GrT} {W : List Nat} {B : List Nat}
theorem HG.cg (h : HG x o F G CK B W) (e : fA y (o + 5) = fA x (o + 5)) : HG y o F G CK B W := by
  unfold HG at *
  rw [e]
  exact h
theorem HG.add {u j : Nat} (h : HG y o F G CK B W) (hr : r < smN G) (hm : W.length < 500) (hu : u < 1024) (hn : ∀ d, d < W.length → keyR F G CK B (W.getD d 0) ≠ keyR F G CK B r) (h0 : fA y (o + 5) u = 0) (hj : u = (hB F G CK B r + j) % 1024) (hp : ∀ i, i < j → fA y (o + 5) ((hB F G CK B r + i) % 1024) ≠ 0) (e8 : ∀ i, fA z (o + 5) i = if i = u then nI (W.length + 1) else fA y (o + 5) i) : HG z o F G CK B (W ++ [r]) := by
  obtain ⟨S, h1, h2, h3, h4, h5⟩ := h
  have hl : (W ++ [r]).length = W.length + 1 := by rw [List.length_append]; rfl
  have n0 : ∀ i, fA y (o + 5) i ≠ 0 → fA z (o + 5) i ≠ 0 := fun i hi => by
    rw [e8]
    split
    · exact nz (by omega)
    · exact hi
  have spl : ∀ d, d < (W ++ [r]).length → d < W.length ∨ d = W.length := fun d hd => by omega
  refine ⟨fun d => if d = W.length then u else S d, fun d hd => ?_, fun d hd => ?_, fun w hw => ?_, fun d e hd he hk2 => ?_, by omega⟩
  · rcases spl d hd with c | c
    · rw [gd_app1 c]
      exact h1 d c
    · subst c
      rw [gd_app2]
      exact hr
  · rcases spl d hd with c | c
    · obtain ⟨w1, w3, jd, w4, w5⟩ := h2 d c
      rw [gd_app1 c]
      dsimp only
      rw [if_neg (by omega)]
      refine ⟨w1, ?_, jd, w4, fun i hi => n0 _ (w5 i hi)⟩
      rw [e8, if_neg (fun q => by rw [q, h0] at w3; exact nz (by omega) w3.symm)]
      exact w3
    · subst c
      rw [gd_app2]
      dsimp only
      rw [if_pos rfl]
      exact ⟨hu, by rw [e8, if_pos rfl], j, hj, fun i hi => n0 _ (hp i hi)⟩
  · by_cases c : w = u
    · refine Or.inr ⟨W.length, by omega, by rw [e8, if_pos c], ?_⟩
      dsimp only
      rw [if_pos rfl, c]
    · rcases h3 w hw with q | ⟨d, q1, q2, q3⟩
      · exact Or.inl (by rw [e8, if_neg c]; exact q)
      · refine Or.inr ⟨d, by omega, by rw [e8, if_neg c]; exact q2, ?_⟩
        dsimp only
        rw [if_neg (by omega)]
        exact q3
  · rcases spl d hd with c | c <;> rcases spl e he with c2 | c2
    · rw [gd_app1 c, gd_app1 c2] at hk2
      exact h4 d e c c2 hk2
    · subst c2
      rw [gd_app1 c, gd_app2] at hk2
      exact absurd hk2 (hn d c)
    · subst c
      rw [gd_app2, gd_app1 c2] at hk2
      exact absurd hk2.symm (hn e c2)
    · omega
theorem k_groupOf {post : Int32 → St → Prop} (B : AnC x o qo F G K CK b dE Q) (h7 : fI x o 7 = nI Q.1.length) (h : GrC x o b F G CK Q A) (hW : FsW A W) (hH : HG x o F G CK Q.2.1 W) (hne : Q.2.1 ≠ []) (hr : r < smN G) (hcol : ∀ i, i ∈ Q.1 → i.1 ≠ 1 → ∃ f, colF F f ∧ i.2.1 = nI f) (hI : ∀ i, i ∈ Q.1 → itF F i)
    (p1 : ∀ d, d < A.length → smB F G CK Q.2.1 (W.getD d 0) r = true → (∀ k, k < d → ¬ smB F G CK Q.2.1 (W.getD k 0) r = true) → post (nI d) x)
    (p2 : A.length = 500 → (∀ k, k < A.length → ¬ smB F G CK Q.2.1 (W.getD k 0) r = true) → post (-1) x)
    (p3 : A.length < 500 → (∀ k, k < A.length → ¬ smB F G CK Q.2.1 (W.getD k 0) r = true) → ∀ y, FrH o x y → GrC y o b F G CK Q (A ++ [(nI r, [])]) → HG y o F G CK Q.2.1 (W ++ [r]) → post (nI A.length) y) : wp_Ans_groupOf post o (nI r) x := by
  have R := B.1
  have hw := R.2.2.1.2.1
  have h15 := B.2.2.2.2.1
  have e5 := B.2.2.2.2.2.1.2.1.1
  have l8 := B.2.2.2.2.2.1.2.1.2.1
  have hBc := B.2.2.2.2.2.2.1.2.2.1
  have ho : 128 ≤ o := by rcases B.2.1 with h | h <;> omega
  obtain ⟨-, o5, -, -, o10, -⟩ := sta B.2.1
  obtain ⟨-, n2, -, -, n5, -⟩ := B.2.1.len R.1
  have hA5 := h.2.1
  obtain ⟨S, h1, h2, h3, h4, h5⟩ := hH
  have wl := hW.1
  have key : ∀ k, k < W.length → (smB F G CK Q.2.1 (W.getD k 0) r = true ↔ keyR F G CK Q.2.1 (W.getD k 0) = keyR F G CK Q.2.1 r) := fun k hk => sm_key hw R.2.1 R.hl (h1 k hk) hr hBc
  have pB : 0 < Q.2.1.length := List.length_pos_iff.mpr hne
  unfold wp_Ans_groupOf
  refine ⟨qo, h15, ?_⟩
  rw [e5]
  refine bn_f (fun z => by have := nI_inj (b := 0) (by omega) (by omega) z; omega) (k_hashR B hr (nm_r (e' := nI (hB F G CK Q.2.1 r)) (by unfold hB; rw [nI_uI]) ?_))
  have hlt := hB_lt (F := F) (G := G) (CK := CK) (r := r) (B := Q.2.1)
  have d1 : ∀ d, d < W.length → nI (d + 1) ≠ 0 := fun d hd => nz (by omega)
  -- no group
  have nogr : ∀ u j l3, u < 1024 → u = (hB F G CK Q.2.1 r + j) % 1024 → fA x (o + 5) u = 0 → (∀ i, i < j → fA x (o + 5) ((hB F G CK Q.2.1 r + i) % 1024) ≠ 0) → (∀ k, k < W.length → keyR F G CK Q.2.1 (W.getD k 0) ≠ keyR F G CK Q.2.1 r) → j_Ans_groupOf_84 post o (nI r) (nI u) l3 x := by
    intro u j l3 hu hj h0 hp hn
    have no : ∀ k, k < A.length → ¬ smB F G CK Q.2.1 (W.getD k 0) r = true := fun k hk z => hn k (by omega) ((key k (by omega)).mp z)
    unfold j_Ans_groupOf_84
    rw [h.1]
    by_cases c : A.length < 500
    · refine br_t (by (first | omega | (simp (disch := omega) only [Int32.le_iff_toInt_le, Int32.lt_iff_toInt_lt, z_eq, z_in, nI_toInt, z_cl, z_m1, z_sg, z_255, Int32.reduceToInt] <;> omega) | (simp only [Int32.le_iff_toInt_le, Int32.lt_iff_toInt_lt, z_eq, z_in, z_add, z_sub, z_mul, z_neg, z_nI, z_cl, z_sg, z_255, z_lit, Int32.reduceToInt] <;> omega))) (k_addGroup B h7 h c hcol (Or.inr ⟨r, rfl, hr⟩) hI (fun y fy gy => ?_))
      have y1 := gy.1
      rw [List.length_append] at y1
      have y1 : fI y o 1 = nI (A.length + 1) := y1
      have y5 : fA y (o + 5) = fA x (o + 5) := fy.2.2.2.1 _ (fun z => by omega)
      have m5 := (B.2.1.len (B.fa fy.fa).1.1).2.2.2.2.1
      rw [o10, m5, y1]
      refine ⟨vp_in_nI (by omega) (by decide), nm_e ?_⟩
      have z1 : fI (setA y (o + 5) (nI u) (nI (A.length + 1))) o 1 - 1 = nI A.length := by
        show fI y o 1 - nI 1 = _
        rw [y1, nI_sub (by omega), Nat.add_sub_cancel]
      rw [z1]
      refine p3 c no _ ((FrH.g fy).trans (Fg.a (Or.inr (Or.inr rfl)))) ⟨gy.1, gy.2.1, fun g hg => ?_⟩ ?_
      · obtain ⟨a1, a2⟩ := gy.2.2 g hg
        refine ⟨by rw [gA_ne (by omega)]; exact a1, fun i hi => (a2 i hi).cg ?_ rfl ?_⟩
        · rw [gA_ne (by omega)]
        · rw [gA_ne (by omega)]
      · refine HG.add (y := x) ⟨S, h1, h2, h3, h4, h5⟩ hr (by omega) hu hn h0 hj hp (fun i => ?_)
        by_cases q : i = u
        · subst q
          rw [gA_on (by omega), if_pos rfl, wl]
        · rw [gA_off (by omega) q, if_neg q, y5]
    · exact br_f (by (first | omega | (simp (disch := omega) only [Int32.le_iff_toInt_le, Int32.lt_iff_toInt_lt, z_eq, z_in, nI_toInt, z_cl, z_m1, z_sg, z_255, Int32.reduceToInt] <;> omega) | (simp only [Int32.le_iff_toInt_le, Int32.lt_iff_toInt_lt, z_eq, z_in, z_add, z_sub, z_mul, z_neg, z_nI, z_cl, z_sg, z_255, z_lit, Int32.reduceToInt] <;> omega))) (p2 (by omega) no)
  refine lp_Ans_groupOf_24 (fun b0 b1 b2 b3 y => y = x ∧ o = b0 ∧ nI r = b1 ∧ ∃ j, nI j = b3 ∧ j ≤ 1024 ∧ nI ((hB F G CK Q.2.1 r + j) % 1024) = b2 ∧ ∀ i, i < j → ∃ d, d < W.length ∧ fA x (o + 5) ((hB F G CK Q.2.1 r + i) % 1024) = nI (d + 1) ∧ keyR F G CK Q.2.1 (W.getD d 0) ≠ keyR F G CK Q.2.1 r) (fun _ _ _ b3 _ => 1024 - b3.toNatClampNeg) ?_ _ _ _ _ _ ⟨rfl, rfl, rfl, 0, rfl, by omega, by rw [Nat.add_zero, Nat.mod_eq_of_lt hlt], fun i hi => absurd hi (Nat.not_lt_zero _)⟩
  rintro R2 b0 b1 b2 b3 y ⟨rfl, rfl, rfl, j, rfl, j1, rfl, j2⟩ ih
  have hu : (hB F G CK Q.2.1 r + j) % 1024 < 1024 := Nat.mod_lt _ (by decide)
  have hj : j < 1024 := by
    by_cases c : j < 1024
    · exact c
    · have := php 1024 W.length S (fun u hu => by
        have hi : (u + 1024 - hB F G CK Q.2.1 r) % 1024 < 1024 := Nat.mod_lt _ (by decide)
        obtain ⟨d, w1, w2, w3⟩ := j2 ((u + 1024 - hB F G CK Q.2.1 r) % 1024) (by omega)
        rw [show (hB F G CK Q.2.1 r + (u + 1024 - hB F G CK Q.2.1 r) % 1024) % 1024 = u by omega] at w2
        rcases h3 u hu with w | ⟨e, w4, w5, w6⟩
        · rw [w] at w2; exact absurd w2.symm (d1 d w1)
        · exact ⟨e, w4, w6⟩)
      omega
  unfold j_Ans_groupOf_24
  have vu : vp_in (nI ((hB F G CK Q.2.1 r + j) % 1024)) 1024 := vp_in_nI hu (by decide)
  refine br_f (by (first | omega | (simp (disch := omega) only [Int32.le_iff_toInt_le, Int32.lt_iff_toInt_lt, z_eq, z_in, nI_toInt, z_cl, z_m1, z_sg, z_255, Int32.reduceToInt] <;> omega) | (simp only [Int32.le_iff_toInt_le, Int32.lt_iff_toInt_lt, z_eq, z_in, z_add, z_sub, z_mul, z_neg, z_nI, z_cl, z_sg, z_255, z_lit, Int32.reduceToInt] <;> omega))) ?_
  rw [o10, n5, rA_nI (by omega)]
  refine ⟨vu, ?_⟩
  rcases h3 _ hu with w | ⟨d, w1, w2, w3⟩
  · refine br_t w (nogr _ j _ hu rfl w (fun i hi => ?_) (fun d hd e => ?_))
    · obtain ⟨d', r1, r2, r3⟩ := j2 i hi
      rw [r2]
      exact d1 d' r1
    · obtain ⟨q1, q3, jd, q4, q5⟩ := h2 d hd
      have eh : hB F G CK Q.2.1 (W.getD d 0) = hB F G CK Q.2.1 r := hB_key e
      rw [eh] at q4 q5
      rcases Nat.lt_trichotomy jd j with z | z | z
      · obtain ⟨d', r1, r2, r3⟩ := j2 jd z
        rw [← q4, q3] at r2
        have : d + 1 = d' + 1 := nI_inj (by omega) (by omega) r2
        have : d = d' := by omega
        subst this
        exact r3 e
      · subst z
        rw [← q4, q3] at w
        exact d1 d hd w
      · exact q5 j z w
  · have wr := h1 d w1
    have fd : fA y (o + 2) d = nI (W.getD d 0) := by rw [(h.2.2 d (by omega)).1, hW.2 d (by omega)]
    have e1 : nI (d + 1) - 1 = nI d := by
      show nI (d + 1) - nI 1 = _
      rw [nI_sub (by omega), Nat.add_sub_cancel]
    refine br_f (by rw [w2]; exact d1 d w1) ⟨vu, ?_⟩
    rw [o5, n2, w2, e1, rA_nI (o := o + 2) (by omega), fd]
    refine ⟨vp_in_nI (by omega) (by decide), k_sameG B wr hr ?_⟩
    by_cases e : smB F G CK Q.2.1 (W.getD d 0) r = true
    · rw [if_pos e]
      refine br_f (by decide) ⟨by rw [n5]; exact vu, ?_⟩
      rw [rA_nI (by omega), w2, e1]
      refine p1 d (by omega) e (fun k hk z => ?_)
      have := h4 k d (by omega) w1 (((key k (by omega)).mp z).trans ((key d w1).mp e).symm)
      omega
    · rw [if_neg e]
      refine br_t rfl (nm_r (nx_slotG _ hu) ?_)
      rw [nI_1]
      refine ih _ _ _ _ _ ⟨rfl, rfl, rfl, j + 1, rfl, by omega, ?_, fun i hi => ?_⟩ (by rw [nI_clamp (by omega), nI_clamp (by omega)]; omega)
      · congr 1; omega
      · by_cases z : i = j
        · rw [z]; exact ⟨d, w1, w2, fun q => e ((key d w1).mpr q)⟩
        · exact j2 i (by omega)
end
