/-! to a row, model -/
def rgO (G : List Nat) (r : Nat) : Nat := ((List.range G.length).filter (fun g => decide (r < smN (G.take (g + 1))))).headD 0
theorem smN_mono {G : List Nat} {a b : Nat} (h : a ≤ b) : smN (G.take a) ≤ smN (G.take b) := by
  have := smN_le (G := G.take b) (g := a)
  rw [List.take_take, Nat.min_eq_left h] at this
  exact this
theorem rgO_is {G : List Nat} {r g : Nat} (hg : g < G.length) (h1 : smN (G.take g) ≤ r) (h2 : r < smN (G.take (g + 1))) : rgO G r = g := by
  refine hd_is hg (decide_eq_true h2) (fun k hk => decide_eq_false (fun z => ?_))
  have := smN_mono (G := G) (show k + 1 ≤ g by omega)
  omega
/-- what is read of what is open when rows are told -/
def RdM (x : St) (F : List SFd) (G : List Nat) (CK : List (List PgW)) (Q : List PV) : Prop := LM x ∧ RepM x 1 F ∧ (∀ g, g < G.length → fA x 53 g = nI (G.getD g 0)) ∧ G.length ≤ 500 ∧ smN G ≤ 2000 ∧ CK.length ≤ 10000 ∧ (∀ w, w < CK.length → fA x 65 w = nI (enA (CK.take w)).length ∧ fA x 61 w = nI (ckC (CK.getD w [])).length) ∧ (enA CK).length ≤ 10000 ∧ PoM x Q ∧ ∀ i, i < (enA CK).length → EnO x F Q i ((enA CK).getD i en0)
/-- where a chunk ends -/
def eC (F : List SFd) (CK : List (List PgW)) (g c : Nat) : Nat := (enA (CK.take (ncol F * g + c))).length + (ckG F CK g c).length
def RpL (x : St) (E : Nat) (L : List SEn) : Prop := L.length ≤ E ∧ ∀ k, k < L.length → fA x 58 (E - L.length + k) = nI (L.getD k en0).2.1 ∧ (L.getD k en0).2.1 ≤ 17
section
variable {x y : St} {F : List SFd} {G : List Nat} {CK : List (List PgW)} {Q : List PV} {g : Nat}
theorem s_groupOf {post : Int32 → St → Prop} {r : Nat} (H : RdM x F G CK Q) (hr : r < smN G) (p : smN (G.take (rgO G r)) ≤ r → rgO G r < G.length → r < smN (G.take (rgO G r + 1)) → post (nI (rgO G r)) x) : wp_Mod_groupOf post (nI r) x := by
  obtain ⟨hL, -, h53, h500, h2000, -⟩ := H
  have l53 : fN x 53 = 500 := hL 53
  have pos : 0 < G.length := by
    rcases Nat.eq_zero_or_pos G.length with z | z
    · rw [List.length_eq_zero_iff.mp z] at hr; exact absurd hr (Nat.not_lt_zero _)
    · exact z
  unfold wp_Mod_groupOf
  rw [l53]
  refine ⟨vp_in_nI (n := 0) (by decide) (by decide), nm_r (e' := nI (smN (G.take (0 + 1)))) (by rw [show (0 : Int32) = nI 0 from rfl, rA_nI (by decide), h53 0 pos, smN_take pos]; congr 1; show _ = 0 + _; omega) ?_⟩
  refine lp_Mod_groupOf_9 (fun a0 a1 a2 y => nI r = a0 ∧ x = y ∧ ∃ g, nI g = a1 ∧ nI (smN (G.take (g + 1))) = a2 ∧ g < G.length ∧ smN (G.take g) ≤ r) (fun _ a1 _ _ => G.length - a1.toNatClampNeg) ?_ _ _ _ _ ⟨rfl, rfl, 0, rfl, rfl, pos, Nat.zero_le _⟩
  rintro R a0 a1 a2 y ⟨rfl, rfl, g, rfl, rfl, g1, g2⟩ ih
  have b1 := smN_le (G := G) (g := g + 1)
  unfold j_Mod_groupOf_9
  rw [l53]
  by_cases c : r < smN (G.take (g + 1))
  · have e := rgO_is g1 g2 c
    rw [e] at p
    exact br_t (by (first | omega | (simp (disch := omega) only [Int32.le_iff_toInt_le, Int32.lt_iff_toInt_lt, z_eq, z_in, nI_toInt, z_cl, z_m1, z_sg, z_255, Int32.reduceToInt] <;> omega) | (simp only [Int32.le_iff_toInt_le, Int32.lt_iff_toInt_lt, z_eq, z_in, z_add, z_sub, z_mul, z_neg, z_nI, z_cl, z_sg, z_255, z_lit, Int32.reduceToInt] <;> omega))) (p g2 g1 c)
  · have g3 : g + 1 < G.length := by
      rcases Nat.lt_or_ge (g + 1) G.length with z | z
      · exact z
      · rw [List.take_of_length_le z] at c; omega
    have b2 := smN_le (G := G) (g := g + 1 + 1)
    refine br_f (by (first | omega | (simp (disch := omega) only [Int32.le_iff_toInt_le, Int32.lt_iff_toInt_lt, z_eq, z_in, nI_toInt, z_cl, z_m1, z_sg, z_255, Int32.reduceToInt] <;> omega) | (simp only [Int32.le_iff_toInt_le, Int32.lt_iff_toInt_lt, z_eq, z_in, z_add, z_sub, z_mul, z_neg, z_nI, z_cl, z_sg, z_255, z_lit, Int32.reduceToInt] <;> omega))) ?_
    rw [nI_1]
    refine ⟨vp_in_nI (by omega) (by decide), nm_r (e' := nI (smN (G.take (g + 1 + 1)))) (by rw [rA_nI (by omega), h53 _ g3, nI_add, smN_take g3]) (ih _ _ _ _ ⟨rfl, rfl, g + 1, rfl, rfl, g3, by omega⟩ ?_)⟩
    rw [nI_clamp (by omega), nI_clamp (by omega)]
    omega
theorem s_firstRow {post : Int32 → St → Prop} (H : RdM x F G CK Q) (hg : g < G.length) (p : post (nI (smN (G.take g))) x) : wp_Mod_firstRow post (nI g) x := by
  obtain ⟨hL, -, h53, h500, h2000, -⟩ := H
  have l53 : fN x 53 = 500 := hL 53
  unfold wp_Mod_firstRow
  refine lp_Mod_firstRow_4 (fun a0 a1 a2 y => nI g = a0 ∧ x = y ∧ ∃ k, nI k = a2 ∧ nI (smN (G.take k)) = a1 ∧ k ≤ g) (fun _ _ a2 _ => g - a2.toNatClampNeg) ?_ _ _ _ _ ⟨rfl, rfl, 0, rfl, rfl, Nat.zero_le _⟩
  rintro R a0 a1 a2 y ⟨rfl, rfl, k, rfl, rfl, k1⟩ ih
  unfold j_Mod_firstRow_4
  rw [l53]
  by_cases c : g ≤ k
  · have e : k = g := by omega
    rw [e]
    exact br_t (by (first | omega | (simp (disch := omega) only [Int32.le_iff_toInt_le, Int32.lt_iff_toInt_lt, z_eq, z_in, nI_toInt, z_cl, z_m1, z_sg, z_255, Int32.reduceToInt] <;> omega) | (simp only [Int32.le_iff_toInt_le, Int32.lt_iff_toInt_lt, z_eq, z_in, z_add, z_sub, z_mul, z_neg, z_nI, z_cl, z_sg, z_255, z_lit, Int32.reduceToInt] <;> omega))) p
  · have b2 := smN_le (G := G) (g := k + 1)
    refine br_f (by (first | omega | (simp (disch := omega) only [Int32.le_iff_toInt_le, Int32.lt_iff_toInt_lt, z_eq, z_in, nI_toInt, z_cl, z_m1, z_sg, z_255, Int32.reduceToInt] <;> omega) | (simp only [Int32.le_iff_toInt_le, Int32.lt_iff_toInt_lt, z_eq, z_in, z_add, z_sub, z_mul, z_neg, z_nI, z_cl, z_sg, z_255, z_lit, Int32.reduceToInt] <;> omega))) ⟨vp_in_nI (by omega) (by decide), nm_r (e' := nI (smN (G.take (k + 1)))) (by rw [rA_nI (by omega), h53 k (by omega), nI_add, smN_take (show k < G.length by omega)]) ?_⟩
    rw [nI_1]
    refine ih _ _ _ _ ⟨rfl, rfl, k + 1, rfl, rfl, by omega⟩ ?_
    rw [nI_clamp (by omega), nI_clamp (by omega)]
    omega
theorem RpL.cg {E : Nat} {L : List SEn} (h : RpL x E L) (e : fA y 58 = fA x 58) : RpL y E L := ⟨h.1, fun k hk => by rw [e]; exact h.2 k hk⟩
theorem RpL.nx {E : Nat} {L : List SEn} (h : RpL x E L) : RpL x E (rst 0 L) := by
  obtain ⟨h1, h2⟩ := h
  by_cases z : L = []
  · rw [z]; exact ⟨Nat.zero_le _, fun k hk => absurd hk (Nat.not_lt_zero _)⟩
  · obtain ⟨k, k1, k2, k3, -⟩ := rst_is 0 z
    rw [k3]
    unfold RpL
    rw [List.length_drop]
    refine ⟨by omega, fun i hi => ?_⟩
    rw [getD_dr, show E - (L.length - k) + i = E - L.length + (k + i) by omega]
    exact h2 (k + i) (by omega)
theorem RpL.row {E : Nat} {C : List SEn} (h : RpL x E C) : ∀ j, RpL x E (rwL C j) := by
  intro j
  induction j with
  | zero => exact h
  | succ j ih => exact ih.nx
theorem eC_le (H : (enA CK).length ≤ 10000) {c : Nat} (hw : ncol F * g + c < CK.length) : eC F CK g c ≤ 10000 ∧ eC F CK g c ≤ (enA CK).length := by
  have := congrArg List.length (enA_split hw)
  simp only [List.length_append] at this
  unfold eC ckG
  omega
theorem enA_in {c i : Nat} (hw : ncol F * g + c < CK.length) (hi : i < (ckG F CK g c).length) : (enA CK).getD ((enA (CK.take (ncol F * g + c))).length + i) en0 = (ckG F CK g c).getD i en0 := by
  have e := enA_split hw
  rw [e, List.append_assoc, getD_r, getD_l (by exact hi)]
  rfl
theorem RdM.rp (hw : WfS F) (H : RdM x F G CK Q) (h : OkO F G CK) (hl : CK.length = ncol F * G.length) (hg : g < G.length) {c : Nat} (hc : c < ncol F) : RpL x (eC F CK g c) (ckG F CK g c) := by
  obtain ⟨lw, o2, -⟩ := h.at hl hg hc
  obtain ⟨-, -, -, -, -, -, -, h8, -, h10⟩ := H
  have le := eC_le h8 lw
  refine ⟨Nat.le_add_left _ _, fun k hk => ?_⟩
  have e : eC F CK g c - (ckG F CK g c).length + k = (enA (CK.take (ncol F * g + c))).length + k := by unfold eC; omega
  rw [e]
  have lt : (enA (CK.take (ncol F * g + c))).length + k < (enA CK).length := by
    have := le.2
    unfold eC at this
    omega
  have := (h10 _ lt).1
  rw [enA_in lw hk] at this
  refine ⟨this, ?_⟩
  have mem : (ckG F CK g c).getD k en0 ∈ ckG F CK g c := by rw [en_at hk]; exact List.getElem_mem hk
  obtain ⟨⟨-, r2, -⟩, r4⟩ := o2 _ mem
  rw [r4] at r2
  have : mrC F c ≤ 17 := rF_le hw (lfC_ok hc).1
  omega
theorem s_goTo {post : St → Prop} {r : Nat} (hw : WfS F) (H : RdM x F G CK Q) (h : OkO F G CK) (hl : CK.length = ncol F * G.length) (hr : r < smN G)
    (p : ∀ y, Fg no2 no2 no2 (fun a => a = 76 ∨ a = 77) no1 x y → rgO G r < G.length → smN (G.take (rgO G r)) ≤ r → r - smN (G.take (rgO G r)) < G.getD (rgO G r) 0 → (∀ c, c < ncol F → fA y 76 c = nI (eC F CK (rgO G r) c - (recS F CK (rgO G r) (r - smN (G.take (rgO G r))) c).length) ∧ fA y 77 c = nI (eC F CK (rgO G r) c - (rst 0 (recS F CK (rgO G r) (r - smN (G.take (rgO G r))) c)).length)) → post y) : wp_Mod_goTo post (nI r) x := by
  have h64 := hw.2.1
  unfold wp_Mod_goTo
  refine s_groupOf H hr (fun g2 g1 g3 => ?_)
  have gd := smN_take g1
  generalize hgg : rgO G r = g at *
  obtain ⟨j, hj⟩ : ∃ j, r = smN (G.take g) + j := ⟨r - smN (G.take g), by omega⟩
  rw [show r - smN (G.take g) = j by omega] at p
  have hjG : j < G.getD g 0 := by omega
  have r2000 : r < 2000 := by have := H.2.2.2.2.1; omega
  have key := lp_Mod_goTo_8 (post := post) (fun a0 a1 a2 y => nI r = a0 ∧ nI g = a1 ∧ Fg no2 no2 no2 (fun a => a = 76 ∨ a = 77) no1 x y ∧ ∃ k, nI k = a2 ∧ k ≤ ncol F ∧ ∀ c, c < k → fA y 76 c = nI (eC F CK g c - (recS F CK g j c).length) ∧ fA y 77 c = nI (eC F CK g c - (rst 0 (recS F CK g j c)).length)) (fun _ _ a2 _ => ncol F - a2.toNatClampNeg)
  refine key ?_ _ _ _ _ ⟨rfl, rfl, Fg.refl x, 0, rfl, Nat.zero_le _, fun c hc => absurd hc (Nat.not_lt_zero _)⟩
  rintro R a0 a1 a2 y ⟨rfl, rfl, y1, k, rfl, k1, y2⟩ ih
  have Hy : RdM y F G CK Q := by
    obtain ⟨h1, h2, h3, h4, h5, h6, h7, h8, h9, h10⟩ := H
    refine ⟨fun o => (y1.len o).trans (h1 o), RepM_cgA h2 (fun a a1 a2 => y1.aa (by omega)), fun g hg => by rw [y1.aa (by decide)]; exact h3 g hg, h4, h5, h6, fun w hw => by rw [y1.aa (by decide), y1.aa (by decide)]; exact h7 w hw, h8, h9.cg (y1.ii id) (y1.ii id) (y1.ll id) (y1.aa (by decide)) (y1.aa (by decide)) (y1.aa (by decide)), fun i hi => ?_⟩
    have := (h10 i hi).cg (y := y) (Z := []) (fun r a b => by rw [y1.aa (show ¬ (r = 76 ∨ r = 77) by omega)])
    rw [List.append_nil] at this
    exact this
  have hL := Hy.1
  have l10 : fN y 10 = 3 := hL 10
  have l65 : fN y 65 = 13401 := hL 65
  have l61 : fN y 61 = 13400 := hL 61
  have l58 : fN y 58 = 10000 := hL 58
  have l76 : fN y 76 = 64 := hL 76
  have l77 : fN y 77 = 64 := hL 77
  have e10 : rA y 10 1 = nI (ncol F) := by rw [show (1 : Int32) = nI 1 from rfl, rA_nI (by decide)]; exact Hy.2.1.2.1
  unfold j_Mod_goTo_8
  rw [e10, l10, l65, l61]
  refine ⟨vp_in_nI (n := 1) (by decide) (by decide), ?_⟩
  by_cases ck : k < ncol F
  rotate_left
  · have e : k = ncol F := by omega
    exact br_t (by (first | omega | (simp (disch := omega) only [Int32.le_iff_toInt_le, Int32.lt_iff_toInt_lt, z_eq, z_in, nI_toInt, z_cl, z_m1, z_sg, z_255, Int32.reduceToInt] <;> omega) | (simp only [Int32.le_iff_toInt_le, Int32.lt_iff_toInt_lt, z_eq, z_in, z_add, z_sub, z_mul, z_neg, z_nI, z_cl, z_sg, z_255, z_lit, Int32.reduceToInt] <;> omega))) (p y y1 g1 g2 hjG (fun c hc => y2 c (by omega)))
  obtain ⟨lw, o2, o3, o4, o5, -⟩ := h.at hl g1 ck
  have w1 := Hy.2.2.2.2.2.1
  obtain ⟨v1, v2⟩ := Hy.2.2.2.2.2.2.1 _ lw
  obtain ⟨le1, le2⟩ := eC_le Hy.2.2.2.2.2.2.2.1 lw
  have ew : nI (ncol F) * nI g + nI k = nI (ncol F * g + k) := by rw [nI_mul, nI_add]
  rw [ew]
  have rp := Hy.rp hw h hl g1 ck
  refine br_f (by (first | omega | (simp (disch := omega) only [Int32.le_iff_toInt_le, Int32.lt_iff_toInt_lt, z_eq, z_in, nI_toInt, z_cl, z_m1, z_sg, z_255, Int32.reduceToInt] <;> omega) | (simp only [Int32.le_iff_toInt_le, Int32.lt_iff_toInt_lt, z_eq, z_in, z_add, z_sub, z_mul, z_neg, z_nI, z_cl, z_sg, z_255, z_lit, Int32.reduceToInt] <;> omega))) ⟨vp_in_nI (n := 1) (by decide) (by decide), vp_in_nI (by omega) (by decide), nm_r (e' := nI (enA (CK.take (ncol F * g + k))).length) (by rw [rA_nI (by omega)]; exact v1) ⟨vp_in_nI (n := 1) (by decide) (by decide), vp_in_nI (by omega) (by decide), nm_r (e' := nI (eC F CK g k)) (by rw [rA_nI (by omega), v2, nI_add]; rfl) ?_⟩⟩
  refine s_firstRow Hy g1 ?_
  generalize hC : ckG F CK g k = C at *
  generalize hE : eC F CK g k = E at *
  have eb : (enA (CK.take (ncol F * g + k))).length = E - (rwL C 0).length := by
    rw [← hE]
    unfold eC
    rw [hC]
    show _ = _ + C.length - C.length
    omega
  rw [eb]
  have key2 := lp_Mod_goTo_62 (post := post) (rec8 := R) (fun a0 a1 a2 a3 a4 a5 z => nI r = a0 ∧ nI g = a1 ∧ nI k = a2 ∧ nI E = a4 ∧ y = z ∧ ∃ i, i ≤ j ∧ nI (smN (G.take g) + i) = a5 ∧ nI (E - (rwL C i).length) = a3) (fun _ _ _ _ _ a5 _ => r - a5.toNatClampNeg)
  refine key2 ?_ _ _ _ _ _ _ _ ⟨rfl, rfl, rfl, rfl, rfl, 0, Nat.zero_le _, rfl, rfl⟩
  rintro R2 a0 a1 a2 a3 a4 a5 z ⟨rfl, rfl, rfl, rfl, rfl, i, i1, rfl, rfl⟩ ih2
  obtain ⟨q1, q2, q3⟩ := rwL_ok o4 i (by rw [o5]; omega)
  have ne := q3 (by rw [o5]; omega)
  have pos := List.length_pos_iff.mpr ne
  obtain ⟨t1, t2⟩ := rp.row i
  have hrw : rwL C (i + 1) = rst 0 (rwL C i) := rfl
  obtain ⟨k0, m1, m2, m3, m4, m5⟩ := rst_is 0 ne
  generalize hLi : rwL C i = L at *
  unfold j_Mod_goTo_62
  rw [l76, nI_1]
  by_cases cr : r ≤ smN (G.take g) + i
  · -- here it is
    have ei : i = j := by omega
    subst ei
    refine br_t (by (first | omega | (simp (disch := omega) only [Int32.le_iff_toInt_le, Int32.lt_iff_toInt_lt, z_eq, z_in, nI_toInt, z_cl, z_m1, z_sg, z_255, Int32.reduceToInt] <;> omega) | (simp only [Int32.le_iff_toInt_le, Int32.lt_iff_toInt_lt, z_eq, z_in, z_add, z_sub, z_mul, z_neg, z_nI, z_cl, z_sg, z_255, z_lit, Int32.reduceToInt] <;> omega))) ⟨vp_in_nI (by omega) (by decide), nm_e ?_⟩
    have fz : Fg no2 no2 no2 (fun a => a = 76 ∨ a = 77) no1 y (setA y 76 (nI k) (nI (E - L.length))) := Fg.a (Or.inl rfl)
    have z58 : fA (setA y 76 (nI k) (nI (E - L.length))) 58 = fA y 58 := fz.aa (by decide)
    have z76 : fA (setA y 76 (nI k) (nI (E - L.length))) 76 k = nI (E - L.length) := gA_on (by omega)
    have zo : ∀ r c, c ≠ k → fA (setA y 76 (nI k) (nI (E - L.length))) r c = fA y r c := fun r c hc => gA_off (by omega) hc
    generalize setA y 76 (nI k) (nI (E - L.length)) = z at *
    have lz58 : fN z 58 = 10000 := (fz.len 58).trans l58
    have lz77 : fN z 77 = 64 := (fz.len 77).trans l77
    have key3 := lp_Mod_goTo_104 (post := post) (rec8 := R) (fun a0 a1 a2 a3 a4 _ u => nI r = a0 ∧ nI g = a1 ∧ nI k = a2 ∧ nI E = a4 ∧ z = u ∧ ∃ n, 1 ≤ n ∧ n ≤ k0 ∧ nI (E - L.length + n) = a3) (fun _ _ _ a3 _ _ _ => E - a3.toNatClampNeg)
    refine key3 ?_ _ _ _ _ _ _ _ ⟨rfl, rfl, rfl, rfl, rfl, 1, Nat.le_refl _, m1, rfl⟩
    rintro R3 a0 a1 a2 a3 a4 a5 u ⟨rfl, rfl, rfl, rfl, rfl, n, n1, n2, rfl⟩ ih3
    have fin : n = k0 → j_Mod_goTo_127 post R (nI r) (nI g) (nI k) (nI (E - L.length + n)) (nI E) a5 z := fun en => by
      unfold j_Mod_goTo_127
      rw [lz77]
      refine ⟨vp_in_nI (by omega) (by decide), nm_e ?_⟩
      rw [nI_1]
      refine ih _ _ _ _ ⟨rfl, rfl, Fg.trans (Fg.trans y1 fz) (Fg.a (Or.inr rfl)), k + 1, rfl, ck, fun c hc => ?_⟩ (by rw [nI_clamp (by omega), nI_clamp (by omega)]; omega)
      by_cases ec : c = k
      · subst ec
        have er : recS F CK g i c = L := by show rwL (ckG F CK g c) i = L; rw [hC, hLi]
        rw [er, hE, gA_on (by omega), m3, List.length_drop, ← en]
        refine ⟨?_, by congr 1; omega⟩
        rw [show fA (setA z 77 (nI c) (nI (E - L.length + n))) 76 = fA z 76 from (Fg.a (I := no2) (J := no2) (R := no2) (A := fun a => a = 77) (L := no1) rfl).aa (by decide)]
        exact z76
      · rw [gA_off (by omega) ec, gA_off (by omega) ec, zo _ _ ec, zo _ _ ec]
        exact y2 c (by omega)
    unfold j_Mod_goTo_104
    rw [lz58]
    by_cases ce : E ≤ E - L.length + n
    · exact br_t (by (first | omega | (simp (disch := omega) only [Int32.le_iff_toInt_le, Int32.lt_iff_toInt_lt, z_eq, z_in, nI_toInt, z_cl, z_m1, z_sg, z_255, Int32.reduceToInt] <;> omega) | (simp only [Int32.le_iff_toInt_le, Int32.lt_iff_toInt_lt, z_eq, z_in, z_add, z_sub, z_mul, z_neg, z_nI, z_cl, z_sg, z_255, z_lit, Int32.reduceToInt] <;> omega))) (fin (by omega))
    · refine br_f (by (first | omega | (simp (disch := omega) only [Int32.le_iff_toInt_le, Int32.lt_iff_toInt_lt, z_eq, z_in, nI_toInt, z_cl, z_m1, z_sg, z_255, Int32.reduceToInt] <;> omega) | (simp only [Int32.le_iff_toInt_le, Int32.lt_iff_toInt_lt, z_eq, z_in, z_add, z_sub, z_mul, z_neg, z_nI, z_cl, z_sg, z_255, z_lit, Int32.reduceToInt] <;> omega))) ⟨vp_in_nI (by omega) (by decide), ?_⟩
      obtain ⟨s1, s2⟩ := t2 n (by omega)
      rw [rA_nI (by omega), z58, s1]
      by_cases c0 : (L.getD n en0).2.1 = 0
      · rw [c0]
        refine br_t (by decide) (fin ?_)
        rcases Nat.lt_or_ge n k0 with w | w
        · have := m4 n n1 w; omega
        · omega
      · refine br_f (by (first | omega | (simp (disch := omega) only [Int32.le_iff_toInt_le, Int32.lt_iff_toInt_lt, z_eq, z_in, nI_toInt, z_cl, z_m1, z_sg, z_255, Int32.reduceToInt] <;> omega) | (simp only [Int32.le_iff_toInt_le, Int32.lt_iff_toInt_lt, z_eq, z_in, z_add, z_sub, z_mul, z_neg, z_nI, z_cl, z_sg, z_255, z_lit, Int32.reduceToInt] <;> omega))) ?_
        have lt : n < k0 := by
          rcases Nat.lt_or_ge n k0 with w | w
          · exact w
          · have en : n = k0 := by omega
            have := m5 (by omega)
            rw [← en] at this
            omega
        rw [nI_1]
        refine ih3 _ _ _ _ _ _ _ ⟨rfl, rfl, rfl, rfl, rfl, n + 1, by omega, lt, rfl⟩ ?_
        rw [nI_clamp (by omega), nI_clamp (by omega)]
        omega
  · -- to the next row
    refine br_f (by (first | omega | (simp (disch := omega) only [Int32.le_iff_toInt_le, Int32.lt_iff_toInt_lt, z_eq, z_in, nI_toInt, z_cl, z_m1, z_sg, z_255, Int32.reduceToInt] <;> omega) | (simp only [Int32.le_iff_toInt_le, Int32.lt_iff_toInt_lt, z_eq, z_in, z_add, z_sub, z_mul, z_neg, z_nI, z_cl, z_sg, z_255, z_lit, Int32.reduceToInt] <;> omega))) ?_
    have q5 := (rwL_ok o4 (i + 1) (by rw [o5]; omega)).2.2 (by rw [o5]; omega)
    rw [hrw] at q5
    have kl : k0 < L.length := by
      rcases Nat.lt_or_ge k0 L.length with w | w
      · exact w
      · rw [m3, List.drop_eq_nil_of_le w] at q5; exact absurd rfl q5
    have key4 := lp_Mod_goTo_71 (post := post) (rec8 := R) (rec62 := R2) (fun a0 a1 a2 a3 a4 a5 u => nI r = a0 ∧ nI g = a1 ∧ nI k = a2 ∧ nI E = a4 ∧ nI (smN (G.take g) + i) = a5 ∧ y = u ∧ ∃ n, 1 ≤ n ∧ n ≤ k0 ∧ nI (E - L.length + n) = a3) (fun _ _ _ a3 _ _ _ => E - a3.toNatClampNeg)
    refine key4 ?_ _ _ _ _ _ _ _ ⟨rfl, rfl, rfl, rfl, rfl, rfl, 1, Nat.le_refl _, m1, rfl⟩
    rintro R3 a0 a1 a2 a3 a4 a5 u ⟨rfl, rfl, rfl, rfl, rfl, rfl, n, n1, n2, rfl⟩ ih3
    unfold j_Mod_goTo_71
    rw [l58]
    obtain ⟨s1, s2⟩ := t2 n (by omega)
    refine ⟨vp_in_nI (by omega) (by decide), ?_⟩
    rw [rA_nI (by omega), s1]
    by_cases c0 : (L.getD n en0).2.1 = 0
    · rw [c0]
      have en : n = k0 := by
        rcases Nat.lt_or_ge n k0 with w | w
        · have := m4 n n1 w; omega
        · omega
      refine br_t (by decide) ?_
      rw [nI_1]
      refine ih2 _ _ _ _ _ _ _ ⟨rfl, rfl, rfl, rfl, rfl, i + 1, by omega, rfl, ?_⟩ (by rw [nI_clamp (by omega), nI_clamp (by omega)]; omega)
      rw [hrw, m3, List.length_drop, en]
      congr 1
      omega
    · refine br_f (by (first | omega | (simp (disch := omega) only [Int32.le_iff_toInt_le, Int32.lt_iff_toInt_lt, z_eq, z_in, nI_toInt, z_cl, z_m1, z_sg, z_255, Int32.reduceToInt] <;> omega) | (simp only [Int32.le_iff_toInt_le, Int32.lt_iff_toInt_lt, z_eq, z_in, z_add, z_sub, z_mul, z_neg, z_nI, z_cl, z_sg, z_255, z_lit, Int32.reduceToInt] <;> omega))) ?_
      have lt : n < k0 := by
        rcases Nat.lt_or_ge n k0 with w | w
        · exact w
        · have en : n = k0 := by omega
          have := m5 (by omega)
          rw [← en] at this
          omega
      rw [nI_1]
      refine ih3 _ _ _ _ _ _ _ ⟨rfl, rfl, rfl, rfl, rfl, rfl, n + 1, by omega, lt, rfl⟩ ?_
      rw [nI_clamp (by omega), nI_clamp (by omega)]
      omega
end
