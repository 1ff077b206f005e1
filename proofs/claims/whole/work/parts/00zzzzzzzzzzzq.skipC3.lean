/-! stretches and groups are counted, class -/
section
variable {x y z : St} {F : List SFd} {G : List Nat} {K : List ChT} {CK : List (List PgW)} {b dE f r o qo s t g j c : Nat} {Q : Qy}
theorem pgI_z {X : List PgW} (h : ∀ k, k < X.length → (X.getD k ([], [])).1 ≠ []) : pgI X 0 = 0 := by
  match X, h with
  | [], _ => rfl
  | g :: X, h =>
    have : g.1 ≠ [] := h 0 (Nat.zero_lt_succ _)
    show (if 0 < g.1.length then 0 else _) = 0
    rw [if_pos (List.length_pos_iff.mpr this)]
theorem skS_z {n m : Nat} (h : n ≤ j) : skS F Q CK g n m j = 0 := by
  match m with
  | 0 => rfl
  | m + 1 =>
    show (if n ≤ j then 0 else _) = 0
    rw [if_pos h]
theorem AnC.ne (A : AnC x o qo F G K CK b dE Q) (hg : g < G.length) (hc : c < ncol F) : ∀ k, k < (CK.getD (ncol F * g + c) []).length → ((CK.getD (ncol F * g + c) []).getD k ([], [])).1 ≠ [] := by
  obtain ⟨lw, -⟩ := A.ck hg hc
  exact fun k hk => ((A.1.2.1 _ lw).2.2.2.2.2.2.1 k hk).1
/-- where the next stretch begins -/
theorem k_nextS {post : St → Prop} {R65 : Nat → Int32 → Int32 → Int32 → Int32 → Int32 → St → Prop} {n : Nat} {l4 l5 : Int32} (A : AnC x o qo F G K CK b dE Q) (hg : g < G.length) (hn : n = G.getD g 0) (hj : j < n) (hT : TePg x o F CK Q g j) (hR : AskR x o F Q)
    (p : ∀ y, Fg no2 no2 no2 (fun a => a = o + 7) no1 x y → (mnE F Q.2.2.1 CK g n j (ncol F) < n → TePg y o F CK Q g (mnE F Q.2.2.1 CK g n j (ncol F))) → R65 o (nI g) (nI (ncol F)) (nI n) (nI (mnE F Q.2.2.1 CK g n j (ncol F))) (l5 + 1) y) : j_Ans_countStretches_97 post R65 o (nI g) (nI (ncol F)) (nI n) l4 l5 x := by
  have hw := A.1.2.2.1.2.1
  have hC := hw.2.1
  have hW := A.2.2.2.2.2.2.1
  have h2000 := A.1.2.2.1.2.2.2.2.2.2.2.1
  have n2 : n ≤ 2000 := by
    rw [hn]
    have := smN_take hg
    have := smN_le (G := G) (g := g + 1)
    omega
  obtain ⟨-, -, -, -, -, -, o12, o13⟩ := sta A.2.1
  unfold j_Ans_countStretches_97
  refine lp_Ans_countStretches_103 (fun b0 b1 b2 b3 b4 b5 b6 y => y = x ∧ o = b0 ∧ nI g = b1 ∧ nI (ncol F) = b2 ∧ nI n = b3 ∧ l5 = b5 ∧ ∃ k, k ≤ ncol F ∧ nI k = b6 ∧ nI (mnE F Q.2.2.1 CK g n j k) = b4) (fun _ _ _ _ _ _ b6 _ => ncol F - b6.toNatClampNeg) ?_ _ _ _ _ _ _ _ _ ⟨rfl, rfl, rfl, rfl, rfl, rfl, 0, Nat.zero_le _, rfl, rfl⟩
  rintro R b0 b1 b2 b3 b4 b5 b6 y ⟨rfl, rfl, rfl, rfl, rfl, rfl, k, hk, rfl, rfl⟩ ih
  have n8 := (A.2.1.len A.1.1).2.2.2.2.2.2.2
  unfold j_Ans_countStretches_103
  rw [o13, n8]
  by_cases ck : k = ncol F
  · subst ck
    refine br_t (by (first | omega | (simp (disch := omega) only [Int32.le_iff_toInt_le, Int32.lt_iff_toInt_lt, z_eq, z_in, nI_toInt, z_cl, z_m1, z_sg, z_255, Int32.reduceToInt] <;> omega) | (simp only [Int32.le_iff_toInt_le, Int32.lt_iff_toInt_lt, z_eq, z_in, z_add, z_sub, z_mul, z_neg, z_nI, z_cl, z_sg, z_255, z_lit, Int32.reduceToInt] <;> omega))) ?_
    have ml := (mnE_le (F := F) (CK := CK) (g := g) (j := j) (E := Q.2.2.1) (n := n) (m := ncol F))
    have mg : j < mnE F Q.2.2.1 CK g n j (ncol F) := mnE_gt hj _ (fun c hc ha => (ask_pg hw hW A.1.2.1 A.1.hl hg (by omega) ha).2.2.2.1)
    generalize hjj : mnE F Q.2.2.1 CK g n j (ncol F) = jj at *
    refine lp_Ans_countStretches_142 (fun b0 b1 b2 b3 b4 b5 b6 z => o = b0 ∧ nI g = b1 ∧ nI (ncol F) = b2 ∧ nI n = b3 ∧ nI jj = b4 ∧ l5 = b5 ∧ Fg no2 no2 no2 (fun a => a = o + 7) no1 y z ∧ ∃ k, k ≤ ncol F ∧ nI k = b6 ∧ ∀ c, c < ncol F → askB F Q.2.2.1 c = true → fA z (o + 7) c = nI (tlN (CK.take (ncol F * g + c)) + 1 + pgI (CK.getD (ncol F * g + c) []) (if c < k ∧ jj < n then jj else j))) (fun _ _ _ _ _ _ b6 _ => ncol F - b6.toNatClampNeg) ?_ _ _ _ _ _ _ _ _ ⟨rfl, rfl, rfl, rfl, rfl, rfl, Fg.refl y, 0, Nat.zero_le _, rfl, fun c hc ha => ?_⟩
    rotate_left
    · rw [if_neg (fun z => absurd z.1 (Nat.not_lt_zero _))]
      exact hT c hc ha
    rintro R2 b0 b1 b2 b3 b4 b5 b6 z ⟨rfl, rfl, rfl, rfl, rfl, rfl, fz, k, hk, rfl, tz⟩ ih2
    have faz : FrA o y z := fz.mono (fun _ _ z => z.elim) (fun _ _ z => z) (fun _ _ z => z) (fun a z => by omega) (fun _ z => z.elim)
    have Az := A.fa faz
    have m7 := (A.2.1.len Az.1.1).2.2.2.2.2.2.1
    have m8 := (A.2.1.len Az.1.1).2.2.2.2.2.2.2
    have z8 : fA z (o + 8) = fA y (o + 8) := fz.2.2.2.1 _ (fun z => by omega)
    unfold j_Ans_countStretches_142
    by_cases ck2 : k = ncol F
    · subst ck2
      refine br_t (by (first | omega | (simp (disch := omega) only [Int32.le_iff_toInt_le, Int32.lt_iff_toInt_lt, z_eq, z_in, nI_toInt, z_cl, z_m1, z_sg, z_255, Int32.reduceToInt] <;> omega) | (simp only [Int32.le_iff_toInt_le, Int32.lt_iff_toInt_lt, z_eq, z_in, z_add, z_sub, z_mul, z_neg, z_nI, z_cl, z_sg, z_255, z_lit, Int32.reduceToInt] <;> omega))) (p z fz (fun hlt c hc ha => ?_))
      have := tz c hc ha
      rw [if_pos ⟨hc, hlt⟩] at this
      exact this
    · have kc : k < ncol F := by omega
      have vk : vp_in (nI k) 64 := vp_in_nI (by omega) (by decide)
      refine br_f (by (first | omega | (simp (disch := omega) only [Int32.le_iff_toInt_le, Int32.lt_iff_toInt_lt, z_eq, z_in, nI_toInt, z_cl, z_m1, z_sg, z_255, Int32.reduceToInt] <;> omega) | (simp only [Int32.le_iff_toInt_le, Int32.lt_iff_toInt_lt, z_eq, z_in, z_add, z_sub, z_mul, z_neg, z_nI, z_cl, z_sg, z_255, z_lit, Int32.reduceToInt] <;> omega))) ?_
      rw [o13, m8, rA_nI (by omega), z8, hR k kc]
      refine ⟨vk, ?_⟩
      have nx : ∀ w, Fg no2 no2 no2 (fun a => a = o + 7) no1 y w → (∀ c, c < ncol F → askB F Q.2.2.1 c = true → fA w (o + 7) c = nI (tlN (CK.take (ncol F * g + c)) + 1 + pgI (CK.getD (ncol F * g + c) []) (if c < k + 1 ∧ jj < n then jj else j))) → j_Ans_countStretches_187 post R65 R2 o (nI g) (nI (ncol F)) (nI n) (nI jj) l5 (nI k) w := by
        intro w fw hw2
        unfold j_Ans_countStretches_187
        rw [nI_1]
        refine ih2 _ _ _ _ _ _ _ _ ⟨rfl, rfl, rfl, rfl, rfl, rfl, fw, k + 1, kc, rfl, hw2⟩ ?_
        rw [nI_clamp (by omega), nI_clamp (by omega)]
        omega
      by_cases ha : askB F Q.2.2.1 k = true
      · rw [if_pos ha]
        refine br_f (by decide) ?_
        have tk := tz k kc ha
        rw [if_neg (fun z => Nat.lt_irrefl _ z.1)] at tk
        obtain ⟨-, lw, e1, e2, e3⟩ := ask_pg hw hW A.1.2.1 A.1.hl hg (show j < G.getD g 0 by omega) ha
        by_cases cn : jj < n
        · refine br_f (by (first | omega | (simp (disch := omega) only [Int32.le_iff_toInt_le, Int32.lt_iff_toInt_lt, z_eq, z_in, nI_toInt, z_cl, z_m1, z_sg, z_255, Int32.reduceToInt] <;> omega) | (simp only [Int32.le_iff_toInt_le, Int32.lt_iff_toInt_lt, z_eq, z_in, z_add, z_sub, z_mul, z_neg, z_nI, z_cl, z_sg, z_255, z_lit, Int32.reduceToInt] <;> omega))) (k_pageEnd Az hg (by omega) kc ha tk ?_)
          have le := ml.2 k kc ha
          by_cases ce : pgE (CK.getD (ncol F * g + k) []) j = jj
          · refine bn_t (by rw [ce]) ?_
            have pn := pgI_next (A.ne hg kc) (show j < (ckC (CK.getD (ncol F * g + k) [])).length by omega) (show pgE (CK.getD (ncol F * g + k) []) j < (ckC (CK.getD (ncol F * g + k) [])).length by omega)
            rw [ce] at pn
            rw [o12, m7]
            refine ⟨vk, vk, nm_e (nx _ (fz.trans (Fg.a rfl)) (fun c hc hac => ?_))⟩
            by_cases q : c = k
            · subst q
              rw [gA_on (by omega), rA_nI (by omega), tk, nI_1, if_pos ⟨by omega, cn⟩, pn]
              congr 1
            · rw [gA_off (by omega) q, tz c hc hac]
              by_cases q2 : c < k
              · rw [if_pos ⟨q2, cn⟩, if_pos ⟨by omega, cn⟩]
              · rw [if_neg (fun z => q2 z.1), if_neg (fun z => by omega)]
          · refine bn_f (fun z => ce (nI_inj (by omega) (by omega) z)) (nx z fz (fun c hc hac => ?_))
            have ps := pgI_same (Nat.le_of_lt mg) (show jj < pgE (CK.getD (ncol F * g + k) []) j by omega) (show j < (ckC (CK.getD (ncol F * g + k) [])).length by omega)
            rw [tz c hc hac]
            by_cases q : c = k
            · subst q
              rw [if_neg (fun z => Nat.lt_irrefl _ z.1), if_pos ⟨by omega, cn⟩, ps]
            · by_cases q2 : c < k
              · rw [if_pos ⟨q2, cn⟩, if_pos ⟨by omega, cn⟩]
              · rw [if_neg (fun z => q2 z.1), if_neg (fun z => by omega)]
        · refine br_t (by (first | omega | (simp (disch := omega) only [Int32.le_iff_toInt_le, Int32.lt_iff_toInt_lt, z_eq, z_in, nI_toInt, z_cl, z_m1, z_sg, z_255, Int32.reduceToInt] <;> omega) | (simp only [Int32.le_iff_toInt_le, Int32.lt_iff_toInt_lt, z_eq, z_in, z_add, z_sub, z_mul, z_neg, z_nI, z_cl, z_sg, z_255, z_lit, Int32.reduceToInt] <;> omega))) (nx z fz (fun c hc hac => ?_))
          rw [tz c hc hac, if_neg (fun z => cn z.2), if_neg (fun z => cn z.2)]
      · rw [if_neg ha]
        refine br_t rfl (nx z fz (fun c hc hac => ?_))
        have q : c ≠ k := fun e => ha (by rw [← e]; exact hac)
        rw [tz c hc hac]
        by_cases q2 : c < k ∧ jj < n
        · rw [if_pos q2, if_pos ⟨by omega, q2.2⟩]
        · rw [if_neg q2, if_neg (fun z => q2 ⟨by omega, z.2⟩)]
  · have kc : k < ncol F := by omega
    have ml := (mnE_le (F := F) (CK := CK) (g := g) (j := j) (E := Q.2.2.1) (n := n) (m := k)).1
    refine br_f (by (first | omega | (simp (disch := omega) only [Int32.le_iff_toInt_le, Int32.lt_iff_toInt_lt, z_eq, z_in, nI_toInt, z_cl, z_m1, z_sg, z_255, Int32.reduceToInt] <;> omega) | (simp only [Int32.le_iff_toInt_le, Int32.lt_iff_toInt_lt, z_eq, z_in, z_add, z_sub, z_mul, z_neg, z_nI, z_cl, z_sg, z_255, z_lit, Int32.reduceToInt] <;> omega))) ?_
    rw [rA_nI (by omega), hR k kc]
    refine ⟨vp_in_nI (by omega) (by decide), ?_⟩
    have nx : ∀ v, v = nI (mnE F Q.2.2.1 CK g n j (k + 1)) → j_Ans_countStretches_133 post R65 R o (nI g) (nI (ncol F)) (nI n) v l5 (nI k) y := by
      intro v hv
      unfold j_Ans_countStretches_133
      rw [nI_1, hv]
      refine ih _ _ _ _ _ _ _ _ ⟨rfl, rfl, rfl, rfl, rfl, rfl, k + 1, kc, rfl, rfl⟩ ?_
      rw [nI_clamp (by omega), nI_clamp (by omega)]
      omega
    have em : mnE F Q.2.2.1 CK g n j (k + 1) = if askB F Q.2.2.1 k = true then min (mnE F Q.2.2.1 CK g n j k) (pgE (CK.getD (ncol F * g + k) []) j) else mnE F Q.2.2.1 CK g n j k := rfl
    by_cases ha : askB F Q.2.2.1 k = true
    · rw [if_pos ha] at em
      rw [if_pos ha]
      obtain ⟨-, lw, e1, e2, e3⟩ := ask_pg hw hW A.1.2.1 A.1.hl hg (show j < G.getD g 0 by omega) ha
      refine br_f (by decide) (k_pageEnd A hg (by omega) kc ha (hT k kc ha) (nm_e (nx _ ?_)))
      rw [em]
      by_cases q : pgE (CK.getD (ncol F * g + k) []) j < mnE F Q.2.2.1 CK g n j k
      · rw [if_pos (by (first | omega | (simp (disch := omega) only [Int32.le_iff_toInt_le, Int32.lt_iff_toInt_lt, z_eq, z_in, nI_toInt, z_cl, z_m1, z_sg, z_255, Int32.reduceToInt] <;> omega) | (simp only [Int32.le_iff_toInt_le, Int32.lt_iff_toInt_lt, z_eq, z_in, z_add, z_sub, z_mul, z_neg, z_nI, z_cl, z_sg, z_255, z_lit, Int32.reduceToInt] <;> omega))), Nat.min_eq_right (by omega)]
      · rw [if_neg (by (first | omega | (simp (disch := omega) only [Int32.le_iff_toInt_le, Int32.lt_iff_toInt_lt, z_eq, z_in, nI_toInt, z_cl, z_m1, z_sg, z_255, Int32.reduceToInt] <;> omega) | (simp only [Int32.le_iff_toInt_le, Int32.lt_iff_toInt_lt, z_eq, z_in, z_add, z_sub, z_mul, z_neg, z_nI, z_cl, z_sg, z_255, z_lit, Int32.reduceToInt] <;> omega))), Nat.min_eq_left (by omega)]
    · rw [if_neg ha] at em
      rw [if_neg ha]
      exact br_t rfl (nx _ (by rw [em]))
theorem k_stretch {post : St → Prop} {S0 : Nat} (A : AnC x o qo F G K CK b dE Q) (hne : Q.2.2.1 ≠ []) (hg : g < G.length) (hT : ∀ c, c < ncol F → fA x (o + 7) c = nI (tlN (CK.take (ncol F * g + c)))) (hR : AskR x o F Q) (h3 : fI x o 3 = nI S0)
    (p : ∀ y, FrKs o x y → fI y o 2 = fI x o 2 → fI y o 3 = nI (S0 + skS F Q CK g (G.getD g 0) (G.getD g 0) 0) → fA y (o + 8) = fA x (o + 8) → post y) : wp_Ans_countStretches post o (nI g) x := by
  have hw := A.1.2.2.1.2.1
  have hC := hw.2.1
  have h14 := A.2.2.2.1
  have h2000 := A.1.2.2.1.2.2.2.2.2.2.2.1
  have G5 := A.1.2.2.1.2.2.2.2.2.2.2.2.1
  have h87 := A.1.2.2.1.2.2.2.2.1
  have st := smN_take hg
  have sl := smN_le (G := G) (g := g + 1)
  obtain ⟨-, -, -, -, -, -, o12, o13⟩ := sta A.2.1
  obtain ⟨n, hn⟩ : ∃ n, n = G.getD g 0 := ⟨_, rfl⟩
  rw [← hn] at p st
  have e1 : fI x (stC 97 5) 1 = nI (ncol F) := A.1.2.2.1.1.2.1
  have l87 : fN x 87 = 501 := A.1.1 87 (by decide)
  unfold wp_Ans_countStretches
  refine ⟨97, h14, nm_r (e' := nI (ncol F)) e1 ⟨97, h14, ?_, 97, h14, ?_, nm_r (e' := nI n) ?_ ?_⟩⟩
  · rw [nI_1]
    show vp_in _ (fN x 87)
    rw [l87]
    exact vp_in_nI (by omega) (by decide)
  · show vp_in _ (fN x 87)
    rw [l87]
    exact vp_in_nI (by omega) (by decide)
  · rw [nI_1]
    show rA x 87 (nI (g + 1)) - rA x 87 (nI g) = _
    rw [rA_nI (by omega), rA_nI (by omega), h87 _ (by omega), h87 _ (by omega), nI_sub (by omega)]
    congr 1
    omega
  refine lp_Ans_countStretches_36 (fun b0 b1 b2 b3 b4 y => o = b0 ∧ nI g = b1 ∧ nI (ncol F) = b2 ∧ nI n = b3 ∧ Fg no2 no2 no2 (fun a => a = o + 7) no1 x y ∧ ∃ k, k ≤ ncol F ∧ nI k = b4 ∧ ∀ c, c < ncol F → fA y (o + 7) c = nI (tlN (CK.take (ncol F * g + c)) + (if c < k then 1 else 0))) (fun _ _ _ _ b4 _ => ncol F - b4.toNatClampNeg) ?_ _ _ _ _ _ _ ⟨rfl, rfl, rfl, rfl, Fg.refl x, 0, Nat.zero_le _, rfl, fun c hc => hT c hc⟩
  rintro R b0 b1 b2 b3 b4 y ⟨rfl, rfl, rfl, rfl, fy, k, hk, rfl, ty⟩ ih
  have fky : ∀ {u v}, Fg no2 no2 no2 (fun a => a = o + 7) no1 u v → FrKs o u v := fun f => f.mono (fun _ _ z => z.elim) (fun _ _ z => z) (fun _ _ z => z) (fun a z => Or.inr (Or.inl z)) (fun _ z => z)
  have Ay := A.fa (fky fy).fa
  have m7 := (A.2.1.len Ay.1.1).2.2.2.2.2.2.1
  unfold j_Ans_countStretches_36
  by_cases ck : k = ncol F
  rotate_left
  · have kc : k < ncol F := by omega
    have vk : vp_in (nI k) 64 := vp_in_nI (by omega) (by decide)
    refine br_f (by (first | omega | (simp (disch := omega) only [Int32.le_iff_toInt_le, Int32.lt_iff_toInt_lt, z_eq, z_in, nI_toInt, z_cl, z_m1, z_sg, z_255, Int32.reduceToInt] <;> omega) | (simp only [Int32.le_iff_toInt_le, Int32.lt_iff_toInt_lt, z_eq, z_in, z_add, z_sub, z_mul, z_neg, z_nI, z_cl, z_sg, z_255, z_lit, Int32.reduceToInt] <;> omega))) ?_
    rw [o12, m7]
    refine ⟨vk, vk, nm_e ?_⟩
    rw [nI_1]
    refine ih _ _ _ _ _ _ ⟨rfl, rfl, rfl, rfl, fy.trans (Fg.a rfl), k + 1, kc, rfl, fun c hc => ?_⟩ ?_
    · by_cases q : c = k
      · subst q
        rw [gA_on (by omega), rA_nI (by omega), ty c hc, if_neg (Nat.lt_irrefl _), if_pos (Nat.lt_succ_self _)]
        exact nI_1 _
      · rw [gA_off (by omega) q, ty c hc]
        by_cases q2 : c < k
        · rw [if_pos q2, if_pos (by omega)]
        · rw [if_neg q2, if_neg (by omega)]
    · rw [nI_clamp (by omega), nI_clamp (by omega)]
      omega
  subst ck
  refine br_t (by (first | omega | (simp (disch := omega) only [Int32.le_iff_toInt_le, Int32.lt_iff_toInt_lt, z_eq, z_in, nI_toInt, z_cl, z_m1, z_sg, z_255, Int32.reduceToInt] <;> omega) | (simp only [Int32.le_iff_toInt_le, Int32.lt_iff_toInt_lt, z_eq, z_in, z_add, z_sub, z_mul, z_neg, z_nI, z_cl, z_sg, z_255, z_lit, Int32.reduceToInt] <;> omega))) ?_
  have t0 : TePg y o F CK Q g 0 := by
    intro c hc _
    rw [ty c hc, if_pos hc, pgI_z (A.ne hg hc)]
  have y3 : fI y o 3 = nI S0 := (fy.1 o 3 (fun z => z)).trans h3
  have y2 : fI y o 2 = fI x o 2 := fy.1 o 2 (fun z => z)
  have y8 : fA y (o + 8) = fA x (o + 8) := fy.2.2.2.1 _ (fun z => by omega)
  refine lp_Ans_countStretches_65 (fun b0 b1 b2 b3 b4 b5 z => o = b0 ∧ nI g = b1 ∧ nI (ncol F) = b2 ∧ nI n = b3 ∧ FrKs o x z ∧ fI z o 2 = fI x o 2 ∧ fA z (o + 8) = fA x (o + 8) ∧ ∃ gd j cnt, gd ≤ n ∧ nI gd = b5 ∧ j ≤ n ∧ nI j = b4 ∧ cnt + skS F Q CK g n (n - gd) j = skS F Q CK g n n 0 ∧ fI z o 3 = nI (S0 + cnt) ∧ (j < n → TePg z o F CK Q g j)) (fun _ _ _ _ _ b5 _ => n - b5.toNatClampNeg) ?_ _ _ _ _ _ _ _ ⟨rfl, rfl, rfl, rfl, fky fy, y2, y8, 0, 0, 0, Nat.zero_le _, rfl, Nat.zero_le _, rfl, by rw [Nat.zero_add]; rfl, y3, fun _ => t0⟩
  rintro R2 b0 b1 b2 b3 b4 b5 z ⟨rfl, rfl, rfl, rfl, fz, z2, z8, gd, j, cnt, hgd, rfl, hj, rfl, hsum, z3, hte⟩ ih2
  have Az := A.fa fz.fa
  unfold j_Ans_countStretches_65
  by_cases c1 : gd = n
  · subst c1
    rw [Nat.sub_self] at hsum
    refine br_t (by (first | omega | (simp (disch := omega) only [Int32.le_iff_toInt_le, Int32.lt_iff_toInt_lt, z_eq, z_in, nI_toInt, z_cl, z_m1, z_sg, z_255, Int32.reduceToInt] <;> omega) | (simp only [Int32.le_iff_toInt_le, Int32.lt_iff_toInt_lt, z_eq, z_in, z_add, z_sub, z_mul, z_neg, z_nI, z_cl, z_sg, z_255, z_lit, Int32.reduceToInt] <;> omega))) (p z fz z2 ?_ z8)
    rw [z3, ← hsum]
    rfl
  refine br_f (by (first | omega | (simp (disch := omega) only [Int32.le_iff_toInt_le, Int32.lt_iff_toInt_lt, z_eq, z_in, nI_toInt, z_cl, z_m1, z_sg, z_255, Int32.reduceToInt] <;> omega) | (simp only [Int32.le_iff_toInt_le, Int32.lt_iff_toInt_lt, z_eq, z_in, z_add, z_sub, z_mul, z_neg, z_nI, z_cl, z_sg, z_255, z_lit, Int32.reduceToInt] <;> omega))) ?_
  by_cases c2 : j = n
  · subst c2
    rw [skS_z (Nat.le_refl _), Nat.add_zero] at hsum
    refine br_t (by (first | omega | (simp (disch := omega) only [Int32.le_iff_toInt_le, Int32.lt_iff_toInt_lt, z_eq, z_in, nI_toInt, z_cl, z_m1, z_sg, z_255, Int32.reduceToInt] <;> omega) | (simp only [Int32.le_iff_toInt_le, Int32.lt_iff_toInt_lt, z_eq, z_in, z_add, z_sub, z_mul, z_neg, z_nI, z_cl, z_sg, z_255, z_lit, Int32.reduceToInt] <;> omega))) (p z fz z2 ?_ z8)
    rw [z3, hsum]
  have jn : j < n := by omega
  have te := hte jn
  refine br_f (by (first | omega | (simp (disch := omega) only [Int32.le_iff_toInt_le, Int32.lt_iff_toInt_lt, z_eq, z_in, nI_toInt, z_cl, z_m1, z_sg, z_255, Int32.reduceToInt] <;> omega) | (simp only [Int32.le_iff_toInt_le, Int32.lt_iff_toInt_lt, z_eq, z_in, z_add, z_sub, z_mul, z_neg, z_nI, z_cl, z_sg, z_255, z_lit, Int32.reduceToInt] <;> omega))) ?_
  obtain ⟨m, hm⟩ : ∃ m, n - gd = m + 1 := ⟨n - gd - 1, by omega⟩
  rw [hm] at hsum
  have es : skS F Q CK g n (m + 1) j = (if canQ F Q (tlP F CK g j) = true then 0 else 1) + skS F Q CK g n m (mnE F Q.2.2.1 CK g n j (ncol F)) := by
    show (if n ≤ j then 0 else _) = _
    rw [if_neg (by omega)]
  rw [es] at hsum
  have mn := (mnE_le (F := F) (CK := CK) (g := g) (j := j) (E := Q.2.2.1) (n := n) (m := ncol F)).1
  have nx : ∀ w cnt', FrKs o x w → fI w o 2 = fI x o 2 → fA w (o + 8) = fA x (o + 8) → cnt' + skS F Q CK g n m (mnE F Q.2.2.1 CK g n j (ncol F)) = skS F Q CK g n n 0 → fI w o 3 = nI (S0 + cnt') → TePg w o F CK Q g j → ∀ l4, j_Ans_countStretches_97 post R2 o (nI g) (nI (ncol F)) (nI n) l4 (nI gd) w := by
    intro w cnt' fw w2 w8 ws w3 wt l4
    refine k_nextS (A.fa fw.fa) hg hn jn wt (fun c hc => by rw [w8]; exact hR c hc) (fun v fv vt => ?_)
    rw [nI_1]
    refine ih2 _ _ _ _ _ _ _ ⟨rfl, rfl, rfl, rfl, fw.trans (fky fv), (fv.1 o 2 (fun z => z)).trans w2, (fv.2.2.2.1 _ (fun z => by omega)).trans w8, gd + 1, _, cnt', by omega, rfl, mn, rfl, ?_, (fv.1 o 3 (fun z => z)).trans w3, vt⟩ ?_
    · rw [show n - (gd + 1) = m by omega]
      exact ws
    · rw [nI_clamp (by omega), nI_clamp (by omega)]
      omega
  refine k_condC Az hne (τ := tlP F CK g j) (fun f0 hf0 => ?_) (fun w fw q r hr => bn_f hr ?_) (fun w fw q r hr => bn_t hr (nm_e ?_))
  · have hc := (col_ok hw hf0.1).1
    obtain ⟨-, -, e1, -, -⟩ := ask_pg hw A.2.2.2.2.2.2.1 A.1.2.1 A.1.hl hg (show j < G.getD g 0 by omega) (hf0.ask hw)
    exact ⟨_, te _ hc (hf0.ask hw), Az.tlP hg hc (by show j < (ckC _).length; omega)⟩
  · rw [if_pos q, Nat.zero_add] at hsum
    have e7 : fA w (o + 7) = fA z (o + 7) := fw.2.2.2.1 _ (fun z => by omega)
    exact nx w cnt (fz.trans (FrKs.s fw)) ((fw.1 o 2 (fun z => z)).trans z2) ((fw.2.2.2.1 _ (fun z => by omega)).trans z8) hsum ((fw.1 o 3 (fun z => z)).trans z3) (fun c hc ha => by rw [e7]; exact te c hc ha) _
  · rw [if_neg q] at hsum
    have e7 : fA w (o + 7) = fA z (o + 7) := fw.2.2.2.1 _ (fun z => by omega)
    have w3 : fI w o 3 = nI (S0 + cnt) := (fw.1 o 3 (fun z => z)).trans z3
    refine nx _ (cnt + 1) ((fz.trans (FrKs.s fw)).trans (Fg.i ⟨rfl, Or.inr rfl⟩)) ?_ ((fw.2.2.2.1 _ (fun z => by omega)).trans z8) (by omega) ?_ (fun c hc ha => by show fA w (o + 7) c = _; rw [e7]; exact te c hc ha) _
    · rw [gI_ne (by omega)]
      exact (fw.1 o 2 (fun z => z)).trans z2
    · rw [gI_at, w3, nI_1, Nat.add_assoc]
theorem k_skips {post : St → Prop} (A : AnC x o qo F G K CK b dE Q) (p : ∀ y, FrKs o x y → fI y o 2 = nI (skT F Q G CK).1 → fI y o 3 = nI (skT F Q G CK).2 → post y) : wp_Ans_countSkipped post o x := by
  have hw := A.1.2.2.1.2.1
  have hC := hw.2.1
  have G5 := A.1.2.2.1.2.2.2.2.2.2.2.2.1
  obtain ⟨-, -, -, -, -, -, o12, o13⟩ := sta A.2.1
  unfold wp_Ans_countSkipped
  refine nm_e (nm_e ?_)
  have f0 : FrKs o x (setI (setI x o 2 0) o 3 0) := (Fg.i ⟨rfl, Or.inl rfl⟩).trans (Fg.i ⟨rfl, Or.inr rfl⟩)
  have e2 : fI (setI (setI x o 2 0) o 3 0) o 2 = 0 := by rw [gI_ne (by omega), gI_at]
  have e3 : fI (setI (setI x o 2 0) o 3 0) o 3 = 0 := gI_at
  generalize setI (setI x o 2 0) o 3 0 = x1 at *
  refine k_markAsked (A.fa f0.fa) (fun x2 f1 hR => ?_)
  have f2 : FrKs o x x2 := f0.trans (f1.mono (fun _ _ z => z.elim) (fun _ _ z => z) (fun _ _ z => z) (fun a z => Or.inr (Or.inr z)) (fun _ z => z))
  have x22 : fI x2 o 2 = 0 := (f1.1 o 2 (fun z => z)).trans e2
  have x23 : fI x2 o 3 = 0 := (f1.1 o 3 (fun z => z)).trans e3
  refine lp_Ans_countSkipped_16 (fun b0 b1 y => o = b0 ∧ FrKs o x y ∧ AskR y o F Q ∧ ∃ g, g ≤ G.length ∧ nI g = b1 ∧ (Q.2.2.1 = [] → g = 0) ∧ fI y o 2 = nI (skA F Q G CK g).1 ∧ fI y o 3 = nI (skA F Q G CK g).2) (fun _ b1 _ => G.length - b1.toNatClampNeg) ?_ _ _ _ ⟨rfl, f2, hR, 0, Nat.zero_le _, rfl, fun _ => rfl, x22, x23⟩
  rintro R b0 b1 y ⟨rfl, fy, yR, g, hgl, rfl, gz, y2, y3⟩ ih
  have Ay := A.fa fy.fa
  have h14 := Ay.2.2.2.1
  have h15 := Ay.2.2.2.2.1
  have e972 : fI y 97 2 = nI G.length := Ay.1.2.2.1.2.2.2.1
  have e8 := Ay.2.2.2.2.2.1.2.2.1.1
  have s64 := Ay.2.2.2.2.2.1.2.2.1.2.1
  unfold j_Ans_countSkipped_16
  refine ⟨97, h14, ?_⟩
  rw [e972]
  have fin : (Q.2.2.1 = [] ∨ g = G.length) → post y := by
    intro q
    refine p y fy ?_ ?_
    · rw [y2]
      unfold skT
      by_cases e : Q.2.2.1 = []
      · rw [if_pos e, gz e]; rfl
      · rw [if_neg e, q.resolve_left e]
    · rw [y3]
      unfold skT
      by_cases e : Q.2.2.1 = []
      · rw [if_pos e, gz e]; rfl
      · rw [if_neg e, q.resolve_left e]
  by_cases cg : g = G.length
  · exact br_t (by (first | omega | (simp (disch := omega) only [Int32.le_iff_toInt_le, Int32.lt_iff_toInt_lt, z_eq, z_in, nI_toInt, z_cl, z_m1, z_sg, z_255, Int32.reduceToInt] <;> omega) | (simp only [Int32.le_iff_toInt_le, Int32.lt_iff_toInt_lt, z_eq, z_in, z_add, z_sub, z_mul, z_neg, z_nI, z_cl, z_sg, z_255, z_lit, Int32.reduceToInt] <;> omega))) (fin (Or.inr cg))
  have hg : g < G.length := by omega
  refine br_f (by (first | omega | (simp (disch := omega) only [Int32.le_iff_toInt_le, Int32.lt_iff_toInt_lt, z_eq, z_in, nI_toInt, z_cl, z_m1, z_sg, z_255, Int32.reduceToInt] <;> omega) | (simp only [Int32.le_iff_toInt_le, Int32.lt_iff_toInt_lt, z_eq, z_in, z_add, z_sub, z_mul, z_neg, z_nI, z_cl, z_sg, z_255, z_lit, Int32.reduceToInt] <;> omega))) ⟨qo, h15, ?_⟩
  rw [e8]
  by_cases ce : Q.2.2.1 = []
  · exact br_t (by rw [ce]; decide) (fin (Or.inl ce))
  have sp : 0 < Q.2.2.1.length := List.length_pos_iff.mpr ce
  refine br_f (by (first | omega | (simp (disch := omega) only [Int32.le_iff_toInt_le, Int32.lt_iff_toInt_lt, z_eq, z_in, nI_toInt, z_cl, z_m1, z_sg, z_255, Int32.reduceToInt] <;> omega) | (simp only [Int32.le_iff_toInt_le, Int32.lt_iff_toInt_lt, z_eq, z_in, z_add, z_sub, z_mul, z_neg, z_nI, z_cl, z_sg, z_255, z_lit, Int32.reduceToInt] <;> omega))) ?_
  refine lp_Ans_countSkipped_39 (fun b0 b1 b2 z => o = b0 ∧ nI g = b1 ∧ Fg no2 no2 no2 (fun a => a = o + 7) no1 y z ∧ ∃ k, k ≤ ncol F ∧ nI k = b2 ∧ ∀ c, c < k → fA z (o + 7) c = nI (tlN (CK.take (ncol F * g + c)))) (fun _ _ b2 _ => ncol F - b2.toNatClampNeg) ?_ _ _ _ _ ⟨rfl, rfl, Fg.refl y, 0, Nat.zero_le _, rfl, fun c hc => absurd hc (Nat.not_lt_zero _)⟩
  rintro R2 b0 b1 b2 z ⟨rfl, rfl, fz, k, hk, rfl, tz⟩ ih2
  have fkz : FrKs o y z := fz.mono (fun _ _ z => z.elim) (fun _ _ z => z) (fun _ _ z => z) (fun a z => Or.inr (Or.inl z)) (fun _ z => z)
  have Az := Ay.fa fkz.fa
  have k14 := Az.2.2.2.1
  have m7 := (A.2.1.len Az.1.1).2.2.2.2.2.2.1
  have e1 : fI z (stC 97 5) 1 = nI (ncol F) := Az.1.2.2.1.1.2.1
  unfold j_Ans_countSkipped_39
  refine ⟨97, k14, ?_⟩
  rw [e1]
  by_cases ck : k = ncol F
  · subst ck
    refine br_t (by (first | omega | (simp (disch := omega) only [Int32.le_iff_toInt_le, Int32.lt_iff_toInt_lt, z_eq, z_in, nI_toInt, z_cl, z_m1, z_sg, z_255, Int32.reduceToInt] <;> omega) | (simp only [Int32.le_iff_toInt_le, Int32.lt_iff_toInt_lt, z_eq, z_in, z_add, z_sub, z_mul, z_neg, z_nI, z_cl, z_sg, z_255, z_lit, Int32.reduceToInt] <;> omega))) ?_
    have z2 : fI z o 2 = nI (skA F Q G CK g).1 := (fz.1 o 2 (fun z => z)).trans y2
    have z3 : fI z o 3 = nI (skA F Q G CK g).2 := (fz.1 o 3 (fun z => z)).trans y3
    have z8 : fA z (o + 8) = fA y (o + 8) := fz.2.2.2.1 _ (fun z => by omega)
    have nx : ∀ w, FrKs o x w → AskR w o F Q → fI w o 2 = nI (skA F Q G CK (g + 1)).1 → fI w o 3 = nI (skA F Q G CK (g + 1)).2 → ∀ l2, j_Ans_countSkipped_115 post R o (nI g) l2 w := by
      intro w fw wR w2 w3 l2
      unfold j_Ans_countSkipped_115
      rw [nI_1]
      refine ih _ _ _ ⟨rfl, fw, wR, g + 1, hg, rfl, fun e => absurd e ce, w2, w3⟩ ?_
      rw [nI_clamp (by omega), nI_clamp (by omega)]
      omega
    have es : skA F Q G CK (g + 1) = if canQ F Q (tlK F CK g) = true then ((skA F Q G CK g).1, (skA F Q G CK g).2 + skS F Q CK g (G.getD g 0) (G.getD g 0) 0) else ((skA F Q G CK g).1 + 1, (skA F Q G CK g).2) := rfl
    refine k_condC Az ce (τ := tlK F CK g) (fun f0 hf0 => ?_) (fun w fw q r hr => bn_f hr ?_) (fun w fw q r hr => bn_t hr (nm_e ?_))
    · have hc := (col_ok hw hf0.1).1
      exact ⟨_, tz _ hc, Az.tlK hg hc⟩
    · rw [if_pos q] at es
      have e7 : fA w (o + 7) = fA z (o + 7) := fw.2.2.2.1 _ (fun z => by omega)
      have e8w : fA w (o + 8) = fA y (o + 8) := (fw.2.2.2.1 _ (fun z => by omega)).trans z8
      refine k_stretch (Az.fa fw.fa) ce hg (fun c hc => by rw [e7]; exact tz c hc) (fun c hc => by rw [e8w]; exact yR c hc) ((fw.1 o 3 (fun z => z)).trans z3) (fun u fu u2 u3 u8 => nx u ((fy.trans fkz).trans ((FrKs.s fw).trans fu)) (fun c hc => by rw [u8, e8w]; exact yR c hc) ?_ ?_ _)
      · rw [u2, es]
        exact (fw.1 o 2 (fun z => z)).trans z2
      · rw [u3, es]
    · rw [if_neg q] at es
      have e8w : fA w (o + 8) = fA y (o + 8) := (fw.2.2.2.1 _ (fun z => by omega)).trans z8
      have w2 : fI w o 2 = nI (skA F Q G CK g).1 := (fw.1 o 2 (fun z => z)).trans z2
      refine nx _ (((fy.trans fkz).trans (FrKs.s fw)).trans (Fg.i ⟨rfl, Or.inl rfl⟩)) (fun c hc => by show fA w (o + 8) c = _; rw [e8w]; exact yR c hc) ?_ ?_ _
      · rw [gI_at, w2, es, nI_1]
      · rw [gI_ne (by omega), es]
        exact (fw.1 o 3 (fun z => z)).trans z3
  · have kc : k < ncol F := by omega
    refine br_f (by (first | omega | (simp (disch := omega) only [Int32.le_iff_toInt_le, Int32.lt_iff_toInt_lt, z_eq, z_in, nI_toInt, z_cl, z_m1, z_sg, z_255, Int32.reduceToInt] <;> omega) | (simp only [Int32.le_iff_toInt_le, Int32.lt_iff_toInt_lt, z_eq, z_in, z_add, z_sub, z_mul, z_neg, z_nI, z_cl, z_sg, z_255, z_lit, Int32.reduceToInt] <;> omega))) ⟨97, k14, 97, k14, ?_⟩
    obtain ⟨lw, a1, -⟩ := Az.ck hg kc
    have t2 := A.1.2.2.1.2.2.2.2.2.2.2.2.2.2.2
    have w6 : ncol F * g + k < 6000 := by
      have := t2.1
      have := t2.2.1
      omega
    have ix : (nI g * fI z (stC 97 5) 1) + nI k = nI (ncol F * g + k) := by rw [e1, nI_mul, nI_add, Nat.mul_comm]
    rw [ix, o12, m7]
    have r1 : rA z (stC 97 12) (nI (ncol F * g + k)) = nI (tlN (CK.take (ncol F * g + k))) := by
      have : rA z 88 (nI (ncol F * g + k)) = fA z 88 (ncol F * g + k) := rA_nI (by omega)
      exact this.trans a1
    rw [r1]
    have l88 : fN z 88 = 6000 := Az.1.1 88 (by decide)
    refine ⟨by show vp_in _ (fN z 88); rw [l88]; exact vp_in_nI w6 (by decide), vp_in_nI (by omega) (by decide), nm_e ?_⟩
    rw [nI_1]
    refine ih2 _ _ _ _ ⟨rfl, rfl, fz.trans (Fg.a rfl), k + 1, kc, rfl, fun c hc => ?_⟩ ?_
    · by_cases q : c = k
      · subst q
        exact gA_on (by omega)
      · rw [gA_off (by omega) q]
        exact tz c (by omega)
    · rw [nI_clamp (by omega), nI_clamp (by omega)]
      omega
end
