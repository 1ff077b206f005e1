/-! which columns lie under a field, model -/
section
variable {x y : St} {F : List SFd} {W : Nat → Bool}
theorem RepM_cgA {q : Nat} (h : RepM x q F) (e : ∀ a, 3 ≤ a → a ≤ 11 → fA y a = fA x a) : RepM y q F := by
  unfold RepM
  rw [e 3 (by decide) (by decide), e 4 (by decide) (by decide), e 5 (by decide) (by decide), e 6 (by decide) (by decide), e 7 (by decide) (by decide), e 8 (by decide) (by decide), e 9 (by decide) (by decide), e 10 (by decide) (by decide), e 11 (by decide) (by decide)]
  exact h
theorem s_isUnder {post : Int32 → St → Prop} {c f : Nat} (hL : LM x) (hw : WfS F) (hR : RepM x 1 F) (hc : c < ncol F) (hf : f < F.length) (p1 : dsc F f (lfC F c) → post 1 x) (p0 : ¬ dsc F f (lfC F c) → post 0 x) : wp_Mod_isUnder post (nI c) (nI f) x := by
  have h128 := hw.1
  have h64 := hw.2.1
  obtain ⟨l1, l2, l3⟩ := lfC_ok hc
  have l11 : fN x 11 = 192 := hL 11
  generalize hlf : lfC F c = leaf at *
  unfold wp_Mod_isUnder
  rw [show (64 : Int32) + nI c = nI (64 + c) from by rw [show (64 : Int32) = nI 64 from rfl, nI_add]]
  refine ⟨by rw [l11]; exact vp_in_nI (by omega) (by decide), nm_r (e' := nI leaf) (by rw [rA_nI (by omega), ← hlf]; exact col11q (q := 1) hR hc) ?_⟩
  refine lp_Mod_isUnder_13 (fun a0 a1 a2 a3 y => nI f = a1 ∧ x = y ∧ ((a3 = -1 ∧ ((a2 = 1 ∧ dsc F f leaf) ∨ (a2 = 0 ∧ ¬ dsc F f leaf))) ∨ ∃ h, a3 = nI h ∧ h < F.length ∧ dsc F h leaf ∧ ((a2 = 1 ∧ dsc F f leaf ∧ h < f) ∨ (a2 = 0 ∧ ¬ (dsc F f leaf ∧ h < f))))) (fun _ _ _ a3 _ => if a3 = -1 then 0 else a3.toNatClampNeg + 1) ?_ _ _ _ _ _ ⟨rfl, rfl, Or.inr ⟨leaf, rfl, l1, dsc_self hw l1, Or.inr ⟨rfl, fun z => by have := dsc_le hw l1 z.1; omega⟩⟩⟩
  rintro Q a0 a1 a2 a3 y ⟨rfl, rfl, h⟩ ih
  unfold j_Mod_isUnder_13
  rcases h with ⟨rfl, h⟩ | ⟨h, rfl, h1, h2, h3⟩
  · refine br_t rfl ?_
    rcases h with ⟨rfl, h⟩ | ⟨rfl, h⟩
    · exact ⟨rfl, p1 h⟩
    · exact ⟨rfl, p0 h⟩
  · refine br_f (nI_nm1 (by omega)) ?_
    -- up
    have up : ∀ s0 : Int32, ((s0 = 1 ∧ dsc F f leaf ∧ h ≤ f) ∨ (s0 = 0 ∧ ¬ (dsc F f leaf ∧ h ≤ f))) → j_Mod_isUnder_34 post Q a0 (nI f) a2 (nI h) s0 x := fun s0 hs => by
      unfold j_Mod_isUnder_34 wp_Mod_place
      refine s_up1 hL hw hR h1 ?_
      rcases hw.2.2.1.2 h h1 with e | ⟨v, v1, v2⟩
      · rw [e]
        refine ih _ _ _ _ _ ⟨rfl, rfl, Or.inl ⟨rfl, ?_⟩⟩ (by rw [if_pos rfl, if_neg (nI_nm1 (by omega))]; omega)
        have top : dsc F f leaf → h ≤ f := fun d => by
          rcases Nat.lt_or_ge f h with z | z
          · have m1 := (dsc_iff hw hf l1).mp d
            have m2 := (dsc_iff hw h1 l1).mp h2
            have hd : dsc F f h := (dsc_iff hw hf h1).mpr ⟨by omega, by omega⟩
            obtain ⟨w, w1, w2, -⟩ := dsc_pa hw h1 hd (by omega)
            rw [e] at w2
            exact absurd w2.symm (nI_nm1 (by omega))
          · exact z
        rcases hs with ⟨s1, s2, -⟩ | ⟨s1, s2⟩
        · exact Or.inl ⟨s1, s2⟩
        · exact Or.inr ⟨s1, fun d => s2 ⟨d, top d⟩⟩
      · rw [v2]
        refine ih _ _ _ _ _ ⟨rfl, rfl, Or.inr ⟨v, rfl, by omega, dsc_trans hw (dsc_in hw h1 v1 v2 (dsc_self hw (by omega))) leaf l1 h2, ?_⟩⟩ (by rw [if_neg (nI_nm1 (by omega)), if_neg (nI_nm1 (by omega)), nI_clamp (by omega), nI_clamp (by omega)]; omega)
        have nxt : dsc F f leaf → (v < f ↔ h ≤ f) := fun d => by
          constructor
          · intro z
            rcases Nat.lt_or_ge f h with y | y
            · have m1 := (dsc_iff hw hf l1).mp d
              have m2 := (dsc_iff hw h1 l1).mp h2
              have hd : dsc F f h := (dsc_iff hw hf h1).mpr ⟨by omega, by omega⟩
              obtain ⟨w, w1, w2, w3⟩ := dsc_pa hw h1 hd (by omega)
              rw [v2] at w2
              have := nI_inj (by omega) (by omega) w2
              subst this
              have := dsc_le hw (by omega) w3
              omega
            · exact y
          · intro z; omega
        rcases hs with ⟨s1, s2, s3⟩ | ⟨s1, s2⟩
        · exact Or.inl ⟨s1, s2, (nxt s2).mpr s3⟩
        · exact Or.inr ⟨s1, fun z => s2 ⟨z.1, (nxt z.1).mp z.2⟩⟩
    unfold j_Mod_isUnder_29
    rcases h3 with ⟨rfl, h3, h4⟩ | ⟨rfl, h3⟩
    · exact bn_f (by decide) (up 1 (Or.inl ⟨rfl, h3, by omega⟩))
    · refine bn_t rfl ?_
      by_cases e : h = f
      · subst e
        exact bn_t rfl (up 1 (Or.inl ⟨rfl, h2, Nat.le_refl _⟩))
      · refine bn_f (fun z => e (nI_inj (by omega) (by omega) z)) (up 0 (Or.inr ⟨rfl, fun z => h3 ⟨z.1, by omega⟩⟩))
def WtM (x : St) (W : Nat → Bool) (N : Nat) : Prop := ∀ c, c < N → fA x 78 c = if W c = true then 1 else 0
theorem s_columnIn {post : Int32 → St → Prop} {f : Nat} (hL : LM x) (hw : WfS F) (hR : RepM x 1 F) (hW : WtM x W (ncol F)) (hf : f < F.length) (p1 : gdL F W f ≠ [] → post (nI (gdc F W f)) x) (p0 : gdL F W f = [] → post (-1) x) : wp_Mod_columnIn post (nI f) x := by
  have h64 := hw.2.1
  have l10 : fN x 10 = 3 := hL 10
  have l78 : fN x 78 = 64 := hL 78
  have e10 : rA x 10 1 = nI (ncol F) := by rw [show (1 : Int32) = nI 1 from rfl, rA_nI (by decide)]; exact hR.2.1
  unfold wp_Mod_columnIn
  rw [e10, l10]
  refine ⟨vp_in_nI (n := 1) (by decide) (by decide), ?_⟩
  have start : ∀ v : Int32, v = nI (ncol F) - 1 → ∃ nn, wl_Mod_columnIn_11 post nn (nI f) (-1) v x := fun v hv => by
    refine lp_Mod_columnIn_11 (fun a0 a1 a2 y => nI f = a0 ∧ x = y ∧ ∃ k, k ≤ ncol F ∧ a2 = nI k - 1 ∧ ((a1 = -1 ∧ ∀ c, k ≤ c → c < ncol F → ¬ (W c = true ∧ dsc F f (lfC F c))) ∨ ∃ m, a1 = nI m ∧ k ≤ m ∧ m < ncol F ∧ (W m = true ∧ dsc F f (lfC F m)) ∧ ∀ c, k ≤ c → c < m → ¬ (W c = true ∧ dsc F f (lfC F c)))) (fun _ _ a2 _ => (a2 + 1).toNatClampNeg) ?_ _ _ _ _ ⟨rfl, rfl, ncol F, Nat.le_refl _, hv, Or.inl ⟨rfl, fun c h1 h2 => by omega⟩⟩
    rintro Q a0 a1 a2 y ⟨rfl, rfl, k, k1, rfl, h⟩ ih
    unfold j_Mod_columnIn_11
    rw [l78]
    by_cases ck : k = 0
    · subst ck
      refine br_t (by decide) ?_
      rcases h with ⟨rfl, h⟩ | ⟨m, rfl, -, m2, m3, m4⟩
      · refine p0 ?_
        unfold gdL
        refine List.filter_eq_nil_iff.mpr (fun c hc z => ?_)
        rw [Bool.and_eq_true] at z
        exact h c (Nat.zero_le _) (List.mem_range.mp hc) ⟨z.1, of_decide_eq_true z.2⟩
      · have e : gdc F W f = m := hd_is (p := fun c => W c && decide (dsc F f (lfC F c))) m2 (by rw [Bool.and_eq_true]; exact ⟨m3.1, decide_eq_true m3.2⟩) (fun g hg => by
          cases hb : (W g && decide (dsc F f (lfC F g)))
          · rfl
          · rw [Bool.and_eq_true] at hb
            exact absurd ⟨hb.1, of_decide_eq_true hb.2⟩ (m4 g (Nat.zero_le _) hg))
        have := p1 (fun z => by
          have mem : m ∈ gdL F W f := List.mem_filter.mpr ⟨List.mem_range.mpr m2, by rw [Bool.and_eq_true]; exact ⟨m3.1, decide_eq_true m3.2⟩⟩
          rw [z] at mem
          exact absurd mem (by simp))
        rw [e] at this
        exact this
    · obtain ⟨c, rfl⟩ : ∃ c, k = c + 1 := ⟨k - 1, by omega⟩
      rw [show nI (c + 1) - 1 = nI c from by rw [show (1 : Int32) = nI 1 from rfl, nI_sub (by omega)]; rfl] at ih ⊢
      refine br_f (by (first | omega | (simp (disch := omega) only [Int32.le_iff_toInt_le, Int32.lt_iff_toInt_lt, z_eq, z_in, nI_toInt, z_cl, z_m1, z_sg, z_255, Int32.reduceToInt] <;> omega) | (simp only [Int32.le_iff_toInt_le, Int32.lt_iff_toInt_lt, z_eq, z_in, z_add, z_sub, z_mul, z_neg, z_nI, z_cl, z_sg, z_255, z_lit, Int32.reduceToInt] <;> omega))) ⟨vp_in_nI (by omega) (by decide), ?_⟩
      rw [rA_nI (by omega), hW c (by omega)]
      have nx : ∀ s0, ((s0 = -1 ∧ ∀ c', c ≤ c' → c' < ncol F → ¬ (W c' = true ∧ dsc F f (lfC F c'))) ∨ ∃ m, s0 = nI m ∧ c ≤ m ∧ m < ncol F ∧ (W m = true ∧ dsc F f (lfC F m)) ∧ ∀ c', c ≤ c' → c' < m → ¬ (W c' = true ∧ dsc F f (lfC F c'))) → j_Mod_columnIn_38 post Q (nI f) a1 (nI c) s0 x := fun s0 hs => by
        unfold j_Mod_columnIn_38
        refine ih _ _ _ _ ⟨rfl, rfl, c, by omega, ?_, hs⟩ ?_
        · rw [Int32.sub_eq_add_neg]
        · rw [show nI c + -1 + 1 = nI c from by rw [Int32.add_assoc, show (-1 : Int32) + 1 = 0 from rfl, Int32.add_zero], nI_1, nI_clamp (by omega), nI_clamp (by omega)]
          omega
      have skip : ¬ (W c = true ∧ dsc F f (lfC F c)) → j_Mod_columnIn_37 post Q (nI f) a1 (nI c) x := fun hn => by
        unfold j_Mod_columnIn_37
        refine nx a1 ?_
        rcases h with ⟨h1, h2⟩ | ⟨m, m0, m1, m2, m3, m4⟩
        · refine Or.inl ⟨h1, fun c' l1 l2 => ?_⟩
          by_cases e : c' = c
          · rw [e]; exact hn
          · exact h2 c' (by omega) l2
        · refine Or.inr ⟨m, m0, by omega, m2, m3, fun c' l1 l2 => ?_⟩
          by_cases e : c' = c
          · rw [e]; exact hn
          · exact m4 c' (by omega) l2
      by_cases cw : W c = true
      · rw [if_pos cw]
        refine br_f (by decide) (s_isUnder hL hw hR (by omega) hf (fun d => br_f (by decide) (nx _ (Or.inr ⟨c, rfl, Nat.le_refl _, by omega, ⟨cw, d⟩, fun c' l1 l2 => by omega⟩))) (fun d => br_t rfl (skip (fun z => d z.2))))
      · rw [if_neg cw]
        exact br_t rfl (skip (fun z => cw z.1))
  exact fun v hv => start v hv
theorem s_pass {post : St → Prop} {f : Nat} (hL : LM x) (hw : WfS F) (hR : RepM x 1 F) (hW : WtM x W (ncol F)) (hf : f < F.length) (p : ∀ y, Fg no2 no2 no2 (fun a => a = 76) no1 x y → (∀ c, c < ncol F → fA y 76 c = if W c = true ∧ dsc F f (lfC F c) then fA x 76 c + 1 else fA x 76 c) → post y) : wp_Mod_pass post (nI f) x := by
  have h64 := hw.2.1
  unfold wp_Mod_pass
  refine lp_Mod_pass_2 (fun a0 a1 y => nI f = a0 ∧ Fg no2 no2 no2 (fun a => a = 76) no1 x y ∧ ∃ k, nI k = a1 ∧ k ≤ ncol F ∧ ∀ c, c < ncol F → fA y 76 c = if c < k ∧ W c = true ∧ dsc F f (lfC F c) then fA x 76 c + 1 else fA x 76 c) (fun _ a1 _ => ncol F - a1.toNatClampNeg) ?_ _ _ _ ⟨rfl, Fg.refl x, 0, rfl, Nat.zero_le _, fun c _ => by rw [if_neg (fun z => absurd z.1 (Nat.not_lt_zero _))]⟩
  rintro Q a0 a1 y ⟨rfl, y1, k, rfl, k1, y2⟩ ih
  have hLy : LM y := fun o => (y1.len o).trans (hL o)
  have Ry : RepM y 1 F := RepM_cgA hR (fun r h1 h2 => y1.aa (show ¬ r = 76 by omega))
  have l10 : fN y 10 = 3 := hLy 10
  have l76 : fN y 76 = 64 := hLy 76
  have l78 : fN y 78 = 64 := hLy 78
  have e10 : rA y 10 1 = nI (ncol F) := by rw [show (1 : Int32) = nI 1 from rfl, rA_nI (by decide)]; exact Ry.2.1
  unfold j_Mod_pass_2
  rw [e10, l10, l76, l78]
  refine ⟨vp_in_nI (n := 1) (by decide) (by decide), ?_⟩
  by_cases ck : k < ncol F
  · refine br_f (by (first | omega | (simp (disch := omega) only [Int32.le_iff_toInt_le, Int32.lt_iff_toInt_lt, z_eq, z_in, nI_toInt, z_cl, z_m1, z_sg, z_255, Int32.reduceToInt] <;> omega) | (simp only [Int32.le_iff_toInt_le, Int32.lt_iff_toInt_lt, z_eq, z_in, z_add, z_sub, z_mul, z_neg, z_nI, z_cl, z_sg, z_255, z_lit, Int32.reduceToInt] <;> omega))) ⟨vp_in_nI (by omega) (by decide), vp_in_nI (by omega) (by decide), ?_⟩
    rw [rA_nI (by omega), rA_nI (by omega), y1.aa (show ¬ 78 = 76 by decide), hW k ck]
    have ek : fA y 76 k = fA x 76 k := by rw [y2 k ck, if_neg (fun z => absurd z.1 (Nat.lt_irrefl _))]
    have nx : ∀ s0 : Int32, (s0 = if W k = true ∧ dsc F f (lfC F k) then 1 else 0) → j_Mod_pass_42 post Q (nI f) (nI k) s0 (fA y 76 k) (nI k) 76 y := fun s0 hs => by
      unfold j_Mod_pass_42
      refine ⟨by rw [l76]; exact vp_in_nI (by omega) (by decide), nm_e ?_⟩
      rw [nI_1]
      refine ih _ _ _ ⟨rfl, Fg.trans y1 (Fg.a rfl), k + 1, rfl, ck, fun c hc => ?_⟩ (by rw [nI_clamp (by omega), nI_clamp (by omega)]; omega)
      by_cases e : c = k
      · subst e
        rw [gA_on (by omega), ek, hs]
        by_cases w : W c = true ∧ dsc F f (lfC F c)
        · rw [if_pos w, if_pos ⟨Nat.lt_succ_self _, w⟩]
        · rw [if_neg w, if_neg (fun z => w z.2), Int32.add_zero]
      · rw [gA_off (by omega) e, y2 c hc]
        by_cases w : c < k ∧ W c = true ∧ dsc F f (lfC F c)
        · rw [if_pos w, if_pos ⟨by omega, w.2⟩]
        · rw [if_neg w, if_neg (fun z => w ⟨by omega, z.2⟩)]
    unfold j_Mod_pass_41
    by_cases cw : W k = true
    · rw [if_pos cw]
      exact br_f (by decide) (s_isUnder hLy hw Ry ck hf (fun d => br_f (by decide) (nx 1 (by rw [if_pos ⟨cw, d⟩]))) (fun d => br_t rfl (nx 0 (by rw [if_neg (fun z => d z.2)]))))
    · rw [if_neg cw]
      exact br_t rfl (nx 0 (by rw [if_neg (fun z => cw z.1)]))
  · have e : k = ncol F := by omega
    subst e
    refine br_t (by (first | omega | (simp (disch := omega) only [Int32.le_iff_toInt_le, Int32.lt_iff_toInt_lt, z_eq, z_in, nI_toInt, z_cl, z_m1, z_sg, z_255, Int32.reduceToInt] <;> omega) | (simp only [Int32.le_iff_toInt_le, Int32.lt_iff_toInt_lt, z_eq, z_in, z_add, z_sub, z_mul, z_neg, z_nI, z_cl, z_sg, z_255, z_lit, Int32.reduceToInt] <;> omega))) (p y y1 (fun c hc => ?_))
    rw [y2 c hc]
    by_cases w : W c = true ∧ dsc F f (lfC F c)
    · rw [if_pos w, if_pos ⟨hc, w⟩]
    · rw [if_neg w, if_neg (fun z => w z.2)]
end
