/-! columns that lie beside each other: the Opener looks whether they go together -/
theorem lfC_lt {F : List SFd} {c : Nat} (hc : c < ncol F) (h1 : 1 ≤ c) : lfC F (c - 1) < lfC F c := by
  obtain ⟨-, -, k1⟩ := lfC_ok hc
  have := cB_iff (a := lfC F c) (show c - 1 < ncol F by omega)
  rw [k1] at this
  rcases Nat.lt_or_ge (lfC F (c - 1)) (lfC F c) with z | z
  · exact z
  · have := this.mpr z
    omega
theorem chd_of {F : List SFd} (hw : WfS F) {g : Nat} : ∀ b, b < F.length → dsc F g b → b ≠ g → ∃ w, w < F.length ∧ fPa F w = nI g ∧ g < w := by
  intro b
  induction b using Nat.strongRecOn with
  | ind b ih =>
    intro hb d hne
    obtain ⟨h, h1, h2, h3⟩ := dsc_pa hw hb d hne
    by_cases e : h = g
    · exact ⟨b, hb, by rw [h2, e], by omega⟩
    · exact ih h h1 (by omega) h3 e
section
variable {x : St} {F : List SFd}
theorem k_next {post : Int32 → St → Prop} {r f i : Nat} {A : List SEn} (hL : LC x) (hf : f + A.length ≤ 11000) (hA : ∀ k, k < A.length → fA x 83 (f + k) = nI (A.getD k en0).2.1) (hr : ∀ k, k < A.length → (A.getD k en0).2.1 ≤ 17) (hr2 : r ≤ 17) (hi : i ≤ A.length)
    (q : ∀ j, i ≤ j → j ≤ A.length → (j < A.length → (A.getD j en0).2.1 ≤ r) → (∀ d, fl2 r d (A.take j) = fl2 r d (A.take i)) → post (nI (f + j)) x) : wp_Opn_nextUpTo post 96 (nI r) (nI (f + i)) (nI (f + A.length)) x := by
  have L83 : fN x 83 = 11001 := hL 83 (by decide)
  unfold wp_Opn_nextUpTo
  refine lp_Opn_nextUpTo_3 (fun a0 a1 a2 a3 a4 y => 96 = a0 ∧ nI r = a1 ∧ nI (f + A.length) = a3 ∧ x = y ∧ ∃ j, nI (f + j) = a4 ∧ i ≤ j ∧ j ≤ A.length ∧ ∀ d, fl2 r d (A.take j) = fl2 r d (A.take i)) (fun _ _ _ _ a4 _ => f + A.length - a4.toNatClampNeg) ?_ _ _ _ _ _ _ ⟨rfl, rfl, rfl, rfl, i, rfl, Nat.le_refl _, hi, fun _ => rfl⟩
  rintro Q a0 a1 a2 a3 a4 y ⟨rfl, rfl, rfl, rfl, j, rfl, j1, j2, j3⟩ ih
  unfold j_Opn_nextUpTo_3 j_Opn_nextUpTo_29
  rw [show stC (stC 96 0) 7 = 83 from rfl, L83]
  by_cases c : j < A.length
  · have r17 := hr j c
    refine br_f (by (first | omega | (simp (disch := omega) only [Int32.le_iff_toInt_le, Int32.lt_iff_toInt_lt, z_eq, z_in, nI_toInt, z_cl, z_m1, z_sg, z_255, Int32.reduceToInt] <;> omega) | (simp only [Int32.le_iff_toInt_le, Int32.lt_iff_toInt_lt, z_eq, z_in, z_add, z_sub, z_mul, z_neg, z_nI, z_cl, z_sg, z_255, z_lit, Int32.reduceToInt] <;> omega))) ⟨vp_in_nI (by omega) (by decide), ?_⟩
    rw [rA_nI (by omega), hA j c]
    by_cases cr : (A.getD j en0).2.1 ≤ r
    · exact br_t (by (first | omega | (simp (disch := omega) only [Int32.le_iff_toInt_le, Int32.lt_iff_toInt_lt, z_eq, z_in, nI_toInt, z_cl, z_m1, z_sg, z_255, Int32.reduceToInt] <;> omega) | (simp only [Int32.le_iff_toInt_le, Int32.lt_iff_toInt_lt, z_eq, z_in, z_add, z_sub, z_mul, z_neg, z_nI, z_cl, z_sg, z_255, z_lit, Int32.reduceToInt] <;> omega))) (q j j1 j2 (fun _ => cr) j3)
    · refine br_f (by (first | omega | (simp (disch := omega) only [Int32.le_iff_toInt_le, Int32.lt_iff_toInt_lt, z_eq, z_in, nI_toInt, z_cl, z_m1, z_sg, z_255, Int32.reduceToInt] <;> omega) | (simp only [Int32.le_iff_toInt_le, Int32.lt_iff_toInt_lt, z_eq, z_in, z_add, z_sub, z_mul, z_neg, z_nI, z_cl, z_sg, z_255, z_lit, Int32.reduceToInt] <;> omega))) ?_
      rw [nI_1, show f + j + 1 = f + (j + 1) by omega]
      refine ih _ _ _ _ _ _ ⟨rfl, rfl, rfl, rfl, j + 1, rfl, by omega, by omega, fun d => ?_⟩ (by rw [nI_clamp (by omega), nI_clamp (by omega)]; omega)
      rw [fl2_take c, if_neg cr, List.append_nil, j3]
  · have e : j = A.length := by omega
    subst e
    exact br_t (by (first | omega | (simp (disch := omega) only [Int32.le_iff_toInt_le, Int32.lt_iff_toInt_lt, z_eq, z_in, nI_toInt, z_cl, z_m1, z_sg, z_255, Int32.reduceToInt] <;> omega) | (simp only [Int32.le_iff_toInt_le, Int32.lt_iff_toInt_lt, z_eq, z_in, z_add, z_sub, z_mul, z_neg, z_nI, z_cl, z_sg, z_255, z_lit, Int32.reduceToInt] <;> omega))) (q _ j1 (Nat.le_refl _) (fun z => absurd z c) j3)
/-- the last group around both columns -/
theorem k_arnd {post : Int32 → St → Prop} {c : Nat} {l2 l3 : Int32} (hL : LC x) (hw : WfS F) (hR : RepC x 70 F) (hc : c < ncol F) (hc1 : 1 ≤ c)
    (k : ∀ l6, j_Opn_goTogether_64 post 96 (nI c) l2 l3 70 (arnd F (lfC F (c - 1)) (lfC F c)) l6 x) : wp_Opn_goTogether post 96 (nI c) l2 l3 x := by
  have h128 := hw.1
  have h64 := hw.2.1
  obtain ⟨b1, b2, b3⟩ := lfC_ok hc
  obtain ⟨a1, a2, a3⟩ := lfC_ok (F := F) (c := c - 1) (by omega)
  have ab : lfC F (c - 1) < lfC F c := lfC_lt hc hc1
  generalize hla : lfC F (c - 1) = a at *
  generalize hlb : lfC F c = b at *
  have L79 : fN x 79 = 64 := hL 79 (by decide)
  have L73 : fN x 73 = 128 := hL 73 (by decide)
  have pa73 : ∀ f, f < F.length → fA x 73 f = fPa F f := fun f hf => (hR.2.2.2.1 f hf).2.2.1
  have dl : upS wOne (fPa F) (nI b) ≤ 17 := up17 hw (Or.inr ⟨b, b1, rfl⟩) (fun _ => Nat.le_refl _)
  unfold wp_Opn_goTogether
  rw [show stC (stC (stC 96 0) 5) 10 = 79 from rfl, show stC (stC (stC 96 0) 5) 4 = 73 from rfl, show stC (stC 96 0) 5 = 70 from rfl, L79, L73, rA_nI (by omega : c < 2 ^ 31), col79 hR hc, hlb]
  refine ⟨vp_in_nI (by omega) (by decide), vp_in_nI (by omega) (by decide), nm_r (e' := fPa F b) (by rw [rA_nI (by omega), pa73 b b1]) ?_⟩
  have u0 := upS_at (w := wOne) hw.2.2.1 b1
  refine lp_Opn_goTogether_27 (fun a0 a1 a2 a3 a4 a5 a6 y => 96 = a0 ∧ nI c = a1 ∧ l2 = a2 ∧ l3 = a3 ∧ 70 = a4 ∧ x = y ∧ ∃ i, nI i = a6 ∧ i ≤ 17 ∧ ((a5 = -1 ∧ ∀ h, h < F.length → dsc F h b → h ≠ b → a < h) ∨ ∃ g, a5 = nI g ∧ g < b ∧ dsc F g b ∧ i + 1 + upS wOne (fPa F) (nI g) = upS wOne (fPa F) (nI b) ∧ ∀ h, h < F.length → dsc F h b → h ≠ b → g < h → a < h)) (fun _ _ _ _ _ _ a6 _ => 18 - a6.toNatClampNeg) ?_ _ _ _ _ _ _ _ _ ⟨rfl, rfl, rfl, rfl, rfl, rfl, 0, rfl, by decide, ?_⟩
  · rintro Q a0 a1' a2' a3' a4 a5 a6 y ⟨rfl, rfl, rfl, rfl, rfl, rfl, i, rfl, i1, h⟩ ih
    unfold j_Opn_goTogether_27
    rw [show stC 70 10 = 79 from rfl, show stC 70 4 = 73 from rfl, L79, L73, show (1 : Int32) = nI 1 from rfl, nI_sub hc1, rA_nI (by omega : c - 1 < 2 ^ 31), col79 hR (by omega), hla]
    rcases h with ⟨rfl, h2⟩ | ⟨g, rfl, g1, g2, g3, g4⟩
    · have e : arnd F a b = -1 := (fnd_some (by omega)).mpr (fun f hf => decide_eq_false (fun z => by
        have := h2 f (by omega) z.2 (by omega)
        omega))
      rw [e] at k
      exact ⟨fun _ => k _, fun _ => ⟨vp_in_nI (by omega) (by decide), br_t (by (first | omega | (simp (disch := omega) only [Int32.le_iff_toInt_le, Int32.lt_iff_toInt_lt, z_eq, z_in, nI_toInt, z_cl, z_m1, z_sg, z_255, Int32.reduceToInt] <;> omega) | (simp only [Int32.le_iff_toInt_le, Int32.lt_iff_toInt_lt, z_eq, z_in, z_add, z_sub, z_mul, z_neg, z_nI, z_cl, z_sg, z_255, z_lit, Int32.reduceToInt] <;> omega))) (k _)⟩⟩
    · have gl : g < F.length := by omega
      have ug := upS_at (w := wOne) hw.2.2.1 gl
      have one : wOne g = 1 := rfl
      have i16 : ¬ 16 < i := by omega
      refine br_f (by (first | omega | (simp (disch := omega) only [Int32.le_iff_toInt_le, Int32.lt_iff_toInt_lt, z_eq, z_in, nI_toInt, z_cl, z_m1, z_sg, z_255, Int32.reduceToInt] <;> omega) | (simp only [Int32.le_iff_toInt_le, Int32.lt_iff_toInt_lt, z_eq, z_in, z_add, z_sub, z_mul, z_neg, z_nI, z_cl, z_sg, z_255, z_lit, Int32.reduceToInt] <;> omega))) ⟨vp_in_nI (by omega) (by decide), ?_⟩
      by_cases cg : g ≤ a
      · have ga : g ≠ a := fun z => by
          obtain ⟨w, w1, w2, w3⟩ := chd_of hw b b1 g2 (by omega)
          have := (hw.2.2.2.2.1 w g w1 w2 w3).1
          rw [z] at this
          exact a2 this
        have e : arnd F a b = nI g := by
          refine fnd_at (by omega) (decide_eq_true ⟨?_, g2⟩) (fun h h1 h2 => decide_eq_false (fun z => ?_))
          · have := (dsc_iff hw gl b1).mp g2
            exact (dsc_iff hw gl (by omega)).mpr ⟨cg, by omega⟩
          · have := g4 h (by omega) z.2 (by omega) h1
            omega
        rw [e] at k
        exact br_t (by (first | omega | (simp (disch := omega) only [Int32.le_iff_toInt_le, Int32.lt_iff_toInt_lt, z_eq, z_in, nI_toInt, z_cl, z_m1, z_sg, z_255, Int32.reduceToInt] <;> omega) | (simp only [Int32.le_iff_toInt_le, Int32.lt_iff_toInt_lt, z_eq, z_in, z_add, z_sub, z_mul, z_neg, z_nI, z_cl, z_sg, z_255, z_lit, Int32.reduceToInt] <;> omega))) (k _)
      · refine br_f (by (first | omega | (simp (disch := omega) only [Int32.le_iff_toInt_le, Int32.lt_iff_toInt_lt, z_eq, z_in, nI_toInt, z_cl, z_m1, z_sg, z_255, Int32.reduceToInt] <;> omega) | (simp only [Int32.le_iff_toInt_le, Int32.lt_iff_toInt_lt, z_eq, z_in, z_add, z_sub, z_mul, z_neg, z_nI, z_cl, z_sg, z_255, z_lit, Int32.reduceToInt] <;> omega))) ⟨vp_in_nI (by omega) (by decide), nm_r (e' := fPa F g) (by rw [rA_nI (by omega), pa73 g gl]) ?_⟩
        rw [show nI i + nI 1 = nI (i + 1) from nI_add i 1]
        refine ih _ _ _ _ _ _ _ _ ⟨rfl, rfl, rfl, rfl, rfl, rfl, i + 1, rfl, by omega, ?_⟩ (by rw [nI_clamp (by omega), nI_clamp (by omega)]; omega)
        rcases hw.2.2.1.2 g gl with e | ⟨w, w1, w2⟩
        · refine Or.inl ⟨e, fun h h1 h2 h3 => ?_⟩
          by_cases ch : g < h
          · exact g4 h h1 h2 h3 ch
          · have m1 := (dsc_iff hw h1 b1).mp h2
            have m2 := (dsc_iff hw gl b1).mp g2
            have hg : dsc F h g := (dsc_iff hw h1 gl).mpr ⟨by omega, by omega⟩
            by_cases eh : g = h
            · omega
            · obtain ⟨v, v1, v2, v3⟩ := dsc_pa hw gl hg eh
              rw [e] at v2
              exact absurd v2.symm (nI_nm1 (by omega))
        · refine Or.inr ⟨w, w2, by omega, dsc_trans hw (dsc_in hw gl w1 w2 (dsc_self hw (by omega))) b b1 g2, ?_, fun h h1 h2 h3 h4 => ?_⟩
          · rw [w2] at ug
            omega
          · by_cases ch : g < h
            · exact g4 h h1 h2 h3 ch
            · by_cases eh : g = h
              · omega
              · have m1 := (dsc_iff hw h1 b1).mp h2
                have m2 := (dsc_iff hw gl b1).mp g2
                have hg : dsc F h g := (dsc_iff hw h1 gl).mpr ⟨by omega, by omega⟩
                obtain ⟨v, v1, v2, v3⟩ := dsc_pa hw gl hg eh
                rw [w2] at v2
                have := nI_inj (by omega) (by omega) v2
                subst this
                have := dsc_le hw (by omega) v3
                omega
  · rcases hw.2.2.1.2 b b1 with e | ⟨g, g1, g2⟩
    · refine Or.inl ⟨e, fun h h1 h2 h3 => ?_⟩
      obtain ⟨v, v1, v2, v3⟩ := dsc_pa hw b1 h2 (fun z => h3 z.symm)
      rw [e] at v2
      exact absurd v2.symm (nI_nm1 (by omega))
    · rw [g2] at u0
      have one : wOne b = 1 := rfl
      refine Or.inr ⟨g, g2, g1, dsc_in hw b1 g1 g2 (dsc_self hw (by omega)), by omega, fun h h1 h2 h3 h4 => ?_⟩
      obtain ⟨v, v1, v2, v3⟩ := dsc_pa hw b1 h2 (fun z => h3 z.symm)
      rw [g2] at v2
      have := nI_inj (by omega) (by omega) v2
      subst this
      have := dsc_le hw (by omega) v3
      omega
theorem k_goT {post : Int32 → St → Prop} {c tb tc fa fc : Nat} {A C : List SEn} (hL : LC x) (hw : WfS F) (hR : RepC x 70 F) (hc : c < ncol F) (hc1 : 1 ≤ c) (htb : tb < 6000) (htc : tc < 6000) (b89 : fA x 89 tb = nI fa) (b90 : fA x 90 tb = nI A.length) (c89 : fA x 89 tc = nI fc) (c90 : fA x 90 tc = nI C.length) (hfa : fa + A.length ≤ 10000) (hfc : fc + C.length ≤ 10000)
    (hA : ∀ k, k < A.length → fA x 83 (fa + k) = nI (A.getD k en0).2.1 ∧ fA x 84 (fa + k) = nI (A.getD k en0).2.2.1 ∧ (A.getD k en0).2.1 ≤ 17 ∧ (A.getD k en0).2.2.1 ≤ 17) (hC : ∀ k, k < C.length → fA x 83 (fc + k) = nI (C.getD k en0).2.1 ∧ fA x 84 (fc + k) = nI (C.getD k en0).2.2.1 ∧ (C.getD k en0).2.1 ≤ 17 ∧ (C.getD k en0).2.2.1 ≤ 17)
    (p1 : ¬ aprt F (lfC F (c - 1)) (lfC F c) A C → post 1 x) (p0 : aprt F (lfC F (c - 1)) (lfC F c) A C → post 0 x) : wp_Opn_goTogether post 96 (nI c) (nI tb) (nI tc) x := by
  have h128 := hw.1
  refine k_arnd hL hw hR hc hc1 (fun l6 => ?_)
  obtain ⟨a1, -, -⟩ := lfC_ok (F := F) (c := c - 1) (by omega)
  have L83 : fN x 83 = 11001 := hL 83 (by decide)
  have L84 : fN x 84 = 11001 := hL 84 (by decide)
  have L89 : fN x 89 = 6000 := hL 89 (by decide)
  have L90 : fN x 90 = 6000 := hL 90 (by decide)
  unfold j_Opn_goTogether_64
  rcases fnd_is (p := fun g => decide (dsc F g (lfC F (c - 1)) ∧ dsc F g (lfC F c))) (N := lfC F (c - 1)) with z | ⟨g, g1, g2, -⟩
  · have z' : arnd F (lfC F (c - 1)) (lfC F c) = -1 := z
    exact bn_t z' (p1 (fun w => w.1 z'))
  have z' : arnd F (lfC F (c - 1)) (lfC F c) = nI g := g2
  have gl : g < F.length := by omega
  have gk : gOk F.length (nI g) := Or.inr ⟨g, gl, rfl⟩
  have r17 : rF F g ≤ 17 := up17 hw gk (fun _ => by unfold wRep; split <;> decide)
  have d17 : dG F (nI g) ≤ 17 := up17 hw gk (fun _ => by unfold wDef; split <;> decide)
  unfold aprt at p0 p1
  rw [z', nI_clamp (by omega)] at p0 p1
  have p1 : fl2 (rF F g) (dG F (nI g)) A = fl2 (rF F g) (dG F (nI g)) C → post 1 x := fun e => p1 (fun w => w.2 e)
  have p0 : fl2 (rF F g) (dG F (nI g)) A ≠ fl2 (rF F g) (dG F (nI g)) C → post 0 x := fun e => p0 ⟨nI_nm1 (by omega), e⟩
  obtain ⟨-, -, -, g5, g6, -⟩ := hR.2.2.2.1 g gl
  rw [z', show stC 70 5 = 74 from rfl, show stC 70 6 = 75 from rfl, show stC (stC 96 0) 13 = 89 from rfl, show stC (stC 96 0) 14 = 90 from rfl, show fN x 74 = 128 from hL 74 (by decide), show fN x 75 = 128 from hL 75 (by decide), L89, L90, rA_nI (by omega : g < 2 ^ 31), rA_nI (by omega : g < 2 ^ 31), rA_nI (by omega : tb < 2 ^ 31), rA_nI (by omega : tb < 2 ^ 31), rA_nI (by omega : tc < 2 ^ 31), rA_nI (by omega : tc < 2 ^ 31), b89, b90, c89, c90, nI_add, nI_add, show fA x 74 g = nI (rF F g) from g5, show fA x 75 g = nI (dG F (nI g)) from g6]
  generalize rF F g = r at *
  generalize dG F (nI g) = d at *
  refine bn_f (nI_nm1 (by omega)) ⟨vp_in_nI (by omega) (by decide), nm_e ⟨vp_in_nI (by omega) (by decide), nm_e ⟨vp_in_nI htb (by decide), vp_in_nI htb (by decide), nm_e ⟨vp_in_nI htc (by decide), vp_in_nI htc (by decide), nm_e ⟨vp_in_nI htb (by decide), ?_⟩⟩⟩⟩⟩
  have nA : ∀ (P : Int32 → St → Prop) i, i ≤ A.length → (∀ j, i ≤ j → j ≤ A.length → (j < A.length → (A.getD j en0).2.1 ≤ r) → fl2 r d (A.take j) = fl2 r d (A.take i) → P (nI (fa + j)) x) → wp_Opn_nextUpTo P 96 (nI r) (nI (fa + i)) (nI (fa + A.length)) x := fun P i hi q => k_next hL (by omega) (fun k hk => (hA k hk).1) (fun k hk => (hA k hk).2.2.1) r17 hi (fun j j1 j2 j3 j4 => q j j1 j2 j3 (j4 d))
  have nC : ∀ (P : Int32 → St → Prop) i, i ≤ C.length → (∀ j, i ≤ j → j ≤ C.length → (j < C.length → (C.getD j en0).2.1 ≤ r) → fl2 r d (C.take j) = fl2 r d (C.take i) → P (nI (fc + j)) x) → wp_Opn_nextUpTo P 96 (nI r) (nI (fc + i)) (nI (fc + C.length)) x := fun P i hi q => k_next hL (by omega) (fun k hk => (hC k hk).1) (fun k hk => (hC k hk).2.2.1) r17 hi (fun j j1 j2 j3 j4 => q j j1 j2 j3 (j4 d))
  refine nA _ 0 (Nat.zero_le _) (fun i _ i2 i3 i4 => ⟨by rw [L89]; exact vp_in_nI htc (by decide), ?_⟩)
  rw [rA_nI (by omega), c89]
  refine nC _ 0 (Nat.zero_le _) (fun j _ j2 j3 j4 => ?_)
  refine lp_Opn_goTogether_175 (fun a0 a1 a2 a3 a4 a5 a6 a7 a8 a9 a10 a11 a12 y => 96 = a0 ∧ nI r = a6 ∧ nI d = a7 ∧ nI (fa + A.length) = a8 ∧ nI (fc + C.length) = a9 ∧ x = y ∧ ∃ i j k, nI (fa + i) = a10 ∧ nI (fc + j) = a11 ∧ nI k = a12 ∧ k ≤ i ∧ i ≤ A.length ∧ j ≤ C.length ∧ (i < A.length → (A.getD i en0).2.1 ≤ r) ∧ (j < C.length → (C.getD j en0).2.1 ≤ r) ∧ fl2 r d (A.take i) = fl2 r d (C.take j)) (fun _ _ _ _ _ _ _ _ _ _ a10 _ _ _ => fa + A.length - a10.toNatClampNeg) ?_ _ _ _ _ _ _ _ _ _ _ _ _ _ _ ⟨rfl, rfl, rfl, rfl, rfl, rfl, i, j, 0, rfl, rfl, rfl, Nat.zero_le _, i2, j2, i3, j3, by rw [i4, j4]; rfl⟩
  rintro Q a0 a1' a2 a3 a4 a5 a6 a7 a8 a9 a10 a11 a12 y ⟨rfl, rfl, rfl, rfl, rfl, rfl, i, j, k, rfl, rfl, rfl, k1, i2, j2, i3, j3, e⟩ ih
  have eF : ∀ {B : List SEn} {k : Nat}, k = B.length → B.take k = B := fun h => by rw [h, List.take_length]
  have fin : i = A.length ∨ j = C.length → j_Opn_goTogether_289 post 96 a1' a2 a3 a4 a5 (nI r) (nI d) (nI (fa + A.length)) (nI (fc + C.length)) (nI (fa + i)) (nI (fc + j)) (nI k) x := fun h => by
    unfold j_Opn_goTogether_289 j_Opn_goTogether_307
    by_cases ci : i = A.length
    · by_cases cj : j = C.length
      · refine bn_t (by rw [ci]) (bn_t (by rw [cj]) (p1 ?_))
        rw [eF ci, eF cj] at e
        exact e
      · have n1 := fl2_ne (d := d) e.symm (by omega) (j3 (by omega)) (Or.inl ci)
        refine bn_t (by rw [ci]) (bn_f (fun z => cj ?_) (p0 (fun w => n1 w.symm)))
        have := nI_inj (by omega) (by omega) z
        omega
    · have n1 := fl2_ne (d := d) e (by omega) (i3 (by omega)) (Or.inl (by omega))
      refine bn_f (fun z => ci ?_) (p0 n1)
      have := nI_inj (by omega) (by omega) z
      omega
  unfold j_Opn_goTogether_175 j_Opn_goTogether_253
  rw [show stC (stC 96 0) 7 = 83 from rfl, show stC (stC 96 0) 8 = 84 from rfl, L83, L84]
  by_cases ci : i < A.length
  · by_cases cj : j < C.length
    · obtain ⟨x1, x2, x3, x4⟩ := hA i ci
      obtain ⟨y1, y2, y3, y4⟩ := hC j cj
      refine br_f (by (first | omega | (simp (disch := omega) only [Int32.le_iff_toInt_le, Int32.lt_iff_toInt_lt, z_eq, z_in, nI_toInt, z_cl, z_m1, z_sg, z_255, Int32.reduceToInt] <;> omega) | (simp only [Int32.le_iff_toInt_le, Int32.lt_iff_toInt_lt, z_eq, z_in, z_add, z_sub, z_mul, z_neg, z_nI, z_cl, z_sg, z_255, z_lit, Int32.reduceToInt] <;> omega))) (br_f (by (first | omega | (simp (disch := omega) only [Int32.le_iff_toInt_le, Int32.lt_iff_toInt_lt, z_eq, z_in, nI_toInt, z_cl, z_m1, z_sg, z_255, Int32.reduceToInt] <;> omega) | (simp only [Int32.le_iff_toInt_le, Int32.lt_iff_toInt_lt, z_eq, z_in, z_add, z_sub, z_mul, z_neg, z_nI, z_cl, z_sg, z_255, z_lit, Int32.reduceToInt] <;> omega))) (br_f (by (first | omega | (simp (disch := omega) only [Int32.le_iff_toInt_le, Int32.lt_iff_toInt_lt, z_eq, z_in, nI_toInt, z_cl, z_m1, z_sg, z_255, Int32.reduceToInt] <;> omega) | (simp only [Int32.le_iff_toInt_le, Int32.lt_iff_toInt_lt, z_eq, z_in, z_add, z_sub, z_mul, z_neg, z_nI, z_cl, z_sg, z_255, z_lit, Int32.reduceToInt] <;> omega))) ⟨vp_in_nI (by omega) (by decide), vp_in_nI (by omega) (by decide), ?_⟩))
      rw [rA_nI (by omega), rA_nI (by omega), rA_nI (by omega), rA_nI (by omega), x1, x2, y1, y2, nI_min (by omega) (by omega), nI_min (by omega) (by omega), nI_1, nI_1, nI_1]
      have ne : ((A.getD i en0).2.1 ≠ (C.getD j en0).2.1 ∨ min (A.getD i en0).2.2.1 d ≠ min (C.getD j en0).2.2.1 d) → post 0 x := fun h => p0 (fl2_ne (d := d) e ci (i3 ci) (Or.inr ⟨cj, j3 cj, fun z => by
        have := Prod.mk.inj z
        rcases h with h | h
        · exact h this.1
        · exact h this.2⟩))
      by_cases c1 : (A.getD i en0).2.1 = (C.getD j en0).2.1
      · refine bn_t (by rw [c1]) ⟨vp_in_nI (by omega) (by decide), vp_in_nI (by omega) (by decide), ?_⟩
        by_cases c2 : min d (A.getD i en0).2.2.1 = min d (C.getD j en0).2.2.1
        · refine br_t (by rw [c2]) ?_
          rw [show fa + i + 1 = fa + (i + 1) by omega, show fc + j + 1 = fc + (j + 1) by omega]
          refine nA _ (i + 1) (by omega) (fun i' q1 q2 q3 q4 => nC _ (j + 1) (by omega) (fun j' r1 r2 r3 r4 => ?_))
          refine ih _ _ _ _ _ _ _ _ _ _ _ _ _ _ ⟨rfl, rfl, rfl, rfl, rfl, rfl, i', j', k + 1, rfl, rfl, rfl, by omega, q2, r2, q3, r3, ?_⟩ (by rw [nI_clamp (by omega), nI_clamp (by omega)]; omega)
          rw [q4, r4, fl2_take ci, fl2_take cj, if_pos (i3 ci), if_pos (j3 cj), e, c1, Nat.min_comm _ d, Nat.min_comm _ d, c2]
        · refine br_f (fun z => c2 (nI_inj (by omega) (by omega) z)) (ne (Or.inr (fun z => c2 (by rw [Nat.min_comm d, Nat.min_comm d, z]))))
      · exact bn_f (fun z => c1 (nI_inj (by omega) (by omega) z)) (ne (Or.inl c1))
    · have := fin (Or.inr (by omega))
      exact ⟨fun _ => this, fun _ => ⟨fun _ => this, fun _ => br_t (by (first | omega | (simp (disch := omega) only [Int32.le_iff_toInt_le, Int32.lt_iff_toInt_lt, z_eq, z_in, nI_toInt, z_cl, z_m1, z_sg, z_255, Int32.reduceToInt] <;> omega) | (simp only [Int32.le_iff_toInt_le, Int32.lt_iff_toInt_lt, z_eq, z_in, z_add, z_sub, z_mul, z_neg, z_nI, z_cl, z_sg, z_255, z_lit, Int32.reduceToInt] <;> omega))) this⟩⟩
  · have := fin (Or.inl (by omega))
    exact ⟨fun _ => this, fun _ => br_t (by (first | omega | (simp (disch := omega) only [Int32.le_iff_toInt_le, Int32.lt_iff_toInt_lt, z_eq, z_in, nI_toInt, z_cl, z_m1, z_sg, z_255, Int32.reduceToInt] <;> omega) | (simp only [Int32.le_iff_toInt_le, Int32.lt_iff_toInt_lt, z_eq, z_in, z_add, z_sub, z_mul, z_neg, z_nI, z_cl, z_sg, z_255, z_lit, Int32.reduceToInt] <;> omega))) this⟩
end
